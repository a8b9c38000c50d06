/-- behind a call -/
theorem qa_go {p : Program} {l : Launch} {e : Env} {R : Room} {s : State} {m : MethodId} {args : Array Value} {below : List Frame} {meth : Method} {c : Code} {H : Heap} {locs : List Loc} {cells slots mc ms : Nat} {Q : State → Prop} {pc : Nat} {ls : Array Slot} {rest st0 : List Value} {a : Array Value} {D : va_G} {ca : FieldType → ClassId} {ad : Nat → Nat} {B : Nat} {Qa : Option Value → Nat → qa_M → Prop}
    (hr : va_Run p l e R s m args below meth c H locs cells slots mc ms (F0 m pc ls st0) rest (qa_Qc D ca ad B Qa a) (fun q => B < q)) (hS : va_S (fun q => B < q) s.heap H locs)
    (kk : ∀ (r : Option Value) (N : Nat) (μ : qa_M) (H1 : Heap) (locs1 : List Loc), Qa r N μ → qa_W D ca ad B N μ H1 → va_S (fun q => B < q) s.heap H1 locs1 → W p l e R s m args below meth c H1 locs1 (cells + mc) (slots + ms) Q (F0 m (pc + 3) ls ((r.map (qa_cv ad)).toList ++ rest))) : W p l e R s m args below meth c H locs cells slots Q (F0 m pc ls st0) := by
  intro T hT X
  obtain ⟨v, st₀, t, T', L, h0, X', hL, e1, e2, ⟨⟨r, N, μ, hq, hv, hW⟩, hz, hk⟩, st⟩ := hr T hT X
  obtain rfl : v = r.map (qa_cv ad) := by cases hv; rfl
  rw [h0] at hz hk
  obtain ⟨t2, a1, b1⟩ := kk r N μ T'.heap (locs ++ L) hq (by rw [e1]; exact hW)
    ⟨Nat.le_trans hS.1 (by rw [e1]; exact hz), fun q h1 h2 => by rw [e1, hk q (Nat.lt_of_lt_of_le h1 hS.1) h2]; exact hS.2.1 q h1 h2, fun q hq => by
      rcases List.mem_append.mp hq with h | h
      · exact hS.2.2 q h
      · exact hL q h⟩ T' rfl X'
  exact ⟨t2, st t2 a1, b1⟩
theorem qa_Pc.blind {D : va_G} {ca : FieldType → ClassId} {ad : Nat → Nat} {B : Nat} {av : List Value} {N : Nat} {μ : qa_M} : FrameBlind (qa_Pc D ca ad B av N μ) := fun a U g mk h => ⟨h.1, h.2.1, va_K.moved (u := U) (U := U.calling g mk a) (Vm.Alike.refl U.vm) h.2.2.1, qa_RO.same (u := U) (U := U.calling g mk a) rfl h.2.2.2⟩
theorem qa_Pc.ready {p : Program} {s : State} {m : MethodId} {args : Array Value} {meth : Method} {c : Code} {y : MethodName} {cc : ByteArray} {nL : Nat} {ret : Option FieldType} {D : va_G} {ca : FieldType → ClassId} {ad : Nat → Nat} {B : Nat} {H : Heap} {locs : List Loc} {N : Nat} {μ : qa_M} (C : qa_C p s m args meth c y cc nL ret D ca ad B) (hW : qa_W D ca ad B N μ H) (hS : va_S (fun q => B < q) s.heap H locs) (av : List Value) (U : State) (hU : U.heap = H) (hw : s.WarmedH U.vm) : qa_Pc D ca ad B av N μ (av.map (qa_cv ad)).toArray U :=
  ⟨rfl, by rw [hU]; exact hW, va_K.moved hw.alike C.2.2.2.2.2.2.1, (C.2.2.2.2.2.2.2.2.2.2.warm hw).kept (fun a h1 h2 => by rw [hU]; exact hS.2.1 a h1 h2)⟩
/-- what a call needs of the tables -/
def qa_MB (own : String) (idx : Nat) (y : MethodName) (cc : ByteArray) (nL : Nat) (ret : Option FieldType) (n : Nat) : Prop := Cond.methodLink own idx y ∈ qa_tb ∧ Cond.initialized y.cls ∈ qa_tb ∧ Cond.code y cc nL ret ∈ qa_tb ∧ (y.cls ≠ "java/lang/invoke/MethodHandle" ∧ y.cls ≠ "java/lang/invoke/VarHandle" ∧ (parseMethodDescriptor y.desc).map (fun d => d.parameters.length) = some n)
def qa_MV (own : String) (idx : Nat) (y : MethodName) (cc : ByteArray) (nL : Nat) (ret : Option FieldType) (n : Nat) : Prop := qa_MB own idx y cc nL ret n ∧ Cond.instanceMethod y ∈ qa_tb ∧ Cond.selects y.cls y y ∈ qa_tb
def qa_MS (own : String) (idx : Nat) (y : MethodName) (cc : ByteArray) (nL : Nat) (ret : Option FieldType) (n : Nat) : Prop := qa_MB own idx y cc nL ret n ∧ Cond.static y ∈ qa_tb
def qa_MN (own : String) (idx : Nat) (y : MethodName) (cc : ByteArray) (nL : Nat) (ret : Option FieldType) (n : Nat) : Prop := (own, idx, y) ∈ qa_nest ∧ Cond.initialized y.cls ∈ qa_tb ∧ Cond.code y cc nL ret ∈ qa_tb ∧ (y.cls ≠ "java/lang/invoke/MethodHandle" ∧ y.cls ≠ "java/lang/invoke/VarHandle" ∧ (parseMethodDescriptor y.desc).map (fun d => d.parameters.length) = some n)
theorem qa_gi {y : MethodName} {cc : ByteArray} {nL : Nat} {ret : Option FieldType} (h : Cond.code y cc nL ret ∈ qa_tb) : GoodIn qa_tb (Cond.code y cc nL ret :: qa_tb) := fun w hw => (List.mem_cons.mp hw).elim (fun e => e ▸ qa_goodIn _ h) (fun h => qa_goodIn w h)
theorem qa_rev (ad : Nat → Nat) (As : List Value) : As.reverse.map (qa_cv ad) = (As.map (qa_cv ad)).reverse := List.map_reverse
theorem qa_cats (ad : Nat → Nat) (st : List Value) : ((st.map (qa_cv ad)).map fun v => v.category) = st.map fun v => v.category := by
  rw [List.map_map]
  exact List.map_congr_left (fun v _ => qa_cat ad v)
def qa_MSN (own : String) (idx : Nat) (y : MethodName) (cc : ByteArray) (nL : Nat) (ret : Option FieldType) (n : Nat) : Prop := qa_MN own idx y cc nL ret n ∧ Cond.static y ∈ qa_tb
def qa_MI (own : String) (idx : Nat) (y : MethodName) (cc : ByteArray) (nL : Nat) (ret : Option FieldType) (n : Nat) : Prop := qa_MB own idx y cc nL ret n ∧ y.name = "<init>" ∧ Cond.instanceMethod y ∈ qa_tb
def qa_MIN (own : String) (idx : Nat) (y : MethodName) (cc : ByteArray) (nL : Nat) (ret : Option FieldType) (n : Nat) : Prop := qa_MN own idx y cc nL ret n ∧ y.name = "<init>" ∧ Cond.instanceMethod y ∈ qa_tb
section QC
variable {l : Launch} {y : MethodName} {cc : ByteArray} {nL : Nat} {ret : Option FieldType} {R : Room} {X : State → (Nat → Nat) → Nat → Prop} {E : State → Array Value → List Frame → va_G → (FieldType → ClassId) → (Nat → Nat) → Nat → State → Prop} {cells slots pc : Nat} {L : List (Option Value)} {st : List Value} {N : Nat} {μ : qa_M}
theorem qa_callV {idx : Nat} {y' : MethodName} {cc' : ByteArray} {nL' : Nat} {ret' : Option FieldType} {d' mc' ms' n : Nat} {Q' : Option Value → Nat → qa_M → Prop} {a ci : Nat} {st0 : List Value} (As rest : List Value) (hM : qa_Met l y' cc' nL' ret' d' mc' ms' (.ref a :: As) N μ Q') (hd : decode cc pc = .ok (.invokevirtual idx, 3)) (hl0 : qa_MV y.cls idx y' cc' nL' ret' n) (hs : qa_sh a = .inl ci) (hc : (vwCl[ci]?).map (fun r => r.1) = some y'.cls) (ha : 1 ≤ a ∧ a ≤ N) (hn : As.length = n) (hst : st0 = As.reverse ++ .ref a :: rest) (hroom : d' + 1 ≤ R.frames ∧ 8 + (nL' + 11) + 40 * d' ≤ R.locals) (hfit : cells + mc' ≤ R.cells ∧ slots + ms' ≤ R.slots) (hrest : (rest.map fun v => v.category).sum ≤ 8)
    (kk : ∀ (r : Option Value) (N1 : Nat) (μ1 : qa_M), Q' r N1 μ1 → qa_GG l y cc nL ret R X E (cells + mc') (slots + ms') (pc + 3) L (r.toList ++ rest) N1 μ1) : qa_GG l y cc nL ret R X E cells slots pc L st0 N μ := by
  intro p e s m args below meth c D ca ad B H locs ls C hX hW hS hl
  subst hst
  have hrecv : ∃ cell : Cell, H[ad a]? = some cell ∧ cell.vm.isStatics = false ∧ s.vm.findClass y'.cls = some cell.cls := by
    obtain ⟨r, h1, cell, g1, g2, g3, -⟩ := hW.obj ha hs
    rw [h1] at hc
    have hc2 : r.1 = y'.cls := Option.some.inj hc
    exact ⟨cell, g1, by rw [g3]; rfl, by rw [g2, ← hc2]; exact (C.2.2.2.2.2.2.1.1 ci r h1).2.1⟩
  refine qa_go (rest := rest.map (qa_cv ad)) (va_runV (As := As.map (qa_cv ad)) ⟨C.1, C.2.1, C.2.2.2.1, C.2.2.2.2.1, C.2.2.2.2.2.1⟩ (hM D ca ad B) ⟨(callB_of n C.2.2.2.2.2.1 (qa_gi hl0.1.2.2.1) rfl rfl rfl (C.2.2.2.2.2.1 _ hl0.1.2.1) (C.2.2.2.2.2.1 _ hl0.1.1) hl0.1.2.2.2 hroom), C.2.2.2.2.2.1 _ hl0.2.1, C.2.2.2.2.2.1 _ hl0.2.2⟩ ⟨qa_Pc.blind, hrecv, fun U hU hw => qa_Pc.ready C hW hS (.ref a :: As) U hU hw⟩ rfl (by rw [List.length_map]; exact hn) hl.1 (by rw [List.map_append, qa_rev]; try rfl) (lv_room (by rw [qa_cats]; exact hrest)) hd hfit) hS (fun r N1 μ1 H1 locs1 hq hW1 hS1 => ?_)
  have := kk r N1 μ1 hq p e s m args below meth c D ca ad B H1 locs1 ls C hX hW1 hS1 hl
  cases r with
  | none => exact this
  | some v => exact this
theorem qa_callVS {idx : Nat} {y' : MethodName} {cc' : ByteArray} {nL' : Nat} {ret' : Option FieldType} {d' mc' ms' n : Nat} {Q' : Option Value → Nat → qa_M → Prop} {a : Nat} {st0 : List Value} (As rest : List Value) (hM : qa_Met l y' cc' nL' ret' d' mc' ms' (.ref a :: As) N μ Q') (hd : decode cc pc = .ok (.invokevirtual idx, 3)) (hl0 : qa_MV y.cls idx y' cc' nL' ret' n)  (hcls : y'.cls = "java/lang/String") (hstr : ∃ i, i < 30 ∧ a = 2000 + i) (hn : As.length = n) (hst : st0 = As.reverse ++ .ref a :: rest) (hroom : d' + 1 ≤ R.frames ∧ 8 + (nL' + 11) + 40 * d' ≤ R.locals) (hfit : cells + mc' ≤ R.cells ∧ slots + ms' ≤ R.slots) (hrest : (rest.map fun v => v.category).sum ≤ 8)
    (kk : ∀ (r : Option Value) (N1 : Nat) (μ1 : qa_M), Q' r N1 μ1 → qa_GG l y cc nL ret R X E (cells + mc') (slots + ms') (pc + 3) L (r.toList ++ rest) N1 μ1) : qa_GG l y cc nL ret R X E cells slots pc L st0 N μ := by
  intro p e s m args below meth c D ca ad B H locs ls C hX hW hS hl
  subst hst
  have hrecv : ∃ cell : Cell, H[ad a]? = some cell ∧ cell.vm.isStatics = false ∧ s.vm.findClass y'.cls = some cell.cls := by
    obtain ⟨i, hi, rfl⟩ := hstr
    obtain ⟨cell, g1, g2, g3, g4⟩ := (C.2.2.2.2.2.2.2.2.2.2.2.2.2.1 i hi).1.kept hS.2.1
    exact ⟨cell, g1, g2, by rw [hcls]; exact g3⟩
  refine qa_go (rest := rest.map (qa_cv ad)) (va_runV (As := As.map (qa_cv ad)) ⟨C.1, C.2.1, C.2.2.2.1, C.2.2.2.2.1, C.2.2.2.2.2.1⟩ (hM D ca ad B) ⟨(callB_of n C.2.2.2.2.2.1 (qa_gi hl0.1.2.2.1) rfl rfl rfl (C.2.2.2.2.2.1 _ hl0.1.2.1) (C.2.2.2.2.2.1 _ hl0.1.1) hl0.1.2.2.2 hroom), C.2.2.2.2.2.1 _ hl0.2.1, C.2.2.2.2.2.1 _ hl0.2.2⟩ ⟨qa_Pc.blind, hrecv, fun U hU hw => qa_Pc.ready C hW hS (.ref a :: As) U hU hw⟩ rfl (by rw [List.length_map]; exact hn) hl.1 (by rw [List.map_append, qa_rev]; try rfl) (lv_room (by rw [qa_cats]; exact hrest)) hd hfit) hS (fun r N1 μ1 H1 locs1 hq hW1 hS1 => ?_)
  have := kk r N1 μ1 hq p e s m args below meth c D ca ad B H1 locs1 ls C hX hW1 hS1 hl
  cases r with
  | none => exact this
  | some v => exact this
theorem qa_callS {idx : Nat} {y' : MethodName} {cc' : ByteArray} {nL' : Nat} {ret' : Option FieldType} {d' mc' ms' n : Nat} {Q' : Option Value → Nat → qa_M → Prop}  {st0 : List Value} (As rest : List Value) (hM : qa_Met l y' cc' nL' ret' d' mc' ms' (As) N μ Q') (hd : decode cc pc = .ok (.invokestatic idx, 3)) (hl0 : qa_MS y.cls idx y' cc' nL' ret' n)  (hn : As.length = n) (hst : st0 = As.reverse ++ rest) (hroom : d' + 1 ≤ R.frames ∧ 8 + (nL' + 11) + 40 * d' ≤ R.locals) (hfit : cells + mc' ≤ R.cells ∧ slots + ms' ≤ R.slots) (hrest : (rest.map fun v => v.category).sum ≤ 8)
    (kk : ∀ (r : Option Value) (N1 : Nat) (μ1 : qa_M), Q' r N1 μ1 → qa_GG l y cc nL ret R X E (cells + mc') (slots + ms') (pc + 3) L (r.toList ++ rest) N1 μ1) : qa_GG l y cc nL ret R X E cells slots pc L st0 N μ := by
  intro p e s m args below meth c D ca ad B H locs ls C hX hW hS hl
  subst hst
  refine qa_go (rest := rest.map (qa_cv ad)) (va_runS (As := As.map (qa_cv ad)) ⟨C.1, C.2.1, C.2.2.2.1, C.2.2.2.2.1, C.2.2.2.2.2.1⟩ (hM D ca ad B) ⟨(callB_of n C.2.2.2.2.2.1 (qa_gi hl0.1.2.2.1) rfl rfl rfl (C.2.2.2.2.2.1 _ hl0.1.2.1) (C.2.2.2.2.2.1 _ hl0.1.1) hl0.1.2.2.2 hroom), C.2.2.2.2.2.1 _ hl0.2⟩ ⟨qa_Pc.blind, fun U hU hw => qa_Pc.ready C hW hS As U hU hw⟩ rfl (by rw [List.length_map]; exact hn) hl.1 (by rw [List.map_append, qa_rev]; try rfl) (lv_room (by rw [qa_cats]; exact hrest)) hd hfit) hS (fun r N1 μ1 H1 locs1 hq hW1 hS1 => ?_)
  have := kk r N1 μ1 hq p e s m args below meth c D ca ad B H1 locs1 ls C hX hW1 hS1 hl
  cases r with
  | none => exact this
  | some v => exact this
theorem qa_callSN {idx : Nat} {y' : MethodName} {cc' : ByteArray} {nL' : Nat} {ret' : Option FieldType} {d' mc' ms' n : Nat} {Q' : Option Value → Nat → qa_M → Prop}  {st0 : List Value} (As rest : List Value) (hM : qa_Met l y' cc' nL' ret' d' mc' ms' (As) N μ Q') (hd : decode cc pc = .ok (.invokestatic idx, 3)) (hl0 : qa_MSN y.cls idx y' cc' nL' ret' n)  (hn : As.length = n) (hst : st0 = As.reverse ++ rest) (hroom : d' + 1 ≤ R.frames ∧ 8 + (nL' + 11) + 40 * d' ≤ R.locals) (hfit : cells + mc' ≤ R.cells ∧ slots + ms' ≤ R.slots) (hrest : (rest.map fun v => v.category).sum ≤ 8)
    (kk : ∀ (r : Option Value) (N1 : Nat) (μ1 : qa_M), Q' r N1 μ1 → qa_GG l y cc nL ret R X E (cells + mc') (slots + ms') (pc + 3) L (r.toList ++ rest) N1 μ1) : qa_GG l y cc nL ret R X E cells slots pc L st0 N μ := by
  intro p e s m args below meth c D ca ad B H locs ls C hX hW hS hl
  subst hst
  refine qa_go (rest := rest.map (qa_cv ad)) (va_runSN (As := As.map (qa_cv ad)) ⟨C.1, C.2.1, C.2.2.2.1, C.2.2.2.2.1, C.2.2.2.2.2.1⟩ (hM D ca ad B) ⟨(va_cnB n C.2.2.2.2.2.1 (qa_gi hl0.1.2.2.1) rfl rfl rfl (C.2.2.2.2.2.2.2.2.2.2.2.2.2.2.2.1 (y.cls, idx, y') hl0.1.1) (C.2.2.2.2.2.1 _ hl0.1.2.1) hl0.1.2.2.2 hroom), C.2.2.2.2.2.1 _ hl0.2, trivial⟩ ⟨qa_Pc.blind, fun U hU hw => qa_Pc.ready C hW hS As U hU hw⟩ rfl (by rw [List.length_map]; exact hn) hl.1 (by rw [List.map_append, qa_rev]; try rfl) (lv_room (by rw [qa_cats]; exact hrest)) hd hfit) hS (fun r N1 μ1 H1 locs1 hq hW1 hS1 => ?_)
  have := kk r N1 μ1 hq p e s m args below meth c D ca ad B H1 locs1 ls C hX hW1 hS1 hl
  cases r with
  | none => exact this
  | some v => exact this
theorem qa_callI {idx : Nat} {y' : MethodName} {cc' : ByteArray} {nL' : Nat} {d' mc' ms' n : Nat} {Q' : Option Value → Nat → qa_M → Prop} {a : Nat} {st0 : List Value} (As rest : List Value) (hM : qa_Met l y' cc' nL' none d' mc' ms' (.ref a :: As) N μ Q') (hd : decode cc pc = .ok (.invokespecial idx, 3)) (hl0 : qa_MI y.cls idx y' cc' nL' none n)  (hn : As.length = n) (hst : st0 = As.reverse ++ .ref a :: rest) (hroom : d' + 1 ≤ R.frames ∧ 8 + (nL' + 11) + 40 * d' ≤ R.locals) (hfit : cells + mc' ≤ R.cells ∧ slots + ms' ≤ R.slots) (hrest : (rest.map fun v => v.category).sum ≤ 8)
    (kk : ∀ (r : Option Value) (N1 : Nat) (μ1 : qa_M), Q' r N1 μ1 → qa_GG l y cc nL ret R X E (cells + mc') (slots + ms') (pc + 3) L (r.toList ++ rest) N1 μ1) : qa_GG l y cc nL ret R X E cells slots pc L st0 N μ := by
  intro p e s m args below meth c D ca ad B H locs ls C hX hW hS hl
  subst hst
  refine qa_go (rest := rest.map (qa_cv ad)) (va_runI (As := As.map (qa_cv ad)) ⟨C.1, C.2.1, C.2.2.2.1, C.2.2.2.2.1, C.2.2.2.2.2.1⟩ (hM D ca ad B) ⟨(callB_of n C.2.2.2.2.2.1 (qa_gi hl0.1.2.2.1) rfl rfl rfl (C.2.2.2.2.2.1 _ hl0.1.2.1) (C.2.2.2.2.2.1 _ hl0.1.1) hl0.1.2.2.2 hroom), hl0.2.1, C.2.2.2.2.2.1 _ hl0.2.2⟩ ⟨qa_Pc.blind, fun U hU hw => qa_Pc.ready C hW hS (.ref a :: As) U hU hw⟩ rfl (by rw [List.length_map]; exact hn) hl.1 (by rw [List.map_append, qa_rev]; try rfl) (lv_room (by rw [qa_cats]; exact hrest)) hd hfit) hS (fun r N1 μ1 H1 locs1 hq hW1 hS1 => ?_)
  have := kk r N1 μ1 hq p e s m args below meth c D ca ad B H1 locs1 ls C hX hW1 hS1 hl
  cases r with
  | none => exact this
  | some v => exact this
theorem qa_callIN {idx : Nat} {y' : MethodName} {cc' : ByteArray} {nL' : Nat} {d' mc' ms' n : Nat} {Q' : Option Value → Nat → qa_M → Prop} {a : Nat} {st0 : List Value} (As rest : List Value) (hM : qa_Met l y' cc' nL' none d' mc' ms' (.ref a :: As) N μ Q') (hd : decode cc pc = .ok (.invokespecial idx, 3)) (hl0 : qa_MIN y.cls idx y' cc' nL' none n)  (hn : As.length = n) (hst : st0 = As.reverse ++ .ref a :: rest) (hroom : d' + 1 ≤ R.frames ∧ 8 + (nL' + 11) + 40 * d' ≤ R.locals) (hfit : cells + mc' ≤ R.cells ∧ slots + ms' ≤ R.slots) (hrest : (rest.map fun v => v.category).sum ≤ 8)
    (kk : ∀ (r : Option Value) (N1 : Nat) (μ1 : qa_M), Q' r N1 μ1 → qa_GG l y cc nL ret R X E (cells + mc') (slots + ms') (pc + 3) L (r.toList ++ rest) N1 μ1) : qa_GG l y cc nL ret R X E cells slots pc L st0 N μ := by
  intro p e s m args below meth c D ca ad B H locs ls C hX hW hS hl
  subst hst
  refine qa_go (rest := rest.map (qa_cv ad)) (va_runIN (As := As.map (qa_cv ad)) ⟨C.1, C.2.1, C.2.2.2.1, C.2.2.2.2.1, C.2.2.2.2.2.1⟩ (hM D ca ad B) ⟨(va_cnB n C.2.2.2.2.2.1 (qa_gi hl0.1.2.2.1) rfl rfl rfl (C.2.2.2.2.2.2.2.2.2.2.2.2.2.2.2.1 (y.cls, idx, y') hl0.1.1) (C.2.2.2.2.2.1 _ hl0.1.2.1) hl0.1.2.2.2 hroom), hl0.2.1, C.2.2.2.2.2.1 _ hl0.2.2⟩ ⟨qa_Pc.blind, fun U hU hw => qa_Pc.ready C hW hS (.ref a :: As) U hU hw⟩ rfl (by rw [List.length_map]; exact hn) hl.1 (by rw [List.map_append, qa_rev]; try rfl) (lv_room (by rw [qa_cats]; exact hrest)) hd hfit) hS (fun r N1 μ1 H1 locs1 hq hW1 hS1 => ?_)
  have := kk r N1 μ1 hq p e s m args below meth c D ca ad B H1 locs1 ls C hX hW1 hS1 hl
  cases r with
  | none => exact this
  | some v => exact this
end QC
