
/-- the words that last -/
def qa_tb : List Cond := lw_tbl.filter goodWord
theorem qa_goodIn : GoodIn qa_tb qa_tb := fun w hw => ⟨hw, good_of_word (List.mem_filter.mp hw).2⟩
theorem qa_in {w : Cond} (i : Nat) (h : lw_tbl[i]? = some w) (hg : goodWord w = true) : w ∈ qa_tb := List.mem_filter.mpr ⟨List.mem_of_getElem? h, hg⟩
/-- memory: whole numbers, long numbers, references (0: null), each by the cell's place and the place in the cell -/
abbrev qa_M : Type := (Nat → Nat → Int32) × (Nat → Nat → Int64) × (Nat → Nat → Nat)
abbrev qa_ets : List FieldType := [.int, .byte, .boolean, .long, .short, .object "PivotStreet$Town", .object "PivotStreet$Row"]
def qa_tys (ca : FieldType → ClassId) : List (ClassId × FieldType) := qa_ets.map (fun t => (ca t, t))
def qa_ty (ci : Nat) : Nat → FieldType := match ci with
  | 0 => tyX0 | 1 => tyX1 | 2 => tyX2 | 3 => tyX3 | 4 => tyX4 | 5 => tyX5 | 6 => tyX6 | 7 => tyX7 | 8 => tyX8 | _ => tyX9
def qa_shl : List (Nat ⊕ (FieldType × Nat)) := [.inr (.int, 0), .inl 8, .inl 2, .inl 6, .inr (.int, 8), .inr (.int, 8), .inr (.int, 8), .inr (.int, 8), .inr (.int, 8), .inr (.int, 8), .inl 0, .inr (.int, 30), .inr (.int, 30), .inr (.int, 30), .inr (.int, 20), .inr (.byte, 800), .inl 6, .inr (.int, 8), .inr (.int, 8), .inr (.int, 8), .inr (.int, 8), .inr (.int, 8), .inr (.int, 8), .inl 0, .inr (.int, 30), .inr (.int, 30), .inr (.int, 30), .inr (.int, 20), .inr (.object "PivotStreet$Town", 3), .inr (.boolean, 3), .inr (.object "PivotStreet$Row", 4), .inl 1, .inl 7, .inr (.int, 168), .inr (.int, 160), .inr (.int, 20), .inr (.int, 20), .inl 7, .inr (.int, 168), .inr (.int, 160), .inr (.int, 20), .inr (.int, 20), .inl 4, .inr (.short, 5120), .inl 5, .inr (.int, 801), .inr (.int, 256), .inl 6, .inr (.int, 8), .inr (.int, 8), .inr (.int, 8), .inr (.int, 8), .inr (.int, 8), .inr (.int, 8), .inl 0, .inr (.int, 30), .inr (.int, 30), .inr (.int, 30), .inr (.int, 20), .inl 6, .inr (.int, 8), .inr (.int, 8), .inr (.int, 8), .inr (.int, 8), .inr (.int, 8), .inr (.int, 8), .inl 0, .inr (.int, 30), .inr (.int, 30), .inr (.int, 30), .inr (.int, 20), .inl 6, .inr (.int, 8), .inr (.int, 8), .inr (.int, 8), .inr (.int, 8), .inr (.int, 8), .inr (.int, 8), .inl 0, .inr (.int, 30), .inr (.int, 30), .inr (.int, 30), .inr (.int, 20), .inl 3, .inr (.long, 60), .inl 3, .inr (.long, 60), .inl 3, .inr (.long, 60), .inl 3, .inr (.long, 60), .inl 9, .inr (.int, 114), .inr (.int, 342), .inr (.boolean, 3), .inr (.byte, 800), .inr (.int, 5), .inr (.int, 114), .inr (.int, 8), .inr (.int, 8), .inr (.int, 20), .inr (.int, 168), .inr (.int, 160), .inr (.int, 20), .inr (.int, 20), .inr (.boolean, 801), .inr (.int, 8), .inr (.int, 256), .inr (.int, 5120), .inr (.int, 256), .inr (.int, 4), .inr (.int, 4), .inr (.long, 240), .inr (.long, 60)]
/-- what lies at a place: an object of a class, or an array of a type and a length -/
def qa_sh (k : Nat) : Nat ⊕ (FieldType × Nat) := (qa_shl[k]?).getD (.inr (.int, 0))
def qa_rv (ad : Nat → Nat) (r : Nat) : Value := if r = 0 then .null else .ref (ad r)
def qa_cv (ad : Nat → Nat) (v : Value) : Value := match v with
  | .ref r => .ref (ad r)
  | v => v
def qa_fv (ad : Nat → Nat) (μ : qa_M) (a : Nat) (ty : FieldType) (k : Nat) : Value := match ty with
  | .long => .long (μ.2.1 a k)
  | .array _ => qa_rv ad (μ.2.2 a k)
  | .object _ => qa_rv ad (μ.2.2 a k)
  | _ => .int (μ.1 a k)
theorem qa_cv_fv (ad : Nat → Nat) (μ : qa_M) (a : Nat) (ty : FieldType) (k : Nat) : qa_cv ad (qa_fv id μ a ty k) = qa_fv ad μ a ty k := by
  unfold qa_fv
  split <;> first | rfl | (unfold qa_rv; split <;> rfl)
/-- the cell at a place -/
def qa_at (D : va_G) (ca : FieldType → ClassId) (ad : Nat → Nat) (μ : qa_M) (k : Nat) (H : Heap) : Prop := match qa_sh k with
  | .inl ci => ∃ r : vw_C, vwCl[ci]? = some r ∧ t_OB (ad k) (D.1 ci) r.2.2 (D.2 ci) H (fun j => qa_fv ad μ k (qa_ty ci j) j)
  | .inr x => H[ad k]? = some (arrV (ca x.1) x.2 (fun j => qa_fv ad μ k x.1 j))
/-- the first N places, one behind another from B + 1 on -/
def qa_W (D : va_G) (ca : FieldType → ClassId) (ad : Nat → Nat) (B N : Nat) (μ : qa_M) (H : Heap) : Prop := H.size = B + 1 + N ∧ N < 1000 ∧ (∀ r, r < 1000 → ad r = B + r) ∧ ∀ k, 1 ≤ k → k ≤ N → qa_at D ca ad μ k H
def qa_txt : List (List Int32) := [[116, 111, 119, 110], [119, 101, 101, 107, 115], [108, 97, 119], [104, 101, 97, 118, 121], [111, 100, 100, 115], [104, 111, 117, 115, 101], [112, 117, 115, 104], [108, 101, 97, 110, 115], [112, 108, 97, 99, 101], [115, 117, 110], [115, 109, 101, 108, 108], [115, 110, 111, 119], [97, 116], [108, 101, 116, 116, 101, 114], [116, 111], [116, 111, 119, 110], [119, 101, 101, 107, 115], [108, 97, 119], [104, 101, 97, 118, 121], [111, 100, 100, 115], [104, 111, 117, 115, 101], [112, 108, 97, 99, 101], [115, 110, 111, 119], [108, 101, 116, 116, 101, 114], [112, 117, 115, 104], [108, 101, 97, 110, 115], [115, 117, 110], [115, 109, 101, 108, 108], [97, 116], [116, 111]]
def qa_fac : List Int32 := [1, 1, 2, 6, 24, 120, 720, 5040, 40320]
def qa_nest : List (String × Nat × MethodName) := [("PivotStreet", 9, ⟨"PivotStreet$Tape", "<init>", "()V"⟩), ("PivotStreet$Tape", 23, ⟨"PivotStreet$Town", "<init>", "()V"⟩), ("PivotStreet$Town", 32, ⟨"PivotStreet$Acts", "<init>", "()V"⟩), ("PivotStreet", 18, ⟨"PivotStreet$Town", "<init>", "()V"⟩), ("PivotStreet", 39, ⟨"PivotStreet$Plan", "<init>", "()V"⟩), ("PivotStreet", 46, ⟨"PivotStreet$Year", "<init>", "()V"⟩), ("PivotStreet", 56, ⟨"PivotStreet$Seen", "<init>", "()V"⟩), ("PivotStreet", 63, ⟨"PivotStreet$Tally", "<init>", "()V"⟩), ("PivotStreet", 76, ⟨"PivotStreet$Row", "<init>", "()V"⟩), ("PivotStreet$Year", 80, ⟨"PivotStreet", "bitOf", "(II)I"⟩), ("PivotStreet$Year", 117, ⟨"PivotStreet", "signed", "(III)I"⟩), ("PivotStreet$Year", 67, ⟨"PivotStreet", "turnBy", "(IIIII)I"⟩), ("PivotStreet$Year", 121, ⟨"PivotStreet", "round", "(II)I"⟩)]
def qa_strs : List (String × Nat × String × Nat) := [("PivotStreet$Tape", 84, "town", 0), ("PivotStreet$Tape", 90, "weeks", 1), ("PivotStreet$Tape", 98, "law", 2), ("PivotStreet$Tape", 102, "heavy", 3), ("PivotStreet$Tape", 106, "odds", 4), ("PivotStreet$Tape", 53, "house", 5), ("PivotStreet$Tape", 117, "push", 6), ("PivotStreet$Tape", 119, "leans", 7), ("PivotStreet$Tape", 62, "place", 8), ("PivotStreet$Tape", 134, "sun", 9), ("PivotStreet$Tape", 136, "smell", 10), ("PivotStreet$Tape", 67, "snow", 11), ("PivotStreet$Tape", 147, "at", 12), ("PivotStreet$Tape", 72, "letter", 13), ("PivotStreet$Tape", 155, "to", 14), ("PivotStreetModel", 180, "town", 15), ("PivotStreetModel", 182, "weeks", 16), ("PivotStreetModel", 187, "law", 17), ("PivotStreetModel", 189, "heavy", 18), ("PivotStreetModel", 191, "odds", 19), ("PivotStreetModel", 193, "house", 20), ("PivotStreetModel", 195, "place", 21), ("PivotStreetModel", 197, "snow", 22), ("PivotStreetModel", 199, "letter", 23), ("PivotStreetModel", 204, "push", 24), ("PivotStreetModel", 206, "leans", 25), ("PivotStreetModel", 208, "sun", 26), ("PivotStreetModel", 210, "smell", 27), ("PivotStreetModel", 212, "at", 28), ("PivotStreetModel", 213, "to", 29)]
/-- what is read and never written: a static row, the texts -/
def qa_RO (ad : Nat → Nat) (B : Nat) (U : State) (H : Heap) : Prop :=
  va_Z "PivotStreet" "FACTORIALS" "[I" (.ref (ad 4000)) (fun q => B < q) U H ∧ va_T .int (ad 4000) 9 (fun j => .int (qa_fac.getD j 0)) (fun q => B < q) U H ∧
  va_Z "java/lang/String" "COMPACT_STRINGS" "Z" (.int 1) (fun q => B < q) U H ∧
  (∀ i, i < 30 → va_O "java/lang/String" (ad (2000 + i)) (fun q => B < q) U H ∧ va_OF "java/lang/String" "coder" "B" (.int 0) (ad (2000 + i)) (fun q => B < q) U H ∧ va_OF "java/lang/String" "value" "[B" (.ref (ad (3000 + i))) (ad (2000 + i)) (fun q => B < q) U H ∧ va_T .byte (ad (3000 + i)) (qa_txt.getD i []).length (fun j => .int ((qa_txt.getD i []).getD j 0)) (fun q => B < q) U H) ∧
  (∀ q ∈ qa_strs, vk_R q.1 q.2.1 q.2.2.1 (ad (2000 + q.2.2.2)) U) ∧ (∀ q ∈ qa_nest, va_Nw (.methodLinkNest q.1 q.2.1 q.2.2 "PivotStreet") U) ∧ va_AO "PivotStreet$Town" U ∧ va_AO "PivotStreet$Row" U ∧ (va_Z "jdk/internal/util/Preconditions" "SIOOBE_FORMATTER" "Ljava/util/function/BiFunction;" .null (fun q => B < q) U H ∨ va_Z "jdk/internal/util/Preconditions" "SIOOBE_FORMATTER" "Ljava/util/function/BiFunction;" (.ref (ad 5000)) (fun q => B < q) U H)
theorem qa_RO.kept {ad : Nat → Nat} {B : Nat} {U : State} {H H1 : Heap} (h : qa_RO ad B U H) (hq : ∀ a : Nat, a < H.size → ¬ B < a → H1[a]? = H[a]?) : qa_RO ad B U H1 :=
  ⟨h.1.kept hq, h.2.1.kept hq, h.2.2.1.kept hq, fun i hi => ⟨(h.2.2.2.1 i hi).1.kept hq, (h.2.2.2.1 i hi).2.1.kept hq, (h.2.2.2.1 i hi).2.2.1.kept hq, (h.2.2.2.1 i hi).2.2.2.kept hq⟩, h.2.2.2.2.1, h.2.2.2.2.2.1, h.2.2.2.2.2.2.1, h.2.2.2.2.2.2.2.1, h.2.2.2.2.2.2.2.2.elim (fun z => Or.inl (z.kept hq)) (fun z => Or.inr (z.kept hq))⟩
theorem qa_RO.moved {ad : Nat → Nat} {B : Nat} {u U : State} {H : Heap} (hvm : u.vm.Alike U.vm) (hr : ∀ q ∈ qa_strs, vk_R q.1 q.2.1 q.2.2.1 (ad (2000 + q.2.2.2)) u → vk_R q.1 q.2.1 q.2.2.1 (ad (2000 + q.2.2.2)) U) (hn : ∀ q ∈ qa_nest, va_Nw (.methodLinkNest q.1 q.2.1 q.2.2 "PivotStreet") u → va_Nw (.methodLinkNest q.1 q.2.1 q.2.2 "PivotStreet") U) (h : qa_RO ad B u H) : qa_RO ad B U H :=
  ⟨h.1.moved hvm, h.2.1.moved hvm, h.2.2.1.moved hvm, fun i hi => ⟨(h.2.2.2.1 i hi).1.moved hvm, (h.2.2.2.1 i hi).2.1.moved hvm, (h.2.2.2.1 i hi).2.2.1.moved hvm, (h.2.2.2.1 i hi).2.2.2.moved hvm⟩, fun q hq => hr q hq (h.2.2.2.2.1 q hq), fun q hq => hn q hq (h.2.2.2.2.2.1 q hq), h.2.2.2.2.2.2.1.moved hvm, h.2.2.2.2.2.2.2.1.moved hvm, h.2.2.2.2.2.2.2.2.elim (fun z => Or.inl (z.moved hvm)) (fun z => Or.inr (z.moved hvm))⟩
theorem qa_RO.same {ad : Nat → Nat} {B : Nat} {u U : State} {H : Heap} (hv : u.vm = U.vm) (h : qa_RO ad B u H) : qa_RO ad B U H := qa_RO.moved (hv ▸ Vm.Alike.refl u.vm) (fun q _ hq => hq.same hv.symm) (fun q _ hq => hq.same rfl hv) h
theorem qa_RO.warm {ad : Nat → Nat} {B : Nat} {u U : State} {H : Heap} (hW : u.WarmedH U.vm) (h : qa_RO ad B u H) : qa_RO ad B U H := qa_RO.moved hW.alike (fun q _ hq => hq.warm hW) (fun q _ hq => hq.warmM hW) h
def qa_rm (d mc ms : Nat) : Room := { frames := d, cells := mc, slots := ms, locals := 40 * d }
/-- locals by their numbers -/
def qa_lv (ls : Array Slot) (nL : Nat) (ad : Nat → Nat) (L : List (Option Value)) : Prop := ls.size = nL ∧ lv_wf ls ∧ L.length = nL ∧ ∀ (i : Nat) (v : Value), L[i]? = some (some v) → ls[i]? = some (.val (qa_cv ad v))
def qa_Qc (D : va_G) (ca : FieldType → ClassId) (ad : Nat → Nat) (B : Nat) (Q : Option Value → Nat → qa_M → Prop) : Array Value → State → Outcome → State → Prop := fun _ st o t =>
  (∃ (r : Option Value) (N : Nat) (μ : qa_M), Q r N μ ∧ o = .returned (r.map (qa_cv ad)) ∧ qa_W D ca ad B N μ t.heap) ∧ va_F (fun q => B < q) st t
/-- what holds all through a method -/
def qa_C (p : Program) (s : State) (m : MethodId) (args : Array Value) (meth : Method) (c : Code) (y : MethodName) (cc : ByteArray) (nL : Nat) (ret : Option FieldType) (D : va_G) (ca : FieldType → ClassId) (ad : Nat → Nat) (B : Nat) : Prop :=
  p.tables.exec = Jvm.exec ∧ c.code = cc ∧ meth.sig.returnType = ret ∧ c.maxLocals = nL ∧ s.vm.findClass y.cls = some m.cls ∧ (∀ w ∈ qa_tb, w.before args s = true) ∧ va_K D vwCl (qa_tys ca) s ∧ meth.locks = false ∧ meth.name = y.name ∧ B < s.heap.size ∧ qa_RO ad B s s.heap
/-- THE JUDGEMENT, with any room R, any further facts X of the start, any end E: method y, at pc with locals L, stack st, N cells and memory μ, comes to its end -/
def qa_GG (l : Launch) (y : MethodName) (cc : ByteArray) (nL : Nat) (ret : Option FieldType) (R : Room) (X : State → (Nat → Nat) → Nat → Prop) (E : State → Array Value → List Frame → va_G → (FieldType → ClassId) → (Nat → Nat) → Nat → State → Prop) (cells slots pc : Nat) (L : List (Option Value)) (st : List Value) (N : Nat) (μ : qa_M) : Prop :=
  ∀ (p : Program) (e : Env) (s : State) (m : MethodId) (args : Array Value) (below : List Frame) (meth : Method) (c : Code) (D : va_G) (ca : FieldType → ClassId) (ad : Nat → Nat) (B : Nat) (H : Heap) (locs : List Loc) (ls : Array Slot),
    qa_C p s m args meth c y cc nL ret D ca ad B → X s ad B → qa_W D ca ad B N μ H → va_S (fun q => B < q) s.heap H locs → qa_lv ls nL ad L →
    W p l e R s m args below meth c H locs cells slots (E s args below D ca ad B) (F0 m pc ls (st.map (qa_cv ad)))
def qa_E (mc ms : Nat) (Q : Option Value → Nat → qa_M → Prop) : State → Array Value → List Frame → va_G → (FieldType → ClassId) → (Nat → Nat) → Nat → State → Prop := fun s args below D ca ad B => MQ below (qa_Qc D ca ad B Q) args s mc ms (fun q => B < q)
/-- a method's own: its contract's room and end -/
abbrev qa_G (l : Launch) (y : MethodName) (cc : ByteArray) (nL : Nat) (ret : Option FieldType) (d mc ms : Nat) (Q : Option Value → Nat → qa_M → Prop) (cells slots pc : Nat) (L : List (Option Value)) (st : List Value) (N : Nat) (μ : qa_M) : Prop :=
  qa_GG l y cc nL ret (qa_rm d mc ms) (fun _ _ _ => True) (qa_E mc ms Q) cells slots pc L st N μ
def qa_Pc (D : va_G) (ca : FieldType → ClassId) (ad : Nat → Nat) (B : Nat) (av : List Value) (N : Nat) (μ : qa_M) : Array Value → State → Prop := fun v U =>
  v = (av.map (qa_cv ad)).toArray ∧ qa_W D ca ad B N μ U.heap ∧ va_K D vwCl (qa_tys ca) U ∧ qa_RO ad B U U.heap
/-- A CONTRACT: method y, called with av at N cells and memory μ, returns with Q -/
def qa_Met (l : Launch) (y : MethodName) (cc : ByteArray) (nL : Nat) (ret : Option FieldType) (d mc ms : Nat) (av : List Value) (N : Nat) (μ : qa_M) (Q : Option Value → Nat → qa_M → Prop) : Prop :=
  ∀ (D : va_G) (ca : FieldType → ClassId) (ad : Nat → Nat) (B : Nat), Met l y (Cond.code y cc nL ret :: qa_tb) (qa_rm d mc ms) (qa_Pc D ca ad B av N μ) (qa_Qc D ca ad B Q) mc ms (fun q => B < q)
def qa_ent : List Value → List (Option Value)
  | [] => []
  | v :: vs => if v.category = 2 then some v :: none :: qa_ent vs else some v :: qa_ent vs
def qa_ents (nL : Nat) (av : List Value) : List (Option Value) := qa_ent av ++ List.replicate (nL - (qa_ent av).length) none
theorem qa_cat (ad : Nat → Nat) (v : Value) : (qa_cv ad v).category = v.category := by cases v <;> rfl
theorem qa_ent_len (ad : Nat → Nat) : ∀ av : List Value, (lg_sl (av.map (qa_cv ad))).length = (qa_ent av).length
  | [] => rfl
  | v :: vs => by
    have ih := qa_ent_len ad vs
    unfold lg_sl at ih ⊢
    rw [List.map_cons, List.flatMap_cons, List.length_append, ih, qa_cat]
    rw [qa_ent]
    by_cases h : v.category = 2
    · rw [if_pos h, if_pos h]; simp; omega
    · rw [if_neg h, if_neg h]; simp; omega
theorem qa_ent_at (ad : Nat → Nat) : ∀ (av : List Value) (i : Nat) (v : Value), (qa_ent av)[i]? = some (some v) → (lg_sl (av.map (qa_cv ad)))[i]? = some (.val (qa_cv ad v))
  | [], i, v, h => by simp [qa_ent] at h
  | w :: vs, i, v, h => by
    have ih := qa_ent_at ad vs
    unfold lg_sl at ih ⊢
    rw [List.map_cons, List.flatMap_cons, qa_cat]
    rw [qa_ent] at h
    by_cases hc : w.category = 2
    · rw [if_pos hc] at h ⊢
      match i, h with
      | 0, h => simp at h; subst h; rfl
      | 1, h => simp at h
      | i + 2, h => exact ih i v h
    · rw [if_neg hc] at h ⊢
      match i, h with
      | 0, h => simp at h; subst h; rfl
      | i + 1, h => exact ih i v h
/-- a contract out of the walk from the entry -/
theorem qa_ofG {l : Launch} {y : MethodName} {cc : ByteArray} {nL : Nat} {ret : Option FieldType} {d mc ms : Nat} {av : List Value} {N : Nat} {μ : qa_M} {Q : Option Value → Nat → qa_M → Prop} (hy : plainName y.cls = true) (hn : (qa_ent av).length ≤ nL)
    (h : qa_G l y cc nL ret d mc ms Q 0 0 0 (qa_ents nL av) [] N μ) : qa_Met l y cc nL ret d mc ms av N μ Q := by
  intro D ca ad B
  refine Met.ofW (cc := cc) (maxL := nL) (ret := ret) hy rfl ?_
  intro p e s m args below meth c s₁ Bd hml hv
  obtain ⟨rfl, hW, hK, hR⟩ := hv
  have hts := atoms_spec (ws := Cond.code y cc nL ret :: qa_tb) Bd.pre
  have hown : s.vm.findClass y.cls = some m.cls := findClass_of_methodNamed Bd.named
  have hin : meth.name = y.name := (name_of_methodNamed Bd.named Bd.method).1
  have hl := lv_entry (av.map (qa_cv ad)) (n := nL) (by rw [qa_ent_len]; exact hn)
  rw [lg_entry_eq]
  refine h p e s m _ below meth c D ca ad B s.heap [] _ ⟨Bd.exec, Bd.bytes, Bd.returns, hml, hown, fun w hw => hts w (List.mem_cons_of_mem _ hw), hK, Bd.notSynchronized, hin, by rw [hW.1]; omega, hR⟩ trivial hW va_S.rf ⟨hl.1, hl.2.1, ?_, ?_⟩
  · unfold qa_ents
    rw [List.length_append, List.length_replicate]
    omega
  · intro i v hi
    unfold qa_ents at hi
    by_cases hlt : i < (qa_ent av).length
    · rw [List.getElem?_append_left hlt] at hi
      have h2 := qa_ent_at ad av i v hi
      rw [List.getElem?_toArray, List.getElem?_append_left (by rw [qa_ent_len]; exact hlt)]
      exact h2
    · rw [List.getElem?_append_right (by omega)] at hi
      have := List.eq_of_mem_replicate (List.mem_of_getElem? hi)
      cases this
/-- a weaker end -/
theorem qa_Met.weaken {l : Launch} {y : MethodName} {cc : ByteArray} {nL : Nat} {ret : Option FieldType} {d mc ms : Nat} {av : List Value} {N : Nat} {μ : qa_M} {Q Q' : Option Value → Nat → qa_M → Prop} (h : qa_Met l y cc nL ret d mc ms av N μ Q) (hq : ∀ r N μ, Q r N μ → Q' r N μ) : qa_Met l y cc nL ret d mc ms av N μ Q' := by
  intro D ca ad B p e ha hc hk s m args below hf happ hP hK
  obtain ⟨t, o, h1, h2, h3, ⟨⟨r, N1, μ1, q1, q2, q3⟩, q4⟩, h5⟩ := h D ca ad B p e ha hc hk s m args below hf happ hP hK
  exact ⟨t, o, h1, h2, h3, ⟨⟨r, N1, μ1, hq r N1 μ1 q1, q2, q3⟩, q4⟩, h5⟩
