def qa_u1 {α : Type} (f : Nat → Nat → α) (a k : Nat) (v : α) : Nat → Nat → α := fun x j => if x = a ∧ j = k then v else f x j
def qa_uI (μ : qa_M) (a k : Nat) (v : Int32) : qa_M := (qa_u1 μ.1 a k v, μ.2.1, μ.2.2)
def qa_uJ (μ : qa_M) (a k : Nat) (v : Int64) : qa_M := (μ.1, qa_u1 μ.2.1 a k v, μ.2.2)
def qa_uP (μ : qa_M) (a k : Nat) (v : Nat) : qa_M := (μ.1, μ.2.1, qa_u1 μ.2.2 a k v)
theorem qa_u1_same {α : Type} (f : Nat → Nat → α) (a k : Nat) (v : α) : qa_u1 f a k v a k = v := if_pos ⟨rfl, rfl⟩
theorem qa_u1_ne {α : Type} (f : Nat → Nat → α) {a k x j : Nat} (v : α) (h : ¬ (x = a ∧ j = k)) : qa_u1 f a k v x j = f x j := if_neg h
/-- a class's facts -/
def qa_CF (ci : Nat) (C : String) (T : u_T) (N : Nat) : Prop := vwCl[ci]? = some (C, T, N) ∧ (∀ w ∈ u_ws C T N, w ∈ qa_tb) ∧ (∀ k, k < N → parseFieldDescriptor (T k).2.2.1 = some (qa_ty ci k)) ∧ ∀ a, a < N → ∀ b, b < N → a ≠ b → (T a).2.1 ≠ (T b).2.1
theorem qa_all {ws : List Cond} (h : ws.all (fun w => decide (w ∈ lw_tbl) && goodWord w) = true) : ∀ w ∈ ws, w ∈ qa_tb := fun w hw => by
  have h1 := List.all_eq_true.mp h w hw
  simp only [Bool.and_eq_true, decide_eq_true_eq] at h1
  exact List.mem_filter.mpr h1
set_option maxRecDepth 100000 in
theorem qa_cf0 : qa_CF 0 RX0 TX0 6 := ⟨rfl, qa_all (by decide +kernel), tyX0_ok, nmX0⟩
set_option maxRecDepth 100000 in
theorem qa_cf1 : qa_CF 1 RX1 TX1 8 := ⟨rfl, qa_all (by decide +kernel), tyX1_ok, nmX1⟩
set_option maxRecDepth 100000 in
theorem qa_cf2 : qa_CF 2 RX2 TX2 9 := ⟨rfl, qa_all (by decide +kernel), tyX2_ok, nmX2⟩
set_option maxRecDepth 100000 in
theorem qa_cf3 : qa_CF 3 RX3 TX3 3 := ⟨rfl, qa_all (by decide +kernel), tyX3_ok, nmX3⟩
set_option maxRecDepth 100000 in
theorem qa_cf4 : qa_CF 4 RX4 TX4 4 := ⟨rfl, qa_all (by decide +kernel), tyX4_ok, nmX4⟩
set_option maxRecDepth 100000 in
theorem qa_cf5 : qa_CF 5 RX5 TX5 1 := ⟨rfl, qa_all (by decide +kernel), tyX5_ok, nmX5⟩
set_option maxRecDepth 100000 in
theorem qa_cf6 : qa_CF 6 RX6 TX6 18 := ⟨rfl, qa_all (by decide +kernel), tyX6_ok, nmX6⟩
set_option maxRecDepth 100000 in
theorem qa_cf7 : qa_CF 7 RX7 TX7 4 := ⟨rfl, qa_all (by decide +kernel), tyX7_ok, nmX7⟩
set_option maxRecDepth 100000 in
theorem qa_cf8 : qa_CF 8 RX8 TX8 12 := ⟨rfl, qa_all (by decide +kernel), tyX8_ok, nmX8⟩
set_option maxRecDepth 100000 in
theorem qa_cf9 : qa_CF 9 RX9 TX9 45 := ⟨rfl, qa_all (by decide +kernel), tyX9_ok, nmX9⟩
theorem qa_arr_read {cI : ClassId} {n : Nat} (f : Nat → Value) (k : Nat) (h : k < n) : (arrV cI n f).slots[k]? = some (f k) := by
  unfold arrV
  simp [h]
/-- the link of a field: the field k of class ci -/
def qa_FL (own : String) (idx ci k : Nat) : Prop := ∃ (C : String) (T : u_T) (N : Nat), qa_CF ci C T N ∧ k < N ∧ (T k).1 = C ∧ Cond.fieldLink own idx C (T k).2.1 (T k).2.2.1 ∈ qa_tb
def qa_fin (ci k : Nat) : Bool := ((vwCl[ci]?).map (fun r => (r.2.1 k).2.2.2)).getD true
theorem qa_arr {D : va_G} {ca : FieldType → ClassId} {s : State} (hK : va_K D vwCl (qa_tys ca) s) {ty : FieldType} (t : Nat) (ht : qa_ets[t]? = some ty) : ArrOfT s (ca ty) ty := by
  refine (hK.2 t (ca ty, ty) ?_).1
  unfold qa_tys
  rw [List.getElem?_map, ht]
  rfl
theorem qa_W.obj {D : va_G} {ca : FieldType → ClassId} {ad : Nat → Nat} {B N : Nat} {μ : qa_M} {H : Heap} (hW : qa_W D ca ad B N μ H) {a ci : Nat} (ha : 1 ≤ a ∧ a ≤ N) (hs : qa_sh a = .inl ci) : ∃ r : vw_C, vwCl[ci]? = some r ∧ t_OB (ad a) (D.1 ci) r.2.2 (D.2 ci) H (fun j => qa_fv ad μ a (qa_ty ci j) j) := by
  have h := hW.2.2.2 a ha.1 ha.2
  unfold qa_at at h
  rw [hs] at h
  exact h
theorem qa_W.arr {D : va_G} {ca : FieldType → ClassId} {ad : Nat → Nat} {B N : Nat} {μ : qa_M} {H : Heap} (hW : qa_W D ca ad B N μ H) {a n : Nat} {ty : FieldType} (ha : 1 ≤ a ∧ a ≤ N) (hs : qa_sh a = .inr (ty, n)) : H[ad a]? = some (arrV (ca ty) n (fun j => qa_fv ad μ a ty j)) := by
  have h := hW.2.2.2 a ha.1 ha.2
  unfold qa_at at h
  rw [hs] at h
  exact h
theorem qa_at.kept {D : va_G} {ca : FieldType → ClassId} {ad : Nat → Nat} {μ μ' : qa_M} {H H1 : Heap} {k : Nat} (h : qa_at D ca ad μ k H) (h1 : H1[ad k]? = H[ad k]?) (hm : ∀ ty j, qa_fv ad μ' k ty j = qa_fv ad μ k ty j) : qa_at D ca ad μ' k H1 := by
  unfold qa_at at h ⊢
  split at h
  · next ci e =>
    obtain ⟨r, hr, ho⟩ := h
    exact ⟨r, hr, (ho.kept h1).to (fun j _ => (hm _ j).symm)⟩
  · next x e =>
    show H1[ad k]? = some (arrV (ca x.1) x.2 (fun j => qa_fv ad μ' k x.1 j))
    rw [h1, h]
    congr 2
    funext j
    exact (hm x.1 j).symm
theorem qa_W.upd {D : va_G} {ca : FieldType → ClassId} {ad : Nat → Nat} {B N : Nat} {μ μ' : qa_M} {H H1 : Heap} (hW : qa_W D ca ad B N μ H) {a : Nat} (ha : 1 ≤ a ∧ a ≤ N) (hz : H1.size = H.size) (ho : ∀ q, q ≠ ad a → H1[q]? = H[q]?) (hm : ∀ x ty j, x ≠ a → qa_fv ad μ' x ty j = qa_fv ad μ x ty j) (hat : qa_at D ca ad μ' a H1) : qa_W D ca ad B N μ' H1 := by
  refine ⟨by rw [hz]; exact hW.1, hW.2.1, hW.2.2.1, fun k h1 h2 => ?_⟩
  by_cases e : k = a
  · rw [e]; exact hat
  · refine qa_at.kept (hW.2.2.2 k h1 h2) (ho _ ?_) (fun ty j => hm k ty j e)
    have := hW.2.1
    rw [hW.2.2.1 k (by omega), hW.2.2.1 a (by omega)]
    omega
theorem qa_W.adr {D : va_G} {ca : FieldType → ClassId} {ad : Nat → Nat} {B N : Nat} {μ : qa_M} {H : Heap} (hW : qa_W D ca ad B N μ H) {a : Nat} (ha : 1 ≤ a ∧ a ≤ N) : B < ad a := by
  have := hW.2.1
  rw [hW.2.2.1 a (by omega)]
  omega
section QH
variable {l : Launch} {y : MethodName} {cc : ByteArray} {nL : Nat} {ret : Option FieldType} {R : Room} {X : State → (Nat → Nat) → Nat → Prop} {E : State → Array Value → List Frame → va_G → (FieldType → ClassId) → (Nat → Nat) → Nat → State → Prop} {cells slots pc : Nat} {L : List (Option Value)} {st : List Value} {N : Nat} {μ : qa_M}
theorem qa_getf {idx a ci k : Nat} (hd : decode cc pc = .ok (.getfield idx, 3)) (hf : qa_FL y.cls idx ci k) (hs : qa_sh a = .inl ci) (ha : 1 ≤ a ∧ a ≤ N) (kk : qa_GG l y cc nL ret R X E cells slots (pc + 3) L (qa_fv id μ a (qa_ty ci k) k :: st) N μ) : qa_GG l y cc nL ret R X E cells slots pc L (.ref a :: st) N μ := by
  intro p e s m args below meth c D ca ad B H locs ls C hX hW hS hl
  obtain ⟨Cn, T, n, hcf, hk, hT, hw⟩ := hf
  obtain ⟨r, h1, cell, q1, q2, q3, q4⟩ := hW.obj ha hs
  have hr : r = (Cn, T, n) := Option.some.inj (h1.symm.trans hcf.1)
  subst hr
  obtain ⟨hx, hb, -, -, hown, hts, hK, -⟩ := id C
  obtain ⟨hS0, hfc, kC, hkC, hkind⟩ := hK.1 ci _ hcf.1
  obtain ⟨cf, kf, fi, f, hi, hsl⟩ := hS0 k hk
  have hlink := hts _ hw
  refine W.getf hx hb hown hlink (by rw [← hT]; exact hi) (u_facts hfc hkC (u_lays hts hcf.2.1 hk) hi).1 q1 (by rw [q3]; exact fun h => by cases h) (v := qa_cv ad (qa_fv id μ a (qa_ty ci k) k)) ?_ rfl rfl hd (kk p e s m args below meth c D ca ad B H locs ls C hX hW hS hl)
  rw [hsl, q4 k hk, qa_cv_fv]
theorem qa_getI {idx a ci k : Nat} (hd : decode cc pc = .ok (.getfield idx, 3)) (hf : qa_FL y.cls idx ci k) (ht : qa_ty ci k = .int ∨ qa_ty ci k = .boolean) (hs : qa_sh a = .inl ci) (ha : 1 ≤ a ∧ a ≤ N) (kk : qa_GG l y cc nL ret R X E cells slots (pc + 3) L (.int (μ.1 a k) :: st) N μ) : qa_GG l y cc nL ret R X E cells slots pc L (.ref a :: st) N μ := by
  refine qa_getf hd hf hs ha ?_
  rcases ht with h | h <;> (rw [h]; exact kk)
theorem qa_getJ {idx a ci k : Nat} (hd : decode cc pc = .ok (.getfield idx, 3)) (hf : qa_FL y.cls idx ci k) (ht : qa_ty ci k = .long) (hs : qa_sh a = .inl ci) (ha : 1 ≤ a ∧ a ≤ N) (kk : qa_GG l y cc nL ret R X E cells slots (pc + 3) L (.long (μ.2.1 a k) :: st) N μ) : qa_GG l y cc nL ret R X E cells slots pc L (.ref a :: st) N μ := by
  refine qa_getf hd hf hs ha ?_
  rw [ht]; exact kk
theorem qa_getR {idx a ci k r : Nat} (hd : decode cc pc = .ok (.getfield idx, 3)) (hf : qa_FL y.cls idx ci k) (ht : qa_fv id μ a (qa_ty ci k) k = qa_rv id (μ.2.2 a k)) (hs : qa_sh a = .inl ci) (ha : 1 ≤ a ∧ a ≤ N) (hr : μ.2.2 a k = r) (h0 : 0 < r) (kk : qa_GG l y cc nL ret R X E cells slots (pc + 3) L (.ref r :: st) N μ) : qa_GG l y cc nL ret R X E cells slots pc L (.ref a :: st) N μ := by
  refine qa_getf hd hf hs ha ?_
  rw [ht, hr]
  unfold qa_rv
  rw [if_neg (by omega)]
  exact kk
theorem qa_putG {idx a ci k : Nat} {v : Value} {μ' : qa_M} (hd : decode cc pc = .ok (.putfield idx, 3)) (hf : qa_FL y.cls idx ci k) (hs : qa_sh a = .inl ci) (ha : 1 ≤ a ∧ a ≤ N) (hfin : qa_fin ci k = false ∨ (y.name = "<init>" ∧ (vwCl[ci]?).map (fun r => r.1) = some y.cls))
    (hn : ∀ ad, narrow (qa_ty ci k) (qa_cv ad v) = qa_cv ad v) (hfit : ∀ ad, fits (qa_ty ci k) (qa_cv ad v) = true) (hm : ∀ ad x ty j, x ≠ a → qa_fv ad μ' x ty j = qa_fv ad μ x ty j) (hu : ∀ ad j, updV (fun j => qa_fv ad μ a (qa_ty ci j) j) k (qa_cv ad v) j = qa_fv ad μ' a (qa_ty ci j) j)
    (kk : qa_GG l y cc nL ret R X E cells slots (pc + 3) L st N μ') : qa_GG l y cc nL ret R X E cells slots pc L (v :: .ref a :: st) N μ := by
  intro p e s m args below meth c D ca ad B H locs ls C hX hW hS hl
  obtain ⟨Cn, T, n, hcf, hk, hT, hw⟩ := hf
  obtain ⟨r, h1, cell, q1, q2, q3, q4⟩ := hW.obj ha hs
  have hr : r = (Cn, T, n) := Option.some.inj (h1.symm.trans hcf.1)
  subst hr
  obtain ⟨hx, hb, -, -, hown, hts, hK, -, hname, -⟩ := id C
  have hap := va_apart (own := y.cls) hts hcf.2.1 (qa_ty ci) hcf.2.2.1 hcf.2.2.2 hK hcf.1
  obtain ⟨hS0, hfc, kC, hkC, hkind⟩ := hK.1 ci _ hcf.1
  obtain ⟨cf, kf, fi, f, hi, hsl⟩ := hS0 k hk
  have hlay := hts _ (hcf.2.1 _ (u_in_lay hk))
  unfold u_lay at hlay
  have hst := (u_facts hfc hkC (u_lays hts hcf.2.1 hk) hi).1
  have hlink := hts _ hw
  have fine : ∀ (H' : Heap) (locs' : List Loc), H'[ad a]? = some (cell.setSlot (D.2 ci k) (qa_cv ad v)) → H'.size = H.size → (∀ q, q ≠ ad a → H'[q]? = H[q]?) → va_S (fun q => B < q) s.heap H' locs' → W p l e R s m args below meth c H' locs' cells slots (E s args below D ca ad B) (F0 m (pc + 3) ls (st.map (qa_cv ad))) := by
    intro H' locs' e1 e2 e3 hS'
    refine kk p e s m args below meth c D ca ad B H' locs' ls C hX (hW.upd ha e2 e3 (hm ad) ?_) hS' hl
    unfold qa_at
    rw [hs]
    exact ⟨_, hcf.1, t_OB.to (V := updV (fun j => qa_fv ad μ a (qa_ty ci j) j) k (qa_cv ad v)) ⟨_, e1, q2, q3, t_set q4 hap hk _⟩ (fun j _ => hu ad j)⟩
  by_cases hfl : (T k).2.2.2 = true
  · rw [if_pos hfl] at hlay
    rcases hfin with h | ⟨hi1, hi2⟩
    · exfalso
      unfold qa_fin at h
      rw [hcf.1] at h
      exact absurd (show (T k).2.2.2 = false from h) (by rw [hfl]; decide)
    · have hC : Cn = y.cls := by rw [hcf.1] at hi2; exact Option.some.inj hi2
      have hcfe : m.cls = cf := by
        obtain ⟨_, _, c', _, _, _, -, -, hf', -, -, -, hown2, -⟩ := Cond.laysFinal_spec hlay
        have e1 : c' = cf := by have := hi.symm.trans hf'; simp at this; exact this.1.symm
        rw [hT, hC] at hown2
        rw [← e1]; exact Option.some.inj (hown.symm.trans hown2)
      have h6 := u_fits hfc hkC hkind (Or.inr hlay) hi (hcf.2.2.1 k hk) (hn ad) (hfit ad)
      refine W.putFinK hx hb hown hlink (by rw [← hT]; exact hi) hst hcfe (hname.trans hi1) (by rw [q2]; exact h6) q1 q3 (by rw [hsl]; exact k2_hasslot (q4 k hk)) rfl rfl hd fun H' e1 e2 e3 => ?_
      rw [hsl] at e1 ⊢
      exact fine H' _ e1 e2 e3 (hS.put e2 e3 (hW.adr ha))
  · rw [if_neg hfl] at hlay
    have h6 := u_store hfc hkC hkind hlay hi (hcf.2.2.1 k hk) (hn ad) (hfit ad)
    refine W.putK hx hb (f := f) ⟨hown, hlink, ⟨_, _, _, by rw [← hT]; exact hi⟩, hst⟩ (by rw [q2]; exact h6) q1 q3 (by rw [hsl]; exact k2_hasslot (q4 k hk)) rfl rfl hd fun H' e1 e2 e3 => ?_
    rw [hsl] at e1 ⊢
    exact fine H' _ e1 e2 e3 (hS.put e2 e3 (hW.adr ha))
theorem qa_fvI {ad : Nat → Nat} {μ : qa_M} {a k x j : Nat} {v : Int32} {ty : FieldType} (h : ¬ (x = a ∧ j = k)) : qa_fv ad (qa_uI μ a k v) x ty j = qa_fv ad μ x ty j := by
  unfold qa_fv qa_uI
  split <;> first | rfl | (show Value.int (qa_u1 μ.1 a k v x j) = _; rw [qa_u1_ne _ _ h])
theorem qa_fvJ {ad : Nat → Nat} {μ : qa_M} {a k x j : Nat} {v : Int64} {ty : FieldType} (h : ¬ (x = a ∧ j = k)) : qa_fv ad (qa_uJ μ a k v) x ty j = qa_fv ad μ x ty j := by
  unfold qa_fv qa_uJ
  split <;> first | rfl | (show Value.long (qa_u1 μ.2.1 a k v x j) = _; rw [qa_u1_ne _ _ h])
theorem qa_fvP {ad : Nat → Nat} {μ : qa_M} {a k x j v : Nat} {ty : FieldType} (h : ¬ (x = a ∧ j = k)) : qa_fv ad (qa_uP μ a k v) x ty j = qa_fv ad μ x ty j := by
  unfold qa_fv qa_uP
  split <;> first | rfl | (show qa_rv ad (qa_u1 μ.2.2 a k v x j) = _; rw [qa_u1_ne _ _ h])
theorem qa_putI {idx a ci k : Nat} {v : Int32} (hd : decode cc pc = .ok (.putfield idx, 3)) (hf : qa_FL y.cls idx ci k) (ht : qa_ty ci k = .int) (hs : qa_sh a = .inl ci) (ha : 1 ≤ a ∧ a ≤ N) (hfin : qa_fin ci k = false) (kk : qa_GG l y cc nL ret R X E cells slots (pc + 3) L st N (qa_uI μ a k v)) : qa_GG l y cc nL ret R X E cells slots pc L (.int v :: .ref a :: st) N μ := by
  refine qa_putG hd hf hs ha (Or.inl hfin) (fun _ => by rw [ht]; rfl) (fun _ => by rw [ht]; rfl) (fun ad x ty j hx => qa_fvI (fun h => hx h.1)) (fun ad j => ?_) kk
  unfold updV
  by_cases e : j = k
  · subst e
    rw [if_pos rfl, ht]
    show Value.int v = Value.int (qa_u1 μ.1 a j v a j)
    rw [qa_u1_same]
  · rw [if_neg e, qa_fvI (fun h => e h.2)]
theorem qa_putZ {idx a ci k : Nat} {v : Int32} (hd : decode cc pc = .ok (.putfield idx, 3)) (hf : qa_FL y.cls idx ci k) (ht : qa_ty ci k = .boolean) (hv : v = 0 ∨ v = 1) (hs : qa_sh a = .inl ci) (ha : 1 ≤ a ∧ a ≤ N) (hfin : qa_fin ci k = false) (kk : qa_GG l y cc nL ret R X E cells slots (pc + 3) L st N (qa_uI μ a k v)) : qa_GG l y cc nL ret R X E cells slots pc L (.int v :: .ref a :: st) N μ := by
  refine qa_putG hd hf hs ha (Or.inl hfin) (fun _ => by rw [ht]; rcases hv with rfl | rfl <;> rfl) (fun _ => by rw [ht]; rcases hv with rfl | rfl <;> rfl) (fun ad x ty j hx => qa_fvI (fun h => hx h.1)) (fun ad j => ?_) kk
  unfold updV
  by_cases e : j = k
  · subst e
    rw [if_pos rfl, ht]
    show Value.int v = Value.int (qa_u1 μ.1 a j v a j)
    rw [qa_u1_same]
  · rw [if_neg e, qa_fvI (fun h => e h.2)]
theorem qa_putJ {idx a ci k : Nat} {v : Int64} (hd : decode cc pc = .ok (.putfield idx, 3)) (hf : qa_FL y.cls idx ci k) (ht : qa_ty ci k = .long) (hs : qa_sh a = .inl ci) (ha : 1 ≤ a ∧ a ≤ N) (hfin : qa_fin ci k = false) (kk : qa_GG l y cc nL ret R X E cells slots (pc + 3) L st N (qa_uJ μ a k v)) : qa_GG l y cc nL ret R X E cells slots pc L (.long v :: .ref a :: st) N μ := by
  refine qa_putG hd hf hs ha (Or.inl hfin) (fun _ => by rw [ht]; rfl) (fun _ => by rw [ht]; rfl) (fun ad x ty j hx => qa_fvJ (fun h => hx h.1)) (fun ad j => ?_) kk
  unfold updV
  by_cases e : j = k
  · subst e
    rw [if_pos rfl, ht]
    show Value.long v = Value.long (qa_u1 μ.2.1 a j v a j)
    rw [qa_u1_same]
  · rw [if_neg e, qa_fvJ (fun h => e h.2)]
theorem qa_putR {idx a ci k r : Nat} (hd : decode cc pc = .ok (.putfield idx, 3)) (hf : qa_FL y.cls idx ci k) (ht : (∃ t, qa_ty ci k = .array t) ∨ ∃ t, qa_ty ci k = .object t) (hs : qa_sh a = .inl ci) (ha : 1 ≤ a ∧ a ≤ N) (hfin : qa_fin ci k = false ∨ (y.name = "<init>" ∧ (vwCl[ci]?).map (fun r => r.1) = some y.cls)) (hr : 0 < r) (kk : qa_GG l y cc nL ret R X E cells slots (pc + 3) L st N (qa_uP μ a k r)) : qa_GG l y cc nL ret R X E cells slots pc L (.ref r :: .ref a :: st) N μ := by
  refine qa_putG hd hf hs ha hfin (fun _ => by rcases ht with ⟨t, h⟩ | ⟨t, h⟩ <;> (rw [h]; rfl)) (fun _ => by rcases ht with ⟨t, h⟩ | ⟨t, h⟩ <;> (rw [h]; rfl)) (fun ad x ty j hx => qa_fvP (fun h => hx h.1)) (fun ad j => ?_) kk
  unfold updV
  by_cases e : j = k
  · subst e
    rw [if_pos rfl]
    have : qa_fv ad (qa_uP μ a j r) a (qa_ty ci j) j = qa_rv ad (qa_u1 μ.2.2 a j r a j) := by rcases ht with ⟨t, h⟩ | ⟨t, h⟩ <;> (rw [h]; rfl)
    rw [this, qa_u1_same]
    unfold qa_rv
    rw [if_neg (by omega)]
    rfl
  · rw [if_neg e, qa_fvP (fun h => e h.2)]
theorem qa_iald {a n : Nat} {i : Int32} (hd : decode cc pc = .ok (.iaload, 1)) (hs : qa_sh a = .inr (.int, n)) (ha : 1 ≤ a ∧ a ≤ N) (hin : vp_in i n) (kk : qa_GG l y cc nL ret R X E cells slots (pc + 1) L (.int (μ.1 a i.toNatClampNeg) :: st) N μ) : qa_GG l y cc nL ret R X E cells slots pc L (.int i :: .ref a :: st) N μ := by
  intro p e s m args below meth c D ca ad B H locs ls C hX hW hS hl
  have hlt : i.toNatClampNeg < n := Nat.not_le.mp fun q => hin (Or.inr q)
  refine W.iald C.1 C.2.1 (hW.arr ha hs) (qa_arr C.2.2.2.2.2.2.1 0 rfl n _) (fun q => by cases q) (by rw [arrV_size]; exact hin) ?_ rfl rfl hd (kk p e s m args below meth c D ca ad B H locs ls C hX hW hS hl)
  rw [qa_arr_read _ _ hlt]
  rfl
theorem qa_bald {a n : Nat} {i : Int32} (hd : decode cc pc = .ok (.baload, 1)) (hs : qa_sh a = .inr (.byte, n)) (ha : 1 ≤ a ∧ a ≤ N) (hin : vp_in i n) (kk : qa_GG l y cc nL ret R X E cells slots (pc + 1) L (.int (μ.1 a i.toNatClampNeg) :: st) N μ) : qa_GG l y cc nL ret R X E cells slots pc L (.int i :: .ref a :: st) N μ := by
  intro p e s m args below meth c D ca ad B H locs ls C hX hW hS hl
  have hlt : i.toNatClampNeg < n := Nat.not_le.mp fun q => hin (Or.inr q)
  refine W.bald C.1 C.2.1 (hW.arr ha hs) (qa_arr C.2.2.2.2.2.2.1 1 rfl n _) (fun q => by cases q) (by rw [arrV_size]; exact hin) ?_ rfl rfl hd (kk p e s m args below meth c D ca ad B H locs ls C hX hW hS hl)
  rw [qa_arr_read _ _ hlt]
  rfl
theorem qa_zald {a n : Nat} {i : Int32} (hd : decode cc pc = .ok (.baload, 1)) (hs : qa_sh a = .inr (.boolean, n)) (ha : 1 ≤ a ∧ a ≤ N) (hin : vp_in i n) (kk : qa_GG l y cc nL ret R X E cells slots (pc + 1) L (.int (μ.1 a i.toNatClampNeg) :: st) N μ) : qa_GG l y cc nL ret R X E cells slots pc L (.int i :: .ref a :: st) N μ := by
  intro p e s m args below meth c D ca ad B H locs ls C hX hW hS hl
  have hlt : i.toNatClampNeg < n := Nat.not_le.mp fun q => hin (Or.inr q)
  refine W.zald C.1 C.2.1 (hW.arr ha hs) (qa_arr C.2.2.2.2.2.2.1 2 rfl n _) (fun q => by cases q) (by rw [arrV_size]; exact hin) ?_ rfl rfl hd (kk p e s m args below meth c D ca ad B H locs ls C hX hW hS hl)
  rw [qa_arr_read _ _ hlt]
  rfl
theorem qa_sald {a n : Nat} {i : Int32} (hd : decode cc pc = .ok (.saload, 1)) (hs : qa_sh a = .inr (.short, n)) (ha : 1 ≤ a ∧ a ≤ N) (hin : vp_in i n) (kk : qa_GG l y cc nL ret R X E cells slots (pc + 1) L (.int (μ.1 a i.toNatClampNeg) :: st) N μ) : qa_GG l y cc nL ret R X E cells slots pc L (.int i :: .ref a :: st) N μ := by
  intro p e s m args below meth c D ca ad B H locs ls C hX hW hS hl
  have hlt : i.toNatClampNeg < n := Nat.not_le.mp fun q => hin (Or.inr q)
  refine W.sald C.1 C.2.1 (hW.arr ha hs) (qa_arr C.2.2.2.2.2.2.1 4 rfl n _) (fun q => by cases q) (by rw [arrV_size]; exact hin) ?_ rfl rfl hd (kk p e s m args below meth c D ca ad B H locs ls C hX hW hS hl)
  rw [qa_arr_read _ _ hlt]
  rfl
theorem qa_lald {a n : Nat} {i : Int32} (hd : decode cc pc = .ok (.laload, 1)) (hs : qa_sh a = .inr (.long, n)) (ha : 1 ≤ a ∧ a ≤ N) (hin : vp_in i n) (kk : qa_GG l y cc nL ret R X E cells slots (pc + 1) L (.long (μ.2.1 a i.toNatClampNeg) :: st) N μ) : qa_GG l y cc nL ret R X E cells slots pc L (.int i :: .ref a :: st) N μ := by
  intro p e s m args below meth c D ca ad B H locs ls C hX hW hS hl
  have hlt : i.toNatClampNeg < n := Nat.not_le.mp fun q => hin (Or.inr q)
  refine W.lald C.1 C.2.1 (hW.arr ha hs) (qa_arr C.2.2.2.2.2.2.1 3 rfl n _) (fun q => by cases q) (by rw [arrV_size]; exact hin) ?_ rfl rfl hd (kk p e s m args below meth c D ca ad B H locs ls C hX hW hS hl)
  rw [qa_arr_read _ _ hlt]
  rfl
theorem qa_aald {a n t r : Nat} {Cn : String} {i : Int32} (hd : decode cc pc = .ok (.aaload, 1)) (hs : qa_sh a = .inr (.object Cn, n)) (ht : qa_ets[t]? = some (.object Cn)) (ha : 1 ≤ a ∧ a ≤ N) (hin : vp_in i n) (hr : μ.2.2 a i.toNatClampNeg = r) (h0 : 0 < r) (kk : qa_GG l y cc nL ret R X E cells slots (pc + 1) L (.ref r :: st) N μ) : qa_GG l y cc nL ret R X E cells slots pc L (.int i :: .ref a :: st) N μ := by
  intro p e s m args below meth c D ca ad B H locs ls C hX hW hS hl
  have hlt : i.toNatClampNeg < n := Nat.not_le.mp fun q => hin (Or.inr q)
  refine W.aald C.1 C.2.1 (hW.arr ha hs) (qa_arr C.2.2.2.2.2.2.1 t ht n _) rfl (fun q => by cases q) (by rw [arrV_size]; exact hin) ?_ rfl rfl hd (kk p e s m args below meth c D ca ad B H locs ls C hX hW hS hl)
  rw [qa_arr_read _ _ hlt]
  show some (qa_rv ad (μ.2.2 a i.toNatClampNeg)) = _
  rw [hr]
  unfold qa_rv
  rw [if_neg (by omega)]
  rfl
theorem qa_iast {a n : Nat} {i : Int32} {x : Int32} (hd : decode cc pc = .ok (.iastore, 1)) (hs : qa_sh a = .inr (.int, n)) (ha : 1 ≤ a ∧ a ≤ N) (hin : vp_in i n) (kk : qa_GG l y cc nL ret R X E cells slots (pc + 1) L st N (qa_uI μ a i.toNatClampNeg x)) : qa_GG l y cc nL ret R X E cells slots pc L (.int x :: .int i :: .ref a :: st) N μ := by
  intro p e s m args below meth c D ca ad B H locs ls C hX hW hS hl
  refine W.iast C.1 C.2.1 (hW.arr ha hs) (qa_arr C.2.2.2.2.2.2.1 0 rfl n _) (fun q => by cases q) (by rw [arrV_size]; exact hin) rfl rfl hd fun H1 e1 z oq => ?_
  refine kk p e s m args below meth c D ca ad B H1 _ ls C hX (hW.upd ha z oq (fun x ty j hx => qa_fvI (fun h => hx h.1)) ?_) (hS.put z oq (hW.adr ha)) hl
  unfold qa_at
  rw [hs]
  rw [e1, arrV_store]
  show some (arrV _ _ _) = some (arrV _ _ _)
  congr 2
  funext j
  unfold updV
  by_cases ej : j = i.toNatClampNeg
  · subst ej
    rw [if_pos rfl]
    show Value.int x = Value.int (qa_u1 μ.1 a _ x a _)
    rw [qa_u1_same]
  · rw [if_neg ej, qa_fvI (fun h => ej h.2)]
theorem qa_bast {a n : Nat} {i : Int32} {x : Int32} (hd : decode cc pc = .ok (.bastore, 1)) (hs : qa_sh a = .inr (.byte, n)) (ha : 1 ≤ a ∧ a ≤ N) (hin : vp_in i n) (kk : qa_GG l y cc nL ret R X E cells slots (pc + 1) L st N (qa_uI μ a i.toNatClampNeg x.toInt8.toInt32)) : qa_GG l y cc nL ret R X E cells slots pc L (.int x :: .int i :: .ref a :: st) N μ := by
  intro p e s m args below meth c D ca ad B H locs ls C hX hW hS hl
  refine W.bast C.1 C.2.1 (hW.arr ha hs) (qa_arr C.2.2.2.2.2.2.1 1 rfl n _) (fun q => by cases q) (by rw [arrV_size]; exact hin) rfl rfl hd fun H1 e1 z oq => ?_
  refine kk p e s m args below meth c D ca ad B H1 _ ls C hX (hW.upd ha z oq (fun x ty j hx => qa_fvI (fun h => hx h.1)) ?_) (hS.put z oq (hW.adr ha)) hl
  unfold qa_at
  rw [hs]
  rw [e1, arrV_store]
  show some (arrV _ _ _) = some (arrV _ _ _)
  congr 2
  funext j
  unfold updV
  by_cases ej : j = i.toNatClampNeg
  · subst ej
    rw [if_pos rfl]
    show narrow .byte (.int x) = Value.int (qa_u1 μ.1 a _ _ a _)
    rw [qa_u1_same]
    rfl
  · rw [if_neg ej, qa_fvI (fun h => ej h.2)]
theorem qa_sast {a n : Nat} {i : Int32} {x : Int32} (hd : decode cc pc = .ok (.sastore, 1)) (hs : qa_sh a = .inr (.short, n)) (ha : 1 ≤ a ∧ a ≤ N) (hin : vp_in i n) (kk : qa_GG l y cc nL ret R X E cells slots (pc + 1) L st N (qa_uI μ a i.toNatClampNeg x.toInt16.toInt32)) : qa_GG l y cc nL ret R X E cells slots pc L (.int x :: .int i :: .ref a :: st) N μ := by
  intro p e s m args below meth c D ca ad B H locs ls C hX hW hS hl
  refine W.sast C.1 C.2.1 (hW.arr ha hs) (qa_arr C.2.2.2.2.2.2.1 4 rfl n _) (fun q => by cases q) (by rw [arrV_size]; exact hin) rfl rfl hd fun H1 e1 z oq => ?_
  refine kk p e s m args below meth c D ca ad B H1 _ ls C hX (hW.upd ha z oq (fun x ty j hx => qa_fvI (fun h => hx h.1)) ?_) (hS.put z oq (hW.adr ha)) hl
  unfold qa_at
  rw [hs]
  rw [e1, arrV_store]
  show some (arrV _ _ _) = some (arrV _ _ _)
  congr 2
  funext j
  unfold updV
  by_cases ej : j = i.toNatClampNeg
  · subst ej
    rw [if_pos rfl]
    show narrow .short (.int x) = Value.int (qa_u1 μ.1 a _ _ a _)
    rw [qa_u1_same]
    rfl
  · rw [if_neg ej, qa_fvI (fun h => ej h.2)]
theorem qa_last {a n : Nat} {i : Int32} {x : Int64} (hd : decode cc pc = .ok (.lastore, 1)) (hs : qa_sh a = .inr (.long, n)) (ha : 1 ≤ a ∧ a ≤ N) (hin : vp_in i n) (kk : qa_GG l y cc nL ret R X E cells slots (pc + 1) L st N (qa_uJ μ a i.toNatClampNeg x)) : qa_GG l y cc nL ret R X E cells slots pc L (.long x :: .int i :: .ref a :: st) N μ := by
  intro p e s m args below meth c D ca ad B H locs ls C hX hW hS hl
  refine W.last C.1 C.2.1 (hW.arr ha hs) (qa_arr C.2.2.2.2.2.2.1 3 rfl n _) (fun q => by cases q) (by rw [arrV_size]; exact hin) rfl rfl hd fun H1 e1 z oq => ?_
  refine kk p e s m args below meth c D ca ad B H1 _ ls C hX (hW.upd ha z oq (fun x ty j hx => qa_fvJ (fun h => hx h.1)) ?_) (hS.put z oq (hW.adr ha)) hl
  unfold qa_at
  rw [hs]
  rw [e1, arrV_store]
  show some (arrV _ _ _) = some (arrV _ _ _)
  congr 2
  funext j
  unfold updV
  by_cases ej : j = i.toNatClampNeg
  · subst ej
    rw [if_pos rfl]
    show Value.long x = Value.long (qa_u1 μ.2.1 a _ x a _)
    rw [qa_u1_same]
  · rw [if_neg ej, qa_fvJ (fun h => ej h.2)]
theorem qa_zast {a n : Nat} {i : Int32} {x : Int32} (hd : decode cc pc = .ok (.bastore, 1)) (hs : qa_sh a = .inr (.boolean, n)) (ha : 1 ≤ a ∧ a ≤ N) (hin : vp_in i n) (hz : x = 0 ∨ x = 1) (kk : qa_GG l y cc nL ret R X E cells slots (pc + 1) L st N (qa_uI μ a i.toNatClampNeg x)) : qa_GG l y cc nL ret R X E cells slots pc L (.int x :: .int i :: .ref a :: st) N μ := by
  intro p e s m args below meth c D ca ad B H locs ls C hX hW hS hl
  refine W.zast C.1 C.2.1 (hW.arr ha hs) (qa_arr C.2.2.2.2.2.2.1 2 rfl n _) (fun q => by cases q) (by rw [arrV_size]; exact hin) rfl rfl hd fun H1 e1 z oq => ?_
  refine kk p e s m args below meth c D ca ad B H1 _ ls C hX (hW.upd ha z oq (fun x ty j hx => qa_fvI (fun h => hx h.1)) ?_) (hS.put z oq (hW.adr ha)) hl
  unfold qa_at
  rw [hs]
  rw [e1, arrV_store]
  show some (arrV _ _ _) = some (arrV _ _ _)
  congr 2
  funext j
  unfold updV
  by_cases ej : j = i.toNatClampNeg
  · subst ej
    rw [if_pos rfl]
    show narrow .boolean (.int x) = Value.int (qa_u1 μ.1 a _ _ a _)
    rw [qa_u1_same]
    rcases hz with rfl | rfl <;> rfl
  · rw [if_neg ej, qa_fvI (fun h => ej h.2)]
theorem qa_alen {a n t : Nat} {ty : FieldType} (hd : decode cc pc = .ok (.arraylength, 1)) (hs : qa_sh a = .inr (ty, n)) (ht : qa_ets[t]? = some ty) (ha : 1 ≤ a ∧ a ≤ N) (kk : qa_GG l y cc nL ret R X E cells slots (pc + 1) L (.int (nI n) :: st) N μ) : qa_GG l y cc nL ret R X E cells slots pc L (.ref a :: st) N μ := by
  intro p e s m args below meth c D ca ad B H locs ls C hX hW hS hl
  exact W.alen (n := nI n) C.1 C.2.1 (hW.arr ha hs) (qa_arr C.2.2.2.2.2.2.1 t ht n _) (by rw [arrV_size]; rfl) rfl rfl hd (kk p e s m args below meth c D ca ad B H locs ls C hX hW hS hl)
end QH
