/-- nothing is written yet behind the first N places -/
def qa_Z (μ : qa_M) (N : Nat) : Prop := ∀ k j, N < k → μ.1 k j = 0 ∧ μ.2.1 k j = 0 ∧ μ.2.2 k j = 0
def qa_okT (ty : FieldType) : Prop := ty ≠ .float ∧ ty ≠ .double
theorem qa_def {ad : Nat → Nat} {μ : qa_M} {N k j : Nat} (hz : qa_Z μ N) (hk : N < k) {ty : FieldType} (ho : qa_okT ty) : defaultValue ty = qa_fv ad μ k ty j := by
  obtain ⟨h1, h2, h3⟩ := hz k j hk
  cases ty <;> first | exact absurd rfl ho.1 | exact absurd rfl ho.2 | (unfold qa_fv; simp [h1, h2, h3, defaultValue, qa_rv])
theorem qa_W.push {D : va_G} {ca : FieldType → ClassId} {ad : Nat → Nat} {B N : Nat} {μ : qa_M} {H H1 : Heap} (hW : qa_W D ca ad B N μ H) (hN : N + 1 < 1000) (hz : H1.size = H.size + 1) (ho : ∀ q, q < H.size → H1[q]? = H[q]?) (hat : qa_at D ca ad μ (N + 1) H1) : qa_W D ca ad B (N + 1) μ H1 := by
  refine ⟨by rw [hz, hW.1]; omega, hN, hW.2.2.1, fun k h1 h2 => ?_⟩
  by_cases e : k = N + 1
  · rw [e]; exact hat
  · refine qa_at.kept (hW.2.2.2 k h1 (by omega)) (ho _ ?_) (fun _ _ => rfl)
    rw [hW.2.2.1 k (by omega), hW.1]
    omega
theorem qa_S.push {B : Nat} {H0 H H1 : Heap} {locs : List Loc} (hS : va_S (fun q => B < q) H0 H locs) (hz : H1.size = H.size + 1) (ho : ∀ q, q < H.size → H1[q]? = H[q]?) : va_S (fun q => B < q) H0 H1 locs :=
  ⟨Nat.le_trans hS.1 (by omega), fun x h1 h2 => (ho x (Nat.lt_of_lt_of_le h1 hS.1)).trans (hS.2.1 x h1 h2), hS.2.2⟩
section QN
variable {l : Launch} {y : MethodName} {cc : ByteArray} {nL : Nat} {ret : Option FieldType} {R : Room} {X : State → (Nat → Nat) → Nat → Prop} {E : State → Array Value → List Frame → va_G → (FieldType → ClassId) → (Nat → Nat) → Nat → State → Prop} {cells slots pc : Nat} {L : List (Option Value)} {st : List Value} {N : Nat} {μ : qa_M}
theorem qa_new {idx ci n : Nat} {Cn : String} {T : u_T} (hd : decode cc pc = .ok (.new idx, 3)) (hcl : Cond.classLink y.cls idx Cn ∈ qa_tb) (hinst : Cond.instantiable Cn n ∈ qa_tb) (hini : Cond.initialized Cn ∈ qa_tb) (hcf : qa_CF ci Cn T n) (hty : ∀ j, j < n → qa_okT (qa_ty ci j)) (hs : qa_sh (N + 1) = .inl ci) (hN : N + 1 < 1000) (hz : qa_Z μ N) (hfit : cells + 1 ≤ R.cells ∧ slots + n ≤ R.slots)
    (kk : qa_GG l y cc nL ret R X E (cells + 1) (slots + n) (pc + 3) L (.ref (N + 1) :: st) (N + 1) μ) : qa_GG l y cc nL ret R X E cells slots pc L st N μ := by
  intro p e s m args below meth c D ca ad B H locs ls C hX hW hS hl
  obtain ⟨hx, hb, -, -, hown, hts, hK, -⟩ := id C
  have hKn := hK.1 ci _ hcf.1
  refine W.newcK hx hb hown (hts _ hcl) (hts _ hinst) (hts _ hini) rfl hd hfit.1 hfit.2 hKn.2.1 rfl fun H1 kC hkC e1 z1 o1 => ?_
  have hadr : ad (N + 1) = H.size := by rw [hW.2.2.1 _ hN, hW.1]; omega
  have := kk p e s m args below meth c D ca ad B H1 locs ls C hX (hW.push hN z1 o1 ?_) (qa_S.push hS z1 o1) hl
  · rw [← hadr]
    exact this
  · unfold qa_at
    rw [hs]
    refine ⟨_, hcf.1, ?_⟩
    rw [hadr]
    exact (u_born (qa_ty ci) hts hcf.2.1 hKn hkC e1 hcf.2.2.1).to (fun j hj => qa_def hz (Nat.lt_succ_self N) (hty j hj))
theorem qa_newa {atype : ArrayType} {ty : FieldType} {n : Int32} {len t : Nat} (hd : decode cc pc = .ok (.newarray atype, 2)) (hty : newarray.typeOf atype = ty) (hw : Cond.arrayClass ty ∈ qa_tb) (ht : qa_ets[t]? = some ty) (ho : qa_okT ty) (hp : ∀ Cn, ty ≠ .object Cn) (hs : qa_sh (N + 1) = .inr (ty, len)) (hn : ¬ n < 0) (hlen : n.toNatClampNeg = len) (hbytes : len * componentBytes ty ≤ 536870912) (hN : N + 1 < 1000) (hz : qa_Z μ N) (hfit : cells + 1 ≤ R.cells ∧ slots + len ≤ R.slots)
    (kk : qa_GG l y cc nL ret R X E (cells + 1) (slots + len) (pc + 2) L (.ref (N + 1) :: st) (N + 1) μ) : qa_GG l y cc nL ret R X E cells slots pc L (.int n :: st) N μ := by
  intro p e s m args below meth c D ca ad B H locs ls C hX hW hS hl
  subst hty
  obtain ⟨hx, hb, -, -, hown, hts, hK, -⟩ := id C
  refine va_newaK hx hb (hts _ hw) rfl hd rfl hn hlen hbytes hfit.1 hfit.2 rfl fun H1 cA e1 z1 o1 hAr hNm => ?_
  have hadr : ad (N + 1) = H.size := by rw [hW.2.2.1 _ hN, hW.1]; omega
  have hca : cA = ca (newarray.typeOf atype) := by
    have h2 := (hK.2 t (ca (newarray.typeOf atype), newarray.typeOf atype) (by unfold qa_tys; rw [List.getElem?_map, ht]; rfl)).2
    have h3 : s.vm.findClass ("[" ++ (newarray.typeOf atype).toString) = some (ca (newarray.typeOf atype)) := by cases atype <;> exact h2
    exact Option.some.inj (hNm.symm.trans h3)
  subst hca
  have := kk p e s m args below meth c D ca ad B H1 locs ls C hX (hW.push hN z1 o1 ?_) (qa_S.push hS z1 o1) hl
  · rw [← hadr]
    exact this
  · unfold qa_at
    rw [hs]
    rw [hadr, e1]
    show some (arrV _ _ _) = some (arrV _ _ _)
    congr 2
    funext j
    exact qa_def hz (Nat.lt_succ_self N) ho
theorem qa_anew {idx t : Nat} {Cn : String} {n : Int32} {len : Nat} (hd : decode cc pc = .ok (.anewarray idx, 3)) (hw : Cond.classLink y.cls idx Cn ∈ qa_tb) (hCn : Cn = "PivotStreet$Town" ∨ Cn = "PivotStreet$Row") (ht : qa_ets[t]? = some (.object Cn)) (hs : qa_sh (N + 1) = .inr (.object Cn, len)) (hn : ¬ n < 0) (hlen : n.toNatClampNeg = len) (hbytes : len * 4 ≤ 536870912) (hN : N + 1 < 1000) (hz : qa_Z μ N) (hfit : cells + 1 ≤ R.cells ∧ slots + len ≤ R.slots)
    (kk : qa_GG l y cc nL ret R X E (cells + 1) (slots + len) (pc + 3) L (.ref (N + 1) :: st) (N + 1) μ) : qa_GG l y cc nL ret R X E cells slots pc L (.int n :: st) N μ := by
  intro p e s m args below meth c D ca ad B H locs ls C hX hW hS hl
  obtain ⟨hx, hb, -, -, hown, hts, hK, -⟩ := id C
  subst hlen
  have hAO : va_AO Cn s := by rcases hCn with rfl | rfl; exact C.2.2.2.2.2.2.2.2.2.2.2.2.2.2.2.2.1; exact C.2.2.2.2.2.2.2.2.2.2.2.2.2.2.2.2.2.1
  refine W.anew hx hb hown (hts _ hw) (va_AO.use hAO) rfl hd rfl hn hbytes hfit.1 hfit.2 fun cA kA comp f1 f2 f3 f4 => ?_
  have hadr : ad (N + 1) = H.size := by rw [hW.2.2.1 _ hN, hW.1]; omega
  have hca : cA = ca (.object Cn) := by
    obtain ⟨_, _, -, -, -, h4⟩ := (hK.2 t (ca (.object Cn), .object Cn) (by unfold qa_tys; rw [List.getElem?_map, ht]; rfl)).2
    exact Option.some.inj (f1.symm.trans h4)
  subst hca
  generalize hH1 : H.push ({ cls := ca (.object Cn), slots := Array.replicate n.toNatClampNeg .null, vm := .none } : Cell) = H1
  have z1 : H1.size = H.size + 1 := by rw [← hH1, Array.size_push]
  have e1 : H1[H.size]? = some (arrV (ca (.object Cn)) n.toNatClampNeg (fun _ => .null)) := by rw [← hH1, Array.getElem?_push_size, ← arrV_new]
  have o1 : ∀ q : Nat, q < H.size → H1[q]? = H[q]? := fun q hq => by rw [← hH1, Array.getElem?_push, if_neg (Nat.ne_of_lt hq)]
  have := kk p e s m args below meth c D ca ad B H1 locs ls C hX (hW.push hN z1 o1 ?_) (qa_S.push hS z1 o1) hl
  · show W _ _ _ _ _ _ _ _ _ _ _ _ _ _ _ (F0 m (pc + 3) ls (.ref H.size :: _))
    rw [← hadr]
    exact this
  · unfold qa_at
    rw [hs]
    rw [hadr, e1]
    show some (arrV _ _ _) = some (arrV _ _ _)
    congr 2
    funext j
    exact qa_def (ty := .object Cn) (ad := ad) (j := j) hz (Nat.lt_succ_self N) (And.intro (fun h => nomatch h) (fun h => nomatch h))
theorem qa_aast {a n t r ci : Nat} {Cn : String} {i : Int32} (hd : decode cc pc = .ok (.aastore, 1)) (hs : qa_sh a = .inr (.object Cn, n)) (ht : qa_ets[t]? = some (.object Cn)) (ha : 1 ≤ a ∧ a ≤ N) (hin : vp_in i n) (hsr : qa_sh r = .inl ci) (hc : (vwCl[ci]?).map (fun q => q.1) = some Cn) (hr : 1 ≤ r ∧ r ≤ N) (kk : qa_GG l y cc nL ret R X E cells slots (pc + 1) L st N (qa_uP μ a i.toNatClampNeg r)) : qa_GG l y cc nL ret R X E cells slots pc L (.ref r :: .int i :: .ref a :: st) N μ := by
  intro p e s m args below meth c D ca ad B H locs ls C hX hW hS hl
  have hlt : i.toNatClampNeg < n := Nat.not_le.mp fun q => hin (Or.inr q)
  have h0 : ¬ i < 0 := fun q => hin (Or.inl q)
  obtain ⟨hx, hb, -, -, hown, hts, hK, -⟩ := id C
  obtain ⟨rv, hrv, cellV, g1, g2, g3, -⟩ := hW.obj hr hsr
  have hcn : rv.1 = Cn := by rw [hrv] at hc; exact Option.some.inj hc
  have hcls := (hK.1 ci rv hrv).2
  obtain ⟨kA, comp, k1, k2, k3, -⟩ := (hK.2 t (ca (.object Cn), .object Cn) (by unfold qa_tys; rw [List.getElem?_map, ht]; rfl)).2
  have hcomp : comp = D.1 ci := Option.some.inj (k3.symm.trans (hcn ▸ hcls.1))
  subst hcomp
  obtain ⟨kC, hkC, -⟩ := hcls.2
  refine W.aast hx hb (hW.arr ha hs) (fun q h => by cases h) (fun h => by cases h) k1 k2 rfl hkC ⟨h0, by rw [arrV_size]; exact hlt⟩ g1 (fun q h => by rw [g3] at h; cases h) (by rw [g2]; exact hkC) (by rw [g2]; exact va_assign hcls) rfl rfl hd fun H1 e1 z oq => ?_
  refine kk p e s m args below meth c D ca ad B H1 _ ls C hX (hW.upd ha z oq (fun x ty j hx => qa_fvP (fun h => hx h.1)) ?_) (hS.put z oq (hW.adr ha)) hl
  unfold qa_at
  rw [hs]
  rw [e1, arrV_store]
  show some (arrV _ _ _) = some (arrV _ _ _)
  congr 2
  funext j
  unfold updV
  by_cases ej : j = i.toNatClampNeg
  · subst ej
    rw [if_pos rfl]
    show Value.ref (ad r) = qa_rv ad (qa_u1 μ.2.2 a _ r a _)
    rw [qa_u1_same]
    unfold qa_rv
    rw [if_neg (by omega)]
  · rw [if_neg ej, qa_fvP (fun h => ej h.2)]
theorem qa_objInit {idx a : Nat} (hd : decode cc pc = .ok (.invokespecial idx, 3)) (h1 : Cond.methodLink y.cls idx objectInit ∈ qa_tb) (h2 : Cond.instanceMethod objectInit ∈ qa_tb) (h3 : Cond.code objectInit ⟨#[0xb1]⟩ 1 none ∈ qa_tb) (hroom : 1 ≤ R.frames ∧ (st.map fun v => v.category).sum + 12 ≤ R.locals) (kk : qa_GG l y cc nL ret R X E cells slots (pc + 3) L st N μ) : qa_GG l y cc nL ret R X E cells slots pc L (.ref a :: st) N μ := by
  intro p e s m args below meth c D ca ad B H locs ls C hX hW hS hl
  obtain ⟨hx, hb, -, hml, hown, hts, hK, -⟩ := id C
  refine W.objInit hx hb hown (hts _ h1) (hts _ h2) (hts _ h3) rfl (by rw [hml]; exact hl.1) rfl hd hroom.1 ?_ (kk p e s m args below meth c D ca ad B H locs ls C hX hW hS hl)
  show 2 * 0 + _ + 12 ≤ R.locals
  rw [qa_cats]
  omega
theorem qa_gsF {idx : Nat} (hd : decode cc pc = .ok (.getstatic idx, 3)) (hw : Cond.fieldLink y.cls idx "PivotStreet" "FACTORIALS" "[I" ∈ qa_tb) (kk : qa_GG l y cc nL ret R X E cells slots (pc + 3) L (.ref 4000 :: st) N μ) : qa_GG l y cc nL ret R X E cells slots pc L st N μ := by
  intro p e s m args below meth c D ca ad B H locs ls C hX hW hS hl
  exact va_gets C.1 C.2.1 C.2.2.2.2.2.2.2.2.2.2.1 hS C.2.2.2.2.1 (C.2.2.2.2.2.1 _ hw) (fun _ h => h) hd (kk p e s m args below meth c D ca ad B H locs ls C hX hW hS hl)
theorem qa_gsC {idx : Nat} (hd : decode cc pc = .ok (.getstatic idx, 3)) (hw : Cond.fieldLink y.cls idx "java/lang/String" "COMPACT_STRINGS" "Z" ∈ qa_tb) (kk : qa_GG l y cc nL ret R X E cells slots (pc + 3) L (.int 1 :: st) N μ) : qa_GG l y cc nL ret R X E cells slots pc L st N μ := by
  intro p e s m args below meth c D ca ad B H locs ls C hX hW hS hl
  exact va_gets C.1 C.2.1 C.2.2.2.2.2.2.2.2.2.2.2.2.1 hS C.2.2.2.2.1 (C.2.2.2.2.2.1 _ hw) (fun _ h => h) hd (kk p e s m args below meth c D ca ad B H locs ls C hX hW hS hl)
theorem qa_gsB {idx : Nat} (hd : decode cc pc = .ok (.getstatic idx, 3)) (hw : Cond.fieldLink y.cls idx "jdk/internal/util/Preconditions" "SIOOBE_FORMATTER" "Ljava/util/function/BiFunction;" ∈ qa_tb) (k1 : qa_GG l y cc nL ret R X E cells slots (pc + 3) L (.null :: st) N μ) (k2 : qa_GG l y cc nL ret R X E cells slots (pc + 3) L (.ref 5000 :: st) N μ) : qa_GG l y cc nL ret R X E cells slots pc L st N μ := by
  intro p e s m args below meth c D ca ad B H locs ls C hX hW hS hl
  rcases C.2.2.2.2.2.2.2.2.2.2.2.2.2.2.2.2.2.2 with z | z
  · exact va_gets C.1 C.2.1 z hS C.2.2.2.2.1 (C.2.2.2.2.2.1 _ hw) (fun _ h => h) hd (k1 p e s m args below meth c D ca ad B H locs ls C hX hW hS hl)
  · exact va_gets C.1 C.2.1 z hS C.2.2.2.2.1 (C.2.2.2.2.2.1 _ hw) (fun _ h => h) hd (k2 p e s m args below meth c D ca ad B H locs ls C hX hW hS hl)
theorem qa_ialdF {i : Int32} (hd : decode cc pc = .ok (.iaload, 1)) (hin : vp_in i 9) (kk : qa_GG l y cc nL ret R X E cells slots (pc + 1) L (.int (qa_fac.getD i.toNatClampNeg 0) :: st) N μ) : qa_GG l y cc nL ret R X E cells slots pc L (.int i :: .ref 4000 :: st) N μ := by
  intro p e s m args below meth c D ca ad B H locs ls C hX hW hS hl
  have hlt : i.toNatClampNeg < 9 := Nat.not_le.mp fun q => hin (Or.inr q)
  obtain ⟨cell, h1, h2, h3, h4, h5, h6, h7⟩ := C.2.2.2.2.2.2.2.2.2.2.2.1.kept hS.2.1
  exact W.iald C.1 C.2.1 h1 h2 h3 (fun q => q.elim (fun q => hin (Or.inl q)) (fun q => by omega)) (h6 _ hlt) rfl rfl hd (kk p e s m args below meth c D ca ad B H locs ls C hX hW hS hl)
theorem qa_ldcS {idx i : Nat} {tx : String} (hd : decode cc pc = .ok (.ldc idx, 2)) (hw : (y.cls, idx, tx, i) ∈ qa_strs) (kk : qa_GG l y cc nL ret R X E cells slots (pc + 2) L (.ref (2000 + i) :: st) N μ) : qa_GG l y cc nL ret R X E cells slots pc L st N μ := by
  intro p e s m args below meth c D ca ad B H locs ls C hX hW hS hl
  exact va_ldcS C.1 C.2.1 C.2.2.2.2.1 (C.2.2.2.2.2.2.2.2.2.2.2.2.2.2.1 _ hw) hd (kk p e s m args below meth c D ca ad B H locs ls C hX hW hS hl)
theorem qa_getSV {idx i : Nat} (hd : decode cc pc = .ok (.getfield idx, 3)) (hi : i < 30) (hw : Cond.fieldLink y.cls idx "java/lang/String" "value" "[B" ∈ qa_tb) (kk : qa_GG l y cc nL ret R X E cells slots (pc + 3) L (.ref (3000 + i) :: st) N μ) : qa_GG l y cc nL ret R X E cells slots pc L (.ref (2000 + i) :: st) N μ := by
  intro p e s m args below meth c D ca ad B H locs ls C hX hW hS hl
  exact vk_getf C.1 C.2.1 (C.2.2.2.2.2.2.2.2.2.2.2.2.2.1 i hi).2.2.1 hS C.2.2.2.2.1 (C.2.2.2.2.2.1 _ hw) (fun _ h => h) hd (kk p e s m args below meth c D ca ad B H locs ls C hX hW hS hl)
theorem qa_getSC {idx i : Nat} (hd : decode cc pc = .ok (.getfield idx, 3)) (hi : i < 30) (hw : Cond.fieldLink y.cls idx "java/lang/String" "coder" "B" ∈ qa_tb) (kk : qa_GG l y cc nL ret R X E cells slots (pc + 3) L (.int 0 :: st) N μ) : qa_GG l y cc nL ret R X E cells slots pc L (.ref (2000 + i) :: st) N μ := by
  intro p e s m args below meth c D ca ad B H locs ls C hX hW hS hl
  exact vk_getf C.1 C.2.1 (C.2.2.2.2.2.2.2.2.2.2.2.2.2.1 i hi).2.1 hS C.2.2.2.2.1 (C.2.2.2.2.2.1 _ hw) (fun _ h => h) hd (kk p e s m args below meth c D ca ad B H locs ls C hX hW hS hl)
theorem qa_baldS {j : Nat} {i : Int32} (hd : decode cc pc = .ok (.baload, 1)) (hj : j < 30) (hin : vp_in i (qa_txt.getD j []).length) (kk : qa_GG l y cc nL ret R X E cells slots (pc + 1) L (.int ((qa_txt.getD j []).getD i.toNatClampNeg 0) :: st) N μ) : qa_GG l y cc nL ret R X E cells slots pc L (.int i :: .ref (3000 + j) :: st) N μ := by
  intro p e s m args below meth c D ca ad B H locs ls C hX hW hS hl
  have hlt : i.toNatClampNeg < (qa_txt.getD j []).length := Nat.not_le.mp fun q => hin (Or.inr q)
  obtain ⟨cell, h1, h2, h3, h4, h5, h6, h7⟩ := (C.2.2.2.2.2.2.2.2.2.2.2.2.2.1 j hj).2.2.2.kept hS.2.1
  exact W.bald C.1 C.2.1 h1 h2 h3 (fun q => q.elim (fun q => hin (Or.inl q)) (fun q => by omega)) (h6 _ hlt) rfl rfl hd (kk p e s m args below meth c D ca ad B H locs ls C hX hW hS hl)
theorem qa_alenS {j : Nat} (hd : decode cc pc = .ok (.arraylength, 1)) (hj : j < 30) (kk : qa_GG l y cc nL ret R X E cells slots (pc + 1) L (.int (nI (qa_txt.getD j []).length) :: st) N μ) : qa_GG l y cc nL ret R X E cells slots pc L (.ref (3000 + j) :: st) N μ := by
  intro p e s m args below meth c D ca ad B H locs ls C hX hW hS hl
  obtain ⟨cell, h1, h2, h3, h4, h5, h6, h7⟩ := (C.2.2.2.2.2.2.2.2.2.2.2.2.2.1 j hj).2.2.2.kept hS.2.1
  exact W.alen (n := nI (qa_txt.getD j []).length) C.1 C.2.1 h1 h2 h5 rfl rfl hd (kk p e s m args below meth c D ca ad B H locs ls C hX hW hS hl)
theorem qa_mmin {idx : Nat} {x z : Int32} (hd : decode cc pc = .ok (.invokestatic idx, 3)) (h1 : Cond.methodLink y.cls idx Lib.Math.min.name ∈ qa_tb) (h2 : Cond.static Lib.Math.min.name ∈ qa_tb) (h3 : Cond.initialized "java/lang/Math" ∈ qa_tb) (h4 : Cond.code Lib.Math.min.name Lib.Math.min.code 2 (some .int) ∈ qa_tb) (hroom : 1 ≤ R.frames ∧ (st.map fun v => v.category).sum + 13 ≤ R.locals) (hfit : cells ≤ R.cells ∧ slots ≤ R.slots) (kk : qa_GG l y cc nL ret R X E cells slots (pc + 3) L (.int (if z < x then z else x) :: st) N μ) : qa_GG l y cc nL ret R X E cells slots pc L (.int z :: .int x :: st) N μ := by
  intro p e s m args below meth c D ca ad B H locs ls C hX hW hS hl
  obtain ⟨hx, hb, -, hml, hown, hts, hK, -⟩ := id C
  exact va_mmin hx hb (by rw [hml]; exact hl.1.symm) hown (hts _ h1) (hts _ h2) (hts _ h3) (hts _ h4) hroom.1 (by show ((st.map (qa_cv ad)).map _).sum + 13 ≤ R.locals; rw [qa_cats]; exact hroom.2) hfit.1 hfit.2 hd (kk p e s m args below meth c D ca ad B H locs ls C hX hW hS hl)
theorem qa_mmax {idx : Nat} {x z : Int32} (hd : decode cc pc = .ok (.invokestatic idx, 3)) (h1 : Cond.methodLink y.cls idx Lib.Math.max.name ∈ qa_tb) (h2 : Cond.static Lib.Math.max.name ∈ qa_tb) (h3 : Cond.initialized "java/lang/Math" ∈ qa_tb) (h4 : Cond.code Lib.Math.max.name Lib.Math.max.code 2 (some .int) ∈ qa_tb) (hroom : 1 ≤ R.frames ∧ (st.map fun v => v.category).sum + 13 ≤ R.locals) (hfit : cells ≤ R.cells ∧ slots ≤ R.slots) (kk : qa_GG l y cc nL ret R X E cells slots (pc + 3) L (.int (if x < z then z else x) :: st) N μ) : qa_GG l y cc nL ret R X E cells slots pc L (.int z :: .int x :: st) N μ := by
  intro p e s m args below meth c D ca ad B H locs ls C hX hW hS hl
  obtain ⟨hx, hb, -, hml, hown, hts, hK, -⟩ := id C
  exact va_mmax hx hb (by rw [hml]; exact hl.1.symm) hown (hts _ h1) (hts _ h2) (hts _ h3) (hts _ h4) hroom.1 (by show ((st.map (qa_cv ad)).map _).sum + 13 ≤ R.locals; rw [qa_cats]; exact hroom.2) hfit.1 hfit.2 hd (kk p e s m args below meth c D ca ad B H locs ls C hX hW hS hl)
theorem qa_mabs {idx : Nat} {x : Int32} (hd : decode cc pc = .ok (.invokestatic idx, 3)) (h1 : Cond.methodLink y.cls idx Lib.Math.abs.name ∈ qa_tb) (h2 : Cond.static Lib.Math.abs.name ∈ qa_tb) (h3 : Cond.initialized "java/lang/Math" ∈ qa_tb) (h4 : Cond.code Lib.Math.abs.name Lib.Math.abs.code 1 (some .int) ∈ qa_tb) (hroom : 1 ≤ R.frames ∧ (st.map fun v => v.category).sum + 13 ≤ R.locals) (hfit : cells ≤ R.cells ∧ slots ≤ R.slots) (kk : qa_GG l y cc nL ret R X E cells slots (pc + 3) L (.int (if 0 ≤ x then x else 0 - x) :: st) N μ) : qa_GG l y cc nL ret R X E cells slots pc L (.int x :: st) N μ := by
  intro p e s m args below meth c D ca ad B H locs ls C hX hW hS hl
  obtain ⟨hx, hb, -, hml, hown, hts, hK, -⟩ := id C
  exact va_mabs hx hb (by rw [hml]; exact hl.1.symm) hown (hts _ h1) (hts _ h2) (hts _ h3) (hts _ h4) hroom.1 (by show ((st.map (qa_cv ad)).map _).sum + 13 ≤ R.locals; rw [qa_cats]; exact hroom.2) hfit.1 hfit.2 hd (kk p e s m args below meth c D ca ad B H locs ls C hX hW hS hl)
def qa_cpI (μ : qa_M) (a0 a : Nat) (sp dp n : Nat) : qa_M := (fun x j => if x = a then va_cpy (μ.1 a0) (μ.1 a) sp dp n j else μ.1 x j, μ.2.1, μ.2.2)
theorem qa_copyI {idx a0 a n0 n1 : Nat} {sp dp n : Int32} (hd : decode cc pc = .ok (.invokestatic idx, 3)) (h1 : Cond.methodLink y.cls idx arraycopyName ∈ qa_tb) (h2 : Cond.native arraycopyName ∈ qa_tb) (h3 : Cond.static arraycopyName ∈ qa_tb) (h4 : Cond.initialized "java/lang/System" ∈ qa_tb) (hs0 : qa_sh a0 = .inr (.int, n0)) (hs1 : qa_sh a = .inr (.int, n1)) (ha0 : 1 ≤ a0 ∧ a0 ≤ N) (ha : 1 ≤ a ∧ a ≤ N)
    (g1 : ¬ sp < 0) (g2 : ¬ dp < 0) (g3 : ¬ n < 0) (g4 : sp.toNatClampNeg + n.toNatClampNeg ≤ n0) (g5 : dp.toNatClampNeg + n.toNatClampNeg ≤ n1) (hroom : 1 ≤ R.frames ∧ (st.map fun v => v.category).sum + (nativeFrameWords "java/lang/System" "arraycopy" 5 + 11) ≤ R.locals)
    (kk : qa_GG l y cc nL ret R X E cells slots (pc + 3) L st N (qa_cpI μ a0 a sp.toNatClampNeg dp.toNatClampNeg n.toNatClampNeg)) : qa_GG l y cc nL ret R X E cells slots pc L (.int n :: .int dp :: .ref a :: .int sp :: .ref a0 :: st) N μ := by
  intro p e s m args below meth c D ca ad B H locs ls C hX hW hS hl
  obtain ⟨hx, hb, -, hml, hown, hts, hK, -⟩ := id C
  have nn : ∀ z : Int32, ¬ z < 0 → z.toInt = (z.toNatClampNeg : Int) := by
    intro z hz
    have hz0 : (0 : Int) ≤ z.toInt := by
      have := Int32.not_lt.mp hz
      simpa using Int32.le_iff_toInt_le.mp this
    show z.toInt = ((z.toInt.toNat : Nat) : Int)
    omega
  intro T hT X
  have hc0 : H[ad a0]? = some (arrV (ca .int) n0 (fun j => .int (μ.1 a0 j))) := hW.arr ha0 hs0
  have hc1 : H[ad a]? = some (arrV (ca .int) n1 (fun j => .int (μ.1 a j))) := hW.arr ha hs1
  obtain ⟨-, k0, hk0, cm0, hkk0⟩ := qa_arr hK (ty := .int) 0 rfl n0 (fun j => .int (μ.1 a0 j))
  obtain ⟨-, k1, hk1, cm1, hkk1⟩ := qa_arr hK (ty := .int) 0 rfl n1 (fun j => .int (μ.1 a j))
  obtain ⟨vm', X', step⟩ := X.arraycopy hx hown (hts _ h1) (hts _ h2) (hts _ h3) (hts _ h4) (src := ad a0) (dst := ad a) (cs := arrV (ca .int) n0 (fun j => .int (μ.1 a0 j))) (cd := arrV (ca .int) n1 (fun j => .int (μ.1 a j))) (srcPos := sp) (destPos := dp) (n := n) (by rw [hT]; exact hc0) (by rw [hT]; exact hc1)
    (fun _ h => by cases h) (fun _ h => by cases h) (fun h => by cases h) (fun h => by cases h) hk0 hk1 hkk0 hkk1 (by simp [refKind]) g1 g2 g3
    (by rw [nn sp g1, nn n g3, arrV_size]; omega)
    (by rw [nn dp g2, nn n g3, arrV_size]; omega)
    (fun vm₁ _ i hi => by
      have e : (arrV (ca .int) n0 (fun j => .int (μ.1 a0 j))).slots.getD (sp.toNatClampNeg + i) .null = .int (μ.1 a0 (sp.toNatClampNeg + i)) := by
        rw [Array.getD_eq_getD_getElem?, arrV_read _ _ (by omega)]
        rfl
      refine ⟨?_, ?_⟩
      · rw [e]
        rfl
      · rw [e]
        exact trivial)
    (g := F0 m pc ls (.int n :: .int dp :: .ref (ad a) :: .int sp :: .ref (ad a0) :: st.map (qa_cv ad))) rfl (by rw [hml]; exact hl.1) (rest := st.map (qa_cv ad)) rfl (by rw [hb]; exact hd) hroom.1 (by show 2 * 0 + _ + _ ≤ R.locals; rw [qa_cats]; omega)
  have e1 : copied (arrV (ca .int) n0 (fun j => .int (μ.1 a0 j))) (arrV (ca .int) n1 (fun j => .int (μ.1 a j))) sp dp n = arrV (ca .int) n1 (fun j => .int (va_cpy (μ.1 a0) (μ.1 a) sp.toNatClampNeg dp.toNatClampNeg n.toNatClampNeg j)) := va_copied (fun z => .int z) (ca .int) (ca .int) (μ.1 a0) (μ.1 a) g4
  rw [e1] at X' step
  have hlt : ad a < H.size := (Array.getElem?_eq_some_iff.mp hc1).1
  generalize hcell : arrV (ca .int) n1 (fun j => .int (va_cpy (μ.1 a0) (μ.1 a) sp.toNatClampNeg dp.toNatClampNeg n.toNatClampNeg j)) = cell1 at X' step
  have hheap : ((T.setVm vm').setCell (ad a) cell1).heap = H.setIfInBounds (ad a) cell1 := by rw [← hT]; rfl
  have oq : ∀ q : Nat, q ≠ ad a → (H.setIfInBounds (ad a) cell1)[q]? = H[q]? := fun q hq => by simp [Array.getElem?_setIfInBounds, Ne.symm hq]
  have eq1 : (H.setIfInBounds (ad a) cell1)[ad a]? = some cell1 := by simp [Array.getElem?_setIfInBounds, hlt]
  have hz : (H.setIfInBounds (ad a) cell1).size = H.size := by simp
  obtain ⟨t, a1, b1⟩ := kk p e s m args below meth c D ca ad B (H.setIfInBounds (ad a) cell1) _ ls C hX (hW.upd ha hz oq (fun x ty j hx => by
      unfold qa_fv qa_cpI
      split <;> first | rfl | (dsimp only; rw [if_neg hx])) (by
      unfold qa_at
      rw [hs1]
      rw [eq1, ← hcell]
      show some (arrV _ _ _) = some (arrV _ _ _)
      congr 2
      funext j
      show Value.int _ = Value.int ((qa_cpI μ a0 a _ _ _).1 a j)
      unfold qa_cpI
      dsimp only
      rw [if_pos rfl])) ⟨by rw [hz]; exact hS.1, fun q q1 q2 => by
      rw [oq q (fun e => q2 (by rw [e]; exact hW.adr ha))]
      exact hS.2.1 q q1 q2, fun q hq => by
      rcases List.mem_append.mp hq with h | h
      · exact hS.2.2 q h
      · obtain ⟨z, -, hz⟩ := List.mem_map.mp h
        rw [← hz]
        exact hW.adr ha⟩ hl _ hheap X'
  exact ⟨t, step t a1, b1⟩
def qa_cpJ (μ : qa_M) (a0 a : Nat) (sp dp n : Nat) : qa_M := (μ.1, fun x j => if x = a then va_cpy (μ.2.1 a0) (μ.2.1 a) sp dp n j else μ.2.1 x j, μ.2.2)
theorem qa_copyJ {idx a0 a n0 n1 : Nat} {sp dp n : Int32} (hd : decode cc pc = .ok (.invokestatic idx, 3)) (h1 : Cond.methodLink y.cls idx arraycopyName ∈ qa_tb) (h2 : Cond.native arraycopyName ∈ qa_tb) (h3 : Cond.static arraycopyName ∈ qa_tb) (h4 : Cond.initialized "java/lang/System" ∈ qa_tb) (hs0 : qa_sh a0 = .inr (.long, n0)) (hs1 : qa_sh a = .inr (.long, n1)) (ha0 : 1 ≤ a0 ∧ a0 ≤ N) (ha : 1 ≤ a ∧ a ≤ N)
    (g1 : ¬ sp < 0) (g2 : ¬ dp < 0) (g3 : ¬ n < 0) (g4 : sp.toNatClampNeg + n.toNatClampNeg ≤ n0) (g5 : dp.toNatClampNeg + n.toNatClampNeg ≤ n1) (hroom : 1 ≤ R.frames ∧ (st.map fun v => v.category).sum + (nativeFrameWords "java/lang/System" "arraycopy" 5 + 11) ≤ R.locals)
    (kk : qa_GG l y cc nL ret R X E cells slots (pc + 3) L st N (qa_cpJ μ a0 a sp.toNatClampNeg dp.toNatClampNeg n.toNatClampNeg)) : qa_GG l y cc nL ret R X E cells slots pc L (.int n :: .int dp :: .ref a :: .int sp :: .ref a0 :: st) N μ := by
  intro p e s m args below meth c D ca ad B H locs ls C hX hW hS hl
  obtain ⟨hx, hb, -, hml, hown, hts, hK, -⟩ := id C
  have nn : ∀ z : Int32, ¬ z < 0 → z.toInt = (z.toNatClampNeg : Int) := by
    intro z hz
    have hz0 : (0 : Int) ≤ z.toInt := by
      have := Int32.not_lt.mp hz
      simpa using Int32.le_iff_toInt_le.mp this
    show z.toInt = ((z.toInt.toNat : Nat) : Int)
    omega
  intro T hT X
  have hc0 : H[ad a0]? = some (arrV (ca .long) n0 (fun j => .long (μ.2.1 a0 j))) := hW.arr ha0 hs0
  have hc1 : H[ad a]? = some (arrV (ca .long) n1 (fun j => .long (μ.2.1 a j))) := hW.arr ha hs1
  obtain ⟨-, k0, hk0, cm0, hkk0⟩ := qa_arr hK (ty := .long) 3 rfl n0 (fun j => .long (μ.2.1 a0 j))
  obtain ⟨-, k1, hk1, cm1, hkk1⟩ := qa_arr hK (ty := .long) 3 rfl n1 (fun j => .long (μ.2.1 a j))
  obtain ⟨vm', X', step⟩ := X.arraycopy hx hown (hts _ h1) (hts _ h2) (hts _ h3) (hts _ h4) (src := ad a0) (dst := ad a) (cs := arrV (ca .long) n0 (fun j => .long (μ.2.1 a0 j))) (cd := arrV (ca .long) n1 (fun j => .long (μ.2.1 a j))) (srcPos := sp) (destPos := dp) (n := n) (by rw [hT]; exact hc0) (by rw [hT]; exact hc1)
    (fun _ h => by cases h) (fun _ h => by cases h) (fun h => by cases h) (fun h => by cases h) hk0 hk1 hkk0 hkk1 (by simp [refKind]) g1 g2 g3
    (by rw [nn sp g1, nn n g3, arrV_size]; omega)
    (by rw [nn dp g2, nn n g3, arrV_size]; omega)
    (fun vm₁ _ i hi => by
      have e : (arrV (ca .long) n0 (fun j => .long (μ.2.1 a0 j))).slots.getD (sp.toNatClampNeg + i) .null = .long (μ.2.1 a0 (sp.toNatClampNeg + i)) := by
        rw [Array.getD_eq_getD_getElem?, arrV_read _ _ (by omega)]
        rfl
      refine ⟨?_, ?_⟩
      · rw [e]
        rfl
      · rw [e]
        exact trivial)
    (g := F0 m pc ls (.int n :: .int dp :: .ref (ad a) :: .int sp :: .ref (ad a0) :: st.map (qa_cv ad))) rfl (by rw [hml]; exact hl.1) (rest := st.map (qa_cv ad)) rfl (by rw [hb]; exact hd) hroom.1 (by show 2 * 0 + _ + _ ≤ R.locals; rw [qa_cats]; omega)
  have e1 : copied (arrV (ca .long) n0 (fun j => .long (μ.2.1 a0 j))) (arrV (ca .long) n1 (fun j => .long (μ.2.1 a j))) sp dp n = arrV (ca .long) n1 (fun j => .long (va_cpy (μ.2.1 a0) (μ.2.1 a) sp.toNatClampNeg dp.toNatClampNeg n.toNatClampNeg j)) := va_copied (fun z => .long z) (ca .long) (ca .long) (μ.2.1 a0) (μ.2.1 a) g4
  rw [e1] at X' step
  have hlt : ad a < H.size := (Array.getElem?_eq_some_iff.mp hc1).1
  generalize hcell : arrV (ca .long) n1 (fun j => .long (va_cpy (μ.2.1 a0) (μ.2.1 a) sp.toNatClampNeg dp.toNatClampNeg n.toNatClampNeg j)) = cell1 at X' step
  have hheap : ((T.setVm vm').setCell (ad a) cell1).heap = H.setIfInBounds (ad a) cell1 := by rw [← hT]; rfl
  have oq : ∀ q : Nat, q ≠ ad a → (H.setIfInBounds (ad a) cell1)[q]? = H[q]? := fun q hq => by simp [Array.getElem?_setIfInBounds, Ne.symm hq]
  have eq1 : (H.setIfInBounds (ad a) cell1)[ad a]? = some cell1 := by simp [Array.getElem?_setIfInBounds, hlt]
  have hz : (H.setIfInBounds (ad a) cell1).size = H.size := by simp
  obtain ⟨t, a1, b1⟩ := kk p e s m args below meth c D ca ad B (H.setIfInBounds (ad a) cell1) _ ls C hX (hW.upd ha hz oq (fun x ty j hx => by
      unfold qa_fv qa_cpJ
      split <;> first | rfl | (dsimp only; rw [if_neg hx])) (by
      unfold qa_at
      rw [hs1]
      rw [eq1, ← hcell]
      show some (arrV _ _ _) = some (arrV _ _ _)
      congr 2
      funext j
      show Value.long _ = Value.long ((qa_cpJ μ a0 a _ _ _).2.1 a j)
      unfold qa_cpJ
      dsimp only
      rw [if_pos rfl])) ⟨by rw [hz]; exact hS.1, fun q q1 q2 => by
      rw [oq q (fun e => q2 (by rw [e]; exact hW.adr ha))]
      exact hS.2.1 q q1 q2, fun q hq => by
      rcases List.mem_append.mp hq with h | h
      · exact hS.2.2 q h
      · obtain ⟨z, -, hz⟩ := List.mem_map.mp h
        rw [← hz]
        exact hW.adr ha⟩ hl _ hheap X'
  exact ⟨t, step t a1, b1⟩
end QN
