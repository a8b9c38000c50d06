theorem qa_Zs {μ : qa_M} {N N' : Nat} (h : qa_Z μ N) (hN : N ≤ N') : qa_Z μ N' := fun k j hk => h k j (by omega)
theorem qa_Zp {μ : qa_M} {N a k v : Nat} (h : qa_Z μ N) (ha : a ≤ N) : qa_Z (qa_uP μ a k v) N := fun x j hx => ⟨(h x j hx).1, (h x j hx).2.1, by
  show qa_u1 μ.2.2 a k v x j = 0
  rw [qa_u1_ne _ _ (fun e => by omega)]; exact (h x j hx).2.2⟩
theorem qa_Zi {μ : qa_M} {N a k : Nat} {v : Int32} (h : qa_Z μ N) (ha : a ≤ N) : qa_Z (qa_uI μ a k v) N := fun x j hx => ⟨by
  show qa_u1 μ.1 a k v x j = 0
  rw [qa_u1_ne _ _ (fun e => by omega)]; exact (h x j hx).1, (h x j hx).2⟩
section QCT
variable {l : Launch} {y : MethodName} {cc : ByteArray} {nL : Nat} {ret : Option FieldType} {R : Room} {X : State → (Nat → Nat) → Nat → Prop} {E : State → Array Value → List Frame → va_G → (FieldType → ClassId) → (Nat → Nat) → Nat → State → Prop} {cells slots pc : Nat} {L : List (Option Value)} {st : List Value} {N : Nat} {μ : qa_M}
theorem qc_new {idx ci n : Nat} {Cn : String} {T : u_T} (N' cells' slots' : Nat) (hd : decode cc pc = .ok (.new idx, 3)) (hcl : Cond.classLink y.cls idx Cn ∈ qa_tb) (hinst : Cond.instantiable Cn n ∈ qa_tb) (hini : Cond.initialized Cn ∈ qa_tb) (hcf : qa_CF ci Cn T n) (hty : ∀ j, j < n → qa_okT (qa_ty ci j)) (hs : qa_sh N' = .inl ci) (e : N + 1 = N' ∧ cells + 1 = cells' ∧ slots + n = slots') (hN : N' < 1000) (hz : qa_Z μ N) (hfit : cells' ≤ R.cells ∧ slots' ≤ R.slots)
    (kk : qa_Z μ N' → qa_GG l y cc nL ret R X E cells' slots' (pc + 3) L (.ref N' :: st) N' μ) : qa_GG l y cc nL ret R X E cells slots pc L st N μ := by
  obtain ⟨rfl, rfl, rfl⟩ := e
  exact qa_new hd hcl hinst hini hcf hty hs hN hz hfit (kk (qa_Zs hz (Nat.le_succ N)))
theorem qc_newa {atype : ArrayType} {ty : FieldType} {n : Int32} {t : Nat} (len N' cells' slots' : Nat) (hd : decode cc pc = .ok (.newarray atype, 2)) (hty : newarray.typeOf atype = ty) (hw : Cond.arrayClass ty ∈ qa_tb) (ht : qa_ets[t]? = some ty) (ho : qa_okT ty) (hp : ∀ Cn, ty ≠ .object Cn) (hs : qa_sh N' = .inr (ty, len)) (hn : ¬ n < 0) (hlen : n.toNatClampNeg = len) (hbytes : len * componentBytes ty ≤ 536870912) (e : N + 1 = N' ∧ cells + 1 = cells' ∧ slots + len = slots') (hN : N' < 1000) (hz : qa_Z μ N) (hfit : cells' ≤ R.cells ∧ slots' ≤ R.slots)
    (kk : qa_Z μ N' → qa_GG l y cc nL ret R X E cells' slots' (pc + 2) L (.ref N' :: st) N' μ) : qa_GG l y cc nL ret R X E cells slots pc L (.int n :: st) N μ := by
  obtain ⟨rfl, rfl, rfl⟩ := e
  exact qa_newa hd hty hw ht ho hp hs hn hlen hbytes hN hz hfit (kk (qa_Zs hz (Nat.le_succ N)))
theorem qc_anew {idx t : Nat} {Cn : String} {n : Int32} (len N' cells' slots' : Nat) (hd : decode cc pc = .ok (.anewarray idx, 3)) (hw : Cond.classLink y.cls idx Cn ∈ qa_tb) (hCn : Cn = "PivotStreet$Town" ∨ Cn = "PivotStreet$Row") (ht : qa_ets[t]? = some (.object Cn)) (hs : qa_sh N' = .inr (.object Cn, len)) (hn : ¬ n < 0) (hlen : n.toNatClampNeg = len) (hbytes : len * 4 ≤ 536870912) (e : N + 1 = N' ∧ cells + 1 = cells' ∧ slots + len = slots') (hN : N' < 1000) (hz : qa_Z μ N) (hfit : cells' ≤ R.cells ∧ slots' ≤ R.slots)
    (kk : qa_Z μ N' → qa_GG l y cc nL ret R X E cells' slots' (pc + 3) L (.ref N' :: st) N' μ) : qa_GG l y cc nL ret R X E cells slots pc L (.int n :: st) N μ := by
  obtain ⟨rfl, rfl, rfl⟩ := e
  exact qa_anew hd hw hCn ht hs hn hlen hbytes hN hz hfit (kk (qa_Zs hz (Nat.le_succ N)))
theorem qc_callI {idx : Nat} {y' : MethodName} {cc' : ByteArray} {nL' : Nat} {d' mc' ms' n a N1 : Nat} {μ1 : qa_M} {st0 : List Value} (As rest : List Value) (cells' slots' : Nat) (hM : qa_Met l y' cc' nL' none d' mc' ms' (.ref a :: As) N μ (fun r N' μ' => r = none ∧ N' = N1 ∧ μ' = μ1 ∧ qa_Z μ' N1)) (hd : decode cc pc = .ok (.invokespecial idx, 3)) (hl0 : qa_MI y.cls idx y' cc' nL' none n ∨ qa_MIN y.cls idx y' cc' nL' none n) (hn : As.length = n) (hst : st0 = As.reverse ++ .ref a :: rest) (hroom : d' + 1 ≤ R.frames ∧ 8 + (nL' + 11) + 40 * d' ≤ R.locals) (e : cells + mc' = cells' ∧ slots + ms' = slots') (hfit : cells' ≤ R.cells ∧ slots' ≤ R.slots) (hrest : (rest.map fun v => v.category).sum ≤ 8)
    (kk : qa_Z μ1 N1 → qa_GG l y cc nL ret R X E cells' slots' (pc + 3) L rest N1 μ1) : qa_GG l y cc nL ret R X E cells slots pc L st0 N μ := by
  obtain ⟨rfl, rfl⟩ := e
  rcases hl0 with h | h
  · exact qa_callI As rest hM hd h hn hst hroom hfit hrest (fun r N' μ' hq => by obtain ⟨rfl, rfl, rfl, hz⟩ := hq; exact kk hz)
  · exact qa_callIN As rest hM hd h hn hst hroom hfit hrest (fun r N' μ' hq => by obtain ⟨rfl, rfl, rfl, hz⟩ := hq; exact kk hz)
end QCT
theorem qa_tyok0 : ∀ j, j < 6 → qa_okT (qa_ty 0 j) := by
  intro j hj
  unfold qa_okT
  revert j
  decide
theorem qa_tyok1 : ∀ j, j < 8 → qa_okT (qa_ty 1 j) := by
  intro j hj
  unfold qa_okT
  revert j
  decide
theorem qa_tyok2 : ∀ j, j < 9 → qa_okT (qa_ty 2 j) := by
  intro j hj
  unfold qa_okT
  revert j
  decide
theorem qa_tyok3 : ∀ j, j < 3 → qa_okT (qa_ty 3 j) := by
  intro j hj
  unfold qa_okT
  revert j
  decide
theorem qa_tyok4 : ∀ j, j < 4 → qa_okT (qa_ty 4 j) := by
  intro j hj
  unfold qa_okT
  revert j
  decide
theorem qa_tyok5 : ∀ j, j < 1 → qa_okT (qa_ty 5 j) := by
  intro j hj
  unfold qa_okT
  revert j
  decide
theorem qa_tyok6 : ∀ j, j < 18 → qa_okT (qa_ty 6 j) := by
  intro j hj
  unfold qa_okT
  revert j
  decide
theorem qa_tyok7 : ∀ j, j < 4 → qa_okT (qa_ty 7 j) := by
  intro j hj
  unfold qa_okT
  revert j
  decide
theorem qa_tyok8 : ∀ j, j < 12 → qa_okT (qa_ty 8 j) := by
  intro j hj
  unfold qa_okT
  revert j
  decide
theorem qa_tyok9 : ∀ j, j < 45 → qa_okT (qa_ty 9 j) := by
  intro j hj
  unfold qa_okT
  revert j
  decide
def ci_X0_10 (μ : qa_M) : qa_M := (qa_uP (qa_uP (qa_uP (qa_uP μ 10 1 11) 10 2 12) 10 3 13) 10 4 14)
set_option maxRecDepth 100000 in
theorem nci_X0_10 (l : Launch) {μ : qa_M} (hz : qa_Z μ 10) : qa_Met l yX0_init cX0_init 1 none 1 4 110 [.ref 10] 10 μ (fun r N' μ' => r = none ∧ N' = 14 ∧ μ' = ci_X0_10 μ ∧ qa_Z μ' 14) := by
  refine qa_ofG (by decide) (by decide) ?_
  change qa_G l yX0_init cX0_init 1 none 1 4 110 (fun r N' μ' => r = none ∧ N' = 14 ∧ μ' = ci_X0_10 μ ∧ qa_Z μ' 14) 0 0 0 [some (.ref 10)] [] 10 μ
  refine qa_ald0 dX0_init_0 ?_
  refine qa_objInit dX0_init_1 loi_X0_3 loi_i loi_c (by decide) ?_
  refine qa_ald0 dX0_init_4 ?_
  refine qa_bipush (v := 30) dX0_init_5 (by decide) ?_
  refine qc_newa (t := 0) (ty := .int) 30 11 1 30 dX0_init_7 rfl lac_int rfl (And.intro (fun h => nomatch h) (fun h => nomatch h)) (fun _ h => nomatch h) sh_11 (by decide) (by decide) (by decide) ⟨rfl, rfl, rfl⟩ (by decide) hz (by decide) (fun hz => ?_)
  refine qa_putR dX0_init_9 lf_X0_9 (Or.inl ⟨_, rfl⟩) sh_10 (by decide) (Or.inr ⟨rfl, rfl⟩) (by decide) ?_
  have hz := qa_Zp (a := 10) (k := 1) (v := 11) hz (by decide)
  refine qa_ald0 dX0_init_12 ?_
  refine qa_bipush (v := 30) dX0_init_13 (by decide) ?_
  refine qc_newa (t := 0) (ty := .int) 30 12 2 60 dX0_init_15 rfl lac_int rfl (And.intro (fun h => nomatch h) (fun h => nomatch h)) (fun _ h => nomatch h) sh_12 (by decide) (by decide) (by decide) ⟨rfl, rfl, rfl⟩ (by decide) hz (by decide) (fun hz => ?_)
  refine qa_putR dX0_init_17 lf_X0_15 (Or.inl ⟨_, rfl⟩) sh_10 (by decide) (Or.inr ⟨rfl, rfl⟩) (by decide) ?_
  have hz := qa_Zp (a := 10) (k := 2) (v := 12) hz (by decide)
  refine qa_ald0 dX0_init_20 ?_
  refine qa_bipush (v := 30) dX0_init_21 (by decide) ?_
  refine qc_newa (t := 0) (ty := .int) 30 13 3 90 dX0_init_23 rfl lac_int rfl (And.intro (fun h => nomatch h) (fun h => nomatch h)) (fun _ h => nomatch h) sh_13 (by decide) (by decide) (by decide) ⟨rfl, rfl, rfl⟩ (by decide) hz (by decide) (fun hz => ?_)
  refine qa_putR dX0_init_25 lf_X0_18 (Or.inl ⟨_, rfl⟩) sh_10 (by decide) (Or.inr ⟨rfl, rfl⟩) (by decide) ?_
  have hz := qa_Zp (a := 10) (k := 3) (v := 13) hz (by decide)
  refine qa_ald0 dX0_init_28 ?_
  refine qa_bipush (v := 20) dX0_init_29 (by decide) ?_
  refine qc_newa (t := 0) (ty := .int) 20 14 4 110 dX0_init_31 rfl lac_int rfl (And.intro (fun h => nomatch h) (fun h => nomatch h)) (fun _ h => nomatch h) sh_14 (by decide) (by decide) (by decide) ⟨rfl, rfl, rfl⟩ (by decide) hz (by decide) (fun hz => ?_)
  refine qa_putR dX0_init_33 lf_X0_21 (Or.inl ⟨_, rfl⟩) sh_10 (by decide) (Or.inr ⟨rfl, rfl⟩) (by decide) ?_
  have hz := qa_Zp (a := 10) (k := 4) (v := 14) hz (by decide)
  exact qa_vret rfl dX0_init_36 ⟨rfl, rfl⟩ ⟨rfl, rfl, rfl, hz⟩
def ci_X6_3 (μ : qa_M) : qa_M := (qa_uP (ci_X0_10 (qa_uP (qa_uP (qa_uP (qa_uP (qa_uP (qa_uP μ 3 11 4) 3 12 5) 3 13 6) 3 14 7) 3 15 8) 3 16 9)) 3 17 10)
set_option maxRecDepth 100000 in
theorem nci_X6_3 (l : Launch) {μ : qa_M} (hz : qa_Z μ 3) : qa_Met l yX6_init cX6_init 1 none 2 11 164 [.ref 3] 3 μ (fun r N' μ' => r = none ∧ N' = 14 ∧ μ' = ci_X6_3 μ ∧ qa_Z μ' 14) := by
  refine qa_ofG (by decide) (by decide) ?_
  change qa_G l yX6_init cX6_init 1 none 2 11 164 (fun r N' μ' => r = none ∧ N' = 14 ∧ μ' = ci_X6_3 μ ∧ qa_Z μ' 14) 0 0 0 [some (.ref 3)] [] 3 μ
  refine qa_ald0 dX6_init_0 ?_
  refine qa_objInit dX6_init_1 loi_X6_3 loi_i loi_c (by decide) ?_
  refine qa_ald0 dX6_init_4 ?_
  refine qa_bipush (v := 8) dX6_init_5 (by decide) ?_
  refine qc_newa (t := 0) (ty := .int) 8 4 1 8 dX6_init_7 rfl lac_int rfl (And.intro (fun h => nomatch h) (fun h => nomatch h)) (fun _ h => nomatch h) sh_4 (by decide) (by decide) (by decide) ⟨rfl, rfl, rfl⟩ (by decide) hz (by decide) (fun hz => ?_)
  refine qa_putR dX6_init_9 lf_X6_9 (Or.inl ⟨_, rfl⟩) sh_3 (by decide) (Or.inr ⟨rfl, rfl⟩) (by decide) ?_
  have hz := qa_Zp (a := 3) (k := 11) (v := 4) hz (by decide)
  refine qa_ald0 dX6_init_12 ?_
  refine qa_bipush (v := 8) dX6_init_13 (by decide) ?_
  refine qc_newa (t := 0) (ty := .int) 8 5 2 16 dX6_init_15 rfl lac_int rfl (And.intro (fun h => nomatch h) (fun h => nomatch h)) (fun _ h => nomatch h) sh_5 (by decide) (by decide) (by decide) ⟨rfl, rfl, rfl⟩ (by decide) hz (by decide) (fun hz => ?_)
  refine qa_putR dX6_init_17 lf_X6_15 (Or.inl ⟨_, rfl⟩) sh_3 (by decide) (Or.inr ⟨rfl, rfl⟩) (by decide) ?_
  have hz := qa_Zp (a := 3) (k := 12) (v := 5) hz (by decide)
  refine qa_ald0 dX6_init_20 ?_
  refine qa_bipush (v := 8) dX6_init_21 (by decide) ?_
  refine qc_newa (t := 0) (ty := .int) 8 6 3 24 dX6_init_23 rfl lac_int rfl (And.intro (fun h => nomatch h) (fun h => nomatch h)) (fun _ h => nomatch h) sh_6 (by decide) (by decide) (by decide) ⟨rfl, rfl, rfl⟩ (by decide) hz (by decide) (fun hz => ?_)
  refine qa_putR dX6_init_25 lf_X6_18 (Or.inl ⟨_, rfl⟩) sh_3 (by decide) (Or.inr ⟨rfl, rfl⟩) (by decide) ?_
  have hz := qa_Zp (a := 3) (k := 13) (v := 6) hz (by decide)
  refine qa_ald0 dX6_init_28 ?_
  refine qa_bipush (v := 8) dX6_init_29 (by decide) ?_
  refine qc_newa (t := 0) (ty := .int) 8 7 4 32 dX6_init_31 rfl lac_int rfl (And.intro (fun h => nomatch h) (fun h => nomatch h)) (fun _ h => nomatch h) sh_7 (by decide) (by decide) (by decide) ⟨rfl, rfl, rfl⟩ (by decide) hz (by decide) (fun hz => ?_)
  refine qa_putR dX6_init_33 lf_X6_21 (Or.inl ⟨_, rfl⟩) sh_3 (by decide) (Or.inr ⟨rfl, rfl⟩) (by decide) ?_
  have hz := qa_Zp (a := 3) (k := 14) (v := 7) hz (by decide)
  refine qa_ald0 dX6_init_36 ?_
  refine qa_bipush (v := 8) dX6_init_37 (by decide) ?_
  refine qc_newa (t := 0) (ty := .int) 8 8 5 40 dX6_init_39 rfl lac_int rfl (And.intro (fun h => nomatch h) (fun h => nomatch h)) (fun _ h => nomatch h) sh_8 (by decide) (by decide) (by decide) ⟨rfl, rfl, rfl⟩ (by decide) hz (by decide) (fun hz => ?_)
  refine qa_putR dX6_init_41 lf_X6_24 (Or.inl ⟨_, rfl⟩) sh_3 (by decide) (Or.inr ⟨rfl, rfl⟩) (by decide) ?_
  have hz := qa_Zp (a := 3) (k := 15) (v := 8) hz (by decide)
  refine qa_ald0 dX6_init_44 ?_
  refine qa_bipush (v := 8) dX6_init_45 (by decide) ?_
  refine qc_newa (t := 0) (ty := .int) 8 9 6 48 dX6_init_47 rfl lac_int rfl (And.intro (fun h => nomatch h) (fun h => nomatch h)) (fun _ h => nomatch h) sh_9 (by decide) (by decide) (by decide) ⟨rfl, rfl, rfl⟩ (by decide) hz (by decide) (fun hz => ?_)
  refine qa_putR dX6_init_49 lf_X6_27 (Or.inl ⟨_, rfl⟩) sh_3 (by decide) (Or.inr ⟨rfl, rfl⟩) (by decide) ?_
  have hz := qa_Zp (a := 3) (k := 16) (v := 9) hz (by decide)
  refine qa_ald0 dX6_init_52 ?_
  refine qc_new 10 7 54 dX6_init_53 lcl_X6_30 lin_0 lii_0 qa_cf0 qa_tyok0 sh_10 ⟨rfl, rfl, rfl⟩ (by decide) hz (by decide) (fun hz => ?_)
  refine qa_dup dX6_init_56 rfl ?_
  refine qc_callI (a := 10) [] [.ref 10, .ref 3] 11 164 (nci_X0_10 l hz) dX6_init_57 (Or.inr lm_X6_32) rfl rfl (by decide) ⟨rfl, rfl⟩ (by decide) (Nat.le_of_ble_eq_true rfl) (fun hz => ?_)
  refine qa_putR dX6_init_60 lf_X6_33 (Or.inr ⟨_, rfl⟩) sh_3 (by decide) (Or.inr ⟨rfl, rfl⟩) (by decide) ?_
  have hz := qa_Zp (a := 3) (k := 17) (v := 10) hz (by decide)
  exact qa_vret rfl dX6_init_63 ⟨rfl, rfl⟩ ⟨rfl, rfl, rfl, hz⟩
def ci_X2_2 (μ : qa_M) : qa_M := (qa_uP (qa_uP (ci_X6_3 (qa_uI (qa_uI (qa_uI μ 2 1 (0)) 2 7 (0)) 2 8 (-1))) 2 2 3) 2 0 15)
set_option maxRecDepth 100000 in
theorem nci_X2_2 (l : Launch) {μ : qa_M} (hz : qa_Z μ 2) : qa_Met l yX2_init cX2_init 1 none 3 13 982 [.ref 2] 2 μ (fun r N' μ' => r = none ∧ N' = 15 ∧ μ' = ci_X2_2 μ ∧ qa_Z μ' 15) := by
  refine qa_ofG (by decide) (by decide) ?_
  change qa_G l yX2_init cX2_init 1 none 3 13 982 (fun r N' μ' => r = none ∧ N' = 15 ∧ μ' = ci_X2_2 μ ∧ qa_Z μ' 15) 0 0 0 [some (.ref 2)] [] 2 μ
  refine qa_ald0 dX2_init_0 ?_
  refine qa_objInit dX2_init_1 loi_X2_3 loi_i loi_c (by decide) ?_
  refine qa_ald0 dX2_init_4 ?_
  refine qa_iconst (v := 0) dX2_init_5 (by decide) ?_
  refine qa_putI dX2_init_6 lf_X2_9 rfl sh_2 (by decide) rfl ?_
  have hz := qa_Zi (a := 2) (k := 1) (v := 0) hz (by decide)
  refine qa_ald0 dX2_init_9 ?_
  refine qa_iconst (v := 0) dX2_init_10 (by decide) ?_
  refine qa_putI dX2_init_11 lf_X2_15 rfl sh_2 (by decide) rfl ?_
  have hz := qa_Zi (a := 2) (k := 7) (v := 0) hz (by decide)
  refine qa_ald0 dX2_init_14 ?_
  refine qa_iconst (v := -1) dX2_init_15 (by decide) ?_
  refine qa_putI dX2_init_16 lf_X2_18 rfl sh_2 (by decide) rfl ?_
  have hz := qa_Zi (a := 2) (k := 8) (v := -1) hz (by decide)
  refine qa_ald0 dX2_init_19 ?_
  refine qc_new 3 1 18 dX2_init_20 lcl_X2_21 lin_6 lii_6 qa_cf6 qa_tyok6 sh_3 ⟨rfl, rfl, rfl⟩ (by decide) hz (by decide) (fun hz => ?_)
  refine qa_dup dX2_init_23 rfl ?_
  refine qc_callI (a := 3) [] [.ref 3, .ref 2] 12 182 (nci_X6_3 l hz) dX2_init_24 (Or.inr lm_X2_23) rfl rfl (by decide) ⟨rfl, rfl⟩ (by decide) (Nat.le_of_ble_eq_true rfl) (fun hz => ?_)
  refine qa_putR dX2_init_27 lf_X2_24 (Or.inr ⟨_, rfl⟩) sh_2 (by decide) (Or.inl rfl) (by decide) ?_
  have hz := qa_Zp (a := 2) (k := 2) (v := 3) hz (by decide)
  refine qa_ald0 dX2_init_30 ?_
  refine qa_sipush (v := 800) dX2_init_31 (by decide) ?_
  refine qc_newa (t := 1) (ty := .byte) 800 15 13 982 dX2_init_34 rfl lac_byte rfl (And.intro (fun h => nomatch h) (fun h => nomatch h)) (fun _ h => nomatch h) sh_15 (by decide) (by decide) (by decide) ⟨rfl, rfl, rfl⟩ (by decide) hz (by decide) (fun hz => ?_)
  refine qa_putR dX2_init_36 lf_X2_28 (Or.inl ⟨_, rfl⟩) sh_2 (by decide) (Or.inr ⟨rfl, rfl⟩) (by decide) ?_
  have hz := qa_Zp (a := 2) (k := 0) (v := 15) hz (by decide)
  exact qa_vret rfl dX2_init_39 ⟨rfl, rfl⟩ ⟨rfl, rfl, rfl, hz⟩
def ci_X0_23 (μ : qa_M) : qa_M := (qa_uP (qa_uP (qa_uP (qa_uP μ 23 1 24) 23 2 25) 23 3 26) 23 4 27)
set_option maxRecDepth 100000 in
theorem nci_X0_23 (l : Launch) {μ : qa_M} (hz : qa_Z μ 23) : qa_Met l yX0_init cX0_init 1 none 1 4 110 [.ref 23] 23 μ (fun r N' μ' => r = none ∧ N' = 27 ∧ μ' = ci_X0_23 μ ∧ qa_Z μ' 27) := by
  refine qa_ofG (by decide) (by decide) ?_
  change qa_G l yX0_init cX0_init 1 none 1 4 110 (fun r N' μ' => r = none ∧ N' = 27 ∧ μ' = ci_X0_23 μ ∧ qa_Z μ' 27) 0 0 0 [some (.ref 23)] [] 23 μ
  refine qa_ald0 dX0_init_0 ?_
  refine qa_objInit dX0_init_1 loi_X0_3 loi_i loi_c (by decide) ?_
  refine qa_ald0 dX0_init_4 ?_
  refine qa_bipush (v := 30) dX0_init_5 (by decide) ?_
  refine qc_newa (t := 0) (ty := .int) 30 24 1 30 dX0_init_7 rfl lac_int rfl (And.intro (fun h => nomatch h) (fun h => nomatch h)) (fun _ h => nomatch h) sh_24 (by decide) (by decide) (by decide) ⟨rfl, rfl, rfl⟩ (by decide) hz (by decide) (fun hz => ?_)
  refine qa_putR dX0_init_9 lf_X0_9 (Or.inl ⟨_, rfl⟩) sh_23 (by decide) (Or.inr ⟨rfl, rfl⟩) (by decide) ?_
  have hz := qa_Zp (a := 23) (k := 1) (v := 24) hz (by decide)
  refine qa_ald0 dX0_init_12 ?_
  refine qa_bipush (v := 30) dX0_init_13 (by decide) ?_
  refine qc_newa (t := 0) (ty := .int) 30 25 2 60 dX0_init_15 rfl lac_int rfl (And.intro (fun h => nomatch h) (fun h => nomatch h)) (fun _ h => nomatch h) sh_25 (by decide) (by decide) (by decide) ⟨rfl, rfl, rfl⟩ (by decide) hz (by decide) (fun hz => ?_)
  refine qa_putR dX0_init_17 lf_X0_15 (Or.inl ⟨_, rfl⟩) sh_23 (by decide) (Or.inr ⟨rfl, rfl⟩) (by decide) ?_
  have hz := qa_Zp (a := 23) (k := 2) (v := 25) hz (by decide)
  refine qa_ald0 dX0_init_20 ?_
  refine qa_bipush (v := 30) dX0_init_21 (by decide) ?_
  refine qc_newa (t := 0) (ty := .int) 30 26 3 90 dX0_init_23 rfl lac_int rfl (And.intro (fun h => nomatch h) (fun h => nomatch h)) (fun _ h => nomatch h) sh_26 (by decide) (by decide) (by decide) ⟨rfl, rfl, rfl⟩ (by decide) hz (by decide) (fun hz => ?_)
  refine qa_putR dX0_init_25 lf_X0_18 (Or.inl ⟨_, rfl⟩) sh_23 (by decide) (Or.inr ⟨rfl, rfl⟩) (by decide) ?_
  have hz := qa_Zp (a := 23) (k := 3) (v := 26) hz (by decide)
  refine qa_ald0 dX0_init_28 ?_
  refine qa_bipush (v := 20) dX0_init_29 (by decide) ?_
  refine qc_newa (t := 0) (ty := .int) 20 27 4 110 dX0_init_31 rfl lac_int rfl (And.intro (fun h => nomatch h) (fun h => nomatch h)) (fun _ h => nomatch h) sh_27 (by decide) (by decide) (by decide) ⟨rfl, rfl, rfl⟩ (by decide) hz (by decide) (fun hz => ?_)
  refine qa_putR dX0_init_33 lf_X0_21 (Or.inl ⟨_, rfl⟩) sh_23 (by decide) (Or.inr ⟨rfl, rfl⟩) (by decide) ?_
  have hz := qa_Zp (a := 23) (k := 4) (v := 27) hz (by decide)
  exact qa_vret rfl dX0_init_36 ⟨rfl, rfl⟩ ⟨rfl, rfl, rfl, hz⟩
def ci_X6_16 (μ : qa_M) : qa_M := (qa_uP (ci_X0_23 (qa_uP (qa_uP (qa_uP (qa_uP (qa_uP (qa_uP μ 16 11 17) 16 12 18) 16 13 19) 16 14 20) 16 15 21) 16 16 22)) 16 17 23)
set_option maxRecDepth 100000 in
theorem nci_X6_16 (l : Launch) {μ : qa_M} (hz : qa_Z μ 16) : qa_Met l yX6_init cX6_init 1 none 2 11 164 [.ref 16] 16 μ (fun r N' μ' => r = none ∧ N' = 27 ∧ μ' = ci_X6_16 μ ∧ qa_Z μ' 27) := by
  refine qa_ofG (by decide) (by decide) ?_
  change qa_G l yX6_init cX6_init 1 none 2 11 164 (fun r N' μ' => r = none ∧ N' = 27 ∧ μ' = ci_X6_16 μ ∧ qa_Z μ' 27) 0 0 0 [some (.ref 16)] [] 16 μ
  refine qa_ald0 dX6_init_0 ?_
  refine qa_objInit dX6_init_1 loi_X6_3 loi_i loi_c (by decide) ?_
  refine qa_ald0 dX6_init_4 ?_
  refine qa_bipush (v := 8) dX6_init_5 (by decide) ?_
  refine qc_newa (t := 0) (ty := .int) 8 17 1 8 dX6_init_7 rfl lac_int rfl (And.intro (fun h => nomatch h) (fun h => nomatch h)) (fun _ h => nomatch h) sh_17 (by decide) (by decide) (by decide) ⟨rfl, rfl, rfl⟩ (by decide) hz (by decide) (fun hz => ?_)
  refine qa_putR dX6_init_9 lf_X6_9 (Or.inl ⟨_, rfl⟩) sh_16 (by decide) (Or.inr ⟨rfl, rfl⟩) (by decide) ?_
  have hz := qa_Zp (a := 16) (k := 11) (v := 17) hz (by decide)
  refine qa_ald0 dX6_init_12 ?_
  refine qa_bipush (v := 8) dX6_init_13 (by decide) ?_
  refine qc_newa (t := 0) (ty := .int) 8 18 2 16 dX6_init_15 rfl lac_int rfl (And.intro (fun h => nomatch h) (fun h => nomatch h)) (fun _ h => nomatch h) sh_18 (by decide) (by decide) (by decide) ⟨rfl, rfl, rfl⟩ (by decide) hz (by decide) (fun hz => ?_)
  refine qa_putR dX6_init_17 lf_X6_15 (Or.inl ⟨_, rfl⟩) sh_16 (by decide) (Or.inr ⟨rfl, rfl⟩) (by decide) ?_
  have hz := qa_Zp (a := 16) (k := 12) (v := 18) hz (by decide)
  refine qa_ald0 dX6_init_20 ?_
  refine qa_bipush (v := 8) dX6_init_21 (by decide) ?_
  refine qc_newa (t := 0) (ty := .int) 8 19 3 24 dX6_init_23 rfl lac_int rfl (And.intro (fun h => nomatch h) (fun h => nomatch h)) (fun _ h => nomatch h) sh_19 (by decide) (by decide) (by decide) ⟨rfl, rfl, rfl⟩ (by decide) hz (by decide) (fun hz => ?_)
  refine qa_putR dX6_init_25 lf_X6_18 (Or.inl ⟨_, rfl⟩) sh_16 (by decide) (Or.inr ⟨rfl, rfl⟩) (by decide) ?_
  have hz := qa_Zp (a := 16) (k := 13) (v := 19) hz (by decide)
  refine qa_ald0 dX6_init_28 ?_
  refine qa_bipush (v := 8) dX6_init_29 (by decide) ?_
  refine qc_newa (t := 0) (ty := .int) 8 20 4 32 dX6_init_31 rfl lac_int rfl (And.intro (fun h => nomatch h) (fun h => nomatch h)) (fun _ h => nomatch h) sh_20 (by decide) (by decide) (by decide) ⟨rfl, rfl, rfl⟩ (by decide) hz (by decide) (fun hz => ?_)
  refine qa_putR dX6_init_33 lf_X6_21 (Or.inl ⟨_, rfl⟩) sh_16 (by decide) (Or.inr ⟨rfl, rfl⟩) (by decide) ?_
  have hz := qa_Zp (a := 16) (k := 14) (v := 20) hz (by decide)
  refine qa_ald0 dX6_init_36 ?_
  refine qa_bipush (v := 8) dX6_init_37 (by decide) ?_
  refine qc_newa (t := 0) (ty := .int) 8 21 5 40 dX6_init_39 rfl lac_int rfl (And.intro (fun h => nomatch h) (fun h => nomatch h)) (fun _ h => nomatch h) sh_21 (by decide) (by decide) (by decide) ⟨rfl, rfl, rfl⟩ (by decide) hz (by decide) (fun hz => ?_)
  refine qa_putR dX6_init_41 lf_X6_24 (Or.inl ⟨_, rfl⟩) sh_16 (by decide) (Or.inr ⟨rfl, rfl⟩) (by decide) ?_
  have hz := qa_Zp (a := 16) (k := 15) (v := 21) hz (by decide)
  refine qa_ald0 dX6_init_44 ?_
  refine qa_bipush (v := 8) dX6_init_45 (by decide) ?_
  refine qc_newa (t := 0) (ty := .int) 8 22 6 48 dX6_init_47 rfl lac_int rfl (And.intro (fun h => nomatch h) (fun h => nomatch h)) (fun _ h => nomatch h) sh_22 (by decide) (by decide) (by decide) ⟨rfl, rfl, rfl⟩ (by decide) hz (by decide) (fun hz => ?_)
  refine qa_putR dX6_init_49 lf_X6_27 (Or.inl ⟨_, rfl⟩) sh_16 (by decide) (Or.inr ⟨rfl, rfl⟩) (by decide) ?_
  have hz := qa_Zp (a := 16) (k := 16) (v := 22) hz (by decide)
  refine qa_ald0 dX6_init_52 ?_
  refine qc_new 23 7 54 dX6_init_53 lcl_X6_30 lin_0 lii_0 qa_cf0 qa_tyok0 sh_23 ⟨rfl, rfl, rfl⟩ (by decide) hz (by decide) (fun hz => ?_)
  refine qa_dup dX6_init_56 rfl ?_
  refine qc_callI (a := 23) [] [.ref 23, .ref 16] 11 164 (nci_X0_23 l hz) dX6_init_57 (Or.inr lm_X6_32) rfl rfl (by decide) ⟨rfl, rfl⟩ (by decide) (Nat.le_of_ble_eq_true rfl) (fun hz => ?_)
  refine qa_putR dX6_init_60 lf_X6_33 (Or.inr ⟨_, rfl⟩) sh_16 (by decide) (Or.inr ⟨rfl, rfl⟩) (by decide) ?_
  have hz := qa_Zp (a := 16) (k := 17) (v := 23) hz (by decide)
  exact qa_vret rfl dX6_init_63 ⟨rfl, rfl⟩ ⟨rfl, rfl, rfl, hz⟩
def ci_X1_31 (μ : qa_M) : qa_M := μ
set_option maxRecDepth 100000 in
theorem nci_X1_31 (l : Launch) {μ : qa_M} (hz : qa_Z μ 31) : qa_Met l yX1_init cX1_init 1 none 1 0 0 [.ref 31] 31 μ (fun r N' μ' => r = none ∧ N' = 31 ∧ μ' = ci_X1_31 μ ∧ qa_Z μ' 31) := by
  refine qa_ofG (by decide) (by decide) ?_
  change qa_G l yX1_init cX1_init 1 none 1 0 0 (fun r N' μ' => r = none ∧ N' = 31 ∧ μ' = ci_X1_31 μ ∧ qa_Z μ' 31) 0 0 0 [some (.ref 31)] [] 31 μ
  refine qa_ald0 dX1_init_0 ?_
  refine qa_objInit dX1_init_1 loi_X1_3 loi_i loi_c (by decide) ?_
  exact qa_vret rfl dX1_init_4 ⟨rfl, rfl⟩ ⟨rfl, rfl, rfl, hz⟩
def ci_X7_32 (μ : qa_M) : qa_M := (qa_uP (qa_uP (qa_uP (qa_uP μ 32 0 33) 32 1 34) 32 2 35) 32 3 36)
set_option maxRecDepth 100000 in
theorem nci_X7_32 (l : Launch) {μ : qa_M} (hz : qa_Z μ 32) : qa_Met l yX7_init cX7_init 1 none 1 4 368 [.ref 32] 32 μ (fun r N' μ' => r = none ∧ N' = 36 ∧ μ' = ci_X7_32 μ ∧ qa_Z μ' 36) := by
  refine qa_ofG (by decide) (by decide) ?_
  change qa_G l yX7_init cX7_init 1 none 1 4 368 (fun r N' μ' => r = none ∧ N' = 36 ∧ μ' = ci_X7_32 μ ∧ qa_Z μ' 36) 0 0 0 [some (.ref 32)] [] 32 μ
  refine qa_ald0 dX7_init_0 ?_
  refine qa_objInit dX7_init_1 loi_X7_3 loi_i loi_c (by decide) ?_
  refine qa_ald0 dX7_init_4 ?_
  refine qa_sipush (v := 168) dX7_init_5 (by decide) ?_
  refine qc_newa (t := 0) (ty := .int) 168 33 1 168 dX7_init_8 rfl lac_int rfl (And.intro (fun h => nomatch h) (fun h => nomatch h)) (fun _ h => nomatch h) sh_33 (by decide) (by decide) (by decide) ⟨rfl, rfl, rfl⟩ (by decide) hz (by decide) (fun hz => ?_)
  refine qa_putR dX7_init_10 lf_X7_9 (Or.inl ⟨_, rfl⟩) sh_32 (by decide) (Or.inr ⟨rfl, rfl⟩) (by decide) ?_
  have hz := qa_Zp (a := 32) (k := 0) (v := 33) hz (by decide)
  refine qa_ald0 dX7_init_13 ?_
  refine qa_sipush (v := 160) dX7_init_14 (by decide) ?_
  refine qc_newa (t := 0) (ty := .int) 160 34 2 328 dX7_init_17 rfl lac_int rfl (And.intro (fun h => nomatch h) (fun h => nomatch h)) (fun _ h => nomatch h) sh_34 (by decide) (by decide) (by decide) ⟨rfl, rfl, rfl⟩ (by decide) hz (by decide) (fun hz => ?_)
  refine qa_putR dX7_init_19 lf_X7_15 (Or.inl ⟨_, rfl⟩) sh_32 (by decide) (Or.inr ⟨rfl, rfl⟩) (by decide) ?_
  have hz := qa_Zp (a := 32) (k := 1) (v := 34) hz (by decide)
  refine qa_ald0 dX7_init_22 ?_
  refine qa_bipush (v := 20) dX7_init_23 (by decide) ?_
  refine qc_newa (t := 0) (ty := .int) 20 35 3 348 dX7_init_25 rfl lac_int rfl (And.intro (fun h => nomatch h) (fun h => nomatch h)) (fun _ h => nomatch h) sh_35 (by decide) (by decide) (by decide) ⟨rfl, rfl, rfl⟩ (by decide) hz (by decide) (fun hz => ?_)
  refine qa_putR dX7_init_27 lf_X7_18 (Or.inl ⟨_, rfl⟩) sh_32 (by decide) (Or.inr ⟨rfl, rfl⟩) (by decide) ?_
  have hz := qa_Zp (a := 32) (k := 2) (v := 35) hz (by decide)
  refine qa_ald0 dX7_init_30 ?_
  refine qa_bipush (v := 20) dX7_init_31 (by decide) ?_
  refine qc_newa (t := 0) (ty := .int) 20 36 4 368 dX7_init_33 rfl lac_int rfl (And.intro (fun h => nomatch h) (fun h => nomatch h)) (fun _ h => nomatch h) sh_36 (by decide) (by decide) (by decide) ⟨rfl, rfl, rfl⟩ (by decide) hz (by decide) (fun hz => ?_)
  refine qa_putR dX7_init_35 lf_X7_21 (Or.inl ⟨_, rfl⟩) sh_32 (by decide) (Or.inr ⟨rfl, rfl⟩) (by decide) ?_
  have hz := qa_Zp (a := 32) (k := 3) (v := 36) hz (by decide)
  exact qa_vret rfl dX7_init_38 ⟨rfl, rfl⟩ ⟨rfl, rfl, rfl, hz⟩
def ci_X7_37 (μ : qa_M) : qa_M := (qa_uP (qa_uP (qa_uP (qa_uP μ 37 0 38) 37 1 39) 37 2 40) 37 3 41)
set_option maxRecDepth 100000 in
theorem nci_X7_37 (l : Launch) {μ : qa_M} (hz : qa_Z μ 37) : qa_Met l yX7_init cX7_init 1 none 1 4 368 [.ref 37] 37 μ (fun r N' μ' => r = none ∧ N' = 41 ∧ μ' = ci_X7_37 μ ∧ qa_Z μ' 41) := by
  refine qa_ofG (by decide) (by decide) ?_
  change qa_G l yX7_init cX7_init 1 none 1 4 368 (fun r N' μ' => r = none ∧ N' = 41 ∧ μ' = ci_X7_37 μ ∧ qa_Z μ' 41) 0 0 0 [some (.ref 37)] [] 37 μ
  refine qa_ald0 dX7_init_0 ?_
  refine qa_objInit dX7_init_1 loi_X7_3 loi_i loi_c (by decide) ?_
  refine qa_ald0 dX7_init_4 ?_
  refine qa_sipush (v := 168) dX7_init_5 (by decide) ?_
  refine qc_newa (t := 0) (ty := .int) 168 38 1 168 dX7_init_8 rfl lac_int rfl (And.intro (fun h => nomatch h) (fun h => nomatch h)) (fun _ h => nomatch h) sh_38 (by decide) (by decide) (by decide) ⟨rfl, rfl, rfl⟩ (by decide) hz (by decide) (fun hz => ?_)
  refine qa_putR dX7_init_10 lf_X7_9 (Or.inl ⟨_, rfl⟩) sh_37 (by decide) (Or.inr ⟨rfl, rfl⟩) (by decide) ?_
  have hz := qa_Zp (a := 37) (k := 0) (v := 38) hz (by decide)
  refine qa_ald0 dX7_init_13 ?_
  refine qa_sipush (v := 160) dX7_init_14 (by decide) ?_
  refine qc_newa (t := 0) (ty := .int) 160 39 2 328 dX7_init_17 rfl lac_int rfl (And.intro (fun h => nomatch h) (fun h => nomatch h)) (fun _ h => nomatch h) sh_39 (by decide) (by decide) (by decide) ⟨rfl, rfl, rfl⟩ (by decide) hz (by decide) (fun hz => ?_)
  refine qa_putR dX7_init_19 lf_X7_15 (Or.inl ⟨_, rfl⟩) sh_37 (by decide) (Or.inr ⟨rfl, rfl⟩) (by decide) ?_
  have hz := qa_Zp (a := 37) (k := 1) (v := 39) hz (by decide)
  refine qa_ald0 dX7_init_22 ?_
  refine qa_bipush (v := 20) dX7_init_23 (by decide) ?_
  refine qc_newa (t := 0) (ty := .int) 20 40 3 348 dX7_init_25 rfl lac_int rfl (And.intro (fun h => nomatch h) (fun h => nomatch h)) (fun _ h => nomatch h) sh_40 (by decide) (by decide) (by decide) ⟨rfl, rfl, rfl⟩ (by decide) hz (by decide) (fun hz => ?_)
  refine qa_putR dX7_init_27 lf_X7_18 (Or.inl ⟨_, rfl⟩) sh_37 (by decide) (Or.inr ⟨rfl, rfl⟩) (by decide) ?_
  have hz := qa_Zp (a := 37) (k := 2) (v := 40) hz (by decide)
  refine qa_ald0 dX7_init_30 ?_
  refine qa_bipush (v := 20) dX7_init_31 (by decide) ?_
  refine qc_newa (t := 0) (ty := .int) 20 41 4 368 dX7_init_33 rfl lac_int rfl (And.intro (fun h => nomatch h) (fun h => nomatch h)) (fun _ h => nomatch h) sh_41 (by decide) (by decide) (by decide) ⟨rfl, rfl, rfl⟩ (by decide) hz (by decide) (fun hz => ?_)
  refine qa_putR dX7_init_35 lf_X7_21 (Or.inl ⟨_, rfl⟩) sh_37 (by decide) (Or.inr ⟨rfl, rfl⟩) (by decide) ?_
  have hz := qa_Zp (a := 37) (k := 3) (v := 41) hz (by decide)
  exact qa_vret rfl dX7_init_38 ⟨rfl, rfl⟩ ⟨rfl, rfl, rfl, hz⟩
def ci_X4_42 (μ : qa_M) : qa_M := (qa_uP μ 42 3 43)
set_option maxRecDepth 100000 in
theorem nci_X4_42 (l : Launch) {μ : qa_M} (hz : qa_Z μ 42) : qa_Met l yX4_init cX4_init 1 none 1 1 5120 [.ref 42] 42 μ (fun r N' μ' => r = none ∧ N' = 43 ∧ μ' = ci_X4_42 μ ∧ qa_Z μ' 43) := by
  refine qa_ofG (by decide) (by decide) ?_
  change qa_G l yX4_init cX4_init 1 none 1 1 5120 (fun r N' μ' => r = none ∧ N' = 43 ∧ μ' = ci_X4_42 μ ∧ qa_Z μ' 43) 0 0 0 [some (.ref 42)] [] 42 μ
  refine qa_ald0 dX4_init_0 ?_
  refine qa_objInit dX4_init_1 loi_X4_3 loi_i loi_c (by decide) ?_
  refine qa_ald0 dX4_init_4 ?_
  refine qa_sipush (v := 5120) dX4_init_5 (by decide) ?_
  refine qc_newa (t := 4) (ty := .short) 5120 43 1 5120 dX4_init_8 rfl lac_short rfl (And.intro (fun h => nomatch h) (fun h => nomatch h)) (fun _ h => nomatch h) sh_43 (by decide) (by decide) (by decide) ⟨rfl, rfl, rfl⟩ (by decide) hz (by decide) (fun hz => ?_)
  refine qa_putR dX4_init_10 lf_X4_9 (Or.inl ⟨_, rfl⟩) sh_42 (by decide) (Or.inr ⟨rfl, rfl⟩) (by decide) ?_
  have hz := qa_Zp (a := 42) (k := 3) (v := 43) hz (by decide)
  exact qa_vret rfl dX4_init_13 ⟨rfl, rfl⟩ ⟨rfl, rfl, rfl, hz⟩
def ci_X5_44 (μ : qa_M) : qa_M := (qa_uP μ 44 0 45)
set_option maxRecDepth 100000 in
theorem nci_X5_44 (l : Launch) {μ : qa_M} (hz : qa_Z μ 44) : qa_Met l yX5_init cX5_init 1 none 1 1 801 [.ref 44] 44 μ (fun r N' μ' => r = none ∧ N' = 45 ∧ μ' = ci_X5_44 μ ∧ qa_Z μ' 45) := by
  refine qa_ofG (by decide) (by decide) ?_
  change qa_G l yX5_init cX5_init 1 none 1 1 801 (fun r N' μ' => r = none ∧ N' = 45 ∧ μ' = ci_X5_44 μ ∧ qa_Z μ' 45) 0 0 0 [some (.ref 44)] [] 44 μ
  refine qa_ald0 dX5_init_0 ?_
  refine qa_objInit dX5_init_1 loi_X5_3 loi_i loi_c (by decide) ?_
  refine qa_ald0 dX5_init_4 ?_
  refine qa_sipush (v := 801) dX5_init_5 (by decide) ?_
  refine qc_newa (t := 0) (ty := .int) 801 45 1 801 dX5_init_8 rfl lac_int rfl (And.intro (fun h => nomatch h) (fun h => nomatch h)) (fun _ h => nomatch h) sh_45 (by decide) (by decide) (by decide) ⟨rfl, rfl, rfl⟩ (by decide) hz (by decide) (fun hz => ?_)
  refine qa_putR dX5_init_10 lf_X5_9 (Or.inl ⟨_, rfl⟩) sh_44 (by decide) (Or.inr ⟨rfl, rfl⟩) (by decide) ?_
  have hz := qa_Zp (a := 44) (k := 0) (v := 45) hz (by decide)
  exact qa_vret rfl dX5_init_13 ⟨rfl, rfl⟩ ⟨rfl, rfl, rfl, hz⟩
def ci_X0_54 (μ : qa_M) : qa_M := (qa_uP (qa_uP (qa_uP (qa_uP μ 54 1 55) 54 2 56) 54 3 57) 54 4 58)
set_option maxRecDepth 100000 in
theorem nci_X0_54 (l : Launch) {μ : qa_M} (hz : qa_Z μ 54) : qa_Met l yX0_init cX0_init 1 none 1 4 110 [.ref 54] 54 μ (fun r N' μ' => r = none ∧ N' = 58 ∧ μ' = ci_X0_54 μ ∧ qa_Z μ' 58) := by
  refine qa_ofG (by decide) (by decide) ?_
  change qa_G l yX0_init cX0_init 1 none 1 4 110 (fun r N' μ' => r = none ∧ N' = 58 ∧ μ' = ci_X0_54 μ ∧ qa_Z μ' 58) 0 0 0 [some (.ref 54)] [] 54 μ
  refine qa_ald0 dX0_init_0 ?_
  refine qa_objInit dX0_init_1 loi_X0_3 loi_i loi_c (by decide) ?_
  refine qa_ald0 dX0_init_4 ?_
  refine qa_bipush (v := 30) dX0_init_5 (by decide) ?_
  refine qc_newa (t := 0) (ty := .int) 30 55 1 30 dX0_init_7 rfl lac_int rfl (And.intro (fun h => nomatch h) (fun h => nomatch h)) (fun _ h => nomatch h) sh_55 (by decide) (by decide) (by decide) ⟨rfl, rfl, rfl⟩ (by decide) hz (by decide) (fun hz => ?_)
  refine qa_putR dX0_init_9 lf_X0_9 (Or.inl ⟨_, rfl⟩) sh_54 (by decide) (Or.inr ⟨rfl, rfl⟩) (by decide) ?_
  have hz := qa_Zp (a := 54) (k := 1) (v := 55) hz (by decide)
  refine qa_ald0 dX0_init_12 ?_
  refine qa_bipush (v := 30) dX0_init_13 (by decide) ?_
  refine qc_newa (t := 0) (ty := .int) 30 56 2 60 dX0_init_15 rfl lac_int rfl (And.intro (fun h => nomatch h) (fun h => nomatch h)) (fun _ h => nomatch h) sh_56 (by decide) (by decide) (by decide) ⟨rfl, rfl, rfl⟩ (by decide) hz (by decide) (fun hz => ?_)
  refine qa_putR dX0_init_17 lf_X0_15 (Or.inl ⟨_, rfl⟩) sh_54 (by decide) (Or.inr ⟨rfl, rfl⟩) (by decide) ?_
  have hz := qa_Zp (a := 54) (k := 2) (v := 56) hz (by decide)
  refine qa_ald0 dX0_init_20 ?_
  refine qa_bipush (v := 30) dX0_init_21 (by decide) ?_
  refine qc_newa (t := 0) (ty := .int) 30 57 3 90 dX0_init_23 rfl lac_int rfl (And.intro (fun h => nomatch h) (fun h => nomatch h)) (fun _ h => nomatch h) sh_57 (by decide) (by decide) (by decide) ⟨rfl, rfl, rfl⟩ (by decide) hz (by decide) (fun hz => ?_)
  refine qa_putR dX0_init_25 lf_X0_18 (Or.inl ⟨_, rfl⟩) sh_54 (by decide) (Or.inr ⟨rfl, rfl⟩) (by decide) ?_
  have hz := qa_Zp (a := 54) (k := 3) (v := 57) hz (by decide)
  refine qa_ald0 dX0_init_28 ?_
  refine qa_bipush (v := 20) dX0_init_29 (by decide) ?_
  refine qc_newa (t := 0) (ty := .int) 20 58 4 110 dX0_init_31 rfl lac_int rfl (And.intro (fun h => nomatch h) (fun h => nomatch h)) (fun _ h => nomatch h) sh_58 (by decide) (by decide) (by decide) ⟨rfl, rfl, rfl⟩ (by decide) hz (by decide) (fun hz => ?_)
  refine qa_putR dX0_init_33 lf_X0_21 (Or.inl ⟨_, rfl⟩) sh_54 (by decide) (Or.inr ⟨rfl, rfl⟩) (by decide) ?_
  have hz := qa_Zp (a := 54) (k := 4) (v := 58) hz (by decide)
  exact qa_vret rfl dX0_init_36 ⟨rfl, rfl⟩ ⟨rfl, rfl, rfl, hz⟩
def ci_X6_47 (μ : qa_M) : qa_M := (qa_uP (ci_X0_54 (qa_uP (qa_uP (qa_uP (qa_uP (qa_uP (qa_uP μ 47 11 48) 47 12 49) 47 13 50) 47 14 51) 47 15 52) 47 16 53)) 47 17 54)
set_option maxRecDepth 100000 in
theorem nci_X6_47 (l : Launch) {μ : qa_M} (hz : qa_Z μ 47) : qa_Met l yX6_init cX6_init 1 none 2 11 164 [.ref 47] 47 μ (fun r N' μ' => r = none ∧ N' = 58 ∧ μ' = ci_X6_47 μ ∧ qa_Z μ' 58) := by
  refine qa_ofG (by decide) (by decide) ?_
  change qa_G l yX6_init cX6_init 1 none 2 11 164 (fun r N' μ' => r = none ∧ N' = 58 ∧ μ' = ci_X6_47 μ ∧ qa_Z μ' 58) 0 0 0 [some (.ref 47)] [] 47 μ
  refine qa_ald0 dX6_init_0 ?_
  refine qa_objInit dX6_init_1 loi_X6_3 loi_i loi_c (by decide) ?_
  refine qa_ald0 dX6_init_4 ?_
  refine qa_bipush (v := 8) dX6_init_5 (by decide) ?_
  refine qc_newa (t := 0) (ty := .int) 8 48 1 8 dX6_init_7 rfl lac_int rfl (And.intro (fun h => nomatch h) (fun h => nomatch h)) (fun _ h => nomatch h) sh_48 (by decide) (by decide) (by decide) ⟨rfl, rfl, rfl⟩ (by decide) hz (by decide) (fun hz => ?_)
  refine qa_putR dX6_init_9 lf_X6_9 (Or.inl ⟨_, rfl⟩) sh_47 (by decide) (Or.inr ⟨rfl, rfl⟩) (by decide) ?_
  have hz := qa_Zp (a := 47) (k := 11) (v := 48) hz (by decide)
  refine qa_ald0 dX6_init_12 ?_
  refine qa_bipush (v := 8) dX6_init_13 (by decide) ?_
  refine qc_newa (t := 0) (ty := .int) 8 49 2 16 dX6_init_15 rfl lac_int rfl (And.intro (fun h => nomatch h) (fun h => nomatch h)) (fun _ h => nomatch h) sh_49 (by decide) (by decide) (by decide) ⟨rfl, rfl, rfl⟩ (by decide) hz (by decide) (fun hz => ?_)
  refine qa_putR dX6_init_17 lf_X6_15 (Or.inl ⟨_, rfl⟩) sh_47 (by decide) (Or.inr ⟨rfl, rfl⟩) (by decide) ?_
  have hz := qa_Zp (a := 47) (k := 12) (v := 49) hz (by decide)
  refine qa_ald0 dX6_init_20 ?_
  refine qa_bipush (v := 8) dX6_init_21 (by decide) ?_
  refine qc_newa (t := 0) (ty := .int) 8 50 3 24 dX6_init_23 rfl lac_int rfl (And.intro (fun h => nomatch h) (fun h => nomatch h)) (fun _ h => nomatch h) sh_50 (by decide) (by decide) (by decide) ⟨rfl, rfl, rfl⟩ (by decide) hz (by decide) (fun hz => ?_)
  refine qa_putR dX6_init_25 lf_X6_18 (Or.inl ⟨_, rfl⟩) sh_47 (by decide) (Or.inr ⟨rfl, rfl⟩) (by decide) ?_
  have hz := qa_Zp (a := 47) (k := 13) (v := 50) hz (by decide)
  refine qa_ald0 dX6_init_28 ?_
  refine qa_bipush (v := 8) dX6_init_29 (by decide) ?_
  refine qc_newa (t := 0) (ty := .int) 8 51 4 32 dX6_init_31 rfl lac_int rfl (And.intro (fun h => nomatch h) (fun h => nomatch h)) (fun _ h => nomatch h) sh_51 (by decide) (by decide) (by decide) ⟨rfl, rfl, rfl⟩ (by decide) hz (by decide) (fun hz => ?_)
  refine qa_putR dX6_init_33 lf_X6_21 (Or.inl ⟨_, rfl⟩) sh_47 (by decide) (Or.inr ⟨rfl, rfl⟩) (by decide) ?_
  have hz := qa_Zp (a := 47) (k := 14) (v := 51) hz (by decide)
  refine qa_ald0 dX6_init_36 ?_
  refine qa_bipush (v := 8) dX6_init_37 (by decide) ?_
  refine qc_newa (t := 0) (ty := .int) 8 52 5 40 dX6_init_39 rfl lac_int rfl (And.intro (fun h => nomatch h) (fun h => nomatch h)) (fun _ h => nomatch h) sh_52 (by decide) (by decide) (by decide) ⟨rfl, rfl, rfl⟩ (by decide) hz (by decide) (fun hz => ?_)
  refine qa_putR dX6_init_41 lf_X6_24 (Or.inl ⟨_, rfl⟩) sh_47 (by decide) (Or.inr ⟨rfl, rfl⟩) (by decide) ?_
  have hz := qa_Zp (a := 47) (k := 15) (v := 52) hz (by decide)
  refine qa_ald0 dX6_init_44 ?_
  refine qa_bipush (v := 8) dX6_init_45 (by decide) ?_
  refine qc_newa (t := 0) (ty := .int) 8 53 6 48 dX6_init_47 rfl lac_int rfl (And.intro (fun h => nomatch h) (fun h => nomatch h)) (fun _ h => nomatch h) sh_53 (by decide) (by decide) (by decide) ⟨rfl, rfl, rfl⟩ (by decide) hz (by decide) (fun hz => ?_)
  refine qa_putR dX6_init_49 lf_X6_27 (Or.inl ⟨_, rfl⟩) sh_47 (by decide) (Or.inr ⟨rfl, rfl⟩) (by decide) ?_
  have hz := qa_Zp (a := 47) (k := 16) (v := 53) hz (by decide)
  refine qa_ald0 dX6_init_52 ?_
  refine qc_new 54 7 54 dX6_init_53 lcl_X6_30 lin_0 lii_0 qa_cf0 qa_tyok0 sh_54 ⟨rfl, rfl, rfl⟩ (by decide) hz (by decide) (fun hz => ?_)
  refine qa_dup dX6_init_56 rfl ?_
  refine qc_callI (a := 54) [] [.ref 54, .ref 47] 11 164 (nci_X0_54 l hz) dX6_init_57 (Or.inr lm_X6_32) rfl rfl (by decide) ⟨rfl, rfl⟩ (by decide) (Nat.le_of_ble_eq_true rfl) (fun hz => ?_)
  refine qa_putR dX6_init_60 lf_X6_33 (Or.inr ⟨_, rfl⟩) sh_47 (by decide) (Or.inr ⟨rfl, rfl⟩) (by decide) ?_
  have hz := qa_Zp (a := 47) (k := 17) (v := 54) hz (by decide)
  exact qa_vret rfl dX6_init_63 ⟨rfl, rfl⟩ ⟨rfl, rfl, rfl, hz⟩
def ci_X0_66 (μ : qa_M) : qa_M := (qa_uP (qa_uP (qa_uP (qa_uP μ 66 1 67) 66 2 68) 66 3 69) 66 4 70)
set_option maxRecDepth 100000 in
theorem nci_X0_66 (l : Launch) {μ : qa_M} (hz : qa_Z μ 66) : qa_Met l yX0_init cX0_init 1 none 1 4 110 [.ref 66] 66 μ (fun r N' μ' => r = none ∧ N' = 70 ∧ μ' = ci_X0_66 μ ∧ qa_Z μ' 70) := by
  refine qa_ofG (by decide) (by decide) ?_
  change qa_G l yX0_init cX0_init 1 none 1 4 110 (fun r N' μ' => r = none ∧ N' = 70 ∧ μ' = ci_X0_66 μ ∧ qa_Z μ' 70) 0 0 0 [some (.ref 66)] [] 66 μ
  refine qa_ald0 dX0_init_0 ?_
  refine qa_objInit dX0_init_1 loi_X0_3 loi_i loi_c (by decide) ?_
  refine qa_ald0 dX0_init_4 ?_
  refine qa_bipush (v := 30) dX0_init_5 (by decide) ?_
  refine qc_newa (t := 0) (ty := .int) 30 67 1 30 dX0_init_7 rfl lac_int rfl (And.intro (fun h => nomatch h) (fun h => nomatch h)) (fun _ h => nomatch h) sh_67 (by decide) (by decide) (by decide) ⟨rfl, rfl, rfl⟩ (by decide) hz (by decide) (fun hz => ?_)
  refine qa_putR dX0_init_9 lf_X0_9 (Or.inl ⟨_, rfl⟩) sh_66 (by decide) (Or.inr ⟨rfl, rfl⟩) (by decide) ?_
  have hz := qa_Zp (a := 66) (k := 1) (v := 67) hz (by decide)
  refine qa_ald0 dX0_init_12 ?_
  refine qa_bipush (v := 30) dX0_init_13 (by decide) ?_
  refine qc_newa (t := 0) (ty := .int) 30 68 2 60 dX0_init_15 rfl lac_int rfl (And.intro (fun h => nomatch h) (fun h => nomatch h)) (fun _ h => nomatch h) sh_68 (by decide) (by decide) (by decide) ⟨rfl, rfl, rfl⟩ (by decide) hz (by decide) (fun hz => ?_)
  refine qa_putR dX0_init_17 lf_X0_15 (Or.inl ⟨_, rfl⟩) sh_66 (by decide) (Or.inr ⟨rfl, rfl⟩) (by decide) ?_
  have hz := qa_Zp (a := 66) (k := 2) (v := 68) hz (by decide)
  refine qa_ald0 dX0_init_20 ?_
  refine qa_bipush (v := 30) dX0_init_21 (by decide) ?_
  refine qc_newa (t := 0) (ty := .int) 30 69 3 90 dX0_init_23 rfl lac_int rfl (And.intro (fun h => nomatch h) (fun h => nomatch h)) (fun _ h => nomatch h) sh_69 (by decide) (by decide) (by decide) ⟨rfl, rfl, rfl⟩ (by decide) hz (by decide) (fun hz => ?_)
  refine qa_putR dX0_init_25 lf_X0_18 (Or.inl ⟨_, rfl⟩) sh_66 (by decide) (Or.inr ⟨rfl, rfl⟩) (by decide) ?_
  have hz := qa_Zp (a := 66) (k := 3) (v := 69) hz (by decide)
  refine qa_ald0 dX0_init_28 ?_
  refine qa_bipush (v := 20) dX0_init_29 (by decide) ?_
  refine qc_newa (t := 0) (ty := .int) 20 70 4 110 dX0_init_31 rfl lac_int rfl (And.intro (fun h => nomatch h) (fun h => nomatch h)) (fun _ h => nomatch h) sh_70 (by decide) (by decide) (by decide) ⟨rfl, rfl, rfl⟩ (by decide) hz (by decide) (fun hz => ?_)
  refine qa_putR dX0_init_33 lf_X0_21 (Or.inl ⟨_, rfl⟩) sh_66 (by decide) (Or.inr ⟨rfl, rfl⟩) (by decide) ?_
  have hz := qa_Zp (a := 66) (k := 4) (v := 70) hz (by decide)
  exact qa_vret rfl dX0_init_36 ⟨rfl, rfl⟩ ⟨rfl, rfl, rfl, hz⟩
def ci_X6_59 (μ : qa_M) : qa_M := (qa_uP (ci_X0_66 (qa_uP (qa_uP (qa_uP (qa_uP (qa_uP (qa_uP μ 59 11 60) 59 12 61) 59 13 62) 59 14 63) 59 15 64) 59 16 65)) 59 17 66)
set_option maxRecDepth 100000 in
theorem nci_X6_59 (l : Launch) {μ : qa_M} (hz : qa_Z μ 59) : qa_Met l yX6_init cX6_init 1 none 2 11 164 [.ref 59] 59 μ (fun r N' μ' => r = none ∧ N' = 70 ∧ μ' = ci_X6_59 μ ∧ qa_Z μ' 70) := by
  refine qa_ofG (by decide) (by decide) ?_
  change qa_G l yX6_init cX6_init 1 none 2 11 164 (fun r N' μ' => r = none ∧ N' = 70 ∧ μ' = ci_X6_59 μ ∧ qa_Z μ' 70) 0 0 0 [some (.ref 59)] [] 59 μ
  refine qa_ald0 dX6_init_0 ?_
  refine qa_objInit dX6_init_1 loi_X6_3 loi_i loi_c (by decide) ?_
  refine qa_ald0 dX6_init_4 ?_
  refine qa_bipush (v := 8) dX6_init_5 (by decide) ?_
  refine qc_newa (t := 0) (ty := .int) 8 60 1 8 dX6_init_7 rfl lac_int rfl (And.intro (fun h => nomatch h) (fun h => nomatch h)) (fun _ h => nomatch h) sh_60 (by decide) (by decide) (by decide) ⟨rfl, rfl, rfl⟩ (by decide) hz (by decide) (fun hz => ?_)
  refine qa_putR dX6_init_9 lf_X6_9 (Or.inl ⟨_, rfl⟩) sh_59 (by decide) (Or.inr ⟨rfl, rfl⟩) (by decide) ?_
  have hz := qa_Zp (a := 59) (k := 11) (v := 60) hz (by decide)
  refine qa_ald0 dX6_init_12 ?_
  refine qa_bipush (v := 8) dX6_init_13 (by decide) ?_
  refine qc_newa (t := 0) (ty := .int) 8 61 2 16 dX6_init_15 rfl lac_int rfl (And.intro (fun h => nomatch h) (fun h => nomatch h)) (fun _ h => nomatch h) sh_61 (by decide) (by decide) (by decide) ⟨rfl, rfl, rfl⟩ (by decide) hz (by decide) (fun hz => ?_)
  refine qa_putR dX6_init_17 lf_X6_15 (Or.inl ⟨_, rfl⟩) sh_59 (by decide) (Or.inr ⟨rfl, rfl⟩) (by decide) ?_
  have hz := qa_Zp (a := 59) (k := 12) (v := 61) hz (by decide)
  refine qa_ald0 dX6_init_20 ?_
  refine qa_bipush (v := 8) dX6_init_21 (by decide) ?_
  refine qc_newa (t := 0) (ty := .int) 8 62 3 24 dX6_init_23 rfl lac_int rfl (And.intro (fun h => nomatch h) (fun h => nomatch h)) (fun _ h => nomatch h) sh_62 (by decide) (by decide) (by decide) ⟨rfl, rfl, rfl⟩ (by decide) hz (by decide) (fun hz => ?_)
  refine qa_putR dX6_init_25 lf_X6_18 (Or.inl ⟨_, rfl⟩) sh_59 (by decide) (Or.inr ⟨rfl, rfl⟩) (by decide) ?_
  have hz := qa_Zp (a := 59) (k := 13) (v := 62) hz (by decide)
  refine qa_ald0 dX6_init_28 ?_
  refine qa_bipush (v := 8) dX6_init_29 (by decide) ?_
  refine qc_newa (t := 0) (ty := .int) 8 63 4 32 dX6_init_31 rfl lac_int rfl (And.intro (fun h => nomatch h) (fun h => nomatch h)) (fun _ h => nomatch h) sh_63 (by decide) (by decide) (by decide) ⟨rfl, rfl, rfl⟩ (by decide) hz (by decide) (fun hz => ?_)
  refine qa_putR dX6_init_33 lf_X6_21 (Or.inl ⟨_, rfl⟩) sh_59 (by decide) (Or.inr ⟨rfl, rfl⟩) (by decide) ?_
  have hz := qa_Zp (a := 59) (k := 14) (v := 63) hz (by decide)
  refine qa_ald0 dX6_init_36 ?_
  refine qa_bipush (v := 8) dX6_init_37 (by decide) ?_
  refine qc_newa (t := 0) (ty := .int) 8 64 5 40 dX6_init_39 rfl lac_int rfl (And.intro (fun h => nomatch h) (fun h => nomatch h)) (fun _ h => nomatch h) sh_64 (by decide) (by decide) (by decide) ⟨rfl, rfl, rfl⟩ (by decide) hz (by decide) (fun hz => ?_)
  refine qa_putR dX6_init_41 lf_X6_24 (Or.inl ⟨_, rfl⟩) sh_59 (by decide) (Or.inr ⟨rfl, rfl⟩) (by decide) ?_
  have hz := qa_Zp (a := 59) (k := 15) (v := 64) hz (by decide)
  refine qa_ald0 dX6_init_44 ?_
  refine qa_bipush (v := 8) dX6_init_45 (by decide) ?_
  refine qc_newa (t := 0) (ty := .int) 8 65 6 48 dX6_init_47 rfl lac_int rfl (And.intro (fun h => nomatch h) (fun h => nomatch h)) (fun _ h => nomatch h) sh_65 (by decide) (by decide) (by decide) ⟨rfl, rfl, rfl⟩ (by decide) hz (by decide) (fun hz => ?_)
  refine qa_putR dX6_init_49 lf_X6_27 (Or.inl ⟨_, rfl⟩) sh_59 (by decide) (Or.inr ⟨rfl, rfl⟩) (by decide) ?_
  have hz := qa_Zp (a := 59) (k := 16) (v := 65) hz (by decide)
  refine qa_ald0 dX6_init_52 ?_
  refine qc_new 66 7 54 dX6_init_53 lcl_X6_30 lin_0 lii_0 qa_cf0 qa_tyok0 sh_66 ⟨rfl, rfl, rfl⟩ (by decide) hz (by decide) (fun hz => ?_)
  refine qa_dup dX6_init_56 rfl ?_
  refine qc_callI (a := 66) [] [.ref 66, .ref 59] 11 164 (nci_X0_66 l hz) dX6_init_57 (Or.inr lm_X6_32) rfl rfl (by decide) ⟨rfl, rfl⟩ (by decide) (Nat.le_of_ble_eq_true rfl) (fun hz => ?_)
  refine qa_putR dX6_init_60 lf_X6_33 (Or.inr ⟨_, rfl⟩) sh_59 (by decide) (Or.inr ⟨rfl, rfl⟩) (by decide) ?_
  have hz := qa_Zp (a := 59) (k := 17) (v := 66) hz (by decide)
  exact qa_vret rfl dX6_init_63 ⟨rfl, rfl⟩ ⟨rfl, rfl, rfl, hz⟩
def ci_X0_78 (μ : qa_M) : qa_M := (qa_uP (qa_uP (qa_uP (qa_uP μ 78 1 79) 78 2 80) 78 3 81) 78 4 82)
set_option maxRecDepth 100000 in
theorem nci_X0_78 (l : Launch) {μ : qa_M} (hz : qa_Z μ 78) : qa_Met l yX0_init cX0_init 1 none 1 4 110 [.ref 78] 78 μ (fun r N' μ' => r = none ∧ N' = 82 ∧ μ' = ci_X0_78 μ ∧ qa_Z μ' 82) := by
  refine qa_ofG (by decide) (by decide) ?_
  change qa_G l yX0_init cX0_init 1 none 1 4 110 (fun r N' μ' => r = none ∧ N' = 82 ∧ μ' = ci_X0_78 μ ∧ qa_Z μ' 82) 0 0 0 [some (.ref 78)] [] 78 μ
  refine qa_ald0 dX0_init_0 ?_
  refine qa_objInit dX0_init_1 loi_X0_3 loi_i loi_c (by decide) ?_
  refine qa_ald0 dX0_init_4 ?_
  refine qa_bipush (v := 30) dX0_init_5 (by decide) ?_
  refine qc_newa (t := 0) (ty := .int) 30 79 1 30 dX0_init_7 rfl lac_int rfl (And.intro (fun h => nomatch h) (fun h => nomatch h)) (fun _ h => nomatch h) sh_79 (by decide) (by decide) (by decide) ⟨rfl, rfl, rfl⟩ (by decide) hz (by decide) (fun hz => ?_)
  refine qa_putR dX0_init_9 lf_X0_9 (Or.inl ⟨_, rfl⟩) sh_78 (by decide) (Or.inr ⟨rfl, rfl⟩) (by decide) ?_
  have hz := qa_Zp (a := 78) (k := 1) (v := 79) hz (by decide)
  refine qa_ald0 dX0_init_12 ?_
  refine qa_bipush (v := 30) dX0_init_13 (by decide) ?_
  refine qc_newa (t := 0) (ty := .int) 30 80 2 60 dX0_init_15 rfl lac_int rfl (And.intro (fun h => nomatch h) (fun h => nomatch h)) (fun _ h => nomatch h) sh_80 (by decide) (by decide) (by decide) ⟨rfl, rfl, rfl⟩ (by decide) hz (by decide) (fun hz => ?_)
  refine qa_putR dX0_init_17 lf_X0_15 (Or.inl ⟨_, rfl⟩) sh_78 (by decide) (Or.inr ⟨rfl, rfl⟩) (by decide) ?_
  have hz := qa_Zp (a := 78) (k := 2) (v := 80) hz (by decide)
  refine qa_ald0 dX0_init_20 ?_
  refine qa_bipush (v := 30) dX0_init_21 (by decide) ?_
  refine qc_newa (t := 0) (ty := .int) 30 81 3 90 dX0_init_23 rfl lac_int rfl (And.intro (fun h => nomatch h) (fun h => nomatch h)) (fun _ h => nomatch h) sh_81 (by decide) (by decide) (by decide) ⟨rfl, rfl, rfl⟩ (by decide) hz (by decide) (fun hz => ?_)
  refine qa_putR dX0_init_25 lf_X0_18 (Or.inl ⟨_, rfl⟩) sh_78 (by decide) (Or.inr ⟨rfl, rfl⟩) (by decide) ?_
  have hz := qa_Zp (a := 78) (k := 3) (v := 81) hz (by decide)
  refine qa_ald0 dX0_init_28 ?_
  refine qa_bipush (v := 20) dX0_init_29 (by decide) ?_
  refine qc_newa (t := 0) (ty := .int) 20 82 4 110 dX0_init_31 rfl lac_int rfl (And.intro (fun h => nomatch h) (fun h => nomatch h)) (fun _ h => nomatch h) sh_82 (by decide) (by decide) (by decide) ⟨rfl, rfl, rfl⟩ (by decide) hz (by decide) (fun hz => ?_)
  refine qa_putR dX0_init_33 lf_X0_21 (Or.inl ⟨_, rfl⟩) sh_78 (by decide) (Or.inr ⟨rfl, rfl⟩) (by decide) ?_
  have hz := qa_Zp (a := 78) (k := 4) (v := 82) hz (by decide)
  exact qa_vret rfl dX0_init_36 ⟨rfl, rfl⟩ ⟨rfl, rfl, rfl, hz⟩
def ci_X6_71 (μ : qa_M) : qa_M := (qa_uP (ci_X0_78 (qa_uP (qa_uP (qa_uP (qa_uP (qa_uP (qa_uP μ 71 11 72) 71 12 73) 71 13 74) 71 14 75) 71 15 76) 71 16 77)) 71 17 78)
set_option maxRecDepth 100000 in
theorem nci_X6_71 (l : Launch) {μ : qa_M} (hz : qa_Z μ 71) : qa_Met l yX6_init cX6_init 1 none 2 11 164 [.ref 71] 71 μ (fun r N' μ' => r = none ∧ N' = 82 ∧ μ' = ci_X6_71 μ ∧ qa_Z μ' 82) := by
  refine qa_ofG (by decide) (by decide) ?_
  change qa_G l yX6_init cX6_init 1 none 2 11 164 (fun r N' μ' => r = none ∧ N' = 82 ∧ μ' = ci_X6_71 μ ∧ qa_Z μ' 82) 0 0 0 [some (.ref 71)] [] 71 μ
  refine qa_ald0 dX6_init_0 ?_
  refine qa_objInit dX6_init_1 loi_X6_3 loi_i loi_c (by decide) ?_
  refine qa_ald0 dX6_init_4 ?_
  refine qa_bipush (v := 8) dX6_init_5 (by decide) ?_
  refine qc_newa (t := 0) (ty := .int) 8 72 1 8 dX6_init_7 rfl lac_int rfl (And.intro (fun h => nomatch h) (fun h => nomatch h)) (fun _ h => nomatch h) sh_72 (by decide) (by decide) (by decide) ⟨rfl, rfl, rfl⟩ (by decide) hz (by decide) (fun hz => ?_)
  refine qa_putR dX6_init_9 lf_X6_9 (Or.inl ⟨_, rfl⟩) sh_71 (by decide) (Or.inr ⟨rfl, rfl⟩) (by decide) ?_
  have hz := qa_Zp (a := 71) (k := 11) (v := 72) hz (by decide)
  refine qa_ald0 dX6_init_12 ?_
  refine qa_bipush (v := 8) dX6_init_13 (by decide) ?_
  refine qc_newa (t := 0) (ty := .int) 8 73 2 16 dX6_init_15 rfl lac_int rfl (And.intro (fun h => nomatch h) (fun h => nomatch h)) (fun _ h => nomatch h) sh_73 (by decide) (by decide) (by decide) ⟨rfl, rfl, rfl⟩ (by decide) hz (by decide) (fun hz => ?_)
  refine qa_putR dX6_init_17 lf_X6_15 (Or.inl ⟨_, rfl⟩) sh_71 (by decide) (Or.inr ⟨rfl, rfl⟩) (by decide) ?_
  have hz := qa_Zp (a := 71) (k := 12) (v := 73) hz (by decide)
  refine qa_ald0 dX6_init_20 ?_
  refine qa_bipush (v := 8) dX6_init_21 (by decide) ?_
  refine qc_newa (t := 0) (ty := .int) 8 74 3 24 dX6_init_23 rfl lac_int rfl (And.intro (fun h => nomatch h) (fun h => nomatch h)) (fun _ h => nomatch h) sh_74 (by decide) (by decide) (by decide) ⟨rfl, rfl, rfl⟩ (by decide) hz (by decide) (fun hz => ?_)
  refine qa_putR dX6_init_25 lf_X6_18 (Or.inl ⟨_, rfl⟩) sh_71 (by decide) (Or.inr ⟨rfl, rfl⟩) (by decide) ?_
  have hz := qa_Zp (a := 71) (k := 13) (v := 74) hz (by decide)
  refine qa_ald0 dX6_init_28 ?_
  refine qa_bipush (v := 8) dX6_init_29 (by decide) ?_
  refine qc_newa (t := 0) (ty := .int) 8 75 4 32 dX6_init_31 rfl lac_int rfl (And.intro (fun h => nomatch h) (fun h => nomatch h)) (fun _ h => nomatch h) sh_75 (by decide) (by decide) (by decide) ⟨rfl, rfl, rfl⟩ (by decide) hz (by decide) (fun hz => ?_)
  refine qa_putR dX6_init_33 lf_X6_21 (Or.inl ⟨_, rfl⟩) sh_71 (by decide) (Or.inr ⟨rfl, rfl⟩) (by decide) ?_
  have hz := qa_Zp (a := 71) (k := 14) (v := 75) hz (by decide)
  refine qa_ald0 dX6_init_36 ?_
  refine qa_bipush (v := 8) dX6_init_37 (by decide) ?_
  refine qc_newa (t := 0) (ty := .int) 8 76 5 40 dX6_init_39 rfl lac_int rfl (And.intro (fun h => nomatch h) (fun h => nomatch h)) (fun _ h => nomatch h) sh_76 (by decide) (by decide) (by decide) ⟨rfl, rfl, rfl⟩ (by decide) hz (by decide) (fun hz => ?_)
  refine qa_putR dX6_init_41 lf_X6_24 (Or.inl ⟨_, rfl⟩) sh_71 (by decide) (Or.inr ⟨rfl, rfl⟩) (by decide) ?_
  have hz := qa_Zp (a := 71) (k := 15) (v := 76) hz (by decide)
  refine qa_ald0 dX6_init_44 ?_
  refine qa_bipush (v := 8) dX6_init_45 (by decide) ?_
  refine qc_newa (t := 0) (ty := .int) 8 77 6 48 dX6_init_47 rfl lac_int rfl (And.intro (fun h => nomatch h) (fun h => nomatch h)) (fun _ h => nomatch h) sh_77 (by decide) (by decide) (by decide) ⟨rfl, rfl, rfl⟩ (by decide) hz (by decide) (fun hz => ?_)
  refine qa_putR dX6_init_49 lf_X6_27 (Or.inl ⟨_, rfl⟩) sh_71 (by decide) (Or.inr ⟨rfl, rfl⟩) (by decide) ?_
  have hz := qa_Zp (a := 71) (k := 16) (v := 77) hz (by decide)
  refine qa_ald0 dX6_init_52 ?_
  refine qc_new 78 7 54 dX6_init_53 lcl_X6_30 lin_0 lii_0 qa_cf0 qa_tyok0 sh_78 ⟨rfl, rfl, rfl⟩ (by decide) hz (by decide) (fun hz => ?_)
  refine qa_dup dX6_init_56 rfl ?_
  refine qc_callI (a := 78) [] [.ref 78, .ref 71] 11 164 (nci_X0_78 l hz) dX6_init_57 (Or.inr lm_X6_32) rfl rfl (by decide) ⟨rfl, rfl⟩ (by decide) (Nat.le_of_ble_eq_true rfl) (fun hz => ?_)
  refine qa_putR dX6_init_60 lf_X6_33 (Or.inr ⟨_, rfl⟩) sh_71 (by decide) (Or.inr ⟨rfl, rfl⟩) (by decide) ?_
  have hz := qa_Zp (a := 71) (k := 17) (v := 78) hz (by decide)
  exact qa_vret rfl dX6_init_63 ⟨rfl, rfl⟩ ⟨rfl, rfl, rfl, hz⟩
def ci_X3_83 (μ : qa_M) : qa_M := (qa_uI (qa_uP μ 83 0 84) 83 2 (-1))
set_option maxRecDepth 100000 in
theorem nci_X3_83 (l : Launch) {μ : qa_M} (hz : qa_Z μ 83) : qa_Met l yX3_init cX3_init 1 none 1 1 60 [.ref 83] 83 μ (fun r N' μ' => r = none ∧ N' = 84 ∧ μ' = ci_X3_83 μ ∧ qa_Z μ' 84) := by
  refine qa_ofG (by decide) (by decide) ?_
  change qa_G l yX3_init cX3_init 1 none 1 1 60 (fun r N' μ' => r = none ∧ N' = 84 ∧ μ' = ci_X3_83 μ ∧ qa_Z μ' 84) 0 0 0 [some (.ref 83)] [] 83 μ
  refine qa_ald0 dX3_init_0 ?_
  refine qa_objInit dX3_init_1 loi_X3_3 loi_i loi_c (by decide) ?_
  refine qa_ald0 dX3_init_4 ?_
  refine qa_bipush (v := 60) dX3_init_5 (by decide) ?_
  refine qc_newa (t := 3) (ty := .long) 60 84 1 60 dX3_init_7 rfl lac_long rfl (And.intro (fun h => nomatch h) (fun h => nomatch h)) (fun _ h => nomatch h) sh_84 (by decide) (by decide) (by decide) ⟨rfl, rfl, rfl⟩ (by decide) hz (by decide) (fun hz => ?_)
  refine qa_putR dX3_init_9 lf_X3_9 (Or.inl ⟨_, rfl⟩) sh_83 (by decide) (Or.inr ⟨rfl, rfl⟩) (by decide) ?_
  have hz := qa_Zp (a := 83) (k := 0) (v := 84) hz (by decide)
  refine qa_ald0 dX3_init_12 ?_
  refine qa_iconst (v := -1) dX3_init_13 (by decide) ?_
  refine qa_putI dX3_init_14 lf_X3_15 rfl sh_83 (by decide) rfl ?_
  have hz := qa_Zi (a := 83) (k := 2) (v := -1) hz (by decide)
  exact qa_vret rfl dX3_init_17 ⟨rfl, rfl⟩ ⟨rfl, rfl, rfl, hz⟩
def ci_X3_85 (μ : qa_M) : qa_M := (qa_uI (qa_uP μ 85 0 86) 85 2 (-1))
set_option maxRecDepth 100000 in
theorem nci_X3_85 (l : Launch) {μ : qa_M} (hz : qa_Z μ 85) : qa_Met l yX3_init cX3_init 1 none 1 1 60 [.ref 85] 85 μ (fun r N' μ' => r = none ∧ N' = 86 ∧ μ' = ci_X3_85 μ ∧ qa_Z μ' 86) := by
  refine qa_ofG (by decide) (by decide) ?_
  change qa_G l yX3_init cX3_init 1 none 1 1 60 (fun r N' μ' => r = none ∧ N' = 86 ∧ μ' = ci_X3_85 μ ∧ qa_Z μ' 86) 0 0 0 [some (.ref 85)] [] 85 μ
  refine qa_ald0 dX3_init_0 ?_
  refine qa_objInit dX3_init_1 loi_X3_3 loi_i loi_c (by decide) ?_
  refine qa_ald0 dX3_init_4 ?_
  refine qa_bipush (v := 60) dX3_init_5 (by decide) ?_
  refine qc_newa (t := 3) (ty := .long) 60 86 1 60 dX3_init_7 rfl lac_long rfl (And.intro (fun h => nomatch h) (fun h => nomatch h)) (fun _ h => nomatch h) sh_86 (by decide) (by decide) (by decide) ⟨rfl, rfl, rfl⟩ (by decide) hz (by decide) (fun hz => ?_)
  refine qa_putR dX3_init_9 lf_X3_9 (Or.inl ⟨_, rfl⟩) sh_85 (by decide) (Or.inr ⟨rfl, rfl⟩) (by decide) ?_
  have hz := qa_Zp (a := 85) (k := 0) (v := 86) hz (by decide)
  refine qa_ald0 dX3_init_12 ?_
  refine qa_iconst (v := -1) dX3_init_13 (by decide) ?_
  refine qa_putI dX3_init_14 lf_X3_15 rfl sh_85 (by decide) rfl ?_
  have hz := qa_Zi (a := 85) (k := 2) (v := -1) hz (by decide)
  exact qa_vret rfl dX3_init_17 ⟨rfl, rfl⟩ ⟨rfl, rfl, rfl, hz⟩
def ci_X3_87 (μ : qa_M) : qa_M := (qa_uI (qa_uP μ 87 0 88) 87 2 (-1))
set_option maxRecDepth 100000 in
theorem nci_X3_87 (l : Launch) {μ : qa_M} (hz : qa_Z μ 87) : qa_Met l yX3_init cX3_init 1 none 1 1 60 [.ref 87] 87 μ (fun r N' μ' => r = none ∧ N' = 88 ∧ μ' = ci_X3_87 μ ∧ qa_Z μ' 88) := by
  refine qa_ofG (by decide) (by decide) ?_
  change qa_G l yX3_init cX3_init 1 none 1 1 60 (fun r N' μ' => r = none ∧ N' = 88 ∧ μ' = ci_X3_87 μ ∧ qa_Z μ' 88) 0 0 0 [some (.ref 87)] [] 87 μ
  refine qa_ald0 dX3_init_0 ?_
  refine qa_objInit dX3_init_1 loi_X3_3 loi_i loi_c (by decide) ?_
  refine qa_ald0 dX3_init_4 ?_
  refine qa_bipush (v := 60) dX3_init_5 (by decide) ?_
  refine qc_newa (t := 3) (ty := .long) 60 88 1 60 dX3_init_7 rfl lac_long rfl (And.intro (fun h => nomatch h) (fun h => nomatch h)) (fun _ h => nomatch h) sh_88 (by decide) (by decide) (by decide) ⟨rfl, rfl, rfl⟩ (by decide) hz (by decide) (fun hz => ?_)
  refine qa_putR dX3_init_9 lf_X3_9 (Or.inl ⟨_, rfl⟩) sh_87 (by decide) (Or.inr ⟨rfl, rfl⟩) (by decide) ?_
  have hz := qa_Zp (a := 87) (k := 0) (v := 88) hz (by decide)
  refine qa_ald0 dX3_init_12 ?_
  refine qa_iconst (v := -1) dX3_init_13 (by decide) ?_
  refine qa_putI dX3_init_14 lf_X3_15 rfl sh_87 (by decide) rfl ?_
  have hz := qa_Zi (a := 87) (k := 2) (v := -1) hz (by decide)
  exact qa_vret rfl dX3_init_17 ⟨rfl, rfl⟩ ⟨rfl, rfl, rfl, hz⟩
def ci_X3_89 (μ : qa_M) : qa_M := (qa_uI (qa_uP μ 89 0 90) 89 2 (-1))
set_option maxRecDepth 100000 in
theorem nci_X3_89 (l : Launch) {μ : qa_M} (hz : qa_Z μ 89) : qa_Met l yX3_init cX3_init 1 none 1 1 60 [.ref 89] 89 μ (fun r N' μ' => r = none ∧ N' = 90 ∧ μ' = ci_X3_89 μ ∧ qa_Z μ' 90) := by
  refine qa_ofG (by decide) (by decide) ?_
  change qa_G l yX3_init cX3_init 1 none 1 1 60 (fun r N' μ' => r = none ∧ N' = 90 ∧ μ' = ci_X3_89 μ ∧ qa_Z μ' 90) 0 0 0 [some (.ref 89)] [] 89 μ
  refine qa_ald0 dX3_init_0 ?_
  refine qa_objInit dX3_init_1 loi_X3_3 loi_i loi_c (by decide) ?_
  refine qa_ald0 dX3_init_4 ?_
  refine qa_bipush (v := 60) dX3_init_5 (by decide) ?_
  refine qc_newa (t := 3) (ty := .long) 60 90 1 60 dX3_init_7 rfl lac_long rfl (And.intro (fun h => nomatch h) (fun h => nomatch h)) (fun _ h => nomatch h) sh_90 (by decide) (by decide) (by decide) ⟨rfl, rfl, rfl⟩ (by decide) hz (by decide) (fun hz => ?_)
  refine qa_putR dX3_init_9 lf_X3_9 (Or.inl ⟨_, rfl⟩) sh_89 (by decide) (Or.inr ⟨rfl, rfl⟩) (by decide) ?_
  have hz := qa_Zp (a := 89) (k := 0) (v := 90) hz (by decide)
  refine qa_ald0 dX3_init_12 ?_
  refine qa_iconst (v := -1) dX3_init_13 (by decide) ?_
  refine qa_putI dX3_init_14 lf_X3_15 rfl sh_89 (by decide) rfl ?_
  have hz := qa_Zi (a := 89) (k := 2) (v := -1) hz (by decide)
  exact qa_vret rfl dX3_init_17 ⟨rfl, rfl⟩ ⟨rfl, rfl, rfl, hz⟩
def ci_X8_1 (μ : qa_M) : qa_M := (qa_uP (ci_X3_89 (qa_uP (ci_X3_87 (qa_uP (ci_X3_85 (qa_uP (ci_X3_83 (qa_uP (ci_X6_71 (qa_uP (ci_X6_59 (qa_uP (ci_X6_47 (qa_uI (qa_uP (qa_uP (ci_X5_44 (qa_uP (ci_X4_42 (qa_uP (ci_X7_37 (qa_uP (ci_X7_32 (qa_uP (ci_X1_31 (qa_uP (qa_uP (qa_uP (qa_uP (ci_X6_16 (qa_uP (ci_X2_2 μ) 1 0 2)) 1 2 16) 1 5 28) 1 6 29) 1 7 30)) 1 8 31)) 1 9 32)) 1 10 37)) 1 11 42)) 1 1 44) 1 3 46) 1 4 (0))) 28 (0 : Int32).toNatClampNeg 47)) 28 (1 : Int32).toNatClampNeg 59)) 28 (2 : Int32).toNatClampNeg 71)) 30 (0 : Int32).toNatClampNeg 83)) 30 (1 : Int32).toNatClampNeg 85)) 30 (2 : Int32).toNatClampNeg 87)) 30 (3 : Int32).toNatClampNeg 89)
set_option maxRecDepth 100000 in
theorem nci_X8_1 (l : Launch) {μ : qa_M} (hz : qa_Z μ 1) : qa_Met l yX8_init cX8_init 2 none 4 89 8915 [.ref 1] 1 μ (fun r N' μ' => r = none ∧ N' = 90 ∧ μ' = ci_X8_1 μ ∧ qa_Z μ' 90) := by
  refine qa_ofG (by decide) (by decide) ?_
  change qa_G l yX8_init cX8_init 2 none 4 89 8915 (fun r N' μ' => r = none ∧ N' = 90 ∧ μ' = ci_X8_1 μ ∧ qa_Z μ' 90) 0 0 0 [some (.ref 1), none] [] 1 μ
  refine qa_ald0 dX8_init_0 ?_
  refine qa_objInit dX8_init_1 loi_X8_1 loi_i loi_c (by decide) ?_
  refine qa_ald0 dX8_init_4 ?_
  refine qc_new 2 1 9 dX8_init_5 lcl_X8_7 lin_2 lii_2 qa_cf2 qa_tyok2 sh_2 ⟨rfl, rfl, rfl⟩ (by decide) hz (by decide) (fun hz => ?_)
  refine qa_dup dX8_init_8 rfl ?_
  refine qc_callI (a := 2) [] [.ref 2, .ref 1] 14 991 (nci_X2_2 l hz) dX8_init_9 (Or.inr lm_X8_9) rfl rfl (by decide) ⟨rfl, rfl⟩ (by decide) (Nat.le_of_ble_eq_true rfl) (fun hz => ?_)
  refine qa_putR dX8_init_12 lf_X8_10 (Or.inr ⟨_, rfl⟩) sh_1 (by decide) (Or.inr ⟨rfl, rfl⟩) (by decide) ?_
  have hz := qa_Zp (a := 1) (k := 0) (v := 2) hz (by decide)
  refine qa_ald0 dX8_init_15 ?_
  refine qc_new 16 15 1009 dX8_init_16 lcl_X8_16 lin_6 lii_6 qa_cf6 qa_tyok6 sh_16 ⟨rfl, rfl, rfl⟩ (by decide) hz (by decide) (fun hz => ?_)
  refine qa_dup dX8_init_19 rfl ?_
  refine qc_callI (a := 16) [] [.ref 16, .ref 1] 26 1173 (nci_X6_16 l hz) dX8_init_20 (Or.inr lm_X8_18) rfl rfl (by decide) ⟨rfl, rfl⟩ (by decide) (Nat.le_of_ble_eq_true rfl) (fun hz => ?_)
  refine qa_putR dX8_init_23 lf_X8_19 (Or.inr ⟨_, rfl⟩) sh_1 (by decide) (Or.inl rfl) (by decide) ?_
  have hz := qa_Zp (a := 1) (k := 2) (v := 16) hz (by decide)
  refine qa_ald0 dX8_init_26 ?_
  refine qa_iconst (v := 3) dX8_init_27 (by decide) ?_
  refine qc_anew (t := 5) (Cn := "PivotStreet$Town") 3 28 27 1176 dX8_init_28 lcl_X8_16 (Or.inl rfl) rfl sh_28 (by decide) (by decide) (by decide) ⟨rfl, rfl, rfl⟩ (by decide) hz (by decide) (fun hz => ?_)
  refine qa_putR dX8_init_31 lf_X8_23 (Or.inl ⟨_, rfl⟩) sh_1 (by decide) (Or.inr ⟨rfl, rfl⟩) (by decide) ?_
  have hz := qa_Zp (a := 1) (k := 5) (v := 28) hz (by decide)
  refine qa_ald0 dX8_init_34 ?_
  refine qa_iconst (v := 3) dX8_init_35 (by decide) ?_
  refine qc_newa (t := 2) (ty := .boolean) 3 29 28 1179 dX8_init_36 rfl lac_boolean rfl (And.intro (fun h => nomatch h) (fun h => nomatch h)) (fun _ h => nomatch h) sh_29 (by decide) (by decide) (by decide) ⟨rfl, rfl, rfl⟩ (by decide) hz (by decide) (fun hz => ?_)
  refine qa_putR dX8_init_38 lf_X8_27 (Or.inl ⟨_, rfl⟩) sh_1 (by decide) (Or.inr ⟨rfl, rfl⟩) (by decide) ?_
  have hz := qa_Zp (a := 1) (k := 6) (v := 29) hz (by decide)
  refine qa_ald0 dX8_init_41 ?_
  refine qa_iconst (v := 4) dX8_init_42 (by decide) ?_
  refine qc_anew (t := 6) (Cn := "PivotStreet$Row") 4 30 29 1183 dX8_init_43 lcl_X8_31 (Or.inr rfl) rfl sh_30 (by decide) (by decide) (by decide) ⟨rfl, rfl, rfl⟩ (by decide) hz (by decide) (fun hz => ?_)
  refine qa_putR dX8_init_46 lf_X8_33 (Or.inl ⟨_, rfl⟩) sh_1 (by decide) (Or.inr ⟨rfl, rfl⟩) (by decide) ?_
  have hz := qa_Zp (a := 1) (k := 7) (v := 30) hz (by decide)
  refine qa_ald0 dX8_init_49 ?_
  refine qc_new 31 30 1191 dX8_init_50 lcl_X8_37 lin_1 lii_1 qa_cf1 qa_tyok1 sh_31 ⟨rfl, rfl, rfl⟩ (by decide) hz (by decide) (fun hz => ?_)
  refine qa_dup dX8_init_53 rfl ?_
  refine qc_callI (a := 31) [] [.ref 31, .ref 1] 30 1191 (nci_X1_31 l hz) dX8_init_54 (Or.inr lm_X8_39) rfl rfl (by decide) ⟨rfl, rfl⟩ (by decide) (Nat.le_of_ble_eq_true rfl) (fun hz => ?_)
  refine qa_putR dX8_init_57 lf_X8_40 (Or.inr ⟨_, rfl⟩) sh_1 (by decide) (Or.inr ⟨rfl, rfl⟩) (by decide) ?_
  have hz := qa_Zp (a := 1) (k := 8) (v := 31) hz (by decide)
  refine qa_ald0 dX8_init_60 ?_
  refine qc_new 32 31 1195 dX8_init_61 lcl_X8_44 lin_7 lii_7 qa_cf7 qa_tyok7 sh_32 ⟨rfl, rfl, rfl⟩ (by decide) hz (by decide) (fun hz => ?_)
  refine qa_dup dX8_init_64 rfl ?_
  refine qc_callI (a := 32) [] [.ref 32, .ref 1] 35 1563 (nci_X7_32 l hz) dX8_init_65 (Or.inr lm_X8_46) rfl rfl (by decide) ⟨rfl, rfl⟩ (by decide) (Nat.le_of_ble_eq_true rfl) (fun hz => ?_)
  refine qa_putR dX8_init_68 lf_X8_47 (Or.inr ⟨_, rfl⟩) sh_1 (by decide) (Or.inr ⟨rfl, rfl⟩) (by decide) ?_
  have hz := qa_Zp (a := 1) (k := 9) (v := 32) hz (by decide)
  refine qa_ald0 dX8_init_71 ?_
  refine qc_new 37 36 1567 dX8_init_72 lcl_X8_44 lin_7 lii_7 qa_cf7 qa_tyok7 sh_37 ⟨rfl, rfl, rfl⟩ (by decide) hz (by decide) (fun hz => ?_)
  refine qa_dup dX8_init_75 rfl ?_
  refine qc_callI (a := 37) [] [.ref 37, .ref 1] 40 1935 (nci_X7_37 l hz) dX8_init_76 (Or.inr lm_X8_46) rfl rfl (by decide) ⟨rfl, rfl⟩ (by decide) (Nat.le_of_ble_eq_true rfl) (fun hz => ?_)
  refine qa_putR dX8_init_79 lf_X8_51 (Or.inr ⟨_, rfl⟩) sh_1 (by decide) (Or.inr ⟨rfl, rfl⟩) (by decide) ?_
  have hz := qa_Zp (a := 1) (k := 10) (v := 37) hz (by decide)
  refine qa_ald0 dX8_init_82 ?_
  refine qc_new 42 41 1939 dX8_init_83 lcl_X8_54 lin_4 lii_4 qa_cf4 qa_tyok4 sh_42 ⟨rfl, rfl, rfl⟩ (by decide) hz (by decide) (fun hz => ?_)
  refine qa_dup dX8_init_86 rfl ?_
  refine qc_callI (a := 42) [] [.ref 42, .ref 1] 42 7059 (nci_X4_42 l hz) dX8_init_87 (Or.inr lm_X8_56) rfl rfl (by decide) ⟨rfl, rfl⟩ (by decide) (Nat.le_of_ble_eq_true rfl) (fun hz => ?_)
  refine qa_putR dX8_init_90 lf_X8_57 (Or.inr ⟨_, rfl⟩) sh_1 (by decide) (Or.inr ⟨rfl, rfl⟩) (by decide) ?_
  have hz := qa_Zp (a := 1) (k := 11) (v := 42) hz (by decide)
  refine qa_ald0 dX8_init_93 ?_
  refine qc_new 44 43 7060 dX8_init_94 lcl_X8_61 lin_5 lii_5 qa_cf5 qa_tyok5 sh_44 ⟨rfl, rfl, rfl⟩ (by decide) hz (by decide) (fun hz => ?_)
  refine qa_dup dX8_init_97 rfl ?_
  refine qc_callI (a := 44) [] [.ref 44, .ref 1] 44 7861 (nci_X5_44 l hz) dX8_init_98 (Or.inr lm_X8_63) rfl rfl (by decide) ⟨rfl, rfl⟩ (by decide) (Nat.le_of_ble_eq_true rfl) (fun hz => ?_)
  refine qa_putR dX8_init_101 lf_X8_64 (Or.inr ⟨_, rfl⟩) sh_1 (by decide) (Or.inr ⟨rfl, rfl⟩) (by decide) ?_
  have hz := qa_Zp (a := 1) (k := 1) (v := 44) hz (by decide)
  refine qa_ald0 dX8_init_104 ?_
  refine qa_sipush (v := 256) dX8_init_105 (by decide) ?_
  refine qc_newa (t := 0) (ty := .int) 256 46 45 8117 dX8_init_108 rfl lac_int rfl (And.intro (fun h => nomatch h) (fun h => nomatch h)) (fun _ h => nomatch h) sh_46 (by decide) (by decide) (by decide) ⟨rfl, rfl, rfl⟩ (by decide) hz (by decide) (fun hz => ?_)
  refine qa_putR dX8_init_110 lf_X8_68 (Or.inl ⟨_, rfl⟩) sh_1 (by decide) (Or.inr ⟨rfl, rfl⟩) (by decide) ?_
  have hz := qa_Zp (a := 1) (k := 3) (v := 46) hz (by decide)
  refine qa_ald0 dX8_init_113 ?_
  refine qa_iconst (v := 0) dX8_init_114 (by decide) ?_
  refine qa_putZ dX8_init_115 lf_X8_72 rfl (Or.inl rfl) sh_1 (by decide) rfl ?_
  have hz := qa_Zi (a := 1) (k := 4) (v := 0) hz (by decide)
  refine qa_iconst (v := 0) dX8_init_118 (by decide) ?_
  refine qa_ist1 dX8_init_119 ?_
  refine qa_ild1 dX8_init_120 ?_
  refine qa_iconst (v := 3) dX8_init_121 (by decide) ?_
  refine qa_icmp_ge (tgt := 144) dX8_init_122 (by decide) (fun c => absurd c (by decide)) (fun _ => ?_)
  refine qa_ald0 dX8_init_125 ?_
  refine qa_getR (r := 28) dX8_init_126 lf_X8_23 rfl sh_1 (by decide) (by simp [qa_uP, qa_uI, qa_u1, ci_X0_10, ci_X0_23, ci_X1_31, ci_X2_2, ci_X4_42, ci_X5_44, ci_X6_16, ci_X6_3, ci_X7_32, ci_X7_37]) (by decide) ?_
  refine qa_ild1 dX8_init_129 ?_
  refine qc_new 47 46 8135 dX8_init_130 lcl_X8_16 lin_6 lii_6 qa_cf6 qa_tyok6 sh_47 ⟨rfl, rfl, rfl⟩ (by decide) hz (by decide) (fun hz => ?_)
  refine qa_dup dX8_init_133 rfl ?_
  refine qc_callI (a := 47) [] [.ref 47, .int 0, .ref 28] 57 8299 (nci_X6_47 l hz) dX8_init_134 (Or.inr lm_X8_18) rfl rfl (by decide) ⟨rfl, rfl⟩ (by decide) (Nat.le_of_ble_eq_true rfl) (fun hz => ?_)
  refine qa_aast (t := 5) dX8_init_137 sh_28 rfl (by decide) (by unfold vp_in; decide) sh_47 rfl (by decide) ?_
  have hz := qa_Zp (a := 28) (k := (0 : Int32).toNatClampNeg) (v := 47) hz (by decide)
  refine qa_inc1 (v := 1) dX8_init_138 (by decide) ?_
  refine qa_goto (tgt := 120) dX8_init_141 (by decide) ?_
  refine qa_ild1 dX8_init_120 ?_
  refine qa_iconst (v := 3) dX8_init_121 (by decide) ?_
  refine qa_icmp_ge (tgt := 144) dX8_init_122 (by decide) (fun c => absurd c (by decide)) (fun _ => ?_)
  refine qa_ald0 dX8_init_125 ?_
  refine qa_getR (r := 28) dX8_init_126 lf_X8_23 rfl sh_1 (by decide) (by simp [qa_uP, qa_uI, qa_u1, ci_X0_10, ci_X0_23, ci_X0_54, ci_X1_31, ci_X2_2, ci_X4_42, ci_X5_44, ci_X6_16, ci_X6_3, ci_X6_47, ci_X7_32, ci_X7_37]) (by decide) ?_
  refine qa_ild1 dX8_init_129 ?_
  refine qc_new 59 58 8317 dX8_init_130 lcl_X8_16 lin_6 lii_6 qa_cf6 qa_tyok6 sh_59 ⟨rfl, rfl, rfl⟩ (by decide) hz (by decide) (fun hz => ?_)
  refine qa_dup dX8_init_133 rfl ?_
  refine qc_callI (a := 59) [] [.ref 59, .int 1, .ref 28] 69 8481 (nci_X6_59 l hz) dX8_init_134 (Or.inr lm_X8_18) rfl rfl (by decide) ⟨rfl, rfl⟩ (by decide) (Nat.le_of_ble_eq_true rfl) (fun hz => ?_)
  refine qa_aast (t := 5) dX8_init_137 sh_28 rfl (by decide) (by unfold vp_in; decide) sh_59 rfl (by decide) ?_
  have hz := qa_Zp (a := 28) (k := (1 : Int32).toNatClampNeg) (v := 59) hz (by decide)
  refine qa_inc1 (v := 2) dX8_init_138 (by decide) ?_
  refine qa_goto (tgt := 120) dX8_init_141 (by decide) ?_
  refine qa_ild1 dX8_init_120 ?_
  refine qa_iconst (v := 3) dX8_init_121 (by decide) ?_
  refine qa_icmp_ge (tgt := 144) dX8_init_122 (by decide) (fun c => absurd c (by decide)) (fun _ => ?_)
  refine qa_ald0 dX8_init_125 ?_
  refine qa_getR (r := 28) dX8_init_126 lf_X8_23 rfl sh_1 (by decide) (by simp [qa_uP, qa_uI, qa_u1, ci_X0_10, ci_X0_23, ci_X0_54, ci_X0_66, ci_X1_31, ci_X2_2, ci_X4_42, ci_X5_44, ci_X6_16, ci_X6_3, ci_X6_47, ci_X6_59, ci_X7_32, ci_X7_37]) (by decide) ?_
  refine qa_ild1 dX8_init_129 ?_
  refine qc_new 71 70 8499 dX8_init_130 lcl_X8_16 lin_6 lii_6 qa_cf6 qa_tyok6 sh_71 ⟨rfl, rfl, rfl⟩ (by decide) hz (by decide) (fun hz => ?_)
  refine qa_dup dX8_init_133 rfl ?_
  refine qc_callI (a := 71) [] [.ref 71, .int 2, .ref 28] 81 8663 (nci_X6_71 l hz) dX8_init_134 (Or.inr lm_X8_18) rfl rfl (by decide) ⟨rfl, rfl⟩ (by decide) (Nat.le_of_ble_eq_true rfl) (fun hz => ?_)
  refine qa_aast (t := 5) dX8_init_137 sh_28 rfl (by decide) (by unfold vp_in; decide) sh_71 rfl (by decide) ?_
  have hz := qa_Zp (a := 28) (k := (2 : Int32).toNatClampNeg) (v := 71) hz (by decide)
  refine qa_inc1 (v := 3) dX8_init_138 (by decide) ?_
  refine qa_goto (tgt := 120) dX8_init_141 (by decide) ?_
  refine qa_ild1 dX8_init_120 ?_
  refine qa_iconst (v := 3) dX8_init_121 (by decide) ?_
  refine qa_icmp_ge (tgt := 144) dX8_init_122 (by decide) (fun _ => ?_) (fun c => absurd c (by decide))
  refine qa_iconst (v := 0) dX8_init_144 (by decide) ?_
  refine qa_ist1 dX8_init_145 ?_
  refine qa_ild1 dX8_init_146 ?_
  refine qa_iconst (v := 4) dX8_init_147 (by decide) ?_
  refine qa_icmp_ge (tgt := 170) dX8_init_148 (by decide) (fun c => absurd c (by decide)) (fun _ => ?_)
  refine qa_ald0 dX8_init_151 ?_
  refine qa_getR (r := 30) dX8_init_152 lf_X8_33 rfl sh_1 (by decide) (by simp [qa_uP, qa_uI, qa_u1, ci_X0_10, ci_X0_23, ci_X0_54, ci_X0_66, ci_X0_78, ci_X1_31, ci_X2_2, ci_X4_42, ci_X5_44, ci_X6_16, ci_X6_3, ci_X6_47, ci_X6_59, ci_X6_71, ci_X7_32, ci_X7_37]) (by decide) ?_
  refine qa_ild1 dX8_init_155 ?_
  refine qc_new 83 82 8666 dX8_init_156 lcl_X8_31 lin_3 lii_3 qa_cf3 qa_tyok3 sh_83 ⟨rfl, rfl, rfl⟩ (by decide) hz (by decide) (fun hz => ?_)
  refine qa_dup dX8_init_159 rfl ?_
  refine qc_callI (a := 83) [] [.ref 83, .int 0, .ref 30] 83 8726 (nci_X3_83 l hz) dX8_init_160 (Or.inr lm_X8_76) rfl rfl (by decide) ⟨rfl, rfl⟩ (by decide) (Nat.le_of_ble_eq_true rfl) (fun hz => ?_)
  refine qa_aast (t := 6) dX8_init_163 sh_30 rfl (by decide) (by unfold vp_in; decide) sh_83 rfl (by decide) ?_
  have hz := qa_Zp (a := 30) (k := (0 : Int32).toNatClampNeg) (v := 83) hz (by decide)
  refine qa_inc1 (v := 1) dX8_init_164 (by decide) ?_
  refine qa_goto (tgt := 146) dX8_init_167 (by decide) ?_
  refine qa_ild1 dX8_init_146 ?_
  refine qa_iconst (v := 4) dX8_init_147 (by decide) ?_
  refine qa_icmp_ge (tgt := 170) dX8_init_148 (by decide) (fun c => absurd c (by decide)) (fun _ => ?_)
  refine qa_ald0 dX8_init_151 ?_
  refine qa_getR (r := 30) dX8_init_152 lf_X8_33 rfl sh_1 (by decide) (by simp [qa_uP, qa_uI, qa_u1, ci_X0_10, ci_X0_23, ci_X0_54, ci_X0_66, ci_X0_78, ci_X1_31, ci_X2_2, ci_X3_83, ci_X4_42, ci_X5_44, ci_X6_16, ci_X6_3, ci_X6_47, ci_X6_59, ci_X6_71, ci_X7_32, ci_X7_37]) (by decide) ?_
  refine qa_ild1 dX8_init_155 ?_
  refine qc_new 85 84 8729 dX8_init_156 lcl_X8_31 lin_3 lii_3 qa_cf3 qa_tyok3 sh_85 ⟨rfl, rfl, rfl⟩ (by decide) hz (by decide) (fun hz => ?_)
  refine qa_dup dX8_init_159 rfl ?_
  refine qc_callI (a := 85) [] [.ref 85, .int 1, .ref 30] 85 8789 (nci_X3_85 l hz) dX8_init_160 (Or.inr lm_X8_76) rfl rfl (by decide) ⟨rfl, rfl⟩ (by decide) (Nat.le_of_ble_eq_true rfl) (fun hz => ?_)
  refine qa_aast (t := 6) dX8_init_163 sh_30 rfl (by decide) (by unfold vp_in; decide) sh_85 rfl (by decide) ?_
  have hz := qa_Zp (a := 30) (k := (1 : Int32).toNatClampNeg) (v := 85) hz (by decide)
  refine qa_inc1 (v := 2) dX8_init_164 (by decide) ?_
  refine qa_goto (tgt := 146) dX8_init_167 (by decide) ?_
  refine qa_ild1 dX8_init_146 ?_
  refine qa_iconst (v := 4) dX8_init_147 (by decide) ?_
  refine qa_icmp_ge (tgt := 170) dX8_init_148 (by decide) (fun c => absurd c (by decide)) (fun _ => ?_)
  refine qa_ald0 dX8_init_151 ?_
  refine qa_getR (r := 30) dX8_init_152 lf_X8_33 rfl sh_1 (by decide) (by simp [qa_uP, qa_uI, qa_u1, ci_X0_10, ci_X0_23, ci_X0_54, ci_X0_66, ci_X0_78, ci_X1_31, ci_X2_2, ci_X3_83, ci_X3_85, ci_X4_42, ci_X5_44, ci_X6_16, ci_X6_3, ci_X6_47, ci_X6_59, ci_X6_71, ci_X7_32, ci_X7_37]) (by decide) ?_
  refine qa_ild1 dX8_init_155 ?_
  refine qc_new 87 86 8792 dX8_init_156 lcl_X8_31 lin_3 lii_3 qa_cf3 qa_tyok3 sh_87 ⟨rfl, rfl, rfl⟩ (by decide) hz (by decide) (fun hz => ?_)
  refine qa_dup dX8_init_159 rfl ?_
  refine qc_callI (a := 87) [] [.ref 87, .int 2, .ref 30] 87 8852 (nci_X3_87 l hz) dX8_init_160 (Or.inr lm_X8_76) rfl rfl (by decide) ⟨rfl, rfl⟩ (by decide) (Nat.le_of_ble_eq_true rfl) (fun hz => ?_)
  refine qa_aast (t := 6) dX8_init_163 sh_30 rfl (by decide) (by unfold vp_in; decide) sh_87 rfl (by decide) ?_
  have hz := qa_Zp (a := 30) (k := (2 : Int32).toNatClampNeg) (v := 87) hz (by decide)
  refine qa_inc1 (v := 3) dX8_init_164 (by decide) ?_
  refine qa_goto (tgt := 146) dX8_init_167 (by decide) ?_
  refine qa_ild1 dX8_init_146 ?_
  refine qa_iconst (v := 4) dX8_init_147 (by decide) ?_
  refine qa_icmp_ge (tgt := 170) dX8_init_148 (by decide) (fun c => absurd c (by decide)) (fun _ => ?_)
  refine qa_ald0 dX8_init_151 ?_
  refine qa_getR (r := 30) dX8_init_152 lf_X8_33 rfl sh_1 (by decide) (by simp [qa_uP, qa_uI, qa_u1, ci_X0_10, ci_X0_23, ci_X0_54, ci_X0_66, ci_X0_78, ci_X1_31, ci_X2_2, ci_X3_83, ci_X3_85, ci_X3_87, ci_X4_42, ci_X5_44, ci_X6_16, ci_X6_3, ci_X6_47, ci_X6_59, ci_X6_71, ci_X7_32, ci_X7_37]) (by decide) ?_
  refine qa_ild1 dX8_init_155 ?_
  refine qc_new 89 88 8855 dX8_init_156 lcl_X8_31 lin_3 lii_3 qa_cf3 qa_tyok3 sh_89 ⟨rfl, rfl, rfl⟩ (by decide) hz (by decide) (fun hz => ?_)
  refine qa_dup dX8_init_159 rfl ?_
  refine qc_callI (a := 89) [] [.ref 89, .int 3, .ref 30] 89 8915 (nci_X3_89 l hz) dX8_init_160 (Or.inr lm_X8_76) rfl rfl (by decide) ⟨rfl, rfl⟩ (by decide) (Nat.le_of_ble_eq_true rfl) (fun hz => ?_)
  refine qa_aast (t := 6) dX8_init_163 sh_30 rfl (by decide) (by unfold vp_in; decide) sh_89 rfl (by decide) ?_
  have hz := qa_Zp (a := 30) (k := (3 : Int32).toNatClampNeg) (v := 89) hz (by decide)
  refine qa_inc1 (v := 4) dX8_init_164 (by decide) ?_
  refine qa_goto (tgt := 146) dX8_init_167 (by decide) ?_
  refine qa_ild1 dX8_init_146 ?_
  refine qa_iconst (v := 4) dX8_init_147 (by decide) ?_
  refine qa_icmp_ge (tgt := 170) dX8_init_148 (by decide) (fun _ => ?_) (fun c => absurd c (by decide))
  exact qa_vret rfl dX8_init_170 ⟨rfl, rfl⟩ ⟨rfl, rfl, rfl, hz⟩
def ci_X9_91 (μ : qa_M) : qa_M := (qa_uP (qa_uP (qa_uP (qa_uP (qa_uI (qa_uI (qa_uI (qa_uI (qa_uP (qa_uP (qa_uP (qa_uP (qa_uP (qa_uP (qa_uP (qa_uP (qa_uP (qa_uP (qa_uP (qa_uP (qa_uP (qa_uI (qa_uP (qa_uP (qa_uP (qa_uP (qa_uP μ 91 1 92) 91 2 93) 91 3 94) 91 4 95) 91 6 96) 91 13 (-1)) 91 14 97) 91 15 98) 91 16 99) 91 17 100) 91 25 101) 91 26 102) 91 27 103) 91 28 104) 91 29 105) 91 30 106) 91 33 107) 91 34 108) 91 37 109) 110 (0 : Int32).toNatClampNeg (-1)) 110 (1 : Int32).toNatClampNeg (-1)) 110 (2 : Int32).toNatClampNeg (-1)) 110 (3 : Int32).toNatClampNeg (-1)) 91 41 110) 91 42 111) 91 43 112) 91 44 113)
set_option maxRecDepth 100000 in
theorem nci_X9_91 (l : Launch) {μ : qa_M} (hz : qa_Z μ 91) : qa_Met l yX9_init cX9_init 1 none 1 22 8531 [.ref 91] 91 μ (fun r N' μ' => r = none ∧ N' = 113 ∧ μ' = ci_X9_91 μ ∧ qa_Z μ' 113) := by
  refine qa_ofG (by decide) (by decide) ?_
  change qa_G l yX9_init cX9_init 1 none 1 22 8531 (fun r N' μ' => r = none ∧ N' = 113 ∧ μ' = ci_X9_91 μ ∧ qa_Z μ' 113) 0 0 0 [some (.ref 91)] [] 91 μ
  refine qa_ald0 dX9_init_0 ?_
  refine qa_objInit dX9_init_1 loi_X9_3 loi_i loi_c (by decide) ?_
  refine qa_ald0 dX9_init_4 ?_
  refine qa_bipush (v := 114) dX9_init_5 (by decide) ?_
  refine qc_newa (t := 0) (ty := .int) 114 92 1 114 dX9_init_7 rfl lac_int rfl (And.intro (fun h => nomatch h) (fun h => nomatch h)) (fun _ h => nomatch h) sh_92 (by decide) (by decide) (by decide) ⟨rfl, rfl, rfl⟩ (by decide) hz (by decide) (fun hz => ?_)
  refine qa_putR dX9_init_9 lf_X9_9 (Or.inl ⟨_, rfl⟩) sh_91 (by decide) (Or.inr ⟨rfl, rfl⟩) (by decide) ?_
  have hz := qa_Zp (a := 91) (k := 1) (v := 92) hz (by decide)
  refine qa_ald0 dX9_init_12 ?_
  refine qa_sipush (v := 342) dX9_init_13 (by decide) ?_
  refine qc_newa (t := 0) (ty := .int) 342 93 2 456 dX9_init_16 rfl lac_int rfl (And.intro (fun h => nomatch h) (fun h => nomatch h)) (fun _ h => nomatch h) sh_93 (by decide) (by decide) (by decide) ⟨rfl, rfl, rfl⟩ (by decide) hz (by decide) (fun hz => ?_)
  refine qa_putR dX9_init_18 lf_X9_13 (Or.inl ⟨_, rfl⟩) sh_91 (by decide) (Or.inr ⟨rfl, rfl⟩) (by decide) ?_
  have hz := qa_Zp (a := 91) (k := 2) (v := 93) hz (by decide)
  refine qa_ald0 dX9_init_21 ?_
  refine qa_iconst (v := 3) dX9_init_22 (by decide) ?_
  refine qc_newa (t := 2) (ty := .boolean) 3 94 3 459 dX9_init_23 rfl lac_boolean rfl (And.intro (fun h => nomatch h) (fun h => nomatch h)) (fun _ h => nomatch h) sh_94 (by decide) (by decide) (by decide) ⟨rfl, rfl, rfl⟩ (by decide) hz (by decide) (fun hz => ?_)
  refine qa_putR dX9_init_25 lf_X9_16 (Or.inl ⟨_, rfl⟩) sh_91 (by decide) (Or.inr ⟨rfl, rfl⟩) (by decide) ?_
  have hz := qa_Zp (a := 91) (k := 3) (v := 94) hz (by decide)
  refine qa_ald0 dX9_init_28 ?_
  refine qa_sipush (v := 800) dX9_init_29 (by decide) ?_
  refine qc_newa (t := 1) (ty := .byte) 800 95 4 1259 dX9_init_32 rfl lac_byte rfl (And.intro (fun h => nomatch h) (fun h => nomatch h)) (fun _ h => nomatch h) sh_95 (by decide) (by decide) (by decide) ⟨rfl, rfl, rfl⟩ (by decide) hz (by decide) (fun hz => ?_)
  refine qa_putR dX9_init_34 lf_X9_20 (Or.inl ⟨_, rfl⟩) sh_91 (by decide) (Or.inr ⟨rfl, rfl⟩) (by decide) ?_
  have hz := qa_Zp (a := 91) (k := 4) (v := 95) hz (by decide)
  refine qa_ald0 dX9_init_37 ?_
  refine qa_iconst (v := 5) dX9_init_38 (by decide) ?_
  refine qc_newa (t := 0) (ty := .int) 5 96 5 1264 dX9_init_39 rfl lac_int rfl (And.intro (fun h => nomatch h) (fun h => nomatch h)) (fun _ h => nomatch h) sh_96 (by decide) (by decide) (by decide) ⟨rfl, rfl, rfl⟩ (by decide) hz (by decide) (fun hz => ?_)
  refine qa_putR dX9_init_41 lf_X9_24 (Or.inl ⟨_, rfl⟩) sh_91 (by decide) (Or.inr ⟨rfl, rfl⟩) (by decide) ?_
  have hz := qa_Zp (a := 91) (k := 6) (v := 96) hz (by decide)
  refine qa_ald0 dX9_init_44 ?_
  refine qa_iconst (v := -1) dX9_init_45 (by decide) ?_
  refine qa_putI dX9_init_46 lf_X9_27 rfl sh_91 (by decide) rfl ?_
  have hz := qa_Zi (a := 91) (k := 13) (v := -1) hz (by decide)
  refine qa_ald0 dX9_init_49 ?_
  refine qa_bipush (v := 114) dX9_init_50 (by decide) ?_
  refine qc_newa (t := 0) (ty := .int) 114 97 6 1378 dX9_init_52 rfl lac_int rfl (And.intro (fun h => nomatch h) (fun h => nomatch h)) (fun _ h => nomatch h) sh_97 (by decide) (by decide) (by decide) ⟨rfl, rfl, rfl⟩ (by decide) hz (by decide) (fun hz => ?_)
  refine qa_putR dX9_init_54 lf_X9_31 (Or.inl ⟨_, rfl⟩) sh_91 (by decide) (Or.inr ⟨rfl, rfl⟩) (by decide) ?_
  have hz := qa_Zp (a := 91) (k := 14) (v := 97) hz (by decide)
  refine qa_ald0 dX9_init_57 ?_
  refine qa_bipush (v := 8) dX9_init_58 (by decide) ?_
  refine qc_newa (t := 0) (ty := .int) 8 98 7 1386 dX9_init_60 rfl lac_int rfl (And.intro (fun h => nomatch h) (fun h => nomatch h)) (fun _ h => nomatch h) sh_98 (by decide) (by decide) (by decide) ⟨rfl, rfl, rfl⟩ (by decide) hz (by decide) (fun hz => ?_)
  refine qa_putR dX9_init_62 lf_X9_34 (Or.inl ⟨_, rfl⟩) sh_91 (by decide) (Or.inr ⟨rfl, rfl⟩) (by decide) ?_
  have hz := qa_Zp (a := 91) (k := 15) (v := 98) hz (by decide)
  refine qa_ald0 dX9_init_65 ?_
  refine qa_bipush (v := 8) dX9_init_66 (by decide) ?_
  refine qc_newa (t := 0) (ty := .int) 8 99 8 1394 dX9_init_68 rfl lac_int rfl (And.intro (fun h => nomatch h) (fun h => nomatch h)) (fun _ h => nomatch h) sh_99 (by decide) (by decide) (by decide) ⟨rfl, rfl, rfl⟩ (by decide) hz (by decide) (fun hz => ?_)
  refine qa_putR dX9_init_70 lf_X9_37 (Or.inl ⟨_, rfl⟩) sh_91 (by decide) (Or.inr ⟨rfl, rfl⟩) (by decide) ?_
  have hz := qa_Zp (a := 91) (k := 16) (v := 99) hz (by decide)
  refine qa_ald0 dX9_init_73 ?_
  refine qa_bipush (v := 20) dX9_init_74 (by decide) ?_
  refine qc_newa (t := 0) (ty := .int) 20 100 9 1414 dX9_init_76 rfl lac_int rfl (And.intro (fun h => nomatch h) (fun h => nomatch h)) (fun _ h => nomatch h) sh_100 (by decide) (by decide) (by decide) ⟨rfl, rfl, rfl⟩ (by decide) hz (by decide) (fun hz => ?_)
  refine qa_putR dX9_init_78 lf_X9_40 (Or.inl ⟨_, rfl⟩) sh_91 (by decide) (Or.inr ⟨rfl, rfl⟩) (by decide) ?_
  have hz := qa_Zp (a := 91) (k := 17) (v := 100) hz (by decide)
  refine qa_ald0 dX9_init_81 ?_
  refine qa_sipush (v := 168) dX9_init_82 (by decide) ?_
  refine qc_newa (t := 0) (ty := .int) 168 101 10 1582 dX9_init_85 rfl lac_int rfl (And.intro (fun h => nomatch h) (fun h => nomatch h)) (fun _ h => nomatch h) sh_101 (by decide) (by decide) (by decide) ⟨rfl, rfl, rfl⟩ (by decide) hz (by decide) (fun hz => ?_)
  refine qa_putR dX9_init_87 lf_X9_43 (Or.inl ⟨_, rfl⟩) sh_91 (by decide) (Or.inr ⟨rfl, rfl⟩) (by decide) ?_
  have hz := qa_Zp (a := 91) (k := 25) (v := 101) hz (by decide)
  refine qa_ald0 dX9_init_90 ?_
  refine qa_sipush (v := 160) dX9_init_91 (by decide) ?_
  refine qc_newa (t := 0) (ty := .int) 160 102 11 1742 dX9_init_94 rfl lac_int rfl (And.intro (fun h => nomatch h) (fun h => nomatch h)) (fun _ h => nomatch h) sh_102 (by decide) (by decide) (by decide) ⟨rfl, rfl, rfl⟩ (by decide) hz (by decide) (fun hz => ?_)
  refine qa_putR dX9_init_96 lf_X9_46 (Or.inl ⟨_, rfl⟩) sh_91 (by decide) (Or.inr ⟨rfl, rfl⟩) (by decide) ?_
  have hz := qa_Zp (a := 91) (k := 26) (v := 102) hz (by decide)
  refine qa_ald0 dX9_init_99 ?_
  refine qa_bipush (v := 20) dX9_init_100 (by decide) ?_
  refine qc_newa (t := 0) (ty := .int) 20 103 12 1762 dX9_init_102 rfl lac_int rfl (And.intro (fun h => nomatch h) (fun h => nomatch h)) (fun _ h => nomatch h) sh_103 (by decide) (by decide) (by decide) ⟨rfl, rfl, rfl⟩ (by decide) hz (by decide) (fun hz => ?_)
  refine qa_putR dX9_init_104 lf_X9_49 (Or.inl ⟨_, rfl⟩) sh_91 (by decide) (Or.inr ⟨rfl, rfl⟩) (by decide) ?_
  have hz := qa_Zp (a := 91) (k := 27) (v := 103) hz (by decide)
  refine qa_ald0 dX9_init_107 ?_
  refine qa_bipush (v := 20) dX9_init_108 (by decide) ?_
  refine qc_newa (t := 0) (ty := .int) 20 104 13 1782 dX9_init_110 rfl lac_int rfl (And.intro (fun h => nomatch h) (fun h => nomatch h)) (fun _ h => nomatch h) sh_104 (by decide) (by decide) (by decide) ⟨rfl, rfl, rfl⟩ (by decide) hz (by decide) (fun hz => ?_)
  refine qa_putR dX9_init_112 lf_X9_52 (Or.inl ⟨_, rfl⟩) sh_91 (by decide) (Or.inr ⟨rfl, rfl⟩) (by decide) ?_
  have hz := qa_Zp (a := 91) (k := 28) (v := 104) hz (by decide)
  refine qa_ald0 dX9_init_115 ?_
  refine qa_sipush (v := 801) dX9_init_116 (by decide) ?_
  refine qc_newa (t := 2) (ty := .boolean) 801 105 14 2583 dX9_init_119 rfl lac_boolean rfl (And.intro (fun h => nomatch h) (fun h => nomatch h)) (fun _ h => nomatch h) sh_105 (by decide) (by decide) (by decide) ⟨rfl, rfl, rfl⟩ (by decide) hz (by decide) (fun hz => ?_)
  refine qa_putR dX9_init_121 lf_X9_55 (Or.inl ⟨_, rfl⟩) sh_91 (by decide) (Or.inr ⟨rfl, rfl⟩) (by decide) ?_
  have hz := qa_Zp (a := 91) (k := 29) (v := 105) hz (by decide)
  refine qa_ald0 dX9_init_124 ?_
  refine qa_bipush (v := 8) dX9_init_125 (by decide) ?_
  refine qc_newa (t := 0) (ty := .int) 8 106 15 2591 dX9_init_127 rfl lac_int rfl (And.intro (fun h => nomatch h) (fun h => nomatch h)) (fun _ h => nomatch h) sh_106 (by decide) (by decide) (by decide) ⟨rfl, rfl, rfl⟩ (by decide) hz (by decide) (fun hz => ?_)
  refine qa_putR dX9_init_129 lf_X9_58 (Or.inl ⟨_, rfl⟩) sh_91 (by decide) (Or.inr ⟨rfl, rfl⟩) (by decide) ?_
  have hz := qa_Zp (a := 91) (k := 30) (v := 106) hz (by decide)
  refine qa_ald0 dX9_init_132 ?_
  refine qa_sipush (v := 256) dX9_init_133 (by decide) ?_
  refine qc_newa (t := 0) (ty := .int) 256 107 16 2847 dX9_init_136 rfl lac_int rfl (And.intro (fun h => nomatch h) (fun h => nomatch h)) (fun _ h => nomatch h) sh_107 (by decide) (by decide) (by decide) ⟨rfl, rfl, rfl⟩ (by decide) hz (by decide) (fun hz => ?_)
  refine qa_putR dX9_init_138 lf_X9_61 (Or.inl ⟨_, rfl⟩) sh_91 (by decide) (Or.inr ⟨rfl, rfl⟩) (by decide) ?_
  have hz := qa_Zp (a := 91) (k := 33) (v := 107) hz (by decide)
  refine qa_ald0 dX9_init_141 ?_
  refine qa_sipush (v := 5120) dX9_init_142 (by decide) ?_
  refine qc_newa (t := 0) (ty := .int) 5120 108 17 7967 dX9_init_145 rfl lac_int rfl (And.intro (fun h => nomatch h) (fun h => nomatch h)) (fun _ h => nomatch h) sh_108 (by decide) (by decide) (by decide) ⟨rfl, rfl, rfl⟩ (by decide) hz (by decide) (fun hz => ?_)
  refine qa_putR dX9_init_147 lf_X9_64 (Or.inl ⟨_, rfl⟩) sh_91 (by decide) (Or.inr ⟨rfl, rfl⟩) (by decide) ?_
  have hz := qa_Zp (a := 91) (k := 34) (v := 108) hz (by decide)
  refine qa_ald0 dX9_init_150 ?_
  refine qa_sipush (v := 256) dX9_init_151 (by decide) ?_
  refine qc_newa (t := 0) (ty := .int) 256 109 18 8223 dX9_init_154 rfl lac_int rfl (And.intro (fun h => nomatch h) (fun h => nomatch h)) (fun _ h => nomatch h) sh_109 (by decide) (by decide) (by decide) ⟨rfl, rfl, rfl⟩ (by decide) hz (by decide) (fun hz => ?_)
  refine qa_putR dX9_init_156 lf_X9_67 (Or.inl ⟨_, rfl⟩) sh_91 (by decide) (Or.inr ⟨rfl, rfl⟩) (by decide) ?_
  have hz := qa_Zp (a := 91) (k := 37) (v := 109) hz (by decide)
  refine qa_ald0 dX9_init_159 ?_
  refine qa_iconst (v := 4) dX9_init_160 (by decide) ?_
  refine qc_newa (t := 0) (ty := .int) 4 110 19 8227 dX9_init_161 rfl lac_int rfl (And.intro (fun h => nomatch h) (fun h => nomatch h)) (fun _ h => nomatch h) sh_110 (by decide) (by decide) (by decide) ⟨rfl, rfl, rfl⟩ (by decide) hz (by decide) (fun hz => ?_)
  refine qa_dup dX9_init_163 rfl ?_
  refine qa_iconst (v := 0) dX9_init_164 (by decide) ?_
  refine qa_iconst (v := -1) dX9_init_165 (by decide) ?_
  refine qa_iast dX9_init_166 sh_110 (by decide) (by unfold vp_in; decide) ?_
  have hz := qa_Zi (a := 110) (k := (0 : Int32).toNatClampNeg) (v := -1) hz (by decide)
  refine qa_dup dX9_init_167 rfl ?_
  refine qa_iconst (v := 1) dX9_init_168 (by decide) ?_
  refine qa_iconst (v := -1) dX9_init_169 (by decide) ?_
  refine qa_iast dX9_init_170 sh_110 (by decide) (by unfold vp_in; decide) ?_
  have hz := qa_Zi (a := 110) (k := (1 : Int32).toNatClampNeg) (v := -1) hz (by decide)
  refine qa_dup dX9_init_171 rfl ?_
  refine qa_iconst (v := 2) dX9_init_172 (by decide) ?_
  refine qa_iconst (v := -1) dX9_init_173 (by decide) ?_
  refine qa_iast dX9_init_174 sh_110 (by decide) (by unfold vp_in; decide) ?_
  have hz := qa_Zi (a := 110) (k := (2 : Int32).toNatClampNeg) (v := -1) hz (by decide)
  refine qa_dup dX9_init_175 rfl ?_
  refine qa_iconst (v := 3) dX9_init_176 (by decide) ?_
  refine qa_iconst (v := -1) dX9_init_177 (by decide) ?_
  refine qa_iast dX9_init_178 sh_110 (by decide) (by unfold vp_in; decide) ?_
  have hz := qa_Zi (a := 110) (k := (3 : Int32).toNatClampNeg) (v := -1) hz (by decide)
  refine qa_putR dX9_init_179 lf_X9_70 (Or.inl ⟨_, rfl⟩) sh_91 (by decide) (Or.inr ⟨rfl, rfl⟩) (by decide) ?_
  have hz := qa_Zp (a := 91) (k := 41) (v := 110) hz (by decide)
  refine qa_ald0 dX9_init_182 ?_
  refine qa_iconst (v := 4) dX9_init_183 (by decide) ?_
  refine qc_newa (t := 0) (ty := .int) 4 111 20 8231 dX9_init_184 rfl lac_int rfl (And.intro (fun h => nomatch h) (fun h => nomatch h)) (fun _ h => nomatch h) sh_111 (by decide) (by decide) (by decide) ⟨rfl, rfl, rfl⟩ (by decide) hz (by decide) (fun hz => ?_)
  refine qa_putR dX9_init_186 lf_X9_73 (Or.inl ⟨_, rfl⟩) sh_91 (by decide) (Or.inr ⟨rfl, rfl⟩) (by decide) ?_
  have hz := qa_Zp (a := 91) (k := 42) (v := 111) hz (by decide)
  refine qa_ald0 dX9_init_189 ?_
  refine qa_sipush (v := 240) dX9_init_190 (by decide) ?_
  refine qc_newa (t := 3) (ty := .long) 240 112 21 8471 dX9_init_193 rfl lac_long rfl (And.intro (fun h => nomatch h) (fun h => nomatch h)) (fun _ h => nomatch h) sh_112 (by decide) (by decide) (by decide) ⟨rfl, rfl, rfl⟩ (by decide) hz (by decide) (fun hz => ?_)
  refine qa_putR dX9_init_195 lf_X9_76 (Or.inl ⟨_, rfl⟩) sh_91 (by decide) (Or.inr ⟨rfl, rfl⟩) (by decide) ?_
  have hz := qa_Zp (a := 91) (k := 43) (v := 112) hz (by decide)
  refine qa_ald0 dX9_init_198 ?_
  refine qa_bipush (v := 60) dX9_init_199 (by decide) ?_
  refine qc_newa (t := 3) (ty := .long) 60 113 22 8531 dX9_init_201 rfl lac_long rfl (And.intro (fun h => nomatch h) (fun h => nomatch h)) (fun _ h => nomatch h) sh_113 (by decide) (by decide) (by decide) ⟨rfl, rfl, rfl⟩ (by decide) hz (by decide) (fun hz => ?_)
  refine qa_putR dX9_init_203 lf_X9_80 (Or.inl ⟨_, rfl⟩) sh_91 (by decide) (Or.inr ⟨rfl, rfl⟩) (by decide) ?_
  have hz := qa_Zp (a := 91) (k := 44) (v := 113) hz (by decide)
  exact qa_vret rfl dX9_init_206 ⟨rfl, rfl⟩ ⟨rfl, rfl, rfl, hz⟩
