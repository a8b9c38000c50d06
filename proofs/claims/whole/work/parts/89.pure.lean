/-! the start -/
set_option maxRecDepth 100000 in
theorem mi_PP : qa_PP qa_mi.2.2 := ⟨by decide +kernel, by unfold qa_tw; decide +kernel, by unfold qa_tw; decide +kernel⟩
theorem mi_0 (b j : Nat) (h1 : b ≠ 1) (h27 : b ≠ 2) (h91 : b ≠ 91) (h110 : b ≠ 110) (h83 : b < 83 ∨ 90 ≤ b) : qa_mi.1 b j = 0 := by
  simp (disch := omega) only [qa_mi, ci_X0_10, ci_X6_3, ci_X0_23, ci_X6_16, ci_X2_2, ci_X1_31, ci_X7_32, ci_X7_37, ci_X4_42, ci_X5_44, ci_X0_54, ci_X6_47, ci_X0_66, ci_X6_59, ci_X0_78, ci_X6_71, ci_X3_83, ci_X3_85, ci_X3_87, ci_X3_89, ci_X8_1, ci_X9_91, uIn, uP1]
  rfl
set_option maxRecDepth 100000 in
theorem mi_1 : qa_mi.2.2 1 2 = 16 ∧ qa_mi.2.2 2 2 = 3 := by decide +kernel
set_option maxRecDepth 100000 in
theorem mi_2 : qa_mi.1 2 1 = 0 ∧ qa_mi.1 1 4 = 0 ∧ qa_mi.1 91 5 = 0 ∧ qa_mi.1 2 7 = 0 ∧ qa_mi.1 91 12 = 0 ∧ qa_mi.1 2 8 = -1 ∧ qa_mi.1 91 13 = -1 := by decide +kernel
set_option maxRecDepth 100000 in
theorem mi_3 : ∀ s, s < 4 → qa_mi.1 (83 + 2 * s) 2 = -1 ∧ qa_mi.1 110 s = -1 := by decide +kernel
theorem mi_INV : INV qa_mi := by
  obtain ⟨p1, p2⟩ := mi_1
  obtain ⟨e1, e2, e3, e4, e5, e6, e7⟩ := mi_2
  have e92 : qa_mi.1 92 = w00 := funext (fun j => mi_0 92 j (by omega) (by omega) (by omega) (by omega) (by omega))
  have z : ∀ b j, 16 ≤ b → b ≤ 27 → qa_mi.1 b j = 0 := fun b j h1 h2 => mi_0 b j (by omega) (by omega) (by omega) (by omega) (by omega)
  refine ⟨mi_PP, Or.inr ⟨p1, p2⟩, by rw [e92]; exact RZ00.1, ?_, ?_, ⟨0, by omega, e1, e3, fun j hj => absurd hj (Nat.not_lt_zero j)⟩, ⟨e4.trans e5.symm, e6.trans e7.symm⟩, fun k hk => ⟨?_, Or.inl ?_⟩, fun s hs => ⟨(mi_3 s hs).1.trans (mi_3 s hs).2.symm, Or.inl (mi_3 s hs).2⟩, Or.inl e2⟩
  · rw [p1, e92]
    exact ⟨⟨z _ _ (by omega) (by omega), z _ _ (by omega) (by omega), z _ _ (by omega) (by omega), z _ _ (by omega) (by omega), z _ _ (by omega) (by omega), z _ _ (by omega) (by omega), z _ _ (by omega) (by omega), z _ _ (by omega) (by omega), z _ _ (by omega) (by omega), by rw [lean00]; exact z _ _ (by omega) (by omega), z _ _ (by omega) (by omega)⟩, ⟨fun h hh => absurd hh (Nat.not_lt_zero h), fun p hp => z _ _ (by omega) (by omega), fun p hp => z _ _ (by omega) (by omega)⟩, fun i hi => absurd hi (Nat.not_lt_zero i), ⟨z _ _ (by omega) (by omega), z _ _ (by omega) (by omega), fun j hj => z _ _ (by omega) (by omega)⟩, fun i hi => absurd hi (Nat.not_lt_zero i)⟩
  · rw [e92]
    exact ⟨fun w _ h hh => absurd hh (Nat.not_lt_zero h), fun w hw => absurd hw (Nat.not_lt_zero w), fun w hw => absurd hw (Nat.not_lt_zero w), fun w hw => absurd hw (Nat.not_lt_zero w)⟩
  · rw [mi_0 29 k (by omega) (by omega) (by omega) (by omega) (by omega), mi_0 94 k (by omega) (by omega) (by omega) (by omega) (by omega)]
  · exact mi_0 29 k (by omega) (by omega) (by omega) (by omega) (by omega)
/-- the law's loop -/
theorem law_loop {Ln : Nat} {xs : Nat → Int32} (hL : Ln ≤ 3072) : ∀ (q i n : Nat) (μ : qa_M), INV μ → i ≤ Ln → Ln ≤ i + 6 * q + 5 → 2000 + q < n → wL Ln xs n (nI i) μ := by
  intro q
  have e6 : (nI Ln - 6).toInt = (Ln : Int) - 6 := pk_sub_toInt (b := 6) (by omega) (by decide)
  induction q with
  | zero =>
    intro i n μ I h1 h2 hn
    obtain ⟨m, rfl⟩ : ∃ m, n = m + 1 := ⟨n - 1, by omega⟩
    rw [wL]
    refine ⟨fun _ => trivial, fun h => absurd ?_ h⟩
    rw [fa_lt, e6, nI_toInt (by omega)]
    omega
  | succ q ih =>
    intro i n μ I h1 h2 hn
    obtain ⟨m, rfl⟩ : ∃ m, n = m + 1 := ⟨n - 1, by omega⟩
    rw [wL]
    refine ⟨fun _ => trivial, fun h => ?_⟩
    rw [fa_lt, e6, nI_toInt (by omega)] at h
    have h6 : i + 6 ≤ Ln := by omega
    have hm : 2000 ≤ m := by omega
    have kk : ∀ μ', INV μ' → (fun i μ => wL Ln xs m i μ) (nI i + 6) μ' := fun μ' I' => by
      show wL Ln xs m (nI i + 6) μ'
      rw [l6, nI_add]
      exact ih (i + 6) m μ' I' h6 (by omega) (by omega)
    have v1 : vp_in (nI i + 1) Ln := by rw [l1, nI_add]; exact inN (by omega) (by omega)
    have v2 : vp_in (nI i + 2) Ln := by rw [l2, nI_add]; exact inN (by omega) (by omega)
    have v3 : vp_in (nI i + 3) Ln := by rw [l3, nI_add]; exact inN (by omega) (by omega)
    have v4 : vp_in (nI i + 4) Ln := by rw [l4, nI_add]; exact inN (by omega) (by omega)
    have v5 : vp_in (nI i + 5) Ln := by rw [l5, nI_add]; exact inN (by omega) (by omega)
    refine ⟨inN (by omega) (by omega), fun k _ => ?_⟩
    exact ⟨fun _ => c_0 I hm kk v1 v2 v3 v4 v5, fun _ => c_1 I hm kk v1 v2 v3 v4 v5, fun _ => c_2 I hm kk v1 v2 v3 v4 v5, fun _ => c_3 I hm kk v1 v2 v3 v4 v5, fun _ => c_4 I hm kk v1 v2 v3 v4 v5, fun _ => c_5 I hm kk v1 v2 v3 v4 v5, fun _ => c_6 I hm kk v1 v2 v3 v4 v5, fun _ => c_7 I hm kk v1 v2 v3 v4 v5, fun _ => c_8 I hm kk v1 v2 v3 v4 v5, fun _ => c_9 I hm kk v1 v2 v3 v4 v5, fun _ => c_10 I hm kk v1 v2 v3 v4 v5, fun _ => c_11 I hm kk v1 v2 v3 v4 v5, fun _ => c_12 I hm kk v1 v2 v3 v4 v5, fun _ => c_13 I hm kk v1 v2 v3 v4 v5, fun _ => c_14 I hm kk v1 v2 v3 v4 v5, fun _ => c_15 I hm kk v1 v2 v3 v4 v5, fun _ => c_16 I hm kk v1 v2 v3 v4 v5, fun _ => c_17 I hm kk v1 v2 v3 v4 v5, fun _ => c_18 I hm kk v1 v2 v3 v4 v5, fun _ => c_19 I hm kk v1 v2 v3 v4 v5, fun _ => c_20 I hm kk v1 v2 v3 v4 v5, fun _ => c_21 I hm kk v1 v2 v3 v4 v5, fun _ => c_22 I hm kk v1 v2 v3 v4 v5, fun _ => c_23 I hm kk v1 v2 v3 v4 v5, fun _ => c_24 I hm kk v1 v2 v3 v4 v5, fun _ => c_25 I hm kk v1 v2 v3 v4 v5, fun _ => c_26 I hm kk v1 v2 v3 v4 v5, fun _ => c_27 I hm kk v1 v2 v3 v4 v5, fun _ => c_28 I hm kk v1 v2 v3 v4 v5, fun _ => c_29 I hm kk v1 v2 v3 v4 v5, fun _ => c_30 I hm kk v1 v2 v3 v4 v5, fun _ => c_31 I hm kk v1 v2 v3 v4 v5, fun _ => c_32 I hm kk v1 v2 v3 v4 v5, fun _ => c_33 I hm kk v1 v2 v3 v4 v5, fun _ => c_34 I hm kk v1 v2 v3 v4 v5, fun _ => c_35 I hm kk v1 v2 v3 v4 v5, fun _ => c_36 I hm kk v1 v2 v3 v4 v5, fun _ => c_37 I hm kk v1 v2 v3 v4 v5, fun _ => c_38 I hm kk v1 v2 v3 v4 v5, fun _ => c_39 I hm kk v1 v2 v3 v4 v5, fun _ => c_40 I hm kk v1 v2 v3 v4 v5, fun _ => c_41 I hm kk v1 v2 v3 v4 v5, fun _ => c_42 I hm kk v1 v2 v3 v4 v5, fun _ => c_43 I hm kk v1 v2 v3 v4 v5, fun _ => c_44 I hm kk v1 v2 v3 v4 v5, fun _ => c_45 I hm kk v1 v2 v3 v4 v5, fun _ => c_46 I hm kk v1 v2 v3 v4 v5, fun _ => c_47 I hm kk v1 v2 v3 v4 v5, fun _ => c_48 I hm kk v1 v2 v3 v4 v5, fun _ => c_49 I hm kk v1 v2 v3 v4 v5, fun _ => c_50 I hm kk v1 v2 v3 v4 v5, fun _ => c_51 I hm kk v1 v2 v3 v4 v5, fun _ => c_52 I hm kk v1 v2 v3 v4 v5, fun _ => c_53 I hm kk v1 v2 v3 v4 v5, fun _ => c_54 I hm kk v1 v2 v3 v4 v5, fun _ => c_55 I hm kk v1 v2 v3 v4 v5, fun _ => c_56 I hm kk v1 v2 v3 v4 v5, fun _ => c_57 I hm kk v1 v2 v3 v4 v5, fun _ => c_58 I hm kk v1 v2 v3 v4 v5, fun _ => c_59 I hm kk v1 v2 v3 v4 v5, fun _ => c_60 I hm kk v1 v2 v3 v4 v5, fun _ => c_61 I hm kk v1 v2 v3 v4 v5, fun _ => c_62 I hm kk v1 v2 v3 v4 v5, fun _ => c_63 I hm kk v1 v2 v3 v4 v5, fun _ => c_64 I hm kk v1 v2 v3 v4 v5, fun _ => c_65 I hm kk v1 v2 v3 v4 v5, fun _ => c_66 I hm kk v1 v2 v3 v4 v5, fun _ => c_67 I hm kk v1 v2 v3 v4 v5, fun _ => c_68 I hm kk v1 v2 v3 v4 v5, fun _ => c_69 I hm kk v1 v2 v3 v4 v5, fun _ => c_70 I hm kk v1 v2 v3 v4 v5, fun _ => c_71 I hm kk v1 v2 v3 v4 v5, fun _ => c_72 I hm kk v1 v2 v3 v4 v5, fun _ => c_73 I hm kk v1 v2 v3 v4 v5, fun _ => c_74 I hm kk v1 v2 v3 v4 v5, fun _ => c_75 I hm kk v1 v2 v3 v4 v5, fun _ => c_76 I hm kk v1 v2 v3 v4 v5, fun _ => c_77 I hm kk v1 v2 v3 v4 v5, fun _ => c_78 I hm kk v1 v2 v3 v4 v5, fun _ => c_79 I hm kk v1 v2 v3 v4 v5, kk μ I⟩
theorem law_pure (Ln : Nat) (xs : Nat → Int32) (hL : Ln ≤ 3072) : ∃ n, wL Ln xs n 0 qa_mi := ⟨4000, law_loop hL 512 0 4000 qa_mi mi_INV (Nat.zero_le _) (by omega) (by omega)⟩
