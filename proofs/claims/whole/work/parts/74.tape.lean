theorem INV.tape {μ μ' : qa_M} (h : INV μ) (s1 : μ'.2 = μ.2) (s2 : ∀ b j, b ≠ 15 → b ≠ 95 → b ≠ 96 → (b = 2 → j ≠ 1) → (b = 91 → j ≠ 5) → μ'.1 b j = μ.1 b j) (T : TAPE μ') : INV μ' := by
  have e92 : μ'.1 92 = μ.1 92 := funext (fun j => s2 92 j (by omega) (by omega) (by omega) (by omega) (by omega))
  obtain ⟨i1, i2, i3, i4, i5, i6, i7, i8, i9, i10⟩ := h
  refine ⟨by rw [s1]; exact i1, by rw [s1]; exact i2, by rw [e92]; exact i3, ?_, ?_, T, ?_, ?_, ?_, ?_⟩
  · rw [s1, e92]
    rcases i2 with ⟨q, -⟩ | ⟨q, -⟩ <;> rw [q] at i4 ⊢
    · exact i4.mono (fun j x hj => s2 _ _ (by omega) (by omega) (by omega) (by omega) (by omega)) rfl
    · exact i4.mono (fun j x hj => s2 _ _ (by omega) (by omega) (by omega) (by omega) (by omega)) rfl
  · rw [e92]
    exact i5.mono (fun b j hb => s2 _ _ (by omega) (by omega) (by omega) (by omega) (by omega))
  · rw [s2 _ _ (by omega) (by omega) (by omega) (by omega) (by omega), s2 _ _ (by omega) (by omega) (by omega) (by omega) (by omega), s2 _ _ (by omega) (by omega) (by omega) (by omega) (by omega), s2 _ _ (by omega) (by omega) (by omega) (by omega) (by omega)]
    exact i7
  · intro k hk
    have e93 : (fun j => μ'.1 93 (114 * k + j)) = (fun j => μ.1 93 (114 * k + j)) := funext (fun j => s2 _ _ (by omega) (by omega) (by omega) (by omega) (by omega))
    rw [s2 29 _ (by omega) (by omega) (by omega) (by omega) (by omega), s2 94 _ (by omega) (by omega) (by omega) (by omega) (by omega), e93]
    obtain ⟨g1, g2⟩ := i8 k hk
    refine ⟨g1, ?_⟩
    rcases g2 with g2 | ⟨g2, g3, g4⟩
    · exact Or.inl g2
    · exact Or.inr ⟨g2, g3, g4.mono (fun j x hj => s2 _ _ (by omega) (by omega) (by omega) (by omega) (by omega)) rfl⟩
  · intro k hk
    obtain ⟨g1, g2⟩ := i9 k hk
    rw [s2 (83 + 2 * k) _ (by omega) (by omega) (by omega) (by omega) (by omega), s2 110 _ (by omega) (by omega) (by omega) (by omega) (by omega)]
    refine ⟨g1, ?_⟩
    rcases g2 with g2 | ⟨m, g2, g3, g4, g5, g6⟩
    · exact Or.inl g2
    · refine Or.inr ⟨m, g2, g3, ?_, ?_, fun j hj => ?_⟩
      · rw [s2 (83 + 2 * k) _ (by omega) (by omega) (by omega) (by omega) (by omega), s2 111 _ (by omega) (by omega) (by omega) (by omega) (by omega)]; exact g4
      · rw [s2 111 _ (by omega) (by omega) (by omega) (by omega) (by omega)]; exact g5
      · rw [s1]; exact g6 j hj
  · unfold WRT
    rw [e92, s2 1 _ (by omega) (by omega) (by omega) (by omega) (by omega)]
    rcases i10 with g | ⟨g, g'⟩
    · exact Or.inl g
    · exact Or.inr ⟨g, fun k hk => by rw [s2 46 _ (by omega) (by omega) (by omega) (by omega) (by omega)]; exact g' k hk⟩
theorem c_1 {Ln n : Nat} {xs : Nat → Int32} {K : Int32 → qa_M → Prop} {i : Int32} {μ : qa_M} (I : INV μ) (hn : 2000 ≤ n) (k : ∀ μ', INV μ' → K (i + 6) μ') (v1 : vp_in (i + 1) Ln) (v2 : vp_in (i + 2) Ln) (v3 : vp_in (i + 3) Ln) (v4 : vp_in (i + 4) Ln) (v5 : vp_in (i + 5) Ln) : wLc_1 Ln xs n K i μ := by
  unfold wLc_1
  simp only [v1, v2, v3, v4, v5, true_and]
  generalize xs (i + 1).toNatClampNeg = a
  obtain ⟨w, hw⟩ : ∃ w, μ.1 92 = w := ⟨_, rfl⟩
  obtain ⟨r, T, E, G⟩ := I.facts hw
  obtain ⟨r1, r2, r3, r4⟩ := r.n0
  have L8 := G.1
  have N1 := r.2.1.1
  obtain ⟨W20, H8, hW, hH, plt, hpl, hpp, hfo, htu, hsu, hsm⟩ := id E
  obtain ⟨Z, z1, z2, z3, z4⟩ := I.2.2.2.2.2.1
  have mi : ∀ {Q : Int32 → qa_M → Prop}, wX9_in n a.toInt64 0 (nI Z).toInt64 μ Q ↔ Q (qb (0 ≤ a.toInt ∧ a.toInt ≤ (Z : Int))) μ := by
    intro Q
    rw [s_in, Int32.toInt_toInt64, Int32.toInt_toInt64, nI_toInt (by omega), z64]
  by_cases ga : 0 ≤ a.toInt ∧ a.toInt ≤ (Z : Int)
  · obtain ⟨a, ha, rfl⟩ := gN' ga (by omega)
    have al : (nI a ≤ nI Z) = True := eq_true (by rw [nle _ _ (by omega) (by omega)]; exact ha)
    have z3' : (qa_uI μ 2 1 (nI a)).1 91 5 = nI Z := by rw [uIn _ _ (by omega)]; exact z3
    have mi' : ∀ {Q : Int32 → qa_M → Prop}, wX9_in n (nI a).toInt64 0 (nI Z).toInt64 (qa_uI μ 2 1 (nI a)) Q ↔ Q 1 (qa_uI μ 2 1 (nI a)) := by
      intro Q
      rw [s_in, Int32.toInt_toInt64, Int32.toInt_toInt64, nI_toInt (show Z < 2 ^ 31 by omega), z64, qb_p ga]
    simp (disch := omega) only [wX8_end, n_neg, z2, al, not_true_eq_false, not_false_eq_true, false_implies, true_implies, and_true, true_and, and_self, nmM, if_true, if_false, or0, Int32.add_zero, forall_const, one_ne, zero_ne1, nz1, nz0, nI_z, cl, inN, Nat.le_refl, Nat.lt_irrefl, Nat.lt_succ_self, Bool.false_eq_true]
    simp (disch := omega) only [wX9_end, z3', mi', not_true_eq_false, not_false_eq_true, false_implies, true_implies, and_true, true_and, and_self, nmM, if_true, if_false, or0, Int32.add_zero, forall_const, one_ne, zero_ne1, nz1, nz0, nI_z, cl, inN, Nat.le_refl, Nat.lt_irrefl, Nat.lt_succ_self, Bool.false_eq_true]
    refine k _ (I.tape rfl (fun b j h1 h2 h3 h4 h5 => by rw [uIn _ _ (by omega), uIn _ _ (by omega)]) ⟨a, by omega, by rw [uIn _ _ (by omega), uIs], uIs _ _ _ _, fun j hj => ?_⟩)
    rw [uIn _ _ (by omega), uIn _ _ (by omega), uIn _ _ (by omega), uIn _ _ (by omega)]
    exact z4 j (by omega)
  · have fin : wX9_end n a μ (fun r2 μ2 => ((-1 : Int32) = r2 → K (i + 6) μ2) ∧ (¬ (-1 : Int32) = r2 → False)) := by
      simp (disch := omega) only [wX9_end, z3, mi, qb_n ga, not_true_eq_false, not_false_eq_true, false_implies, true_implies, and_true, true_and, and_self, nmM, if_true, if_false, or0, Int32.add_zero, forall_const, one_ne, zero_ne1, nz1, nz0, nI_z, cl, inN, Nat.le_refl, Nat.lt_irrefl, Nat.lt_succ_self, Bool.false_eq_true]
      exact k μ I
    by_cases c1 : a < 0
    · simp (disch := omega) only [wX8_end, c1, not_true_eq_false, not_false_eq_true, false_implies, true_implies, and_true, true_and, and_self, nmM, if_true, if_false, or0, Int32.add_zero, forall_const, one_ne, zero_ne1, nz1, nz0, nI_z, cl, inN, Nat.le_refl, Nat.lt_irrefl, Nat.lt_succ_self, Bool.false_eq_true]
      exact fin
    · have c2 : ¬ a ≤ nI Z := by
        rw [fa_lt, show (0 : Int32).toInt = 0 from rfl] at c1
        rw [fa_le, nI_toInt (by omega)]
        omega
      simp (disch := omega) only [wX8_end, c1, z2, c2, not_true_eq_false, not_false_eq_true, false_implies, true_implies, and_true, true_and, and_self, nmM, if_true, if_false, or0, Int32.add_zero, forall_const, one_ne, zero_ne1, nz1, nz0, nI_z, cl, inN, Nat.le_refl, Nat.lt_irrefl, Nat.lt_succ_self, Bool.false_eq_true]
      exact fin
/-! bytes -/
theorem t_toInt (v : Int32) : v.toInt = if 2 * v.toBitVec.toNat < 2 ^ 32 then (v.toBitVec.toNat : Int) else (v.toBitVec.toNat : Int) - ((2 ^ 32 : Nat) : Int) := BitVec.toInt_eq_toNat_cond v.toBitVec
theorem by_eq {v S : Int32} {k : Nat} (h1 : ((S.toUInt32 &&& Int32.toUInt32 31).toBitVec % 32).toNat = k) (h2 : ((S &&& 31).toBitVec.smod 32).toNat = k) (hk : k = 24 ∨ k = 16 ∨ k = 8 ∨ k = 0) : (v.toUInt32 >>> (S.toUInt32 &&& Int32.toUInt32 31)).toInt32.toInt8 = (v >>> (S &&& 31)).toInt8 := by
  apply Int8.toInt_inj.mp
  have e1 := pk_ushr v S k h1
  rw [Int32.toInt_toInt8, Int32.toInt_toInt8, pk_shr _ _ k h2, Int.shiftRight_eq_div_pow, t_toInt, t_toInt v, e1, bm _ (m := 2 ^ 8) (h := 128) rfl, bm _ (m := 2 ^ 8) (h := 128) rfl]
  have := v.toBitVec.isLt
  generalize v.toBitVec.toNat = N at this
  rcases hk with rfl | rfl | rfl | rfl <;> omega
def byt (v : Int32) (q : Nat) : Int32 := (v >>> (nI (24 - 8 * q) &&& 31)).toInt8.toInt32
theorem b24 (v : Int32) : (v.toUInt32 >>> ((24 : Int32).toUInt32 &&& Int32.toUInt32 31)).toInt32.toInt8.toInt32.toInt8.toInt32 = byt v 0 := by rw [fb_byte_twice, by_eq (k := 24) (by decide) (by decide) (by omega)]; rfl
theorem b16 (v : Int32) : (v.toUInt32 >>> ((16 : Int32).toUInt32 &&& Int32.toUInt32 31)).toInt32.toInt8.toInt32.toInt8.toInt32 = byt v 1 := by rw [fb_byte_twice, by_eq (k := 16) (by decide) (by decide) (by omega)]; rfl
theorem b8 (v : Int32) : (v.toUInt32 >>> ((8 : Int32).toUInt32 &&& Int32.toUInt32 31)).toInt32.toInt8.toInt32.toInt8.toInt32 = byt v 2 := by rw [fb_byte_twice, by_eq (k := 8) (by decide) (by decide) (by omega)]; rfl
theorem b0 (v : Int32) : (v.toUInt32 >>> ((0 : Int32).toUInt32 &&& Int32.toUInt32 31)).toInt32.toInt8.toInt32.toInt8.toInt32 = byt v 3 := by rw [fb_byte_twice, by_eq (k := 0) (by decide) (by decide) (by omega)]; rfl
def FD (μ0 μ : qa_M) (T c : Nat) (g : Nat → Int32) : Prop := μ.2 = μ0.2 ∧ (∀ b j, b ≠ 15 → (b = 2 → j ≠ 1) → μ.1 b j = μ0.1 b j) ∧ μ.1 2 1 = nI (T + 4 * c) ∧ (∀ j, j < T → μ.1 15 j = μ0.1 15 j) ∧ ∀ j, j < 4 * c → μ.1 15 (T + j) = byt (g (j / 4)) (j % 4)
theorem le800 {i : Nat} (h : i < 2 ^ 31) : ((800 : Int32) ≤ nI i) = (800 ≤ i) := nle 800 i (by decide) h
theorem x_feed1 {n T c : Nat} {v : Int32} {g : Nat → Int32} {μ0 μ : qa_M} {Q : qa_M → Prop} (hv : v = g c) (hT : T + 4 * c + 4 ≤ 800) (F : FD μ0 μ T c g) (hn : 10 < n) (kk : ∀ μ', FD μ0 μ' T (c + 1) g → Q μ') : wX2_add n v μ Q := by
  obtain ⟨m, rfl⟩ : ∃ m, n = m + 5 := ⟨n - 5, by omega⟩
  obtain ⟨f1, f2, f3, f4, f5⟩ := F
  have n24 : ((24 : Int32) < 0) = False := eq_false (by decide)
  have n16 : ((16 : Int32) < 0) = False := eq_false (by decide)
  have n8 : ((8 : Int32) < 0) = False := eq_false (by decide)
  have n0 : ((0 : Int32) < 0) = False := eq_false (by decide)
  have m8 : ((-8 : Int32) < 0) = True := eq_true (by decide)
  have a24 : (24 : Int32) + (-8) = 16 := by decide
  have a16 : (16 : Int32) + (-8) = 8 := by decide
  have a8 : (8 : Int32) + (-8) = 0 := by decide
  have a0 : (0 : Int32) + (-8) = -8 := by decide
  have t0 : ¬ 800 ≤ T + 4 * c := by omega
  have t1 : ¬ 800 ≤ T + 4 * c + 1 := by omega
  have t2 : ¬ 800 ≤ T + 4 * c + 1 + 1 := by omega
  have t3 : ¬ 800 ≤ T + 4 * c + 1 + 1 + 1 := by omega
  unfold wX2_add
  simp (disch := omega) only [wX2_add_3, n24, n16, n8, n0, m8, a24, a16, a8, a0, f3, le800, t0, t1, t2, t3, uIn, uIs, b24, b16, b8, b0, nI1, not_true_eq_false, not_false_eq_true, false_implies, true_implies, and_true, true_and, and_self, nmM, if_true, if_false, or0, Int32.add_zero, forall_const, one_ne, zero_ne1, nz1, nz0, nI_z, cl, inN, Nat.le_refl, Nat.lt_irrefl, Nat.lt_succ_self, Bool.false_eq_true]
  refine kk _ ⟨f1, fun b j h1 h2 => ?_, ?_, fun j hj => ?_, fun j hj => ?_⟩
  · rw [uIn _ _ (by omega), uIn _ _ (by omega), uIn _ _ (by omega), uIn _ _ (by omega), uIn _ _ (by omega), uIn _ _ (by omega), uIn _ _ (by omega), uIn _ _ (by omega)]
    exact f2 b j h1 h2
  · rw [uIs]
    congr 1
  · rw [uIn _ _ (by omega), uIn _ _ (by omega), uIn _ _ (by omega), uIn _ _ (by omega), uIn _ _ (by omega), uIn _ _ (by omega), uIn _ _ (by omega), uIn _ _ (by omega)]
    exact f4 j hj
  · by_cases c0 : j < 4 * c
    · rw [uIn _ _ (by omega), uIn _ _ (by omega), uIn _ _ (by omega), uIn _ _ (by omega), uIn _ _ (by omega), uIn _ _ (by omega), uIn _ _ (by omega), uIn _ _ (by omega)]
      exact f5 j c0
    · have ej : j = 4 * c ∨ j = 4 * c + 1 ∨ j = 4 * c + 2 ∨ j = 4 * c + 3 := by omega
      rcases ej with rfl | rfl | rfl | rfl
      · rw [uIn _ _ (by omega), uIn _ _ (by omega), uIn _ _ (by omega), uIn _ _ (by omega), uIn _ _ (by omega), uIn _ _ (by omega), uIn _ _ (by omega), uIs, show 4 * c / 4 = c by omega, show 4 * c % 4 = 0 by omega, hv]
      · rw [uIn _ _ (by omega), uIn _ _ (by omega), uIn _ _ (by omega), uIn _ _ (by omega), uIn _ _ (by omega), show (4 * c + 1) / 4 = c by omega, show (4 * c + 1) % 4 = 1 by omega, ← hv]
        exact uIs _ _ _ _
      · rw [uIn _ _ (by omega), uIn _ _ (by omega), uIn _ _ (by omega), show (4 * c + 2) / 4 = c by omega, show (4 * c + 2) % 4 = 2 by omega, ← hv]
        exact uIs _ _ _ _
      · rw [uIn _ _ (by omega), show (4 * c + 3) / 4 = c by omega, show (4 * c + 3) % 4 = 3 by omega, ← hv]
        exact uIs _ _ _ _
theorem m_feed {n T : Nat} {g : Nat → Int32} {μ : qa_M} {K0 : qa_M → Prop} {Q : Int32 → qa_M → Prop} (h5 : μ.1 91 5 = nI T) (hT : T + 20 ≤ 800) (hg : ∀ j, j < 5 → μ.1 96 j = g j) (hn : 30 < n) (kk : ∀ μ', onlyA 95 μ μ' → (∀ j, j < T → μ'.1 95 j = μ.1 95 j) → (∀ j, j < 20 → μ'.1 95 (T + j) = byt (g (j / 4)) (j % 4)) → K0 μ') : wX9_feed_55 n 0 μ K0 Q := by
  refine inv_loop (fun n i (σ : qa_M) => wX9_feed_55 n i σ K0 Q) 20 (fun i σ => onlyA 95 μ σ ∧ (∀ j, j < T → σ.1 95 j = μ.1 95 j) ∧ ∀ j, j < i → σ.1 95 (T + j) = byt (g (j / 4)) (j % 4)) ?_ ?_ 20 0 μ n (by omega) (by omega) ⟨onlyA.rf _ _, fun _ _ => rfl, fun j hj => absurd hj (Nat.not_lt_zero j)⟩
  · intro n μ1 ⟨o1, e1, e2⟩
    show wX9_feed_55 (n + 1) _ _ _ _
    rw [wX9_feed_55]
    exact ⟨fun _ => kk μ1 o1 e1 e2, fun h => absurd (by decide) h⟩
  · intro n i μ1 hi ⟨o1, e1, e2⟩ ih
    show wX9_feed_55 (n + 1) _ _ _ _
    have a5 : μ1.1 91 5 = nI T := by rw [o1.2 _ _ (by omega)]; exact h5
    have a6 : μ1.1 96 (i / 4) = g (i / 4) := by rw [o1.2 _ _ (by omega)]; exact hg _ (by omega)
    have d1 : nI i / 4 = nI (i / 4) := by rw [l4, pk_div (by omega) (by omega) (by omega)]
    have d2 : nI i - nI (i / 4) * 4 = nI (i % 4) := by rw [← d1, l4, pk_rem (by omega) (by omega) (by omega)]
    have d3 : (24 : Int32) - (8 : Int32) * nI (i % 4) = nI (24 - 8 * (i % 4)) := by rw [l8, pk_mul, show (24 : Int32) = nI 24 from rfl, pk_sub (by omega)]
    have hi' : ¬ (20 : Int32) ≤ nI i := by rw [l20, nle _ _ (by omega) (by omega)]; omega
    rw [wX9_feed_55]
    refine ⟨fun h => absurd h hi', fun _ => ?_⟩
    simp (disch := omega) only [d1, d2, d3, a5, a6, nI_add, nI1, fb_byte_twice, not_true_eq_false, not_false_eq_true, false_implies, true_implies, and_true, true_and, and_self, nmM, if_true, if_false, or0, Int32.add_zero, forall_const, one_ne, zero_ne1, nz1, nz0, nI_z, cl, inN, Nat.le_refl, Nat.lt_irrefl, Nat.lt_succ_self, Bool.false_eq_true]
    refine ih _ ⟨o1.put _ _, fun j hj => (uIn _ _ (by omega)).trans (e1 j hj), fun j hj => ?_⟩
    by_cases c : j = i
    · rw [c, uIs]; rfl
    · rw [uIn _ _ (by omega)]; exact e2 j (by omega)
def g5 (a b c d e : Int32) (j : Nat) : Int32 := if j = 0 then a else if j = 1 then b else if j = 2 then c else if j = 3 then d else e
theorem c1n : (1 : Int32).toNatClampNeg = 1 := rfl
theorem c2n : (2 : Int32).toNatClampNeg = 2 := rfl
theorem c4n : (4 : Int32).toNatClampNeg = 4 := rfl
theorem c0n' : (0 : Int32).toNatClampNeg = 0 := rfl
theorem c_0 {Ln n : Nat} {xs : Nat → Int32} {K : Int32 → qa_M → Prop} {i : Int32} {μ : qa_M} (I : INV μ) (hn : 2000 ≤ n) (k : ∀ μ', INV μ' → K (i + 6) μ') (v1 : vp_in (i + 1) Ln) (v2 : vp_in (i + 2) Ln) (v3 : vp_in (i + 3) Ln) (v4 : vp_in (i + 4) Ln) (v5 : vp_in (i + 5) Ln) : wLc_0 Ln xs n K i μ := by
  unfold wLc_0
  simp only [v1, v2, v3, v4, v5, true_and]
  generalize xs (i + 1).toNatClampNeg = a
  generalize xs (i + 2).toNatClampNeg = b
  generalize xs (i + 3).toNatClampNeg = c
  generalize xs (i + 4).toNatClampNeg = d
  generalize xs (i + 5).toNatClampNeg = e
  obtain ⟨w, hw⟩ : ∃ w, μ.1 92 = w := ⟨_, rfl⟩
  obtain ⟨r, T, E, G⟩ := I.facts hw
  obtain ⟨r1, r2, r3, r4⟩ := r.n0
  have L8 := G.1
  have N1 := r.2.1.1
  obtain ⟨W20, H8, hW, hH, plt, hpl, hpp, hfo, htu, hsu, hsm⟩ := id E
  obtain ⟨Z, z1, z2, z3, z4⟩ := I.2.2.2.2.2.1
  have q1 : (nI Z ≤ 780) = (Z ≤ 780) := nle Z 780 (by omega) (by decide)
  have q2 : nI Z + 20 = nI (Z + 20) := by rw [l20, nI_add]
  have q3 : (nI (Z + 20) ≤ 800) = (Z + 20 ≤ 800) := nle (Z + 20) 800 (by omega) (by decide)
  by_cases g : Z ≤ 780
  · have g' : Z + 20 ≤ 800 := by omega
    simp (disch := omega) only [wX8_feed, z2, q1, g, not_true_eq_false, not_false_eq_true, false_implies, true_implies, and_true, true_and, and_self, nmM, if_true, if_false, or0, Int32.add_zero, forall_const, one_ne, zero_ne1, nz1, nz0, nI_z, cl, inN, Nat.le_refl, Nat.lt_irrefl, Nat.lt_succ_self, Bool.false_eq_true]
    refine x_feed1 (c := 0) (T := Z) (g := g5 a b c d e) rfl (by omega) ⟨rfl, fun _ _ _ _ => rfl, by rw [Nat.mul_zero, Nat.add_zero]; exact z2, fun _ _ => rfl, fun j hj => by omega⟩ (by omega) (fun μ1 F1 => ?_)
    refine x_feed1 (c := 1) rfl (by omega) F1 (by omega) (fun μ2 F2 => ?_)
    refine x_feed1 (c := 2) rfl (by omega) F2 (by omega) (fun μ3 F3 => ?_)
    refine x_feed1 (c := 3) rfl (by omega) F3 (by omega) (fun μ4 F4 => ?_)
    refine x_feed1 (c := 4) rfl (by omega) F4 (by omega) (fun μ5 F5 => ?_)
    obtain ⟨f1, f2, f3, f4, f5⟩ := F5
    have f3' : μ5.1 2 1 = nI (Z + 20) := by rw [f3, show Z + 4 * (4 + 1) = Z + 20 by omega]
    have y5 : μ5.1 91 5 = nI Z := by rw [f2 _ _ (by omega) (by omega)]; exact z3
    simp (disch := omega) only [f3', wX9_feed, y5, q2, q3, g', c0n', c1n, c2n, c3n, c4n, not_true_eq_false, not_false_eq_true, false_implies, true_implies, and_true, true_and, and_self, nmM, if_true, if_false, or0, Int32.add_zero, forall_const, one_ne, zero_ne1, nz1, nz0, nI_z, cl, inN, Nat.le_refl, Nat.lt_irrefl, Nat.lt_succ_self, Bool.false_eq_true]
    refine m_feed (T := Z) (g := g5 a b c d e) ?_ (by omega) (fun j hj => ?_) (by omega) (fun μ6 o6 e6 e7 => ?_)
    · rw [uIn _ _ (by omega), uIn _ _ (by omega), uIn _ _ (by omega), uIn _ _ (by omega), uIn _ _ (by omega)]; exact y5
    · have : j = 0 ∨ j = 1 ∨ j = 2 ∨ j = 3 ∨ j = 4 := by omega
      rcases this with rfl | rfl | rfl | rfl | rfl <;> simp (disch := omega) only [uIn, uIs] <;> rfl
    · have E6 : ∀ b' j, b' ≠ 95 → b' ≠ 96 → μ6.1 b' j = μ5.1 b' j := fun b' j h1 h2 => by
        rw [o6.2 b' j h1, uIn _ _ (by omega), uIn _ _ (by omega), uIn _ _ (by omega), uIn _ _ (by omega), uIn _ _ (by omega)]
      have y6 : μ6.1 91 5 = nI Z := by rw [E6 _ _ (by omega) (by omega)]; exact y5
      simp (disch := omega) only [y6, q2, uIs, not_true_eq_false, not_false_eq_true, false_implies, true_implies, and_true, true_and, and_self, nmM, if_true, if_false, or0, Int32.add_zero, forall_const, one_ne, zero_ne1, nz1, nz0, nI_z, cl, inN, Nat.le_refl, Nat.lt_irrefl, Nat.lt_succ_self, Bool.false_eq_true]
      refine k _ (I.tape ?_ (fun b' j h1 h2 h3 h4 h5 => ?_) ⟨Z + 20, g', ?_, uIs _ _ _ _, fun j hj => ?_⟩)
      · exact o6.1.trans f1
      · rw [uIn _ _ (by omega), E6 _ _ h2 h3]; exact f2 b' j h1 (by omega)
      · rw [uIn _ _ (by omega), E6 _ _ (by omega) (by omega)]; exact f3'
      · rw [uIn _ _ (by omega), uIn _ _ (by omega), E6 _ _ (by omega) (by omega)]
        by_cases cj : j < Z
        · rw [f4 j cj, e6 j cj, uIn _ _ (by omega), uIn _ _ (by omega), uIn _ _ (by omega), uIn _ _ (by omega), uIn _ _ (by omega), f2 _ _ (by omega) (by omega)]
          exact z4 j cj
        · have w1 := f5 (j - Z) (by omega)
          have w2 := e7 (j - Z) (by omega)
          rw [show Z + (j - Z) = j by omega] at w1 w2
          rw [w1, w2]
          exact ⟨rfl, _, rfl⟩
  · have g' : ¬ Z + 20 ≤ 800 := by omega
    simp (disch := omega) only [wX8_feed, z2, q1, g, not_true_eq_false, not_false_eq_true, false_implies, true_implies, and_true, true_and, and_self, nmM, if_true, if_false, or0, Int32.add_zero, forall_const, one_ne, zero_ne1, nz1, nz0, nI_z, cl, inN, Nat.le_refl, Nat.lt_irrefl, Nat.lt_succ_self, Bool.false_eq_true]
    simp (disch := omega) only [wX9_feed, z3, q2, q3, g', not_true_eq_false, not_false_eq_true, false_implies, true_implies, and_true, true_and, and_self, nmM, if_true, if_false, or0, Int32.add_zero, forall_const, one_ne, zero_ne1, nz1, nz0, nI_z, cl, inN, Nat.le_refl, Nat.lt_irrefl, Nat.lt_succ_self, Bool.false_eq_true]
    exact k μ I
