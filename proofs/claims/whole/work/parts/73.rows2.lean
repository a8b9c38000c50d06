theorem x_slotJ {μ μ' : qa_M} (I : INV μ) (s1 : μ'.2.2 = μ.2.2) (s2 : μ'.1 = μ.1) (hJ : ∀ s, s < 4 → ∀ m, m ≤ 60 → μ.1 110 s = nI m → (∀ j, j < m → μ.2.1 (84 + 2 * s) j = μ.2.1 112 (60 * s + j)) → ∀ j, j < m → μ'.2.1 (84 + 2 * s) j = μ'.2.1 112 (60 * s + j)) : INV μ' := by
  refine I.rows s1 (fun b j _ _ _ => by rw [s2]) (fun s hs => ?_)
  obtain ⟨g1, g2⟩ := I.2.2.2.2.2.2.2.2.1 s hs
  rw [s2]
  refine ⟨g1, ?_⟩
  rcases g2 with g2 | ⟨m, g2, g3, g4, g5, g6⟩
  · exact Or.inl g2
  · exact Or.inr ⟨m, g2, g3, g4, g5, hJ s hs m g2 g3 g6⟩
theorem c_78 {Ln n : Nat} {xs : Nat → Int32} {K : Int32 → qa_M → Prop} {i : Int32} {μ : qa_M} (I : INV μ) (hn : 2000 ≤ n) (k : ∀ μ', INV μ' → K (i + 6) μ') (v1 : vp_in (i + 1) Ln) (v2 : vp_in (i + 2) Ln) (v3 : vp_in (i + 3) Ln) (v4 : vp_in (i + 4) Ln) (v5 : vp_in (i + 5) Ln) : wLc_78 Ln xs n K i μ := by
  unfold wLc_78
  simp only [v1, v2, v3, v4, v5, true_and]
  generalize ((xs (i + 3).toNatClampNeg).toInt64 <<< ((32 : Int32).toInt64 &&& 63)) ||| ((xs (i + 4).toNatClampNeg).toInt64 &&& (4294967295 : Int64)) = v
  generalize xs (i + 1).toNatClampNeg = a
  generalize xs (i + 2).toNatClampNeg = b
  by_cases ga : 0 ≤ a.toInt ∧ a.toInt < 4
  · obtain ⟨a, ha, rfl⟩ := gN (H := 4) ga (by omega)
    obtain ⟨g1, g2⟩ := I.2.2.2.2.2.2.2.2.1 a ha
    rcases g2 with g2 | ⟨m, hm, g3, g4, g5, g6⟩
    · rw [g2] at g1
      simp (disch := omega) only [wX8_write, xS1 ha, wX3_isThere, g1, not_true_eq_false, not_false_eq_true, false_implies, true_implies, and_true, true_and, and_self, nmM, if_true, if_false, or0, Int32.add_zero, forall_const, one_ne, zero_ne1, nz1, nz0, nI_z, cl, inN, Nat.le_refl, Nat.lt_irrefl, Nat.lt_succ_self, Bool.false_eq_true]
      simp (disch := omega) only [wX9_write, mS1 ha, g2, not_true_eq_false, not_false_eq_true, false_implies, true_implies, and_true, true_and, and_self, nmM, if_true, if_false, or0, Int32.add_zero, forall_const, one_ne, zero_ne1, nz1, nz0, nI_z, cl, inN, Nat.le_refl, Nat.lt_irrefl, Nat.lt_succ_self, Bool.false_eq_true]
      exact k μ I
    · rw [g3] at g1
      have e1 : (nI m - 1).toInt = (m : Int) - 1 := pk_sub_toInt (b := 1) (by omega) (by decide)
      have mi : ∀ {Q : Int32 → qa_M → Prop}, wX9_in n b.toInt64 0 (nI m - 1).toInt64 μ Q ↔ Q (qb (0 ≤ b.toInt ∧ b.toInt < (m : Int))) μ := by
        intro Q
        rw [s_in, Int32.toInt_toInt64, Int32.toInt_toInt64, e1, z64, qb_iff (d := (0 ≤ b.toInt ∧ b.toInt < (m : Int)))]
        omega
      by_cases gb : 0 ≤ b.toInt ∧ b.toInt < (m : Int)
      · obtain ⟨b, hb, rfl⟩ := gN gb (by omega)
        have bm' : (nI b < nI m) = True := eq_true (by rw [nlt _ _ (by omega) (by omega)]; exact hb)
        simp (disch := omega) only [wX8_write, xS1 ha, wX3_isThere, g1, nI_n1, n_neg, bm', g4, x_cut g5, not_true_eq_false, not_false_eq_true, false_implies, true_implies, and_true, true_and, and_self, nmM, if_true, if_false, or0, Int32.add_zero, forall_const, one_ne, zero_ne1, nz1, nz0, nI_z, cl, inN, Nat.le_refl, Nat.lt_irrefl, Nat.lt_succ_self, Bool.false_eq_true]
        have J1 : ∀ μ1 : qa_M, μ1 = qa_uJ μ (83 + 2 * a + 1) b (cutV v (μ.1 111 a)) → μ1.1 = μ.1 := fun μ1 e => by rw [e]; rfl
        have h110 : (qa_uJ μ (83 + 2 * a + 1) b (cutV v (μ.1 111 a))).1 110 a = nI m := g3
        have mi' : ∀ {Q : Int32 → qa_M → Prop}, wX9_in n (nI b).toInt64 0 (nI m - 1).toInt64 (qa_uJ μ (83 + 2 * a + 1) b (cutV v (μ.1 111 a))) Q ↔ Q 1 (qa_uJ μ (83 + 2 * a + 1) b (cutV v (μ.1 111 a))) := by
          intro Q
          rw [s_in, Int32.toInt_toInt64, Int32.toInt_toInt64, e1, z64, qb_p (by omega)]
        simp (disch := omega) only [wX9_write, mS1 ha, h110, nI_n1, mi', m_cut, ixN60, not_true_eq_false, not_false_eq_true, false_implies, true_implies, and_true, true_and, and_self, nmM, if_true, if_false, or0, Int32.add_zero, forall_const, one_ne, zero_ne1, nz1, nz0, nI_z, cl, inN, Nat.le_refl, Nat.lt_irrefl, Nat.lt_succ_self, Bool.false_eq_true]
        refine k _ (x_slotJ I rfl rfl (fun s hs m' hm' q1 q2 j hj => ?_))
        by_cases e : s = a
        · subst e
          rw [g3, neq _ _ (by omega) (by omega)] at q1
          subst q1
          rw [show 84 + 2 * s = 83 + 2 * s + 1 by omega, uJn _ _ (by omega)]
          by_cases c : j = b
          · subst c
            rw [uJs, uJs]
            rfl
          · rw [uJn _ _ (by omega), uJn _ _ (by omega), uJn _ _ (by omega), ← show 84 + 2 * s = 83 + 2 * s + 1 by omega]
            exact q2 j hj
        · rw [uJn _ _ (by omega), uJn _ _ (by omega), uJn _ _ (by omega), uJn _ _ (by omega)]
          exact q2 j hj
      · have fin : wX9_write n (nI a) b v μ (fun r2 μ2 => ((-7 : Int32) = r2 → K (i + 6) μ2) ∧ (¬ (-7 : Int32) = r2 → False)) := by
          simp (disch := omega) only [wX9_write, mS1 ha, g3, nI_n1, mi, qb_n gb, not_true_eq_false, not_false_eq_true, false_implies, true_implies, and_true, true_and, and_self, nmM, if_true, if_false, or0, Int32.add_zero, forall_const, one_ne, zero_ne1, nz1, nz0, nI_z, cl, inN, Nat.le_refl, Nat.lt_irrefl, Nat.lt_succ_self, Bool.false_eq_true]
          exact k μ I
        by_cases c1 : b < 0
        · simp (disch := omega) only [wX8_write, xS1 ha, wX3_isThere, g1, nI_n1, c1, not_true_eq_false, not_false_eq_true, false_implies, true_implies, and_true, true_and, and_self, nmM, if_true, if_false, or0, Int32.add_zero, forall_const, one_ne, zero_ne1, nz1, nz0, nI_z, cl, inN, Nat.le_refl, Nat.lt_irrefl, Nat.lt_succ_self, Bool.false_eq_true]
          exact fin
        · have c2 : ¬ b < nI m := by
            rw [fa_lt, show (0 : Int32).toInt = 0 from rfl] at c1
            rw [fa_lt, nI_toInt (by omega)]
            omega
          simp (disch := omega) only [wX8_write, xS1 ha, wX3_isThere, g1, nI_n1, c1, c2, not_true_eq_false, not_false_eq_true, false_implies, true_implies, and_true, true_and, and_self, nmM, if_true, if_false, or0, Int32.add_zero, forall_const, one_ne, zero_ne1, nz1, nz0, nI_z, cl, inN, Nat.le_refl, Nat.lt_irrefl, Nat.lt_succ_self, Bool.false_eq_true]
          exact fin
  · simp (disch := omega) only [wX8_write, xS0 ga, not_true_eq_false, not_false_eq_true, false_implies, true_implies, and_true, true_and, and_self, nmM, if_true, if_false, or0, Int32.add_zero, forall_const, one_ne, zero_ne1, nz1, nz0, nI_z, cl, inN, Nat.le_refl, Nat.lt_irrefl, Nat.lt_succ_self, Bool.false_eq_true]
    simp (disch := omega) only [wX9_write, mS0 ga, not_true_eq_false, not_false_eq_true, false_implies, true_implies, and_true, true_and, and_self, nmM, if_true, if_false, or0, Int32.add_zero, forall_const, one_ne, zero_ne1, nz1, nz0, nI_z, cl, inN, Nat.le_refl, Nat.lt_irrefl, Nat.lt_succ_self, Bool.false_eq_true]
    exact k μ I
theorem x_spans {n s m : Nat} {v u : Int32} {μ : qa_M} {Q : Int32 → qa_M → Prop} (h : μ.1 (83 + 2 * s) 2 = nI m) (hm : m ≤ 60) : wX3_spans n (83 + 2 * s) v u μ Q ↔ Q (qb (0 ≤ v.toInt ∧ 0 ≤ u.toInt ∧ v.toInt + u.toInt ≤ (m : Int))) μ := by
  have b1 := fb_rng v
  have b2 := fb_rng u
  have em : (nI m).toInt = (m : Int) := nI_toInt (by omega)
  have z : (0 : Int32).toInt = 0 := rfl
  unfold wX3_spans
  rw [h]
  by_cases c1 : v < 0
  · have q : ¬ (0 ≤ v.toInt ∧ 0 ≤ u.toInt ∧ v.toInt + u.toInt ≤ (m : Int)) := by rw [fa_lt] at c1; omega
    simp only [c1, qb_n q, not_true_eq_false, not_false_eq_true, false_implies, true_implies, and_true, true_and, and_self, nmM, if_true, if_false, or0, Int32.add_zero, forall_const, one_ne, zero_ne1, nz1, nz0, nI_z, cl, inN, Nat.le_refl, Nat.lt_irrefl, Nat.lt_succ_self, Bool.false_eq_true]
  · by_cases c2 : u < 0
    · have q : ¬ (0 ≤ v.toInt ∧ 0 ≤ u.toInt ∧ v.toInt + u.toInt ≤ (m : Int)) := by rw [fa_lt] at c2; omega
      simp only [c1, c2, qb_n q, not_true_eq_false, not_false_eq_true, false_implies, true_implies, and_true, true_and, and_self, nmM, if_true, if_false, or0, Int32.add_zero, forall_const, one_ne, zero_ne1, nz1, nz0, nI_z, cl, inN, Nat.le_refl, Nat.lt_irrefl, Nat.lt_succ_self, Bool.false_eq_true]
    · by_cases c3 : nI m < v
      · have q : ¬ (0 ≤ v.toInt ∧ 0 ≤ u.toInt ∧ v.toInt + u.toInt ≤ (m : Int)) := by rw [fa_lt, em] at c3; rw [fa_lt, z] at c2; omega
        simp only [c1, c2, c3, qb_n q, not_true_eq_false, not_false_eq_true, false_implies, true_implies, and_true, true_and, and_self, nmM, if_true, if_false, or0, Int32.add_zero, forall_const, one_ne, zero_ne1, nz1, nz0, nI_z, cl, inN, Nat.le_refl, Nat.lt_irrefl, Nat.lt_succ_self, Bool.false_eq_true]
      · have d1 := c1
        have d2 := c2
        have d3 := c3
        rw [fa_lt, z] at d1 d2
        rw [fa_lt, em] at d3
        have es : (nI m - v).toInt = (m : Int) - v.toInt := by rw [fb_subI (by omega) (by omega), em]
        by_cases c4 : nI m - v < u
        · have q : ¬ (0 ≤ v.toInt ∧ 0 ≤ u.toInt ∧ v.toInt + u.toInt ≤ (m : Int)) := by rw [fa_lt, es] at c4; omega
          simp only [c1, c2, c3, c4, qb_n q, not_true_eq_false, not_false_eq_true, false_implies, true_implies, and_true, true_and, and_self, nmM, if_true, if_false, or0, Int32.add_zero, forall_const, one_ne, zero_ne1, nz1, nz0, nI_z, cl, inN, Nat.le_refl, Nat.lt_irrefl, Nat.lt_succ_self, Bool.false_eq_true]
        · have q : (0 ≤ v.toInt ∧ 0 ≤ u.toInt ∧ v.toInt + u.toInt ≤ (m : Int)) := by rw [fa_lt, es] at c4; omega
          simp only [c1, c2, c3, c4, qb_p q, not_true_eq_false, not_false_eq_true, false_implies, true_implies, and_true, true_and, and_self, nmM, if_true, if_false, or0, Int32.add_zero, forall_const, one_ne, zero_ne1, nz1, nz0, nI_z, cl, inN, Nat.le_refl, Nat.lt_irrefl, Nat.lt_succ_self, Bool.false_eq_true]
theorem m_pick {n s i q t k : Nat} {μ : qa_M} {K0 : Int32 → Int32 → Int32 → qa_M → Prop} {Q : Int32 → qa_M → Prop} (hs : s < 4) (hi : i + q ≤ 60) (hn : 70 < n) (kk : ∀ μ', onlyJ 113 μ μ' → (∀ j, j < q → μ'.2.1 113 j = μ.2.1 112 (60 * s + i + j)) → K0 (nI t) (nI k) (nI q) μ') : wX9_paste_113 n (nI s) (nI i) (nI t) (nI k) (nI q) 0 μ K0 Q := by
  refine inv_loop (fun n x (σ : qa_M) => wX9_paste_113 n (nI s) (nI i) (nI t) (nI k) (nI q) x σ K0 Q) q (fun x σ => onlyJ 113 μ σ ∧ ∀ j, j < x → σ.2.1 113 j = μ.2.1 112 (60 * s + i + j)) ?_ ?_ q 0 μ n (by omega) (by omega) ⟨onlyJ.rf _ _, fun j hj => absurd hj (Nat.not_lt_zero j)⟩
  · intro n μ1 ⟨o1, e1⟩
    show wX9_paste_113 (n + 1) _ _ _ _ _ _ _ _ _
    simp (disch := omega) only [wX9_paste_113, nle, not_true_eq_false, not_false_eq_true, false_implies, true_implies, and_true, true_and, and_self, nmM, if_true, if_false, or0, Int32.add_zero, forall_const, one_ne, zero_ne1, nz1, nz0, nI_z, cl, inN, Nat.le_refl, Nat.lt_irrefl, Nat.lt_succ_self, Bool.false_eq_true]
    exact kk μ1 o1 e1
  · intro n x μ1 hx ⟨o1, e1⟩ ih
    show wX9_paste_113 (n + 1) _ _ _ _ _ _ _ _ _
    have hx' : ¬ q ≤ x := by omega
    have e2 := o1.2.2 112 (60 * s + i + x) (by omega)
    simp (disch := omega) only [wX9_paste_113, nle, hx', ixN60, nI_add, e2, nI1, not_true_eq_false, not_false_eq_true, false_implies, true_implies, and_true, true_and, and_self, nmM, if_true, if_false, or0, Int32.add_zero, forall_const, one_ne, zero_ne1, nz1, nz0, nI_z, cl, inN, Nat.le_refl, Nat.lt_irrefl, Nat.lt_succ_self, Bool.false_eq_true]
    refine ih _ ⟨o1.put _ _, fun j hj => ?_⟩
    by_cases c : j = x
    · rw [c, uJs]
    · rw [uJn _ _ (by omega)]; exact e1 j (by omega)
theorem m_lay2 {n q t k : Nat} {μ : qa_M} {Q : Int32 → qa_M → Prop} (ht : t < 4) (hk : k + q ≤ 60) (hn : 70 < n) (kk : ∀ μ', onlyJ 112 μ μ' → (∀ j, (j < 60 * t + k ∨ 60 * t + k + q ≤ j) → μ'.2.1 112 j = μ.2.1 112 j) → (∀ j, j < q → μ'.2.1 112 (60 * t + k + j) = μ.2.1 113 j) → Q 0 μ') : wX9_paste_150 n (nI t) (nI k) (nI q) 0 μ Q := by
  refine inv_loop (fun n x (σ : qa_M) => wX9_paste_150 n (nI t) (nI k) (nI q) x σ Q) q (fun x σ => onlyJ 112 μ σ ∧ (∀ j, (j < 60 * t + k ∨ 60 * t + k + q ≤ j) → σ.2.1 112 j = μ.2.1 112 j) ∧ ∀ j, j < x → σ.2.1 112 (60 * t + k + j) = μ.2.1 113 j) ?_ ?_ q 0 μ n (by omega) (by omega) ⟨onlyJ.rf _ _, fun _ _ => rfl, fun j hj => absurd hj (Nat.not_lt_zero j)⟩
  · intro n μ1 ⟨o1, e0, e1⟩
    show wX9_paste_150 (n + 1) _ _ _ _ _ _
    simp (disch := omega) only [wX9_paste_150, nle, not_true_eq_false, not_false_eq_true, false_implies, true_implies, and_true, true_and, and_self, nmM, if_true, if_false, or0, Int32.add_zero, forall_const, one_ne, zero_ne1, nz1, nz0, nI_z, cl, inN, Nat.le_refl, Nat.lt_irrefl, Nat.lt_succ_self, Bool.false_eq_true]
    exact kk μ1 o1 e0 e1
  · intro n x μ1 hx ⟨o1, e0, e1⟩ ih
    show wX9_paste_150 (n + 1) _ _ _ _ _ _
    have hx' : ¬ q ≤ x := by omega
    have e2 := o1.2.2 113 x (by omega)
    simp (disch := omega) only [wX9_paste_150, nle, hx', ixN60, nI_add, e2, nI1, not_true_eq_false, not_false_eq_true, false_implies, true_implies, and_true, true_and, and_self, nmM, if_true, if_false, or0, Int32.add_zero, forall_const, one_ne, zero_ne1, nz1, nz0, nI_z, cl, inN, Nat.le_refl, Nat.lt_irrefl, Nat.lt_succ_self, Bool.false_eq_true]
    refine ih _ ⟨o1.put _ _, fun j hj => (uJn _ _ (by omega)).trans (e0 j hj), fun j hj => ?_⟩
    by_cases c : j = x
    · rw [c, uJs]
    · rw [uJn _ _ (by omega)]; exact e1 j (by omega)
theorem gJ (μ : qa_M) (a0 a sp dp n b j : Nat) : (qa_cpJ μ a0 a sp dp n).2.1 b j = if b = a then va_cpy (μ.2.1 a0) (μ.2.1 a) sp dp n j else μ.2.1 b j := rfl
theorem sum64 {x y : Int32} : (x.toInt64 + y.toInt64).toInt = x.toInt + y.toInt := by
  have b1 := fb_rng x
  have b2 := fb_rng y
  rw [fb_addL (by rw [Int32.toInt_toInt64, Int32.toInt_toInt64]; omega) (by rw [Int32.toInt_toInt64, Int32.toInt_toInt64]; omega), Int32.toInt_toInt64, Int32.toInt_toInt64]
theorem c_79 {Ln n : Nat} {xs : Nat → Int32} {K : Int32 → qa_M → Prop} {i : Int32} {μ : qa_M} (I : INV μ) (hn : 2000 ≤ n) (k : ∀ μ', INV μ' → K (i + 6) μ') (v1 : vp_in (i + 1) Ln) (v2 : vp_in (i + 2) Ln) (v3 : vp_in (i + 3) Ln) (v4 : vp_in (i + 4) Ln) (v5 : vp_in (i + 5) Ln) : wLc_79 Ln xs n K i μ := by
  unfold wLc_79
  simp only [v1, v2, v3, v4, v5, true_and]
  generalize xs (i + 1).toNatClampNeg = a
  generalize xs (i + 2).toNatClampNeg = b
  generalize xs (i + 3).toNatClampNeg = c
  generalize xs (i + 4).toNatClampNeg = d
  generalize xs (i + 5).toNatClampNeg = e
  obtain ⟨w, hw⟩ : ∃ w, μ.1 92 = w := ⟨_, rfl⟩
  obtain ⟨r, T, E, G⟩ := I.facts hw
  obtain ⟨r1, r2, r3, r4⟩ := r.n0
  have L8 := G.1
  have N1 := r.2.1.1
  obtain ⟨W20, H8, hW, hH, plt, hpl, hpp, hfo, htu, hsu, hsm⟩ := id E
  by_cases ga : 0 ≤ a.toInt ∧ a.toInt < 4
  · obtain ⟨a, ha, rfl⟩ := gN (H := 4) ga (by omega)
    by_cases gc : 0 ≤ c.toInt ∧ c.toInt < 4
    · obtain ⟨c, hc, rfl⟩ := gN (H := 4) gc (by omega)
      obtain ⟨g1, g2⟩ := I.2.2.2.2.2.2.2.2.1 a ha
      obtain ⟨h1, h2⟩ := I.2.2.2.2.2.2.2.2.1 c hc
      rcases g2 with g2 | ⟨m, hm, g3, g4, g5, g6⟩
      · rw [g2] at g1
        simp (disch := omega) only [wX8_paste, xS1 ha, xS1 hc, wX3_isThere, g1, not_true_eq_false, not_false_eq_true, false_implies, true_implies, and_true, true_and, and_self, nmM, if_true, if_false, or0, Int32.add_zero, forall_const, one_ne, zero_ne1, nz1, nz0, nI_z, cl, inN, Nat.le_refl, Nat.lt_irrefl, Nat.lt_succ_self, Bool.false_eq_true]
        simp (disch := omega) only [wX9_paste, mS1 ha, mS1 hc, g2, not_true_eq_false, not_false_eq_true, false_implies, true_implies, and_true, true_and, and_self, nmM, if_true, if_false, or0, Int32.add_zero, forall_const, one_ne, zero_ne1, nz1, nz0, nI_z, cl, inN, Nat.le_refl, Nat.lt_irrefl, Nat.lt_succ_self, Bool.false_eq_true]
        exact k μ I
      · rw [g3] at g1
        rcases h2 with h2 | ⟨p, hp, h3, h4, h5, h6⟩
        · rw [h2] at h1
          simp (disch := omega) only [wX8_paste, xS1 ha, xS1 hc, wX3_isThere, g1, h1, nI_n1, not_true_eq_false, not_false_eq_true, false_implies, true_implies, and_true, true_and, and_self, nmM, if_true, if_false, or0, Int32.add_zero, forall_const, one_ne, zero_ne1, nz1, nz0, nI_z, cl, inN, Nat.le_refl, Nat.lt_irrefl, Nat.lt_succ_self, Bool.false_eq_true]
          simp (disch := omega) only [wX9_paste, mS1 ha, mS1 hc, g3, h2, nI_n1, not_true_eq_false, not_false_eq_true, false_implies, true_implies, and_true, true_and, and_self, nmM, if_true, if_false, or0, Int32.add_zero, forall_const, one_ne, zero_ne1, nz1, nz0, nI_z, cl, inN, Nat.le_refl, Nat.lt_irrefl, Nat.lt_succ_self, Bool.false_eq_true]
          exact k μ I
        · rw [h3] at h1
          by_cases ew : μ.1 111 a = μ.1 111 c
          · have mp : (nI m).toInt = (m : Int) := nI_toInt (by omega)
            have pp : (nI p).toInt = (p : Int) := nI_toInt (by omega)
            by_cases G1 : 0 ≤ b.toInt ∧ 0 ≤ e.toInt ∧ b.toInt + e.toInt ≤ (m : Int)
            · by_cases G2 : 0 ≤ d.toInt ∧ 0 ≤ e.toInt ∧ d.toInt + e.toInt ≤ (p : Int)
              · obtain ⟨b, hb, rfl⟩ := gN' (H := 60) (a := b) ⟨by omega, by omega⟩ (by omega)
                obtain ⟨d, hd, rfl⟩ := gN' (H := 60) (a := d) ⟨by omega, by omega⟩ (by omega)
                obtain ⟨e, he, rfl⟩ := gN' (H := 60) (a := e) ⟨by omega, by omega⟩ (by omega)
                have eb : (nI b).toInt = (b : Int) := nI_toInt (by omega)
                have ed : (nI d).toInt = (d : Int) := nI_toInt (by omega)
                have ee : (nI e).toInt = (e : Int) := nI_toInt (by omega)
                have be60 : b + e ≤ m := by omega
                have de60 : d + e ≤ p := by omega
                have t1 : b + e ≤ 60 := by omega
                have t2 : d + e ≤ 60 := by omega
                simp (disch := omega) only [wX8_paste, xS1 ha, xS1 hc, wX3_isThere, g1, h1, nI_n1, g4, h4, ew, x_spans g1 hm, x_spans h1 hp, qb_p G1, qb_p G2, n_neg, t1, t2, not_true_eq_false, not_false_eq_true, false_implies, true_implies, and_true, true_and, and_self, nmM, if_true, if_false, or0, Int32.add_zero, forall_const, one_ne, zero_ne1, nz1, nz0, nI_z, cl, inN, Nat.le_refl, Nat.lt_irrefl, Nat.lt_succ_self, Bool.false_eq_true]
                have u1 : ¬ 0 < lg_cmp ((nI b).toInt64 + (nI e).toInt64) (nI m).toInt64 := by rw [cmp_gt, sum64, Int32.toInt_toInt64]; omega
                have u2 : lg_cmp ((nI d).toInt64 + (nI e).toInt64) (nI p).toInt64 ≤ 0 := by rw [cmp_le, sum64, Int32.toInt_toInt64]; omega
                have f1 : (qa_cpJ μ (83 + 2 * a + 1) (83 + 2 * c + 1) b d e).1 = μ.1 := rfl
                simp (disch := omega) only [wX9_paste, mS1 ha, mS1 hc, f1, g3, h3, nI_n1, ew, n_neg, u1, u2, not_true_eq_false, not_false_eq_true, false_implies, true_implies, and_true, true_and, and_self, nmM, if_true, if_false, or0, Int32.add_zero, forall_const, one_ne, zero_ne1, nz1, nz0, nI_z, cl, inN, Nat.le_refl, Nat.lt_irrefl, Nat.lt_succ_self, Bool.false_eq_true]
                refine m_pick (s := a) (i := b) (q := e) (t := c) (k := d) ha (by omega) (by omega) (fun μ1 o1 e1 => ?_)
                refine m_lay2 hc (by omega) (by omega) (fun μ2 o2 e2 e3 => ?_)
                simp only [not_true_eq_false, not_false_eq_true, false_implies, true_implies, and_true, true_and, and_self, nmM, if_true, if_false, or0, Int32.add_zero, forall_const, one_ne, zero_ne1, nz1, nz0, nI_z, cl, inN, Nat.le_refl, Nat.lt_irrefl, Nat.lt_succ_self, Bool.false_eq_true]
                have J12 : ∀ j, (qa_cpJ μ (83 + 2 * a + 1) (83 + 2 * c + 1) b d e).2.1 112 j = μ.2.1 112 j := fun j => by rw [gJ, if_neg (by omega)]
                refine k μ2 (x_slotJ I (by rw [o2.2.1, o1.2.1]; rfl) (by rw [o2.1, o1.1]; rfl) (fun s hs m' hm' q1 q2 j hj => ?_))
                have L : ∀ x, μ2.2.1 (84 + 2 * s) x = if s = c then va_cpy (μ.2.1 (83 + 2 * a + 1)) (μ.2.1 (83 + 2 * c + 1)) b d e x else μ.2.1 (84 + 2 * s) x := by
                  intro x
                  rw [o2.2.2 _ _ (by omega), o1.2.2 _ _ (by omega), gJ]
                  by_cases z : s = c
                  · rw [if_pos z, if_pos (by omega)]
                  · rw [if_neg z, if_neg (by omega)]
                rw [L]
                by_cases z : s = c
                · subst z
                  rw [if_pos rfl]
                  rw [h3, neq _ _ (by omega) (by omega)] at q1
                  subst q1
                  by_cases y : d ≤ j ∧ j < d + e
                  · have w1 := e3 (j - d) (by omega)
                    rw [e1 (j - d) (by omega), J12, show 60 * s + d + (j - d) = 60 * s + j by omega] at w1
                    rw [pk_cpy_in y.1 y.2, w1, show 83 + 2 * a + 1 = 84 + 2 * a by omega, show 60 * a + b + (j - d) = 60 * a + (b + (j - d)) by omega]
                    exact g6 _ (by omega)
                  · rw [pk_cpy_out (by omega), e2 _ (by omega), o1.2.2 _ _ (by omega), J12, show 83 + 2 * s + 1 = 84 + 2 * s by omega]
                    exact q2 j hj
                · rw [if_neg z, e2 _ (by omega), o1.2.2 _ _ (by omega), J12]
                  exact q2 j hj
              · have fin : wX9_paste n (nI a) b (nI c) d e μ (fun r2 μ2 => ((-7 : Int32) = r2 → K (i + 6) μ2) ∧ (¬ (-7 : Int32) = r2 → False)) := by
                  have z : (0 : Int32).toInt = 0 := rfl
                  have b0 : ¬ b < 0 := by rw [fa_lt]; omega
                  have e0 : ¬ e < 0 := by rw [fa_lt]; omega
                  have u1 : ¬ 0 < lg_cmp (b.toInt64 + e.toInt64) (nI m).toInt64 := by rw [cmp_gt, sum64, Int32.toInt_toInt64]; omega
                  by_cases d0 : d < 0
                  · simp (disch := omega) only [wX9_paste, mS1 ha, mS1 hc, g3, h3, nI_n1, ew, b0, d0, not_true_eq_false, not_false_eq_true, false_implies, true_implies, and_true, true_and, and_self, nmM, if_true, if_false, or0, Int32.add_zero, forall_const, one_ne, zero_ne1, nz1, nz0, nI_z, cl, inN, Nat.le_refl, Nat.lt_irrefl, Nat.lt_succ_self, Bool.false_eq_true]
                    exact k μ I
                  · have u2 : ¬ lg_cmp (d.toInt64 + e.toInt64) (nI p).toInt64 ≤ 0 := by
                      rw [fa_lt] at d0
                      rw [cmp_le, sum64, Int32.toInt_toInt64]; omega
                    simp (disch := omega) only [wX9_paste, mS1 ha, mS1 hc, g3, h3, nI_n1, ew, b0, d0, e0, u1, u2, not_true_eq_false, not_false_eq_true, false_implies, true_implies, and_true, true_and, and_self, nmM, if_true, if_false, or0, Int32.add_zero, forall_const, one_ne, zero_ne1, nz1, nz0, nI_z, cl, inN, Nat.le_refl, Nat.lt_irrefl, Nat.lt_succ_self, Bool.false_eq_true]
                    exact k μ I
                simp (disch := omega) only [wX8_paste, xS1 ha, xS1 hc, wX3_isThere, g1, h1, nI_n1, g4, h4, ew, x_spans g1 hm, x_spans h1 hp, qb_p G1, qb_n G2, not_true_eq_false, not_false_eq_true, false_implies, true_implies, and_true, true_and, and_self, nmM, if_true, if_false, or0, Int32.add_zero, forall_const, one_ne, zero_ne1, nz1, nz0, nI_z, cl, inN, Nat.le_refl, Nat.lt_irrefl, Nat.lt_succ_self, Bool.false_eq_true]
                exact fin
            · have fin : wX9_paste n (nI a) b (nI c) d e μ (fun r2 μ2 => ((-7 : Int32) = r2 → K (i + 6) μ2) ∧ (¬ (-7 : Int32) = r2 → False)) := by
                have z : (0 : Int32).toInt = 0 := rfl
                by_cases b0 : b < 0
                · simp (disch := omega) only [wX9_paste, mS1 ha, mS1 hc, g3, h3, nI_n1, ew, b0, not_true_eq_false, not_false_eq_true, false_implies, true_implies, and_true, true_and, and_self, nmM, if_true, if_false, or0, Int32.add_zero, forall_const, one_ne, zero_ne1, nz1, nz0, nI_z, cl, inN, Nat.le_refl, Nat.lt_irrefl, Nat.lt_succ_self, Bool.false_eq_true]
                  exact k μ I
                · by_cases d0 : d < 0
                  · simp (disch := omega) only [wX9_paste, mS1 ha, mS1 hc, g3, h3, nI_n1, ew, b0, d0, not_true_eq_false, not_false_eq_true, false_implies, true_implies, and_true, true_and, and_self, nmM, if_true, if_false, or0, Int32.add_zero, forall_const, one_ne, zero_ne1, nz1, nz0, nI_z, cl, inN, Nat.le_refl, Nat.lt_irrefl, Nat.lt_succ_self, Bool.false_eq_true]
                    exact k μ I
                  · by_cases e0 : e < 0
                    · simp (disch := omega) only [wX9_paste, mS1 ha, mS1 hc, g3, h3, nI_n1, ew, b0, d0, e0, not_true_eq_false, not_false_eq_true, false_implies, true_implies, and_true, true_and, and_self, nmM, if_true, if_false, or0, Int32.add_zero, forall_const, one_ne, zero_ne1, nz1, nz0, nI_z, cl, inN, Nat.le_refl, Nat.lt_irrefl, Nat.lt_succ_self, Bool.false_eq_true]
                      exact k μ I
                    · have u1 : 0 < lg_cmp (b.toInt64 + e.toInt64) (nI m).toInt64 := by
                        have y0 := b0
                        have y1 := e0
                        rw [fa_lt] at y0 y1
                        rw [cmp_gt, sum64, Int32.toInt_toInt64]; omega
                      simp (disch := omega) only [wX9_paste, mS1 ha, mS1 hc, g3, h3, nI_n1, ew, b0, d0, e0, u1, not_true_eq_false, not_false_eq_true, false_implies, true_implies, and_true, true_and, and_self, nmM, if_true, if_false, or0, Int32.add_zero, forall_const, one_ne, zero_ne1, nz1, nz0, nI_z, cl, inN, Nat.le_refl, Nat.lt_irrefl, Nat.lt_succ_self, Bool.false_eq_true]
                      exact k μ I
              simp (disch := omega) only [wX8_paste, xS1 ha, xS1 hc, wX3_isThere, g1, h1, nI_n1, g4, h4, ew, x_spans g1 hm, qb_n G1, not_true_eq_false, not_false_eq_true, false_implies, true_implies, and_true, true_and, and_self, nmM, if_true, if_false, or0, Int32.add_zero, forall_const, one_ne, zero_ne1, nz1, nz0, nI_z, cl, inN, Nat.le_refl, Nat.lt_irrefl, Nat.lt_succ_self, Bool.false_eq_true]
              exact fin
          · simp (disch := omega) only [wX8_paste, xS1 ha, xS1 hc, wX3_isThere, g1, h1, nI_n1, g4, h4, ew, not_true_eq_false, not_false_eq_true, false_implies, true_implies, and_true, true_and, and_self, nmM, if_true, if_false, or0, Int32.add_zero, forall_const, one_ne, zero_ne1, nz1, nz0, nI_z, cl, inN, Nat.le_refl, Nat.lt_irrefl, Nat.lt_succ_self, Bool.false_eq_true]
            simp (disch := omega) only [wX9_paste, mS1 ha, mS1 hc, g3, h3, nI_n1, ew, not_true_eq_false, not_false_eq_true, false_implies, true_implies, and_true, true_and, and_self, nmM, if_true, if_false, or0, Int32.add_zero, forall_const, one_ne, zero_ne1, nz1, nz0, nI_z, cl, inN, Nat.le_refl, Nat.lt_irrefl, Nat.lt_succ_self, Bool.false_eq_true]
            exact k μ I
    · simp (disch := omega) only [wX8_paste, xS1 ha, xS0 gc, not_true_eq_false, not_false_eq_true, false_implies, true_implies, and_true, true_and, and_self, nmM, if_true, if_false, or0, Int32.add_zero, forall_const, one_ne, zero_ne1, nz1, nz0, nI_z, cl, inN, Nat.le_refl, Nat.lt_irrefl, Nat.lt_succ_self, Bool.false_eq_true]
      simp (disch := omega) only [wX9_paste, mS1 ha, mS0 gc, not_true_eq_false, not_false_eq_true, false_implies, true_implies, and_true, true_and, and_self, nmM, if_true, if_false, or0, Int32.add_zero, forall_const, one_ne, zero_ne1, nz1, nz0, nI_z, cl, inN, Nat.le_refl, Nat.lt_irrefl, Nat.lt_succ_self, Bool.false_eq_true]
      exact k μ I
  · simp (disch := omega) only [wX8_paste, xS0 ga, not_true_eq_false, not_false_eq_true, false_implies, true_implies, and_true, true_and, and_self, nmM, if_true, if_false, or0, Int32.add_zero, forall_const, one_ne, zero_ne1, nz1, nz0, nI_z, cl, inN, Nat.le_refl, Nat.lt_irrefl, Nat.lt_succ_self, Bool.false_eq_true]
    simp (disch := omega) only [wX9_paste, mS0 ga, not_true_eq_false, not_false_eq_true, false_implies, true_implies, and_true, true_and, and_self, nmM, if_true, if_false, or0, Int32.add_zero, forall_const, one_ne, zero_ne1, nz1, nz0, nI_z, cl, inN, Nat.le_refl, Nat.lt_irrefl, Nat.lt_succ_self, Bool.false_eq_true]
    exact k μ I
