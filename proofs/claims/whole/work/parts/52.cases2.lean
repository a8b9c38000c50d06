section G2
variable {n a b : Nat} {v u : Int32} {μ : qa_M} {Q : Int32 → qa_M → Prop} {w : Nat → Int32}
theorem xR1 (T : TZ μ (μ.2.2 1 2) w) (r : RZ w) (h : a < zH w) (h2 : b < zH w) (h3 : a ≠ b) : wX8_isPair n (nI a) (nI b) μ Q ↔ Q 1 μ := by
  have := r.2.1.2.2.2.1
  rw [s_isPair, T.1.2.2.2.2.2.1, nI_toInt (by omega), nI_toInt (by omega), nI_toInt (by omega), qb_p ⟨by omega, by omega, fun e => h3 (by rw [neq _ _ (by omega) (by omega)] at e; exact e)⟩]
theorem xR0 (T : TZ μ (μ.2.2 1 2) w) (r : RZ w) (h : ¬ ((0 ≤ v.toInt ∧ v.toInt < (zH w : Int)) ∧ (0 ≤ u.toInt ∧ u.toInt < (zH w : Int)) ∧ ¬ v = u)) : wX8_isPair n v u μ Q ↔ Q 0 μ := by
  have := r.2.1.2.2.2.1
  rw [s_isPair, T.1.2.2.2.2.2.1, nI_toInt (by omega), qb_n h]
theorem mR1 (hw : μ.1 92 = w) (r : RZ w) (h : a < zH w) (h2 : b < zH w) (h3 : a ≠ b) : wX9_areTwo n (nI a) (nI b) μ Q ↔ Q 1 μ := by
  have := r.2.1.2.2.2.1
  rw [s_areTwo (by rw [hw]; exact r.1.2.2.2.1) this, nI_toInt (by omega), nI_toInt (by omega), qb_p ⟨by omega, by omega, fun e => h3 (by rw [neq _ _ (by omega) (by omega)] at e; exact e)⟩]
theorem mR0 (hw : μ.1 92 = w) (r : RZ w) (h : ¬ ((0 ≤ v.toInt ∧ v.toInt < (zH w : Int)) ∧ (0 ≤ u.toInt ∧ u.toInt < (zH w : Int)) ∧ ¬ v = u)) : wX9_areTwo n v u μ Q ↔ Q 0 μ := by
  rw [s_areTwo (by rw [hw]; exact r.1.2.2.2.1) r.2.1.2.2.2.1, qb_n h]
end G2
theorem sub1 (x : Int32) : x - 1 = x + -1 := by rw [Int32.sub_eq_add_neg]
theorem x_neigh {n a v : Nat} {d : Int32} {H W : Nat} {pl : Nat → Nat → Nat} {pp : Nat → Nat → Int32} {fo tu su sm : Nat → Int32} {μ : qa_M} {Q : Int32 → qa_M → Prop} (E : XE μ (μ.2.2 1 2) 33 34 35 36 H W pl pp fo tu su sm) (ha : a < H) (hv : v ≤ W) (hn : 25 < n) : wX8_neighbour n (nI a) d (nI v) μ Q ↔ Q (fnd (fun h => decide (nI (pl v h) = ov (nI (pl v a) + d) H)) 0 H) μ := by
  obtain ⟨W20, H8, hW, hH, plt, hpl, hpp, hfo, htu, hsu, hsm⟩ := id E
  simp (disch := omega) only [wX8_neighbour, s_spot, hpl, hH, s_round, show ¬ H = 0 by omega, if_false, x_who (y := 32) E]
theorem RZ.town {w : Nat → Int32} {μ : qa_M} (hw : μ.1 92 = w) (r : RZ w) (h : 0 < zN w) : 0 < (μ.1 92 9).toInt := by
  have := r.2.1.1
  rw [hw, r.1.1, nI_toInt (by omega)]
  omega
theorem c_30 {Ln n : Nat} {xs : Nat → Int32} {K : Int32 → qa_M → Prop} {i : Int32} {μ : qa_M} (I : INV μ) (hn : 2000 ≤ n) (k : ∀ μ', INV μ' → K (i + 6) μ') (v1 : vp_in (i + 1) Ln) (v2 : vp_in (i + 2) Ln) (v3 : vp_in (i + 3) Ln) (v4 : vp_in (i + 4) Ln) (v5 : vp_in (i + 5) Ln) : wLc_30 Ln xs n K i μ := by
  unfold wLc_30
  simp only [v1, v2, v3, v4, v5, true_and]
  generalize xs (i + 1).toNatClampNeg = a
  generalize xs (i + 2).toNatClampNeg = b
  obtain ⟨w, hw⟩ : ∃ w, μ.1 92 = w := ⟨_, rfl⟩
  obtain ⟨r, T, E, G⟩ := I.facts hw
  obtain ⟨r1, r2, r3, r4⟩ := r.n0
  have L8 := G.1
  have N1 := r.2.1.1
  obtain ⟨W20, H8, hW, hH, plt, hpl, hpp, hfo, htu, hsu, hsm⟩ := id E
  by_cases gR : (0 ≤ a.toInt ∧ a.toInt < (zH w : Int)) ∧ (0 ≤ b.toInt ∧ b.toInt < (zH w : Int)) ∧ ¬ a = b
  · skip
    obtain ⟨a, ha, rfl⟩ := gN gR.1 (by omega)
    obtain ⟨b, hb, rfl⟩ := gN gR.2.1 (by omega)
    have hab : a ≠ b := fun e => gR.2.2 (by rw [e])
    simp (disch := omega) only [wX8_beside, xR1 T r, xl_beside E, not_true_eq_false, not_false_eq_true, false_implies, true_implies, and_true, true_and, and_self, nmM, if_true, if_false, or0, Int32.add_zero, forall_const, one_ne, zero_ne1, nz1, nz0, nI_z, cl, inN]
    simp only [wX9_beside]
    refine m_asks2 hw r (by omega) (fun μ' s h' M E' => ?_)
    obtain ⟨-, -, hW', hH', plt', hpl', hpp', hfo', htu', hsu', hsm'⟩ := id E'
    simp (disch := omega) only [mR1 h' r, ml_beside E', not_true_eq_false, not_false_eq_true, false_implies, true_implies, and_true, true_and, and_self, nmM, if_true, if_false, or0, Int32.add_zero, forall_const, one_ne, zero_ne1, nz1, nz0, nI_z, cl, inN]
    exact k μ' (I.sc s)
  · skip
    simp (disch := omega) only [wX8_beside, xR0 T r gR, not_true_eq_false, not_false_eq_true, false_implies, true_implies, and_true, true_and, and_self, nmM, if_true, if_false, or0, Int32.add_zero, forall_const, one_ne, zero_ne1, nz1, nz0, nI_z, cl, inN]
    simp only [wX9_beside]
    refine m_asks2 hw r (by omega) (fun μ' s h' M E' => ?_)
    obtain ⟨-, -, hW', hH', plt', hpl', hpp', hfo', htu', hsu', hsm'⟩ := id E'
    simp (disch := omega) only [mR0 h' r gR, not_true_eq_false, not_false_eq_true, false_implies, true_implies, and_true, true_and, and_self, nmM, if_true, if_false, or0, Int32.add_zero, forall_const, one_ne, zero_ne1, nz1, nz0, nI_z, cl, inN]
    exact k μ' (I.sc s)
theorem c_33 {Ln n : Nat} {xs : Nat → Int32} {K : Int32 → qa_M → Prop} {i : Int32} {μ : qa_M} (I : INV μ) (hn : 2000 ≤ n) (k : ∀ μ', INV μ' → K (i + 6) μ') (v1 : vp_in (i + 1) Ln) (v2 : vp_in (i + 2) Ln) (v3 : vp_in (i + 3) Ln) (v4 : vp_in (i + 4) Ln) (v5 : vp_in (i + 5) Ln) : wLc_33 Ln xs n K i μ := by
  unfold wLc_33
  simp only [v1, v2, v3, v4, v5, true_and]
  generalize xs (i + 1).toNatClampNeg = a
  generalize xs (i + 2).toNatClampNeg = b
  obtain ⟨w, hw⟩ : ∃ w, μ.1 92 = w := ⟨_, rfl⟩
  obtain ⟨r, T, E, G⟩ := I.facts hw
  obtain ⟨r1, r2, r3, r4⟩ := r.n0
  have L8 := G.1
  have N1 := r.2.1.1
  obtain ⟨W20, H8, hW, hH, plt, hpl, hpp, hfo, htu, hsu, hsm⟩ := id E
  by_cases ga : 0 ≤ a.toInt ∧ a.toInt < (zH w : Int)
  · skip
    obtain ⟨a, ha, rfl⟩ := gN ga (by omega)
    by_cases gb : 0 < zN w ∧ 0 ≤ b.toInt ∧ b.toInt ≤ (zW w : Int)
    · skip
      have n0 := gb.1
      obtain ⟨b, hb, rfl⟩ := gN' gb.2 (by omega)
      simp (disch := omega) only [wX8_mates, xH1 T r, xW1 T r, x_neigh E, not_true_eq_false, not_false_eq_true, false_implies, true_implies, and_true, true_and, and_self, nmM, if_true, if_false, or0, Int32.add_zero, forall_const, one_ne, zero_ne1, nz1, nz0, nI_z, cl, inN]
      simp only [wX9_mates, wX9_asksWeek]
      refine m_asks2 hw r (by omega) (fun μ' s h' M E' => ?_)
      obtain ⟨-, -, hW', hH', plt', hpl', hpp', hfo', htu', hsu', hsm'⟩ := id E'
      simp (disch := omega) only [mH1 h' r, mW1 h' r, s_placeOf, hpl', s_mhouses, hH', s_over, m_who E', sub1, not_true_eq_false, not_false_eq_true, false_implies, true_implies, and_true, true_and, and_self, nmM, if_true, if_false, or0, Int32.add_zero, forall_const, one_ne, zero_ne1, nz1, nz0, nI_z, cl, inN]
      exact k μ' (I.sc s)
    · skip
      simp (disch := omega) only [wX8_mates, xH1 T r, xW0 T r gb, not_true_eq_false, not_false_eq_true, false_implies, true_implies, and_true, true_and, and_self, nmM, if_true, if_false, or0, Int32.add_zero, forall_const, one_ne, zero_ne1, nz1, nz0, nI_z, cl, inN]
      simp only [wX9_mates, wX9_asksWeek]
      refine m_asks2 hw r (by omega) (fun μ' s h' M E' => ?_)
      obtain ⟨-, -, hW', hH', plt', hpl', hpp', hfo', htu', hsu', hsm'⟩ := id E'
      simp (disch := omega) only [mH1 h' r, mW0 h' r gb, not_true_eq_false, not_false_eq_true, false_implies, true_implies, and_true, true_and, and_self, nmM, if_true, if_false, or0, Int32.add_zero, forall_const, one_ne, zero_ne1, nz1, nz0, nI_z, cl, inN]
      exact k μ' (I.sc s)
  · skip
    by_cases gb : 0 < zN w ∧ 0 ≤ b.toInt ∧ b.toInt ≤ (zW w : Int)
    · skip
      have n0 := gb.1
      obtain ⟨b, hb, rfl⟩ := gN' gb.2 (by omega)
      simp (disch := omega) only [wX8_mates, xH0 T r ga, xW1 T r, not_true_eq_false, not_false_eq_true, false_implies, true_implies, and_true, true_and, and_self, nmM, if_true, if_false, or0, Int32.add_zero, forall_const, one_ne, zero_ne1, nz1, nz0, nI_z, cl, inN]
      simp only [wX9_mates, wX9_asksWeek]
      refine m_asks2 hw r (by omega) (fun μ' s h' M E' => ?_)
      obtain ⟨-, -, hW', hH', plt', hpl', hpp', hfo', htu', hsu', hsm'⟩ := id E'
      simp (disch := omega) only [mH0 h' r ga, mW1 h' r, not_true_eq_false, not_false_eq_true, false_implies, true_implies, and_true, true_and, and_self, nmM, if_true, if_false, or0, Int32.add_zero, forall_const, one_ne, zero_ne1, nz1, nz0, nI_z, cl, inN]
      exact k μ' (I.sc s)
    · skip
      simp (disch := omega) only [wX8_mates, xH0 T r ga, xW0 T r gb, not_true_eq_false, not_false_eq_true, false_implies, true_implies, and_true, true_and, and_self, nmM, if_true, if_false, or0, Int32.add_zero, forall_const, one_ne, zero_ne1, nz1, nz0, nI_z, cl, inN]
      simp only [wX9_mates, wX9_asksWeek]
      refine m_asks2 hw r (by omega) (fun μ' s h' M E' => ?_)
      obtain ⟨-, -, hW', hH', plt', hpl', hpp', hfo', htu', hsu', hsm'⟩ := id E'
      simp (disch := omega) only [mH0 h' r ga, mW0 h' r gb, not_true_eq_false, not_false_eq_true, false_implies, true_implies, and_true, true_and, and_self, nmM, if_true, if_false, or0, Int32.add_zero, forall_const, one_ne, zero_ne1, nz1, nz0, nI_z, cl, inN]
      exact k μ' (I.sc s)
theorem c_34 {Ln n : Nat} {xs : Nat → Int32} {K : Int32 → qa_M → Prop} {i : Int32} {μ : qa_M} (I : INV μ) (hn : 2000 ≤ n) (k : ∀ μ', INV μ' → K (i + 6) μ') (v1 : vp_in (i + 1) Ln) (v2 : vp_in (i + 2) Ln) (v3 : vp_in (i + 3) Ln) (v4 : vp_in (i + 4) Ln) (v5 : vp_in (i + 5) Ln) : wLc_34 Ln xs n K i μ := by
  unfold wLc_34
  simp only [v1, v2, v3, v4, v5, true_and]
  generalize xs (i + 1).toNatClampNeg = a
  generalize xs (i + 2).toNatClampNeg = b
  obtain ⟨w, hw⟩ : ∃ w, μ.1 92 = w := ⟨_, rfl⟩
  obtain ⟨r, T, E, G⟩ := I.facts hw
  obtain ⟨r1, r2, r3, r4⟩ := r.n0
  have L8 := G.1
  have N1 := r.2.1.1
  obtain ⟨W20, H8, hW, hH, plt, hpl, hpp, hfo, htu, hsu, hsm⟩ := id E
  by_cases ga : 0 ≤ a.toInt ∧ a.toInt < (zH w : Int)
  · skip
    obtain ⟨a, ha, rfl⟩ := gN ga (by omega)
    by_cases gb : 0 < zN w ∧ 0 ≤ b.toInt ∧ b.toInt ≤ (zW w : Int)
    · skip
      have n0 := gb.1
      obtain ⟨b, hb, rfl⟩ := gN' gb.2 (by omega)
      simp (disch := omega) only [wX8_view, xH1 T r, xW1 T r, hH, x_neigh E, not_true_eq_false, not_false_eq_true, false_implies, true_implies, and_true, true_and, and_self, nmM, if_true, if_false, or0, Int32.add_zero, forall_const, one_ne, zero_ne1, nz1, nz0, nI_z, cl, inN]
      simp only [wX9_view, wX9_asksWeek]
      refine m_asks2 hw r (by omega) (fun μ' s h' M E' => ?_)
      obtain ⟨-, -, hW', hH', plt', hpl', hpp', hfo', htu', hsu', hsm'⟩ := id E'
      simp (disch := omega) only [mH1 h' r, mW1 h' r, s_placeOf, hpl', s_mhouses, hH', s_over, m_who E', not_true_eq_false, not_false_eq_true, false_implies, true_implies, and_true, true_and, and_self, nmM, if_true, if_false, or0, Int32.add_zero, forall_const, one_ne, zero_ne1, nz1, nz0, nI_z, cl, inN]
      exact k μ' (I.sc s)
    · skip
      simp (disch := omega) only [wX8_view, xH1 T r, xW0 T r gb, not_true_eq_false, not_false_eq_true, false_implies, true_implies, and_true, true_and, and_self, nmM, if_true, if_false, or0, Int32.add_zero, forall_const, one_ne, zero_ne1, nz1, nz0, nI_z, cl, inN]
      simp only [wX9_view, wX9_asksWeek]
      refine m_asks2 hw r (by omega) (fun μ' s h' M E' => ?_)
      obtain ⟨-, -, hW', hH', plt', hpl', hpp', hfo', htu', hsu', hsm'⟩ := id E'
      simp (disch := omega) only [mH1 h' r, mW0 h' r gb, not_true_eq_false, not_false_eq_true, false_implies, true_implies, and_true, true_and, and_self, nmM, if_true, if_false, or0, Int32.add_zero, forall_const, one_ne, zero_ne1, nz1, nz0, nI_z, cl, inN]
      exact k μ' (I.sc s)
  · skip
    by_cases gb : 0 < zN w ∧ 0 ≤ b.toInt ∧ b.toInt ≤ (zW w : Int)
    · skip
      have n0 := gb.1
      obtain ⟨b, hb, rfl⟩ := gN' gb.2 (by omega)
      simp (disch := omega) only [wX8_view, xH0 T r ga, xW1 T r, not_true_eq_false, not_false_eq_true, false_implies, true_implies, and_true, true_and, and_self, nmM, if_true, if_false, or0, Int32.add_zero, forall_const, one_ne, zero_ne1, nz1, nz0, nI_z, cl, inN]
      simp only [wX9_view, wX9_asksWeek]
      refine m_asks2 hw r (by omega) (fun μ' s h' M E' => ?_)
      obtain ⟨-, -, hW', hH', plt', hpl', hpp', hfo', htu', hsu', hsm'⟩ := id E'
      simp (disch := omega) only [mH0 h' r ga, mW1 h' r, not_true_eq_false, not_false_eq_true, false_implies, true_implies, and_true, true_and, and_self, nmM, if_true, if_false, or0, Int32.add_zero, forall_const, one_ne, zero_ne1, nz1, nz0, nI_z, cl, inN]
      exact k μ' (I.sc s)
    · skip
      simp (disch := omega) only [wX8_view, xH0 T r ga, xW0 T r gb, not_true_eq_false, not_false_eq_true, false_implies, true_implies, and_true, true_and, and_self, nmM, if_true, if_false, or0, Int32.add_zero, forall_const, one_ne, zero_ne1, nz1, nz0, nI_z, cl, inN]
      simp only [wX9_view, wX9_asksWeek]
      refine m_asks2 hw r (by omega) (fun μ' s h' M E' => ?_)
      obtain ⟨-, -, hW', hH', plt', hpl', hpp', hfo', htu', hsu', hsm'⟩ := id E'
      simp (disch := omega) only [mH0 h' r ga, mW0 h' r gb, not_true_eq_false, not_false_eq_true, false_implies, true_implies, and_true, true_and, and_self, nmM, if_true, if_false, or0, Int32.add_zero, forall_const, one_ne, zero_ne1, nz1, nz0, nI_z, cl, inN]
      exact k μ' (I.sc s)
theorem c_39 {Ln n : Nat} {xs : Nat → Int32} {K : Int32 → qa_M → Prop} {i : Int32} {μ : qa_M} (I : INV μ) (hn : 2000 ≤ n) (k : ∀ μ', INV μ' → K (i + 6) μ') (v1 : vp_in (i + 1) Ln) (v2 : vp_in (i + 2) Ln) (v3 : vp_in (i + 3) Ln) (v4 : vp_in (i + 4) Ln) (v5 : vp_in (i + 5) Ln) : wLc_39 Ln xs n K i μ := by
  unfold wLc_39
  simp only [v1, v2, v3, v4, v5, true_and]
  generalize xs (i + 1).toNatClampNeg = a
  obtain ⟨w, hw⟩ : ∃ w, μ.1 92 = w := ⟨_, rfl⟩
  obtain ⟨r, T, E, G⟩ := I.facts hw
  obtain ⟨r1, r2, r3, r4⟩ := r.n0
  have L8 := G.1
  have N1 := r.2.1.1
  obtain ⟨W20, H8, hW, hH, plt, hpl, hpp, hfo, htu, hsu, hsm⟩ := id E
  by_cases ga : 0 ≤ a.toInt ∧ a.toInt < (zH w : Int)
  · skip
    obtain ⟨a, ha, rfl⟩ := gN ga (by omega)
    have on := yp_onto (o := oT w) r (r.law (by omega)).1 (Or.inl rfl)
    simp (disch := omega) only [wX8_loose, xP1 T r, xl_loose E (on := on), not_true_eq_false, not_false_eq_true, false_implies, true_implies, and_true, true_and, and_self, nmM, if_true, if_false, or0, Int32.add_zero, forall_const, one_ne, zero_ne1, nz1, nz0, nI_z, cl, inN]
    simp only [wX9_loose]
    refine m_asks2 hw r (by omega) (fun μ' s h' M E' => ?_)
    obtain ⟨-, -, hW', hH', plt', hpl', hpp', hfo', htu', hsu', hsm'⟩ := id E'
    simp (disch := omega) only [mP1 h' r, ml_loose E' (on := on), not_true_eq_false, not_false_eq_true, false_implies, true_implies, and_true, true_and, and_self, nmM, if_true, if_false, or0, Int32.add_zero, forall_const, one_ne, zero_ne1, nz1, nz0, nI_z, cl, inN]
    exact k μ' (I.sc s)
  · skip
    simp (disch := omega) only [wX8_loose, xP0 T r ga, not_true_eq_false, not_false_eq_true, false_implies, true_implies, and_true, true_and, and_self, nmM, if_true, if_false, or0, Int32.add_zero, forall_const, one_ne, zero_ne1, nz1, nz0, nI_z, cl, inN]
    simp only [wX9_loose]
    refine m_asks2 hw r (by omega) (fun μ' s h' M E' => ?_)
    obtain ⟨-, -, hW', hH', plt', hpl', hpp', hfo', htu', hsu', hsm'⟩ := id E'
    simp (disch := omega) only [mP0 h' r ga, not_true_eq_false, not_false_eq_true, false_implies, true_implies, and_true, true_and, and_self, nmM, if_true, if_false, or0, Int32.add_zero, forall_const, one_ne, zero_ne1, nz1, nz0, nI_z, cl, inN]
    exact k μ' (I.sc s)
theorem c_41 {Ln n : Nat} {xs : Nat → Int32} {K : Int32 → qa_M → Prop} {i : Int32} {μ : qa_M} (I : INV μ) (hn : 2000 ≤ n) (k : ∀ μ', INV μ' → K (i + 6) μ') (v1 : vp_in (i + 1) Ln) (v2 : vp_in (i + 2) Ln) (v3 : vp_in (i + 3) Ln) (v4 : vp_in (i + 4) Ln) (v5 : vp_in (i + 5) Ln) : wLc_41 Ln xs n K i μ := by
  unfold wLc_41
  simp only [v1, v2, v3, v4, v5, true_and]
  generalize xs (i + 1).toNatClampNeg = a
  obtain ⟨w, hw⟩ : ∃ w, μ.1 92 = w := ⟨_, rfl⟩
  obtain ⟨r, T, E, G⟩ := I.facts hw
  obtain ⟨r1, r2, r3, r4⟩ := r.n0
  have L8 := G.1
  have N1 := r.2.1.1
  obtain ⟨W20, H8, hW, hH, plt, hpl, hpp, hfo, htu, hsu, hsm⟩ := id E
  by_cases ga : 0 ≤ a.toInt ∧ a.toInt < (zL w : Int)
  · skip
    obtain ⟨a, ha, rfl⟩ := gN ga (by omega)
    obtain ⟨⟨b1, b2, b3⟩, g1, g2, g3⟩ := G.2.2 a ha
    simp (disch := omega) only [wX8_late, xL1 T r, g1, g2, g3, x_first E, not_true_eq_false, not_false_eq_true, false_implies, true_implies, and_true, true_and, and_self, nmM, if_true, if_false, or0, Int32.add_zero, forall_const, one_ne, zero_ne1, nz1, nz0, nI_z, cl, inN]
    simp only [wX9_late]
    refine m_asks2 hw r (by omega) (fun μ' s h' M E' => ?_)
    obtain ⟨-, -, hW', hH', plt', hpl', hpp', hfo', htu', hsu', hsm'⟩ := id E'
    have MG := MLZ.of r h'
    obtain ⟨-, g1', g2', g3'⟩ := MG.2.2 a ha
    simp (disch := omega) only [mL1 h' r, m_let2, MG.2.1, g3', m_late E' MG, not_true_eq_false, not_false_eq_true, false_implies, true_implies, and_true, true_and, and_self, nmM, if_true, if_false, or0, Int32.add_zero, forall_const, one_ne, zero_ne1, nz1, nz0, nI_z, cl, inN]
    exact k μ' (I.sc s)
  · skip
    simp (disch := omega) only [wX8_late, xL0 T r ga, not_true_eq_false, not_false_eq_true, false_implies, true_implies, and_true, true_and, and_self, nmM, if_true, if_false, or0, Int32.add_zero, forall_const, one_ne, zero_ne1, nz1, nz0, nI_z, cl, inN]
    simp only [wX9_late]
    refine m_asks2 hw r (by omega) (fun μ' s h' M E' => ?_)
    obtain ⟨-, -, hW', hH', plt', hpl', hpp', hfo', htu', hsu', hsm'⟩ := id E'
    simp (disch := omega) only [mL0 h' r ga, not_true_eq_false, not_false_eq_true, false_implies, true_implies, and_true, true_and, and_self, nmM, if_true, if_false, or0, Int32.add_zero, forall_const, one_ne, zero_ne1, nz1, nz0, nI_z, cl, inN]
    exact k μ' (I.sc s)
theorem c_43 {Ln n : Nat} {xs : Nat → Int32} {K : Int32 → qa_M → Prop} {i : Int32} {μ : qa_M} (I : INV μ) (hn : 2000 ≤ n) (k : ∀ μ', INV μ' → K (i + 6) μ') (v1 : vp_in (i + 1) Ln) (v2 : vp_in (i + 2) Ln) (v3 : vp_in (i + 3) Ln) (v4 : vp_in (i + 4) Ln) (v5 : vp_in (i + 5) Ln) : wLc_43 Ln xs n K i μ := by
  unfold wLc_43
  obtain ⟨w, hw⟩ : ∃ w, μ.1 92 = w := ⟨_, rfl⟩
  obtain ⟨r, T, E, G⟩ := I.facts hw
  obtain ⟨r1, r2, r3, r4⟩ := r.n0
  have L8 := G.1
  have N1 := r.2.1.1
  obtain ⟨W20, H8, hW, hH, plt, hpl, hpp, hfo, htu, hsu, hsm⟩ := id E
  by_cases gT : 0 < zN w
  · skip
    simp (disch := omega) only [wX8_rights, xT1 T r, x_reached (y := 32) E G, not_true_eq_false, not_false_eq_true, false_implies, true_implies, and_true, true_and, and_self, nmM, if_true, if_false, or0, Int32.add_zero, forall_const, one_ne, zero_ne1, nz1, nz0, nI_z, cl, inN]
    simp only [wX9_rights]
    refine m_asks2 hw r (by omega) (fun μ' s h' M E' => ?_)
    obtain ⟨-, -, hW', hH', plt', hpl', hpp', hfo', htu', hsu', hsm'⟩ := id E'
    simp (disch := omega) only [qb_p gT, m_rights E' (MLZ.of r h') (r.town h' gT), not_true_eq_false, not_false_eq_true, false_implies, true_implies, and_true, true_and, and_self, nmM, if_true, if_false, or0, Int32.add_zero, forall_const, one_ne, zero_ne1, nz1, nz0, nI_z, cl, inN]
    exact k μ' (I.sc s)
  · skip
    simp (disch := omega) only [wX8_rights, xT0 T r gT, not_true_eq_false, not_false_eq_true, false_implies, true_implies, and_true, true_and, and_self, nmM, if_true, if_false, or0, Int32.add_zero, forall_const, one_ne, zero_ne1, nz1, nz0, nI_z, cl, inN]
    simp only [wX9_rights]
    refine m_asks2 hw r (by omega) (fun μ' s h' M E' => ?_)
    obtain ⟨-, -, hW', hH', plt', hpl', hpp', hfo', htu', hsu', hsm'⟩ := id E'
    simp (disch := omega) only [qb_n gT, not_true_eq_false, not_false_eq_true, false_implies, true_implies, and_true, true_and, and_self, nmM, if_true, if_false, or0, Int32.add_zero, forall_const, one_ne, zero_ne1, nz1, nz0, nI_z, cl, inN]
    exact k μ' (I.sc s)
theorem c_42 {Ln n : Nat} {xs : Nat → Int32} {K : Int32 → qa_M → Prop} {i : Int32} {μ : qa_M} (I : INV μ) (hn : 2000 ≤ n) (k : ∀ μ', INV μ' → K (i + 6) μ') (v1 : vp_in (i + 1) Ln) (v2 : vp_in (i + 2) Ln) (v3 : vp_in (i + 3) Ln) (v4 : vp_in (i + 4) Ln) (v5 : vp_in (i + 5) Ln) : wLc_42 Ln xs n K i μ := by
  unfold wLc_42
  simp only [v1, v2, v3, v4, v5, true_and]
  generalize xs (i + 1).toNatClampNeg = a
  obtain ⟨w, hw⟩ : ∃ w, μ.1 92 = w := ⟨_, rfl⟩
  obtain ⟨r, T, E, G⟩ := I.facts hw
  obtain ⟨r1, r2, r3, r4⟩ := r.n0
  have L8 := G.1
  have N1 := r.2.1.1
  obtain ⟨W20, H8, hW, hH, plt, hpl, hpp, hfo, htu, hsu, hsm⟩ := id E
  by_cases ga : 0 ≤ a.toInt ∧ a.toInt < (zL w : Int)
  · skip
    obtain ⟨a, ha, rfl⟩ := gN ga (by omega)
    rcases rgb_01 (yp w (oT w)) (zW w) (lhW w) (lpW w) (lwW w) a with e | e <;>
    skip
    all_goals
      simp (disch := omega) only [wX8_right, xL1 T r, x_reaches (y := 32) E G, e, not_true_eq_false, not_false_eq_true, false_implies, true_implies, and_true, true_and, and_self, nmM, if_true, if_false, or0, Int32.add_zero, forall_const, one_ne, zero_ne1, nz1, nz0, nI_z, cl, inN]
      simp only [wX9_right]
      refine m_asks2 hw r (by omega) (fun μ' s h' M E' => ?_)
      obtain ⟨-, -, hW', hH', plt', hpl', hpp', hfo', htu', hsu', hsm'⟩ := id E'
      simp (disch := omega) only [mL1 h' r, m_isRight E' (MLZ.of r h') (r.town h' (by omega)), e, not_true_eq_false, not_false_eq_true, false_implies, true_implies, and_true, true_and, and_self, nmM, if_true, if_false, or0, Int32.add_zero, forall_const, one_ne, zero_ne1, nz1, nz0, nI_z, cl, inN]
      exact k μ' (I.sc s)
  · skip
    simp (disch := omega) only [wX8_right, xL0 T r ga, not_true_eq_false, not_false_eq_true, false_implies, true_implies, and_true, true_and, and_self, nmM, if_true, if_false, or0, Int32.add_zero, forall_const, one_ne, zero_ne1, nz1, nz0, nI_z, cl, inN]
    simp only [wX9_right]
    refine m_asks2 hw r (by omega) (fun μ' s h' M E' => ?_)
    obtain ⟨-, -, hW', hH', plt', hpl', hpp', hfo', htu', hsu', hsm'⟩ := id E'
    simp (disch := omega) only [mL0 h' r ga, not_true_eq_false, not_false_eq_true, false_implies, true_implies, and_true, true_and, and_self, nmM, if_true, if_false, or0, Int32.add_zero, forall_const, one_ne, zero_ne1, nz1, nz0, nI_z, cl, inN]
    exact k μ' (I.sc s)
theorem c_13 {Ln n : Nat} {xs : Nat → Int32} {K : Int32 → qa_M → Prop} {i : Int32} {μ : qa_M} (I : INV μ) (hn : 2000 ≤ n) (k : ∀ μ', INV μ' → K (i + 6) μ') (v1 : vp_in (i + 1) Ln) (v2 : vp_in (i + 2) Ln) (v3 : vp_in (i + 3) Ln) (v4 : vp_in (i + 4) Ln) (v5 : vp_in (i + 5) Ln) : wLc_13 Ln xs n K i μ := by
  unfold wLc_13
  simp only [v1, v2, v3, v4, v5, true_and]
  generalize xs (i + 1).toNatClampNeg = a
  obtain ⟨w, hw⟩ : ∃ w, μ.1 92 = w := ⟨_, rfl⟩
  obtain ⟨r, T, E, G⟩ := I.facts hw
  obtain ⟨r1, r2, r3, r4⟩ := r.n0
  have L8 := G.1
  have N1 := r.2.1.1
  obtain ⟨W20, H8, hW, hH, plt, hpl, hpp, hfo, htu, hsu, hsm⟩ := id E
  by_cases ga : 0 < zN w ∧ 0 ≤ a.toInt ∧ a.toInt ≤ (zW w : Int)
  · have n0 := ga.1
    obtain ⟨a, ha, rfl⟩ := gN' ga.2 (by omega)
    simp (disch := omega) only [wX8_stands, xW1 T r, xl_stands E, not_true_eq_false, not_false_eq_true, false_implies, true_implies, and_true, true_and, and_self, nmM, if_true, if_false, or0, Int32.add_zero, forall_const, one_ne, zero_ne1, nz1, nz0, nI_z, cl, inN]
    simp only [wX9_stands, wX9_asksWeek]
    refine m_asks2 hw r (by omega) (fun μ' s h' M E' => ?_)
    obtain ⟨-, -, hW', hH', plt', hpl', hpp', hfo', htu', hsu', hsm'⟩ := id E'
    simp (disch := omega) only [mW1 h' r, ml_stands E', s_mhouses, hH', not_true_eq_false, not_false_eq_true, false_implies, true_implies, and_true, true_and, and_self, nmM, if_true, if_false, or0, Int32.add_zero, forall_const, one_ne, zero_ne1, nz1, nz0, nI_z, cl, inN]
    refine ⟨fun hz => ?_, fun hz => ?_⟩
    · rw [s_over (by omega) (by omega), if_neg hz]
      exact ⟨fun _ => k μ' (I.sc s), fun h => absurd rfl h⟩
    · rw [if_pos hz]
      exact ⟨fun _ => k μ' (I.sc s), fun h => absurd rfl h⟩
  · simp (disch := omega) only [wX8_stands, xW0 T r ga, not_true_eq_false, not_false_eq_true, false_implies, true_implies, and_true, true_and, and_self, nmM, if_true, if_false, or0, Int32.add_zero, forall_const, one_ne, zero_ne1, nz1, nz0, nI_z, cl, inN]
    simp only [wX9_stands, wX9_asksWeek]
    refine m_asks2 hw r (by omega) (fun μ' s h' M E' => ?_)
    simp (disch := omega) only [mW0 h' r ga, not_true_eq_false, not_false_eq_true, false_implies, true_implies, and_true, true_and, and_self, nmM, if_true, if_false, or0, Int32.add_zero, forall_const, one_ne, zero_ne1, nz1, nz0, nI_z, cl, inN]
    exact k μ' (I.sc s)
theorem c_40 {Ln n : Nat} {xs : Nat → Int32} {K : Int32 → qa_M → Prop} {i : Int32} {μ : qa_M} (I : INV μ) (hn : 2000 ≤ n) (k : ∀ μ', INV μ' → K (i + 6) μ') (v1 : vp_in (i + 1) Ln) (v2 : vp_in (i + 2) Ln) (v3 : vp_in (i + 3) Ln) (v4 : vp_in (i + 4) Ln) (v5 : vp_in (i + 5) Ln) : wLc_40 Ln xs n K i μ := by
  unfold wLc_40
  obtain ⟨w, hw⟩ : ∃ w, μ.1 92 = w := ⟨_, rfl⟩
  obtain ⟨r, T, E, G⟩ := I.facts hw
  obtain ⟨r1, r2, r3, r4⟩ := r.n0
  have L8 := G.1
  have N1 := r.2.1.1
  obtain ⟨W20, H8, hW, hH, plt, hpl, hpp, hfo, htu, hsu, hsm⟩ := id E
  by_cases gT : 0 < zN w
  · by_cases hz : 1 ≤ zH w
    · have tl := topI_lt (fun h => aSun (yp w (oT w)) (sunW w (zP w)) h (zW w)) hz
      have ne2 : (nI (topI (fun h => aSun (yp w (oT w)) (sunW w (zP w)) h (zW w)) (zH w)) = -2) = False := by
        apply propext
        rw [fa_eq, nI_toInt (by omega), show (-2 : Int32).toInt = -2 from rfl]
        exact ⟨fun e => by omega, fun e => e.elim⟩
      simp (disch := omega) only [wX8_gold, wX8_brown, xT1 T r, xl_brown E, bro_top, oI, ne2, xl_gold E, not_true_eq_false, not_false_eq_true, false_implies, true_implies, and_true, true_and, and_self, nmM, if_true, if_false, or0, Int32.add_zero, forall_const, one_ne, zero_ne1, nz1, nz0, nI_z, cl, inN]
      simp only [wX9_gold]
      refine m_asks2 hw r (by omega) (fun μ' s h' M E' => ?_)
      simp (disch := omega) only [qb_p gT, ml_gold E' tl rfl, not_true_eq_false, not_false_eq_true, false_implies, true_implies, and_true, true_and, and_self, nmM, if_true, if_false, or0, Int32.add_zero, forall_const, one_ne, zero_ne1, nz1, nz0, nI_z, cl, inN]
      exact k μ' (I.sc s)
    · have h0 : zH w = 0 := by omega
      have e0 : itr (bro (fun h => aSun (yp w (oT w)) (sunW w (zP w)) h (zW w))) 0 (zH w) none = none := by rw [h0]; rfl
      obtain ⟨m, rfl⟩ : ∃ m, n = m + 1 := ⟨n - 1, by omega⟩
      have z1 : (nI (zH w) ≤ 0) = True := by rw [l0, nle _ _ (by omega) (by decide)]; exact eq_true (by omega)
      simp (disch := omega) only [wX8_gold, wX8_brown, xT1 T r, xl_brown E, e0, oI, show ((-1 : Int32) = -2) = False by simp, wX8_gold_18, hH, z1, not_true_eq_false, not_false_eq_true, false_implies, true_implies, and_true, true_and, and_self, nmM, if_true, if_false, or0, Int32.add_zero, forall_const, one_ne, zero_ne1, nz1, nz0, nI_z, cl, inN]
      simp only [wX9_gold]
      refine m_asks2 hw r (by omega) (fun μ' s h' M E' => ?_)
      obtain ⟨-, -, hW', hH', plt', hpl', hpp', hfo', htu', hsu', hsm'⟩ := id E'
      simp (disch := omega) only [qb_p gT, wX9_gold_14, s_mhouses, hH', z1, not_true_eq_false, not_false_eq_true, false_implies, true_implies, and_true, true_and, and_self, nmM, if_true, if_false, or0, Int32.add_zero, forall_const, one_ne, zero_ne1, nz1, nz0, nI_z, cl, inN]
      exact k μ' (I.sc s)
  · simp (disch := omega) only [wX8_gold, wX8_brown, xT0 T r gT, not_true_eq_false, not_false_eq_true, false_implies, true_implies, and_true, true_and, and_self, nmM, if_true, if_false, or0, Int32.add_zero, forall_const, one_ne, zero_ne1, nz1, nz0, nI_z, cl, inN]
    simp only [wX9_gold]
    refine m_asks2 hw r (by omega) (fun μ' s h' M E' => ?_)
    simp (disch := omega) only [qb_n gT, not_true_eq_false, not_false_eq_true, false_implies, true_implies, and_true, true_and, and_self, nmM, if_true, if_false, or0, Int32.add_zero, forall_const, one_ne, zero_ne1, nz1, nz0, nI_z, cl, inN]
    exact k μ' (I.sc s)
theorem c_44 {Ln n : Nat} {xs : Nat → Int32} {K : Int32 → qa_M → Prop} {i : Int32} {μ : qa_M} (I : INV μ) (hn : 2000 ≤ n) (k : ∀ μ', INV μ' → K (i + 6) μ') (v1 : vp_in (i + 1) Ln) (v2 : vp_in (i + 2) Ln) (v3 : vp_in (i + 3) Ln) (v4 : vp_in (i + 4) Ln) (v5 : vp_in (i + 5) Ln) : wLc_44 Ln xs n K i μ := by
  unfold wLc_44
  simp only [v1, v2, v3, v4, v5, true_and]
  generalize xs (i + 1).toNatClampNeg = a
  obtain ⟨w, hw⟩ : ∃ w, μ.1 92 = w := ⟨_, rfl⟩
  obtain ⟨r, T, E, G⟩ := I.facts hw
  obtain ⟨r1, r2, r3, r4⟩ := r.n0
  have L8 := G.1
  have N1 := r.2.1.1
  obtain ⟨W20, H8, hW, hH, plt, hpl, hpp, hfo, htu, hsu, hsm⟩ := id E
  by_cases ga : 0 ≤ a.toInt ∧ a.toInt < (zL w : Int)
  · obtain ⟨a, ha, rfl⟩ := gN ga (by omega)
    have n0 : 0 < zN w := by omega
    have on := yp_onto (o := oT w) r (r.law (by omega)).1 (Or.inl rfl)
    have inj := yp_inj (o := oT w) r (r.law (by omega)).1 (Or.inl rfl)
    obtain ⟨⟨b1, b2, b3⟩, g1, g2, g3⟩ := G.2.2 a ha
    have m1 : ∀ {C : Int32 → qa_M → Prop}, (∀ μ', sc μ μ' → C (if lwW w a ≤ zW w then (if rgb (yp w (oT w)) (zW w) (lhW w) (lpW w) (lwW w) a = 0 then fnd (fun h => decide (nI (yp w (oT w) (lwW w a) h) = nI (lpW w a))) 0 (zH w) else -1) else -1) μ') → wX9_wrong n (nI a) μ C := by
      intro C kk
      simp only [wX9_wrong]
      refine m_asks2 hw r (by omega) (fun μ' s h' M E' => ?_)
      have MG := MLZ.of r h'
      obtain ⟨-, g1', g2', g3'⟩ := MG.2.2 a ha
      have kk := kk μ' s
      by_cases hl : lwW w a ≤ zW w
      · rcases rgb_01 (yp w (oT w)) (zW w) (lhW w) (lpW w) (lwW w) a with e | e
        · simp (disch := omega) only [mL1 h' r, m_isRight E' MG (r.town h' n0), e, m_let2, m_let1, g3', g2', mW1 h' r, m_who E', not_true_eq_false, not_false_eq_true, false_implies, true_implies, and_true, true_and, and_self, nmM, if_true, if_false, or0, Int32.add_zero, forall_const, one_ne, zero_ne1, nz1, nz0, nI_z, cl, inN]
          rw [if_pos hl, if_pos e] at kk
          exact kk
        · simp (disch := omega) only [mL1 h' r, m_isRight E' MG (r.town h' n0), e, not_true_eq_false, not_false_eq_true, false_implies, true_implies, and_true, true_and, and_self, nmM, if_true, if_false, or0, Int32.add_zero, forall_const, one_ne, zero_ne1, nz1, nz0, nI_z, cl, inN]
          rw [if_pos hl, if_neg (by rw [e]; decide)] at kk
          exact kk
      · have e : rgb (yp w (oT w)) (zW w) (lhW w) (lpW w) (lwW w) a = 0 := by unfold rgb; rw [if_neg hl]
        have g0 : ¬ (0 < zN w ∧ 0 ≤ (nI (lwW w a)).toInt ∧ (nI (lwW w a)).toInt ≤ (zW w : Int)) := by rw [nI_toInt (by omega)]; omega
        simp (disch := omega) only [mL1 h' r, m_isRight E' MG (r.town h' n0), e, m_let2, g3', mW0 h' r g0, not_true_eq_false, not_false_eq_true, false_implies, true_implies, and_true, true_and, and_self, nmM, if_true, if_false, or0, Int32.add_zero, forall_const, one_ne, zero_ne1, nz1, nz0, nI_z, cl, inN]
        rw [if_neg hl] at kk
        exact kk
    simp (disch := omega) only [wX8_wrong, xL1 T r, g1, g2, g3, not_true_eq_false, not_false_eq_true, false_implies, true_implies, and_true, true_and, and_self, nmM, if_true, if_false, or0, Int32.add_zero, forall_const, one_ne, zero_ne1, nz1, nz0, nI_z, cl, inN]
    by_cases hp : lpW w a < zH w
    · by_cases hl : lwW w a ≤ zW w
      · obtain ⟨b, hb, e1, e2⟩ := who_is on (v := lwW w a) hl hp
        simp (disch := omega) only [xP1 T r, xW1 T r, hH, x_who (y := 32) E, e1, g1, not_true_eq_false, not_false_eq_true, false_implies, true_implies, and_true, true_and, and_self, nmM, if_true, if_false, or0, Int32.add_zero, forall_const, one_ne, zero_ne1, nz1, nz0, nI_z, cl, inN]
        have q : nI b = nI (lhW w a) ↔ rgb (yp w (oT w)) (zW w) (lhW w) (lpW w) (lwW w) a = 1 := by
          unfold rgb
          rw [if_pos hl, neq _ _ (by omega) (by omega)]
          constructor
          · intro e; rw [← e, if_pos e2]
          · intro e
            split at e
            · next h3 =>
              have p1 := plt (lwW w a) b hb
              have p2 := plt (lwW w a) (lhW w a) b1
              rw [neq _ _ (by omega) (by omega)] at e2 h3
              exact inj (lwW w a) b (lhW w a) hb b1 (by omega)
            · exact absurd e (by decide)
        refine ⟨fun hne => m1 (fun μ' s => ?_), fun heq => m1 (fun μ' s => ?_)⟩
        · have e0 : rgb (yp w (oT w)) (zW w) (lhW w) (lpW w) (lwW w) a = 0 := by
            rcases rgb_01 (yp w (oT w)) (zW w) (lhW w) (lpW w) (lwW w) a with e | e
            · exact e
            · exact absurd (q.mpr e) hne
          rw [if_pos hl, if_pos e0, e1]
          exact ⟨fun _ => k μ' (I.sc s), fun h => absurd rfl h⟩
        · rw [if_pos hl, if_neg (by rw [q.mp heq]; decide)]
          exact ⟨fun _ => k μ' (I.sc s), fun h => absurd rfl h⟩
      · have g0 : ¬ (0 < zN w ∧ 0 ≤ (nI (lwW w a)).toInt ∧ (nI (lwW w a)).toInt ≤ (zW w : Int)) := by rw [nI_toInt (by omega)]; omega
        simp (disch := omega) only [xP1 T r, xW0 T r g0, not_true_eq_false, not_false_eq_true, false_implies, true_implies, and_true, true_and, and_self, nmM, if_true, if_false, or0, Int32.add_zero, forall_const, one_ne, zero_ne1, nz1, nz0, nI_z, cl, inN]
        refine m1 (fun μ' s => ?_)
        rw [if_neg hl]
        exact ⟨fun _ => k μ' (I.sc s), fun h => absurd rfl h⟩
    · have gp : ¬ (0 ≤ (nI (lpW w a)).toInt ∧ (nI (lpW w a)).toInt < (zH w : Int)) := by rw [nI_toInt (by omega)]; omega
      simp (disch := omega) only [xP0 T r gp, not_true_eq_false, not_false_eq_true, false_implies, true_implies, and_true, true_and, and_self, nmM, if_true, if_false, or0, Int32.add_zero, forall_const, one_ne, zero_ne1, nz1, nz0, nI_z, cl, inN]
      refine m1 (fun μ' s => ?_)
      have e3 : fnd (fun h => decide (nI (yp w (oT w) (lwW w a) h) = nI (lpW w a))) 0 (zH w) = -1 := by
        refine fnd_none _ _ (fun j h1 h2 => ?_)
        have p1 := plt (lwW w a) j (by omega)
        refine decide_eq_false ?_
        rw [neq _ _ (by omega) (by omega)]
        omega
      rw [e3]
      split
      · split
        · exact ⟨fun _ => k μ' (I.sc s), fun h => absurd rfl h⟩
        · exact ⟨fun _ => k μ' (I.sc s), fun h => absurd rfl h⟩
      · exact ⟨fun _ => k μ' (I.sc s), fun h => absurd rfl h⟩
  · simp (disch := omega) only [wX8_wrong, xL0 T r ga, not_true_eq_false, not_false_eq_true, false_implies, true_implies, and_true, true_and, and_self, nmM, if_true, if_false, or0, Int32.add_zero, forall_const, one_ne, zero_ne1, nz1, nz0, nI_z, cl, inN]
    simp only [wX9_wrong]
    refine m_asks2 hw r (by omega) (fun μ' s h' M E' => ?_)
    simp (disch := omega) only [mL0 h' r ga, not_true_eq_false, not_false_eq_true, false_implies, true_implies, and_true, true_and, and_self, nmM, if_true, if_false, or0, Int32.add_zero, forall_const, one_ne, zero_ne1, nz1, nz0, nI_z, cl, inN]
    exact k μ' (I.sc s)
