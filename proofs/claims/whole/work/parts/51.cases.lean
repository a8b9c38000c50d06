theorem nI_z {k : Nat} (h : k < 2 ^ 31) : (nI k = 0) = (k = 0) := by
  rw [l0]
  exact neq _ _ h (by decide)
theorem INV.facts {μ : qa_M} {w : Nat → Int32} (I : INV μ) (hw : μ.1 92 = w) : RZ w ∧ TZ μ (μ.2.2 1 2) w ∧ XE μ (μ.2.2 1 2) 33 34 35 36 (zH w) (zW w) (yp w (oT w)) (ypp w (oT w)) (yfo w (oT w)) (ytu w (oT w)) (sunW w (zP w)) (smellW w (zP w)) ∧ XL μ (μ.2.2 1 2) (zH w) (zL w) (lhW w) (lpW w) (lwW w) := by
  subst hw
  obtain ⟨-, -, r, T, Y, -⟩ := I
  exact ⟨r, T, XEZ.of r T Y (Or.inl rfl), XLZ.of r T⟩
theorem RZ.n0 {w : Nat → Int32} (r : RZ w) : (zN w = 0 → zW w = 0) ∧ (zN w = 0 → zH w = 0) ∧ (zN w = 0 → zL w = 0) ∧ (0 < zN w → 1 ≤ zW w) := by
  obtain ⟨-, -, ⟨-, -, g2, g3⟩, -⟩ := r
  exact ⟨fun q => (g3 q).1, fun q => (g3 q).2.1, fun q => (g3 q).2.2, fun q => (g2 q).1⟩
theorem c_8 {Ln n : Nat} {xs : Nat → Int32} {K : Int32 → qa_M → Prop} {i : Int32} {μ : qa_M} (I : INV μ) (hn : 2000 ≤ n) (k : ∀ μ', INV μ' → K (i + 6) μ') (v1 : vp_in (i + 1) Ln) (v2 : vp_in (i + 2) Ln) (v3 : vp_in (i + 3) Ln) (v4 : vp_in (i + 4) Ln) (v5 : vp_in (i + 5) Ln) : wLc_8 Ln xs n K i μ := by
  unfold wLc_8
  simp only [v1, v2, v3, v4, v5, true_and]
  generalize xs (i + 1).toNatClampNeg = a
  generalize xs (i + 2).toNatClampNeg = b
  obtain ⟨w, hw⟩ : ∃ w, μ.1 92 = w := ⟨_, rfl⟩
  obtain ⟨r, T, E, G⟩ := I.facts hw
  obtain ⟨r1, r2, r3, r4⟩ := r.n0
  have L8 := G.1
  have N1 := r.2.1.1
  obtain ⟨W20, H8, hW, hH, plt, hpl, hpp, hfo, htu, hsu, hsm⟩ := id E
  by_cases ga : 0 ≤ a.toInt ∧ a.toInt < (zH w : Int)
  · skip
    obtain ⟨a, ha, rfl⟩ := gN ga (by omega)
    by_cases gb : 0 < zN w ∧ 0 ≤ b.toInt ∧ b.toInt ≤ (zW w : Int)
    · skip
      have n0 := gb.1
      obtain ⟨b, hb, rfl⟩ := gN' gb.2 (by omega)
      simp (disch := omega) only [wX8_at, xH1 T r, xW1 T r, s_spot, hpl, not_true_eq_false, not_false_eq_true, false_implies, true_implies, and_true, true_and, and_self, nmM, if_true, if_false, or0, Int32.add_zero, forall_const, one_ne, zero_ne1, nz1, nz0, nI_z, cl, inN]
      simp only [wX9_at, wX9_asksWeek]
      refine m_asks2 hw r (by omega) (fun μ' s h' M E' => ?_)
      obtain ⟨-, -, hW', hH', plt', hpl', hpp', hfo', htu', hsu', hsm'⟩ := id E'
      simp (disch := omega) only [mH1 h' r, mW1 h' r, s_placeOf, hpl', not_true_eq_false, not_false_eq_true, false_implies, true_implies, and_true, true_and, and_self, nmM, if_true, if_false, or0, Int32.add_zero, forall_const, one_ne, zero_ne1, nz1, nz0, nI_z, cl, inN]
      exact k μ' (I.sc s)
    · skip
      simp (disch := omega) only [wX8_at, xH1 T r, xW0 T r gb, not_true_eq_false, not_false_eq_true, false_implies, true_implies, and_true, true_and, and_self, nmM, if_true, if_false, or0, Int32.add_zero, forall_const, one_ne, zero_ne1, nz1, nz0, nI_z, cl, inN]
      simp only [wX9_at, wX9_asksWeek]
      refine m_asks2 hw r (by omega) (fun μ' s h' M E' => ?_)
      obtain ⟨-, -, hW', hH', plt', hpl', hpp', hfo', htu', hsu', hsm'⟩ := id E'
      simp (disch := omega) only [mH1 h' r, mW0 h' r gb, not_true_eq_false, not_false_eq_true, false_implies, true_implies, and_true, true_and, and_self, nmM, if_true, if_false, or0, Int32.add_zero, forall_const, one_ne, zero_ne1, nz1, nz0, nI_z, cl, inN]
      exact k μ' (I.sc s)
  · skip
    by_cases gb : 0 < zN w ∧ 0 ≤ b.toInt ∧ b.toInt ≤ (zW w : Int)
    · skip
      have n0 := gb.1
      obtain ⟨b, hb, rfl⟩ := gN' gb.2 (by omega)
      simp (disch := omega) only [wX8_at, xH0 T r ga, xW1 T r, not_true_eq_false, not_false_eq_true, false_implies, true_implies, and_true, true_and, and_self, nmM, if_true, if_false, or0, Int32.add_zero, forall_const, one_ne, zero_ne1, nz1, nz0, nI_z, cl, inN]
      simp only [wX9_at, wX9_asksWeek]
      refine m_asks2 hw r (by omega) (fun μ' s h' M E' => ?_)
      obtain ⟨-, -, hW', hH', plt', hpl', hpp', hfo', htu', hsu', hsm'⟩ := id E'
      simp (disch := omega) only [mH0 h' r ga, mW1 h' r, not_true_eq_false, not_false_eq_true, false_implies, true_implies, and_true, true_and, and_self, nmM, if_true, if_false, or0, Int32.add_zero, forall_const, one_ne, zero_ne1, nz1, nz0, nI_z, cl, inN]
      exact k μ' (I.sc s)
    · skip
      simp (disch := omega) only [wX8_at, xH0 T r ga, xW0 T r gb, not_true_eq_false, not_false_eq_true, false_implies, true_implies, and_true, true_and, and_self, nmM, if_true, if_false, or0, Int32.add_zero, forall_const, one_ne, zero_ne1, nz1, nz0, nI_z, cl, inN]
      simp only [wX9_at, wX9_asksWeek]
      refine m_asks2 hw r (by omega) (fun μ' s h' M E' => ?_)
      obtain ⟨-, -, hW', hH', plt', hpl', hpp', hfo', htu', hsu', hsm'⟩ := id E'
      simp (disch := omega) only [mH0 h' r ga, mW0 h' r gb, not_true_eq_false, not_false_eq_true, false_implies, true_implies, and_true, true_and, and_self, nmM, if_true, if_false, or0, Int32.add_zero, forall_const, one_ne, zero_ne1, nz1, nz0, nI_z, cl, inN]
      exact k μ' (I.sc s)
theorem c_9 {Ln n : Nat} {xs : Nat → Int32} {K : Int32 → qa_M → Prop} {i : Int32} {μ : qa_M} (I : INV μ) (hn : 2000 ≤ n) (k : ∀ μ', INV μ' → K (i + 6) μ') (v1 : vp_in (i + 1) Ln) (v2 : vp_in (i + 2) Ln) (v3 : vp_in (i + 3) Ln) (v4 : vp_in (i + 4) Ln) (v5 : vp_in (i + 5) Ln) : wLc_9 Ln xs n K i μ := by
  unfold wLc_9
  simp only [v1, v2, v3, v4, v5, true_and]
  generalize xs (i + 1).toNatClampNeg = a
  generalize xs (i + 2).toNatClampNeg = b
  obtain ⟨w, hw⟩ : ∃ w, μ.1 92 = w := ⟨_, rfl⟩
  obtain ⟨r, T, E, G⟩ := I.facts hw
  obtain ⟨r1, r2, r3, r4⟩ := r.n0
  have L8 := G.1
  have N1 := r.2.1.1
  obtain ⟨W20, H8, hW, hH, plt, hpl, hpp, hfo, htu, hsu, hsm⟩ := id E
  by_cases ga : 0 ≤ a.toInt ∧ a.toInt < (zH w : Int)
  · skip
    obtain ⟨a, ha, rfl⟩ := gN ga (by omega)
    by_cases gb : 0 < zN w ∧ 0 ≤ b.toInt ∧ b.toInt ≤ (zW w : Int)
    · skip
      have n0 := gb.1
      obtain ⟨b, hb, rfl⟩ := gN' gb.2 (by omega)
      simp (disch := omega) only [wX8_who, xP1 T r, xW1 T r, hH, x_who (y := 32) E, not_true_eq_false, not_false_eq_true, false_implies, true_implies, and_true, true_and, and_self, nmM, if_true, if_false, or0, Int32.add_zero, forall_const, one_ne, zero_ne1, nz1, nz0, nI_z, cl, inN]
      simp only [wX9_who, wX9_asksWeek]
      refine m_asks2 hw r (by omega) (fun μ' s h' M E' => ?_)
      obtain ⟨-, -, hW', hH', plt', hpl', hpp', hfo', htu', hsu', hsm'⟩ := id E'
      simp (disch := omega) only [mP1 h' r, mW1 h' r, m_who E', not_true_eq_false, not_false_eq_true, false_implies, true_implies, and_true, true_and, and_self, nmM, if_true, if_false, or0, Int32.add_zero, forall_const, one_ne, zero_ne1, nz1, nz0, nI_z, cl, inN]
      exact k μ' (I.sc s)
    · skip
      simp (disch := omega) only [wX8_who, xP1 T r, xW0 T r gb, not_true_eq_false, not_false_eq_true, false_implies, true_implies, and_true, true_and, and_self, nmM, if_true, if_false, or0, Int32.add_zero, forall_const, one_ne, zero_ne1, nz1, nz0, nI_z, cl, inN]
      simp only [wX9_who, wX9_asksWeek]
      refine m_asks2 hw r (by omega) (fun μ' s h' M E' => ?_)
      obtain ⟨-, -, hW', hH', plt', hpl', hpp', hfo', htu', hsu', hsm'⟩ := id E'
      simp (disch := omega) only [mP1 h' r, mW0 h' r gb, not_true_eq_false, not_false_eq_true, false_implies, true_implies, and_true, true_and, and_self, nmM, if_true, if_false, or0, Int32.add_zero, forall_const, one_ne, zero_ne1, nz1, nz0, nI_z, cl, inN]
      exact k μ' (I.sc s)
  · skip
    by_cases gb : 0 < zN w ∧ 0 ≤ b.toInt ∧ b.toInt ≤ (zW w : Int)
    · skip
      have n0 := gb.1
      obtain ⟨b, hb, rfl⟩ := gN' gb.2 (by omega)
      simp (disch := omega) only [wX8_who, xP0 T r ga, xW1 T r, not_true_eq_false, not_false_eq_true, false_implies, true_implies, and_true, true_and, and_self, nmM, if_true, if_false, or0, Int32.add_zero, forall_const, one_ne, zero_ne1, nz1, nz0, nI_z, cl, inN]
      simp only [wX9_who, wX9_asksWeek]
      refine m_asks2 hw r (by omega) (fun μ' s h' M E' => ?_)
      obtain ⟨-, -, hW', hH', plt', hpl', hpp', hfo', htu', hsu', hsm'⟩ := id E'
      simp (disch := omega) only [mP0 h' r ga, mW1 h' r, not_true_eq_false, not_false_eq_true, false_implies, true_implies, and_true, true_and, and_self, nmM, if_true, if_false, or0, Int32.add_zero, forall_const, one_ne, zero_ne1, nz1, nz0, nI_z, cl, inN]
      exact k μ' (I.sc s)
    · skip
      simp (disch := omega) only [wX8_who, xP0 T r ga, xW0 T r gb, not_true_eq_false, not_false_eq_true, false_implies, true_implies, and_true, true_and, and_self, nmM, if_true, if_false, or0, Int32.add_zero, forall_const, one_ne, zero_ne1, nz1, nz0, nI_z, cl, inN]
      simp only [wX9_who, wX9_asksWeek]
      refine m_asks2 hw r (by omega) (fun μ' s h' M E' => ?_)
      obtain ⟨-, -, hW', hH', plt', hpl', hpp', hfo', htu', hsu', hsm'⟩ := id E'
      simp (disch := omega) only [mP0 h' r ga, mW0 h' r gb, not_true_eq_false, not_false_eq_true, false_implies, true_implies, and_true, true_and, and_self, nmM, if_true, if_false, or0, Int32.add_zero, forall_const, one_ne, zero_ne1, nz1, nz0, nI_z, cl, inN]
      exact k μ' (I.sc s)
theorem c_10 {Ln n : Nat} {xs : Nat → Int32} {K : Int32 → qa_M → Prop} {i : Int32} {μ : qa_M} (I : INV μ) (hn : 2000 ≤ n) (k : ∀ μ', INV μ' → K (i + 6) μ') (v1 : vp_in (i + 1) Ln) (v2 : vp_in (i + 2) Ln) (v3 : vp_in (i + 3) Ln) (v4 : vp_in (i + 4) Ln) (v5 : vp_in (i + 5) Ln) : wLc_10 Ln xs n K i μ := by
  unfold wLc_10
  simp only [v1, v2, v3, v4, v5, true_and]
  generalize xs (i + 1).toNatClampNeg = a
  generalize xs (i + 2).toNatClampNeg = b
  obtain ⟨w, hw⟩ : ∃ w, μ.1 92 = w := ⟨_, rfl⟩
  obtain ⟨r, T, E, G⟩ := I.facts hw
  obtain ⟨r1, r2, r3, r4⟩ := r.n0
  have L8 := G.1
  have N1 := r.2.1.1
  obtain ⟨W20, H8, hW, hH, plt, hpl, hpp, hfo, htu, hsu, hsm⟩ := id E
  by_cases ga : 0 ≤ a.toInt ∧ a.toInt < (zH w : Int)
  · skip
    obtain ⟨a, ha, rfl⟩ := gN ga (by omega)
    by_cases gb : 0 < zN w ∧ 0 ≤ b.toInt ∧ b.toInt < (zW w : Int)
    · skip
      have n0 := gb.1
      obtain ⟨b, hb, rfl⟩ := gN gb.2 (by omega)
      simp (disch := omega) only [wX8_pushes, xH1 T r, xA1 T r, s_effort, hpp, not_true_eq_false, not_false_eq_true, false_implies, true_implies, and_true, true_and, and_self, nmM, if_true, if_false, or0, Int32.add_zero, forall_const, one_ne, zero_ne1, nz1, nz0, nI_z, cl, inN]
      simp only [wX9_pushes, wX9_asksAhead]
      refine m_asks2 hw r (by omega) (fun μ' s h' M E' => ?_)
      obtain ⟨-, -, hW', hH', plt', hpl', hpp', hfo', htu', hsu', hsm'⟩ := id E'
      simp (disch := omega) only [mH1 h' r, mA1 h' r, s_pushOf, hpp', not_true_eq_false, not_false_eq_true, false_implies, true_implies, and_true, true_and, and_self, nmM, if_true, if_false, or0, Int32.add_zero, forall_const, one_ne, zero_ne1, nz1, nz0, nI_z, cl, inN]
      exact k μ' (I.sc s)
    · skip
      simp (disch := omega) only [wX8_pushes, xH1 T r, xA0 T r gb, not_true_eq_false, not_false_eq_true, false_implies, true_implies, and_true, true_and, and_self, nmM, if_true, if_false, or0, Int32.add_zero, forall_const, one_ne, zero_ne1, nz1, nz0, nI_z, cl, inN]
      simp only [wX9_pushes, wX9_asksAhead]
      refine m_asks2 hw r (by omega) (fun μ' s h' M E' => ?_)
      obtain ⟨-, -, hW', hH', plt', hpl', hpp', hfo', htu', hsu', hsm'⟩ := id E'
      simp (disch := omega) only [mH1 h' r, mA0 h' r gb, not_true_eq_false, not_false_eq_true, false_implies, true_implies, and_true, true_and, and_self, nmM, if_true, if_false, or0, Int32.add_zero, forall_const, one_ne, zero_ne1, nz1, nz0, nI_z, cl, inN]
      exact k μ' (I.sc s)
  · skip
    by_cases gb : 0 < zN w ∧ 0 ≤ b.toInt ∧ b.toInt < (zW w : Int)
    · skip
      have n0 := gb.1
      obtain ⟨b, hb, rfl⟩ := gN gb.2 (by omega)
      simp (disch := omega) only [wX8_pushes, xH0 T r ga, xA1 T r, not_true_eq_false, not_false_eq_true, false_implies, true_implies, and_true, true_and, and_self, nmM, if_true, if_false, or0, Int32.add_zero, forall_const, one_ne, zero_ne1, nz1, nz0, nI_z, cl, inN]
      simp only [wX9_pushes, wX9_asksAhead]
      refine m_asks2 hw r (by omega) (fun μ' s h' M E' => ?_)
      obtain ⟨-, -, hW', hH', plt', hpl', hpp', hfo', htu', hsu', hsm'⟩ := id E'
      simp (disch := omega) only [mH0 h' r ga, mA1 h' r, not_true_eq_false, not_false_eq_true, false_implies, true_implies, and_true, true_and, and_self, nmM, if_true, if_false, or0, Int32.add_zero, forall_const, one_ne, zero_ne1, nz1, nz0, nI_z, cl, inN]
      exact k μ' (I.sc s)
    · skip
      simp (disch := omega) only [wX8_pushes, xH0 T r ga, xA0 T r gb, not_true_eq_false, not_false_eq_true, false_implies, true_implies, and_true, true_and, and_self, nmM, if_true, if_false, or0, Int32.add_zero, forall_const, one_ne, zero_ne1, nz1, nz0, nI_z, cl, inN]
      simp only [wX9_pushes, wX9_asksAhead]
      refine m_asks2 hw r (by omega) (fun μ' s h' M E' => ?_)
      obtain ⟨-, -, hW', hH', plt', hpl', hpp', hfo', htu', hsu', hsm'⟩ := id E'
      simp (disch := omega) only [mH0 h' r ga, mA0 h' r gb, not_true_eq_false, not_false_eq_true, false_implies, true_implies, and_true, true_and, and_self, nmM, if_true, if_false, or0, Int32.add_zero, forall_const, one_ne, zero_ne1, nz1, nz0, nI_z, cl, inN]
      exact k μ' (I.sc s)
theorem c_11 {Ln n : Nat} {xs : Nat → Int32} {K : Int32 → qa_M → Prop} {i : Int32} {μ : qa_M} (I : INV μ) (hn : 2000 ≤ n) (k : ∀ μ', INV μ' → K (i + 6) μ') (v1 : vp_in (i + 1) Ln) (v2 : vp_in (i + 2) Ln) (v3 : vp_in (i + 3) Ln) (v4 : vp_in (i + 4) Ln) (v5 : vp_in (i + 5) Ln) : wLc_11 Ln xs n K i μ := by
  unfold wLc_11
  simp only [v1, v2, v3, v4, v5, true_and]
  generalize xs (i + 1).toNatClampNeg = a
  obtain ⟨w, hw⟩ : ∃ w, μ.1 92 = w := ⟨_, rfl⟩
  obtain ⟨r, T, E, G⟩ := I.facts hw
  obtain ⟨r1, r2, r3, r4⟩ := r.n0
  have L8 := G.1
  have N1 := r.2.1.1
  obtain ⟨W20, H8, hW, hH, plt, hpl, hpp, hfo, htu, hsu, hsm⟩ := id E
  by_cases ga : 0 < zN w ∧ 0 ≤ a.toInt ∧ a.toInt < (zW w : Int)
  · skip
    have n0 := ga.1
    obtain ⟨a, ha, rfl⟩ := gN ga.2 (by omega)
    simp (disch := omega) only [wX8_force, xA1 T r, hfo, not_true_eq_false, not_false_eq_true, false_implies, true_implies, and_true, true_and, and_self, nmM, if_true, if_false, or0, Int32.add_zero, forall_const, one_ne, zero_ne1, nz1, nz0, nI_z, cl, inN]
    simp only [wX9_force, wX9_asksAhead]
    refine m_asks2 hw r (by omega) (fun μ' s h' M E' => ?_)
    obtain ⟨-, -, hW', hH', plt', hpl', hpp', hfo', htu', hsu', hsm'⟩ := id E'
    simp (disch := omega) only [mA1 h' r, hfo', not_true_eq_false, not_false_eq_true, false_implies, true_implies, and_true, true_and, and_self, nmM, if_true, if_false, or0, Int32.add_zero, forall_const, one_ne, zero_ne1, nz1, nz0, nI_z, cl, inN]
    exact k μ' (I.sc s)
  · skip
    simp (disch := omega) only [wX8_force, xA0 T r ga, not_true_eq_false, not_false_eq_true, false_implies, true_implies, and_true, true_and, and_self, nmM, if_true, if_false, or0, Int32.add_zero, forall_const, one_ne, zero_ne1, nz1, nz0, nI_z, cl, inN]
    simp only [wX9_force, wX9_asksAhead]
    refine m_asks2 hw r (by omega) (fun μ' s h' M E' => ?_)
    obtain ⟨-, -, hW', hH', plt', hpl', hpp', hfo', htu', hsu', hsm'⟩ := id E'
    simp (disch := omega) only [mA0 h' r ga, not_true_eq_false, not_false_eq_true, false_implies, true_implies, and_true, true_and, and_self, nmM, if_true, if_false, or0, Int32.add_zero, forall_const, one_ne, zero_ne1, nz1, nz0, nI_z, cl, inN]
    exact k μ' (I.sc s)
theorem c_12 {Ln n : Nat} {xs : Nat → Int32} {K : Int32 → qa_M → Prop} {i : Int32} {μ : qa_M} (I : INV μ) (hn : 2000 ≤ n) (k : ∀ μ', INV μ' → K (i + 6) μ') (v1 : vp_in (i + 1) Ln) (v2 : vp_in (i + 2) Ln) (v3 : vp_in (i + 3) Ln) (v4 : vp_in (i + 4) Ln) (v5 : vp_in (i + 5) Ln) : wLc_12 Ln xs n K i μ := by
  unfold wLc_12
  simp only [v1, v2, v3, v4, v5, true_and]
  generalize xs (i + 1).toNatClampNeg = a
  obtain ⟨w, hw⟩ : ∃ w, μ.1 92 = w := ⟨_, rfl⟩
  obtain ⟨r, T, E, G⟩ := I.facts hw
  obtain ⟨r1, r2, r3, r4⟩ := r.n0
  have L8 := G.1
  have N1 := r.2.1.1
  obtain ⟨W20, H8, hW, hH, plt, hpl, hpp, hfo, htu, hsu, hsm⟩ := id E
  by_cases ga : 0 < zN w ∧ 0 ≤ a.toInt ∧ a.toInt < (zW w : Int)
  · skip
    have n0 := ga.1
    obtain ⟨a, ha, rfl⟩ := gN ga.2 (by omega)
    simp (disch := omega) only [wX8_turn, xA1 T r, htu, not_true_eq_false, not_false_eq_true, false_implies, true_implies, and_true, true_and, and_self, nmM, if_true, if_false, or0, Int32.add_zero, forall_const, one_ne, zero_ne1, nz1, nz0, nI_z, cl, inN]
    simp only [wX9_turn, wX9_asksAhead]
    refine m_asks2 hw r (by omega) (fun μ' s h' M E' => ?_)
    obtain ⟨-, -, hW', hH', plt', hpl', hpp', hfo', htu', hsu', hsm'⟩ := id E'
    simp (disch := omega) only [mA1 h' r, htu', not_true_eq_false, not_false_eq_true, false_implies, true_implies, and_true, true_and, and_self, nmM, if_true, if_false, or0, Int32.add_zero, forall_const, one_ne, zero_ne1, nz1, nz0, nI_z, cl, inN]
    exact k μ' (I.sc s)
  · skip
    simp (disch := omega) only [wX8_turn, xA0 T r ga, not_true_eq_false, not_false_eq_true, false_implies, true_implies, and_true, true_and, and_self, nmM, if_true, if_false, or0, Int32.add_zero, forall_const, one_ne, zero_ne1, nz1, nz0, nI_z, cl, inN]
    simp only [wX9_turn, wX9_asksAhead]
    refine m_asks2 hw r (by omega) (fun μ' s h' M E' => ?_)
    obtain ⟨-, -, hW', hH', plt', hpl', hpp', hfo', htu', hsu', hsm'⟩ := id E'
    simp (disch := omega) only [mA0 h' r ga, not_true_eq_false, not_false_eq_true, false_implies, true_implies, and_true, true_and, and_self, nmM, if_true, if_false, or0, Int32.add_zero, forall_const, one_ne, zero_ne1, nz1, nz0, nI_z, cl, inN]
    exact k μ' (I.sc s)
theorem c_14 {Ln n : Nat} {xs : Nat → Int32} {K : Int32 → qa_M → Prop} {i : Int32} {μ : qa_M} (I : INV μ) (hn : 2000 ≤ n) (k : ∀ μ', INV μ' → K (i + 6) μ') (v1 : vp_in (i + 1) Ln) (v2 : vp_in (i + 2) Ln) (v3 : vp_in (i + 3) Ln) (v4 : vp_in (i + 4) Ln) (v5 : vp_in (i + 5) Ln) : wLc_14 Ln xs n K i μ := by
  unfold wLc_14
  obtain ⟨w, hw⟩ : ∃ w, μ.1 92 = w := ⟨_, rfl⟩
  obtain ⟨r, T, E, G⟩ := I.facts hw
  obtain ⟨r1, r2, r3, r4⟩ := r.n0
  have L8 := G.1
  have N1 := r.2.1.1
  obtain ⟨W20, H8, hW, hH, plt, hpl, hpp, hfo, htu, hsu, hsm⟩ := id E
  by_cases gT : 0 < zN w
  · skip
    simp (disch := omega) only [wX8_jerk, xT1 T r, xl_jerk E, not_true_eq_false, not_false_eq_true, false_implies, true_implies, and_true, true_and, and_self, nmM, if_true, if_false, or0, Int32.add_zero, forall_const, one_ne, zero_ne1, nz1, nz0, nI_z, cl, inN]
    simp only [wX9_jerk]
    refine m_asks2 hw r (by omega) (fun μ' s h' M E' => ?_)
    obtain ⟨-, -, hW', hH', plt', hpl', hpp', hfo', htu', hsu', hsm'⟩ := id E'
    simp (disch := omega) only [qb_p gT, ml_jerk E', not_true_eq_false, not_false_eq_true, false_implies, true_implies, and_true, true_and, and_self, nmM, if_true, if_false, or0, Int32.add_zero, forall_const, one_ne, zero_ne1, nz1, nz0, nI_z, cl, inN]
    exact k μ' (I.sc s)
  · skip
    simp (disch := omega) only [wX8_jerk, xT0 T r gT, not_true_eq_false, not_false_eq_true, false_implies, true_implies, and_true, true_and, and_self, nmM, if_true, if_false, or0, Int32.add_zero, forall_const, one_ne, zero_ne1, nz1, nz0, nI_z, cl, inN]
    simp only [wX9_jerk]
    refine m_asks2 hw r (by omega) (fun μ' s h' M E' => ?_)
    obtain ⟨-, -, hW', hH', plt', hpl', hpp', hfo', htu', hsu', hsm'⟩ := id E'
    simp (disch := omega) only [qb_n gT, not_true_eq_false, not_false_eq_true, false_implies, true_implies, and_true, true_and, and_self, nmM, if_true, if_false, or0, Int32.add_zero, forall_const, one_ne, zero_ne1, nz1, nz0, nI_z, cl, inN]
    exact k μ' (I.sc s)
theorem c_15 {Ln n : Nat} {xs : Nat → Int32} {K : Int32 → qa_M → Prop} {i : Int32} {μ : qa_M} (I : INV μ) (hn : 2000 ≤ n) (k : ∀ μ', INV μ' → K (i + 6) μ') (v1 : vp_in (i + 1) Ln) (v2 : vp_in (i + 2) Ln) (v3 : vp_in (i + 3) Ln) (v4 : vp_in (i + 4) Ln) (v5 : vp_in (i + 5) Ln) : wLc_15 Ln xs n K i μ := by
  unfold wLc_15
  obtain ⟨w, hw⟩ : ∃ w, μ.1 92 = w := ⟨_, rfl⟩
  obtain ⟨r, T, E, G⟩ := I.facts hw
  obtain ⟨r1, r2, r3, r4⟩ := r.n0
  have L8 := G.1
  have N1 := r.2.1.1
  obtain ⟨W20, H8, hW, hH, plt, hpl, hpp, hfo, htu, hsu, hsm⟩ := id E
  by_cases gT : 0 < zN w
  · skip
    simp (disch := omega) only [wX8_still, xT1 T r, xl_still E, not_true_eq_false, not_false_eq_true, false_implies, true_implies, and_true, true_and, and_self, nmM, if_true, if_false, or0, Int32.add_zero, forall_const, one_ne, zero_ne1, nz1, nz0, nI_z, cl, inN]
    simp only [wX9_still]
    refine m_asks2 hw r (by omega) (fun μ' s h' M E' => ?_)
    obtain ⟨-, -, hW', hH', plt', hpl', hpp', hfo', htu', hsu', hsm'⟩ := id E'
    simp (disch := omega) only [qb_p gT, ml_still E', not_true_eq_false, not_false_eq_true, false_implies, true_implies, and_true, true_and, and_self, nmM, if_true, if_false, or0, Int32.add_zero, forall_const, one_ne, zero_ne1, nz1, nz0, nI_z, cl, inN]
    exact k μ' (I.sc s)
  · skip
    simp (disch := omega) only [wX8_still, xT0 T r gT, not_true_eq_false, not_false_eq_true, false_implies, true_implies, and_true, true_and, and_self, nmM, if_true, if_false, or0, Int32.add_zero, forall_const, one_ne, zero_ne1, nz1, nz0, nI_z, cl, inN]
    simp only [wX9_still]
    refine m_asks2 hw r (by omega) (fun μ' s h' M E' => ?_)
    obtain ⟨-, -, hW', hH', plt', hpl', hpp', hfo', htu', hsu', hsm'⟩ := id E'
    simp (disch := omega) only [qb_n gT, not_true_eq_false, not_false_eq_true, false_implies, true_implies, and_true, true_and, and_self, nmM, if_true, if_false, or0, Int32.add_zero, forall_const, one_ne, zero_ne1, nz1, nz0, nI_z, cl, inN]
    exact k μ' (I.sc s)
theorem c_16 {Ln n : Nat} {xs : Nat → Int32} {K : Int32 → qa_M → Prop} {i : Int32} {μ : qa_M} (I : INV μ) (hn : 2000 ≤ n) (k : ∀ μ', INV μ' → K (i + 6) μ') (v1 : vp_in (i + 1) Ln) (v2 : vp_in (i + 2) Ln) (v3 : vp_in (i + 3) Ln) (v4 : vp_in (i + 4) Ln) (v5 : vp_in (i + 5) Ln) : wLc_16 Ln xs n K i μ := by
  unfold wLc_16
  simp only [v1, v2, v3, v4, v5, true_and]
  generalize xs (i + 1).toNatClampNeg = a
  obtain ⟨w, hw⟩ : ∃ w, μ.1 92 = w := ⟨_, rfl⟩
  obtain ⟨r, T, E, G⟩ := I.facts hw
  obtain ⟨r1, r2, r3, r4⟩ := r.n0
  have L8 := G.1
  have N1 := r.2.1.1
  obtain ⟨W20, H8, hW, hH, plt, hpl, hpp, hfo, htu, hsu, hsm⟩ := id E
  by_cases ga : 0 < zN w ∧ 0 ≤ a.toInt ∧ a.toInt < (zW w : Int)
  · skip
    have n0 := ga.1
    obtain ⟨a, ha, rfl⟩ := gN ga.2 (by omega)
    simp (disch := omega) only [wX8_strongest, xA1 T r, xl_strongest E, not_true_eq_false, not_false_eq_true, false_implies, true_implies, and_true, true_and, and_self, nmM, if_true, if_false, or0, Int32.add_zero, forall_const, one_ne, zero_ne1, nz1, nz0, nI_z, cl, inN]
    simp only [wX9_strongest, wX9_asksAhead]
    refine m_asks2 hw r (by omega) (fun μ' s h' M E' => ?_)
    obtain ⟨-, -, hW', hH', plt', hpl', hpp', hfo', htu', hsu', hsm'⟩ := id E'
    simp (disch := omega) only [mA1 h' r, ml_strongest E', not_true_eq_false, not_false_eq_true, false_implies, true_implies, and_true, true_and, and_self, nmM, if_true, if_false, or0, Int32.add_zero, forall_const, one_ne, zero_ne1, nz1, nz0, nI_z, cl, inN]
    exact k μ' (I.sc s)
  · skip
    simp (disch := omega) only [wX8_strongest, xA0 T r ga, not_true_eq_false, not_false_eq_true, false_implies, true_implies, and_true, true_and, and_self, nmM, if_true, if_false, or0, Int32.add_zero, forall_const, one_ne, zero_ne1, nz1, nz0, nI_z, cl, inN]
    simp only [wX9_strongest, wX9_asksAhead]
    refine m_asks2 hw r (by omega) (fun μ' s h' M E' => ?_)
    obtain ⟨-, -, hW', hH', plt', hpl', hpp', hfo', htu', hsu', hsm'⟩ := id E'
    simp (disch := omega) only [mA0 h' r ga, not_true_eq_false, not_false_eq_true, false_implies, true_implies, and_true, true_and, and_self, nmM, if_true, if_false, or0, Int32.add_zero, forall_const, one_ne, zero_ne1, nz1, nz0, nI_z, cl, inN]
    exact k μ' (I.sc s)
theorem c_17 {Ln n : Nat} {xs : Nat → Int32} {K : Int32 → qa_M → Prop} {i : Int32} {μ : qa_M} (I : INV μ) (hn : 2000 ≤ n) (k : ∀ μ', INV μ' → K (i + 6) μ') (v1 : vp_in (i + 1) Ln) (v2 : vp_in (i + 2) Ln) (v3 : vp_in (i + 3) Ln) (v4 : vp_in (i + 4) Ln) (v5 : vp_in (i + 5) Ln) : wLc_17 Ln xs n K i μ := by
  unfold wLc_17
  simp only [v1, v2, v3, v4, v5, true_and]
  generalize xs (i + 1).toNatClampNeg = a
  obtain ⟨w, hw⟩ : ∃ w, μ.1 92 = w := ⟨_, rfl⟩
  obtain ⟨r, T, E, G⟩ := I.facts hw
  obtain ⟨r1, r2, r3, r4⟩ := r.n0
  have L8 := G.1
  have N1 := r.2.1.1
  obtain ⟨W20, H8, hW, hH, plt, hpl, hpp, hfo, htu, hsu, hsm⟩ := id E
  by_cases ga : 0 ≤ a.toInt ∧ a.toInt < (zH w : Int)
  · skip
    obtain ⟨a, ha, rfl⟩ := gN ga (by omega)
    simp (disch := omega) only [wX8_toil, xH1 T r, xl_toil E, not_true_eq_false, not_false_eq_true, false_implies, true_implies, and_true, true_and, and_self, nmM, if_true, if_false, or0, Int32.add_zero, forall_const, one_ne, zero_ne1, nz1, nz0, nI_z, cl, inN]
    simp only [wX9_toil, wX9_asksHouse]
    refine m_asks2 hw r (by omega) (fun μ' s h' M E' => ?_)
    obtain ⟨-, -, hW', hH', plt', hpl', hpp', hfo', htu', hsu', hsm'⟩ := id E'
    simp (disch := omega) only [mH1 h' r, ml_toil E', not_true_eq_false, not_false_eq_true, false_implies, true_implies, and_true, true_and, and_self, nmM, if_true, if_false, or0, Int32.add_zero, forall_const, one_ne, zero_ne1, nz1, nz0, nI_z, cl, inN]
    exact k μ' (I.sc s)
  · skip
    simp (disch := omega) only [wX8_toil, xH0 T r ga, not_true_eq_false, not_false_eq_true, false_implies, true_implies, and_true, true_and, and_self, nmM, if_true, if_false, or0, Int32.add_zero, forall_const, one_ne, zero_ne1, nz1, nz0, nI_z, cl, inN]
    simp only [wX9_toil, wX9_asksHouse]
    refine m_asks2 hw r (by omega) (fun μ' s h' M E' => ?_)
    obtain ⟨-, -, hW', hH', plt', hpl', hpp', hfo', htu', hsu', hsm'⟩ := id E'
    simp (disch := omega) only [mH0 h' r ga, not_true_eq_false, not_false_eq_true, false_implies, true_implies, and_true, true_and, and_self, nmM, if_true, if_false, or0, Int32.add_zero, forall_const, one_ne, zero_ne1, nz1, nz0, nI_z, cl, inN]
    exact k μ' (I.sc s)
theorem c_18 {Ln n : Nat} {xs : Nat → Int32} {K : Int32 → qa_M → Prop} {i : Int32} {μ : qa_M} (I : INV μ) (hn : 2000 ≤ n) (k : ∀ μ', INV μ' → K (i + 6) μ') (v1 : vp_in (i + 1) Ln) (v2 : vp_in (i + 2) Ln) (v3 : vp_in (i + 3) Ln) (v4 : vp_in (i + 4) Ln) (v5 : vp_in (i + 5) Ln) : wLc_18 Ln xs n K i μ := by
  unfold wLc_18
  simp only [v1, v2, v3, v4, v5, true_and]
  generalize xs (i + 1).toNatClampNeg = a
  generalize xs (i + 2).toNatClampNeg = b
  obtain ⟨w, hw⟩ : ∃ w, μ.1 92 = w := ⟨_, rfl⟩
  obtain ⟨r, T, E, G⟩ := I.facts hw
  obtain ⟨r1, r2, r3, r4⟩ := r.n0
  have L8 := G.1
  have N1 := r.2.1.1
  obtain ⟨W20, H8, hW, hH, plt, hpl, hpp, hfo, htu, hsu, hsm⟩ := id E
  by_cases ga : 0 ≤ a.toInt ∧ a.toInt < (zH w : Int)
  · skip
    obtain ⟨a, ha, rfl⟩ := gN ga (by omega)
    by_cases gb : 0 < zN w ∧ 0 ≤ b.toInt ∧ b.toInt ≤ (zW w : Int)
    · skip
      have n0 := gb.1
      obtain ⟨b, hb, rfl⟩ := gN' gb.2 (by omega)
      simp (disch := omega) only [wX8_sun, xH1 T r, xW1 T r, x_sunTo (y := 32) E, not_true_eq_false, not_false_eq_true, false_implies, true_implies, and_true, true_and, and_self, nmM, if_true, if_false, or0, Int32.add_zero, forall_const, one_ne, zero_ne1, nz1, nz0, nI_z, cl, inN]
      simp only [wX9_sun, wX9_asksWeek]
      refine m_asks2 hw r (by omega) (fun μ' s h' M E' => ?_)
      obtain ⟨-, -, hW', hH', plt', hpl', hpp', hfo', htu', hsu', hsm'⟩ := id E'
      simp (disch := omega) only [mH1 h' r, mW1 h' r, m_sunTo E', not_true_eq_false, not_false_eq_true, false_implies, true_implies, and_true, true_and, and_self, nmM, if_true, if_false, or0, Int32.add_zero, forall_const, one_ne, zero_ne1, nz1, nz0, nI_z, cl, inN]
      exact k μ' (I.sc s)
    · skip
      simp (disch := omega) only [wX8_sun, xH1 T r, xW0 T r gb, not_true_eq_false, not_false_eq_true, false_implies, true_implies, and_true, true_and, and_self, nmM, if_true, if_false, or0, Int32.add_zero, forall_const, one_ne, zero_ne1, nz1, nz0, nI_z, cl, inN]
      simp only [wX9_sun, wX9_asksWeek]
      refine m_asks2 hw r (by omega) (fun μ' s h' M E' => ?_)
      obtain ⟨-, -, hW', hH', plt', hpl', hpp', hfo', htu', hsu', hsm'⟩ := id E'
      simp (disch := omega) only [mH1 h' r, mW0 h' r gb, not_true_eq_false, not_false_eq_true, false_implies, true_implies, and_true, true_and, and_self, nmM, if_true, if_false, or0, Int32.add_zero, forall_const, one_ne, zero_ne1, nz1, nz0, nI_z, cl, inN]
      exact k μ' (I.sc s)
  · skip
    by_cases gb : 0 < zN w ∧ 0 ≤ b.toInt ∧ b.toInt ≤ (zW w : Int)
    · skip
      have n0 := gb.1
      obtain ⟨b, hb, rfl⟩ := gN' gb.2 (by omega)
      simp (disch := omega) only [wX8_sun, xH0 T r ga, xW1 T r, not_true_eq_false, not_false_eq_true, false_implies, true_implies, and_true, true_and, and_self, nmM, if_true, if_false, or0, Int32.add_zero, forall_const, one_ne, zero_ne1, nz1, nz0, nI_z, cl, inN]
      simp only [wX9_sun, wX9_asksWeek]
      refine m_asks2 hw r (by omega) (fun μ' s h' M E' => ?_)
      obtain ⟨-, -, hW', hH', plt', hpl', hpp', hfo', htu', hsu', hsm'⟩ := id E'
      simp (disch := omega) only [mH0 h' r ga, mW1 h' r, not_true_eq_false, not_false_eq_true, false_implies, true_implies, and_true, true_and, and_self, nmM, if_true, if_false, or0, Int32.add_zero, forall_const, one_ne, zero_ne1, nz1, nz0, nI_z, cl, inN]
      exact k μ' (I.sc s)
    · skip
      simp (disch := omega) only [wX8_sun, xH0 T r ga, xW0 T r gb, not_true_eq_false, not_false_eq_true, false_implies, true_implies, and_true, true_and, and_self, nmM, if_true, if_false, or0, Int32.add_zero, forall_const, one_ne, zero_ne1, nz1, nz0, nI_z, cl, inN]
      simp only [wX9_sun, wX9_asksWeek]
      refine m_asks2 hw r (by omega) (fun μ' s h' M E' => ?_)
      obtain ⟨-, -, hW', hH', plt', hpl', hpp', hfo', htu', hsu', hsm'⟩ := id E'
      simp (disch := omega) only [mH0 h' r ga, mW0 h' r gb, not_true_eq_false, not_false_eq_true, false_implies, true_implies, and_true, true_and, and_self, nmM, if_true, if_false, or0, Int32.add_zero, forall_const, one_ne, zero_ne1, nz1, nz0, nI_z, cl, inN]
      exact k μ' (I.sc s)
theorem c_19 {Ln n : Nat} {xs : Nat → Int32} {K : Int32 → qa_M → Prop} {i : Int32} {μ : qa_M} (I : INV μ) (hn : 2000 ≤ n) (k : ∀ μ', INV μ' → K (i + 6) μ') (v1 : vp_in (i + 1) Ln) (v2 : vp_in (i + 2) Ln) (v3 : vp_in (i + 3) Ln) (v4 : vp_in (i + 4) Ln) (v5 : vp_in (i + 5) Ln) : wLc_19 Ln xs n K i μ := by
  unfold wLc_19
  obtain ⟨w, hw⟩ : ∃ w, μ.1 92 = w := ⟨_, rfl⟩
  obtain ⟨r, T, E, G⟩ := I.facts hw
  obtain ⟨r1, r2, r3, r4⟩ := r.n0
  have L8 := G.1
  have N1 := r.2.1.1
  obtain ⟨W20, H8, hW, hH, plt, hpl, hpp, hfo, htu, hsu, hsm⟩ := id E
  by_cases gT : 0 < zN w
  · skip
    simp (disch := omega) only [wX8_brown, xT1 T r, xl_brown E, not_true_eq_false, not_false_eq_true, false_implies, true_implies, and_true, true_and, and_self, nmM, if_true, if_false, or0, Int32.add_zero, forall_const, one_ne, zero_ne1, nz1, nz0, nI_z, cl, inN]
    simp only [wX9_brown]
    refine m_asks2 hw r (by omega) (fun μ' s h' M E' => ?_)
    obtain ⟨-, -, hW', hH', plt', hpl', hpp', hfo', htu', hsu', hsm'⟩ := id E'
    simp (disch := omega) only [qb_p gT, m_brownOf E', not_true_eq_false, not_false_eq_true, false_implies, true_implies, and_true, true_and, and_self, nmM, if_true, if_false, or0, Int32.add_zero, forall_const, one_ne, zero_ne1, nz1, nz0, nI_z, cl, inN]
    exact k μ' (I.sc s)
  · skip
    simp (disch := omega) only [wX8_brown, xT0 T r gT, not_true_eq_false, not_false_eq_true, false_implies, true_implies, and_true, true_and, and_self, nmM, if_true, if_false, or0, Int32.add_zero, forall_const, one_ne, zero_ne1, nz1, nz0, nI_z, cl, inN]
    simp only [wX9_brown]
    refine m_asks2 hw r (by omega) (fun μ' s h' M E' => ?_)
    obtain ⟨-, -, hW', hH', plt', hpl', hpp', hfo', htu', hsu', hsm'⟩ := id E'
    simp (disch := omega) only [qb_n gT, not_true_eq_false, not_false_eq_true, false_implies, true_implies, and_true, true_and, and_self, nmM, if_true, if_false, or0, Int32.add_zero, forall_const, one_ne, zero_ne1, nz1, nz0, nI_z, cl, inN]
    exact k μ' (I.sc s)
theorem c_20 {Ln n : Nat} {xs : Nat → Int32} {K : Int32 → qa_M → Prop} {i : Int32} {μ : qa_M} (I : INV μ) (hn : 2000 ≤ n) (k : ∀ μ', INV μ' → K (i + 6) μ') (v1 : vp_in (i + 1) Ln) (v2 : vp_in (i + 2) Ln) (v3 : vp_in (i + 3) Ln) (v4 : vp_in (i + 4) Ln) (v5 : vp_in (i + 5) Ln) : wLc_20 Ln xs n K i μ := by
  unfold wLc_20
  obtain ⟨w, hw⟩ : ∃ w, μ.1 92 = w := ⟨_, rfl⟩
  obtain ⟨r, T, E, G⟩ := I.facts hw
  obtain ⟨r1, r2, r3, r4⟩ := r.n0
  have L8 := G.1
  have N1 := r.2.1.1
  obtain ⟨W20, H8, hW, hH, plt, hpl, hpp, hfo, htu, hsu, hsm⟩ := id E
  by_cases gT : 0 < zN w
  · skip
    simp (disch := omega) only [wX8_pale, xT1 T r, xl_pale E, not_true_eq_false, not_false_eq_true, false_implies, true_implies, and_true, true_and, and_self, nmM, if_true, if_false, or0, Int32.add_zero, forall_const, one_ne, zero_ne1, nz1, nz0, nI_z, cl, inN]
    simp only [wX9_pale]
    refine m_asks2 hw r (by omega) (fun μ' s h' M E' => ?_)
    obtain ⟨-, -, hW', hH', plt', hpl', hpp', hfo', htu', hsu', hsm'⟩ := id E'
    simp (disch := omega) only [qb_p gT, m_paleOf E', not_true_eq_false, not_false_eq_true, false_implies, true_implies, and_true, true_and, and_self, nmM, if_true, if_false, or0, Int32.add_zero, forall_const, one_ne, zero_ne1, nz1, nz0, nI_z, cl, inN]
    exact k μ' (I.sc s)
  · skip
    simp (disch := omega) only [wX8_pale, xT0 T r gT, not_true_eq_false, not_false_eq_true, false_implies, true_implies, and_true, true_and, and_self, nmM, if_true, if_false, or0, Int32.add_zero, forall_const, one_ne, zero_ne1, nz1, nz0, nI_z, cl, inN]
    simp only [wX9_pale]
    refine m_asks2 hw r (by omega) (fun μ' s h' M E' => ?_)
    obtain ⟨-, -, hW', hH', plt', hpl', hpp', hfo', htu', hsu', hsm'⟩ := id E'
    simp (disch := omega) only [qb_n gT, not_true_eq_false, not_false_eq_true, false_implies, true_implies, and_true, true_and, and_self, nmM, if_true, if_false, or0, Int32.add_zero, forall_const, one_ne, zero_ne1, nz1, nz0, nI_z, cl, inN]
    exact k μ' (I.sc s)
theorem c_21 {Ln n : Nat} {xs : Nat → Int32} {K : Int32 → qa_M → Prop} {i : Int32} {μ : qa_M} (I : INV μ) (hn : 2000 ≤ n) (k : ∀ μ', INV μ' → K (i + 6) μ') (v1 : vp_in (i + 1) Ln) (v2 : vp_in (i + 2) Ln) (v3 : vp_in (i + 3) Ln) (v4 : vp_in (i + 4) Ln) (v5 : vp_in (i + 5) Ln) : wLc_21 Ln xs n K i μ := by
  unfold wLc_21
  obtain ⟨w, hw⟩ : ∃ w, μ.1 92 = w := ⟨_, rfl⟩
  obtain ⟨r, T, E, G⟩ := I.facts hw
  obtain ⟨r1, r2, r3, r4⟩ := r.n0
  have L8 := G.1
  have N1 := r.2.1.1
  obtain ⟨W20, H8, hW, hH, plt, hpl, hpp, hfo, htu, hsu, hsm⟩ := id E
  by_cases gT : 0 < zN w
  · skip
    simp (disch := omega) only [wX8_span, xT1 T r, x_spread (y := 32) E, not_true_eq_false, not_false_eq_true, false_implies, true_implies, and_true, true_and, and_self, nmM, if_true, if_false, or0, Int32.add_zero, forall_const, one_ne, zero_ne1, nz1, nz0, nI_z, cl, inN]
    simp only [wX9_span]
    refine m_asks2 hw r (by omega) (fun μ' s h' M E' => ?_)
    obtain ⟨-, -, hW', hH', plt', hpl', hpp', hfo', htu', hsu', hsm'⟩ := id E'
    simp (disch := omega) only [qb_p gT, m_span E', not_true_eq_false, not_false_eq_true, false_implies, true_implies, and_true, true_and, and_self, nmM, if_true, if_false, or0, Int32.add_zero, forall_const, one_ne, zero_ne1, nz1, nz0, nI_z, cl, inN]
    exact k μ' (I.sc s)
  · skip
    simp (disch := omega) only [wX8_span, xT0 T r gT, not_true_eq_false, not_false_eq_true, false_implies, true_implies, and_true, true_and, and_self, nmM, if_true, if_false, or0, Int32.add_zero, forall_const, one_ne, zero_ne1, nz1, nz0, nI_z, cl, inN]
    simp only [wX9_span]
    refine m_asks2 hw r (by omega) (fun μ' s h' M E' => ?_)
    obtain ⟨-, -, hW', hH', plt', hpl', hpp', hfo', htu', hsu', hsm'⟩ := id E'
    simp (disch := omega) only [qb_n gT, not_true_eq_false, not_false_eq_true, false_implies, true_implies, and_true, true_and, and_self, nmM, if_true, if_false, or0, Int32.add_zero, forall_const, one_ne, zero_ne1, nz1, nz0, nI_z, cl, inN]
    exact k μ' (I.sc s)
theorem c_22 {Ln n : Nat} {xs : Nat → Int32} {K : Int32 → qa_M → Prop} {i : Int32} {μ : qa_M} (I : INV μ) (hn : 2000 ≤ n) (k : ∀ μ', INV μ' → K (i + 6) μ') (v1 : vp_in (i + 1) Ln) (v2 : vp_in (i + 2) Ln) (v3 : vp_in (i + 3) Ln) (v4 : vp_in (i + 4) Ln) (v5 : vp_in (i + 5) Ln) : wLc_22 Ln xs n K i μ := by
  unfold wLc_22
  obtain ⟨w, hw⟩ : ∃ w, μ.1 92 = w := ⟨_, rfl⟩
  obtain ⟨r, T, E, G⟩ := I.facts hw
  obtain ⟨r1, r2, r3, r4⟩ := r.n0
  have L8 := G.1
  have N1 := r.2.1.1
  obtain ⟨W20, H8, hW, hH, plt, hpl, hpp, hfo, htu, hsu, hsm⟩ := id E
  by_cases gT : 0 < zN w
  · skip
    simp (disch := omega) only [wX8_home, xT1 T r, xl_home E, not_true_eq_false, not_false_eq_true, false_implies, true_implies, and_true, true_and, and_self, nmM, if_true, if_false, or0, Int32.add_zero, forall_const, one_ne, zero_ne1, nz1, nz0, nI_z, cl, inN]
    simp only [wX9_home]
    refine m_asks2 hw r (by omega) (fun μ' s h' M E' => ?_)
    obtain ⟨-, -, hW', hH', plt', hpl', hpp', hfo', htu', hsu', hsm'⟩ := id E'
    simp (disch := omega) only [qb_p gT, ml_home E', not_true_eq_false, not_false_eq_true, false_implies, true_implies, and_true, true_and, and_self, nmM, if_true, if_false, or0, Int32.add_zero, forall_const, one_ne, zero_ne1, nz1, nz0, nI_z, cl, inN]
    exact k μ' (I.sc s)
  · skip
    simp (disch := omega) only [wX8_home, xT0 T r gT, not_true_eq_false, not_false_eq_true, false_implies, true_implies, and_true, true_and, and_self, nmM, if_true, if_false, or0, Int32.add_zero, forall_const, one_ne, zero_ne1, nz1, nz0, nI_z, cl, inN]
    simp only [wX9_home]
    refine m_asks2 hw r (by omega) (fun μ' s h' M E' => ?_)
    obtain ⟨-, -, hW', hH', plt', hpl', hpp', hfo', htu', hsu', hsm'⟩ := id E'
    simp (disch := omega) only [qb_n gT, not_true_eq_false, not_false_eq_true, false_implies, true_implies, and_true, true_and, and_self, nmM, if_true, if_false, or0, Int32.add_zero, forall_const, one_ne, zero_ne1, nz1, nz0, nI_z, cl, inN]
    exact k μ' (I.sc s)
theorem c_23 {Ln n : Nat} {xs : Nat → Int32} {K : Int32 → qa_M → Prop} {i : Int32} {μ : qa_M} (I : INV μ) (hn : 2000 ≤ n) (k : ∀ μ', INV μ' → K (i + 6) μ') (v1 : vp_in (i + 1) Ln) (v2 : vp_in (i + 2) Ln) (v3 : vp_in (i + 3) Ln) (v4 : vp_in (i + 4) Ln) (v5 : vp_in (i + 5) Ln) : wLc_23 Ln xs n K i μ := by
  unfold wLc_23
  simp only [v1, v2, v3, v4, v5, true_and]
  generalize xs (i + 1).toNatClampNeg = a
  obtain ⟨w, hw⟩ : ∃ w, μ.1 92 = w := ⟨_, rfl⟩
  obtain ⟨r, T, E, G⟩ := I.facts hw
  obtain ⟨r1, r2, r3, r4⟩ := r.n0
  have L8 := G.1
  have N1 := r.2.1.1
  obtain ⟨W20, H8, hW, hH, plt, hpl, hpp, hfo, htu, hsu, hsm⟩ := id E
  by_cases ga : 0 ≤ a.toInt ∧ a.toInt < (zH w : Int)
  · skip
    obtain ⟨a, ha, rfl⟩ := gN ga (by omega)
    simp (disch := omega) only [wX8_sees, xH1 T r, xl_sees E, not_true_eq_false, not_false_eq_true, false_implies, true_implies, and_true, true_and, and_self, nmM, if_true, if_false, or0, Int32.add_zero, forall_const, one_ne, zero_ne1, nz1, nz0, nI_z, cl, inN]
    simp only [wX9_sees, wX9_asksHouse]
    refine m_asks2 hw r (by omega) (fun μ' s h' M E' => ?_)
    obtain ⟨-, -, hW', hH', plt', hpl', hpp', hfo', htu', hsu', hsm'⟩ := id E'
    simp (disch := omega) only [mH1 h' r, ml_sees E', not_true_eq_false, not_false_eq_true, false_implies, true_implies, and_true, true_and, and_self, nmM, if_true, if_false, or0, Int32.add_zero, forall_const, one_ne, zero_ne1, nz1, nz0, nI_z, cl, inN]
    exact k μ' (I.sc s)
  · skip
    simp (disch := omega) only [wX8_sees, xH0 T r ga, not_true_eq_false, not_false_eq_true, false_implies, true_implies, and_true, true_and, and_self, nmM, if_true, if_false, or0, Int32.add_zero, forall_const, one_ne, zero_ne1, nz1, nz0, nI_z, cl, inN]
    simp only [wX9_sees, wX9_asksHouse]
    refine m_asks2 hw r (by omega) (fun μ' s h' M E' => ?_)
    obtain ⟨-, -, hW', hH', plt', hpl', hpp', hfo', htu', hsu', hsm'⟩ := id E'
    simp (disch := omega) only [mH0 h' r ga, not_true_eq_false, not_false_eq_true, false_implies, true_implies, and_true, true_and, and_self, nmM, if_true, if_false, or0, Int32.add_zero, forall_const, one_ne, zero_ne1, nz1, nz0, nI_z, cl, inN]
    exact k μ' (I.sc s)
theorem c_24 {Ln n : Nat} {xs : Nat → Int32} {K : Int32 → qa_M → Prop} {i : Int32} {μ : qa_M} (I : INV μ) (hn : 2000 ≤ n) (k : ∀ μ', INV μ' → K (i + 6) μ') (v1 : vp_in (i + 1) Ln) (v2 : vp_in (i + 2) Ln) (v3 : vp_in (i + 3) Ln) (v4 : vp_in (i + 4) Ln) (v5 : vp_in (i + 5) Ln) : wLc_24 Ln xs n K i μ := by
  unfold wLc_24
  simp only [v1, v2, v3, v4, v5, true_and]
  generalize xs (i + 1).toNatClampNeg = a
  generalize xs (i + 2).toNatClampNeg = b
  obtain ⟨w, hw⟩ : ∃ w, μ.1 92 = w := ⟨_, rfl⟩
  obtain ⟨r, T, E, G⟩ := I.facts hw
  obtain ⟨r1, r2, r3, r4⟩ := r.n0
  have L8 := G.1
  have N1 := r.2.1.1
  obtain ⟨W20, H8, hW, hH, plt, hpl, hpp, hfo, htu, hsu, hsm⟩ := id E
  by_cases ga : 0 ≤ a.toInt ∧ a.toInt < (zH w : Int)
  · skip
    obtain ⟨a, ha, rfl⟩ := gN ga (by omega)
    by_cases gb : 0 ≤ b.toInt ∧ b.toInt < (zH w : Int)
    · skip
      obtain ⟨b, hb, rfl⟩ := gN gb (by omega)
      simp (disch := omega) only [wX8_when, xH1 T r, xP1 T r, wX8_firstWeekOn, xl_when E, not_true_eq_false, not_false_eq_true, false_implies, true_implies, and_true, true_and, and_self, nmM, if_true, if_false, or0, Int32.add_zero, forall_const, one_ne, zero_ne1, nz1, nz0, nI_z, cl, inN]
      simp only [wX9_when, wX9_asksHouse]
      refine m_asks2 hw r (by omega) (fun μ' s h' M E' => ?_)
      obtain ⟨-, -, hW', hH', plt', hpl', hpp', hfo', htu', hsu', hsm'⟩ := id E'
      simp (disch := omega) only [mH1 h' r, mP1 h' r, ml_when E', not_true_eq_false, not_false_eq_true, false_implies, true_implies, and_true, true_and, and_self, nmM, if_true, if_false, or0, Int32.add_zero, forall_const, one_ne, zero_ne1, nz1, nz0, nI_z, cl, inN]
      exact k μ' (I.sc s)
    · skip
      simp (disch := omega) only [wX8_when, xH1 T r, xP0 T r gb, not_true_eq_false, not_false_eq_true, false_implies, true_implies, and_true, true_and, and_self, nmM, if_true, if_false, or0, Int32.add_zero, forall_const, one_ne, zero_ne1, nz1, nz0, nI_z, cl, inN]
      simp only [wX9_when, wX9_asksHouse]
      refine m_asks2 hw r (by omega) (fun μ' s h' M E' => ?_)
      obtain ⟨-, -, hW', hH', plt', hpl', hpp', hfo', htu', hsu', hsm'⟩ := id E'
      simp (disch := omega) only [mH1 h' r, mP0 h' r gb, not_true_eq_false, not_false_eq_true, false_implies, true_implies, and_true, true_and, and_self, nmM, if_true, if_false, or0, Int32.add_zero, forall_const, one_ne, zero_ne1, nz1, nz0, nI_z, cl, inN]
      exact k μ' (I.sc s)
  · skip
    by_cases gb : 0 ≤ b.toInt ∧ b.toInt < (zH w : Int)
    · skip
      obtain ⟨b, hb, rfl⟩ := gN gb (by omega)
      simp (disch := omega) only [wX8_when, xH0 T r ga, xP1 T r, not_true_eq_false, not_false_eq_true, false_implies, true_implies, and_true, true_and, and_self, nmM, if_true, if_false, or0, Int32.add_zero, forall_const, one_ne, zero_ne1, nz1, nz0, nI_z, cl, inN]
      simp only [wX9_when, wX9_asksHouse]
      refine m_asks2 hw r (by omega) (fun μ' s h' M E' => ?_)
      obtain ⟨-, -, hW', hH', plt', hpl', hpp', hfo', htu', hsu', hsm'⟩ := id E'
      simp (disch := omega) only [mH0 h' r ga, mP1 h' r, not_true_eq_false, not_false_eq_true, false_implies, true_implies, and_true, true_and, and_self, nmM, if_true, if_false, or0, Int32.add_zero, forall_const, one_ne, zero_ne1, nz1, nz0, nI_z, cl, inN]
      exact k μ' (I.sc s)
    · skip
      simp (disch := omega) only [wX8_when, xH0 T r ga, xP0 T r gb, not_true_eq_false, not_false_eq_true, false_implies, true_implies, and_true, true_and, and_self, nmM, if_true, if_false, or0, Int32.add_zero, forall_const, one_ne, zero_ne1, nz1, nz0, nI_z, cl, inN]
      simp only [wX9_when, wX9_asksHouse]
      refine m_asks2 hw r (by omega) (fun μ' s h' M E' => ?_)
      obtain ⟨-, -, hW', hH', plt', hpl', hpp', hfo', htu', hsu', hsm'⟩ := id E'
      simp (disch := omega) only [mH0 h' r ga, mP0 h' r gb, not_true_eq_false, not_false_eq_true, false_implies, true_implies, and_true, true_and, and_self, nmM, if_true, if_false, or0, Int32.add_zero, forall_const, one_ne, zero_ne1, nz1, nz0, nI_z, cl, inN]
      exact k μ' (I.sc s)
theorem c_25 {Ln n : Nat} {xs : Nat → Int32} {K : Int32 → qa_M → Prop} {i : Int32} {μ : qa_M} (I : INV μ) (hn : 2000 ≤ n) (k : ∀ μ', INV μ' → K (i + 6) μ') (v1 : vp_in (i + 1) Ln) (v2 : vp_in (i + 2) Ln) (v3 : vp_in (i + 3) Ln) (v4 : vp_in (i + 4) Ln) (v5 : vp_in (i + 5) Ln) : wLc_25 Ln xs n K i μ := by
  unfold wLc_25
  simp only [v1, v2, v3, v4, v5, true_and]
  generalize xs (i + 1).toNatClampNeg = a
  generalize xs (i + 2).toNatClampNeg = b
  generalize xs (i + 3).toNatClampNeg = c
  obtain ⟨w, hw⟩ : ∃ w, μ.1 92 = w := ⟨_, rfl⟩
  obtain ⟨r, T, E, G⟩ := I.facts hw
  obtain ⟨r1, r2, r3, r4⟩ := r.n0
  have L8 := G.1
  have N1 := r.2.1.1
  obtain ⟨W20, H8, hW, hH, plt, hpl, hpp, hfo, htu, hsu, hsm⟩ := id E
  by_cases ga : 0 ≤ a.toInt ∧ a.toInt < (zH w : Int)
  · skip
    obtain ⟨a, ha, rfl⟩ := gN ga (by omega)
    by_cases gb : 0 ≤ b.toInt ∧ b.toInt < (zH w : Int)
    · skip
      obtain ⟨b, hb, rfl⟩ := gN gb (by omega)
      by_cases gc : 0 < zN w ∧ 0 ≤ c.toInt ∧ c.toInt ≤ (zW w : Int)
      · skip
        have n0 := gc.1
        obtain ⟨c, hc, rfl⟩ := gN' gc.2 (by omega)
        simp (disch := omega) only [wX8_apart, xH1 T r, xH1 T r, xW1 T r, x_dist E, not_true_eq_false, not_false_eq_true, false_implies, true_implies, and_true, true_and, and_self, nmM, if_true, if_false, or0, Int32.add_zero, forall_const, one_ne, zero_ne1, nz1, nz0, nI_z, cl, inN]
        simp only [wX9_apart, wX9_asksWeek]
        refine m_asks2 hw r (by omega) (fun μ' s h' M E' => ?_)
        obtain ⟨-, -, hW', hH', plt', hpl', hpp', hfo', htu', hsu', hsm'⟩ := id E'
        simp (disch := omega) only [mH1 h' r, mH1 h' r, mW1 h' r, s_placeOf, hpl', s_mhouses, hH', s_over, not_true_eq_false, not_false_eq_true, false_implies, true_implies, and_true, true_and, and_self, nmM, if_true, if_false, or0, Int32.add_zero, forall_const, one_ne, zero_ne1, nz1, nz0, nI_z, cl, inN]
        exact k μ' (I.sc s)
      · skip
        simp (disch := omega) only [wX8_apart, xH1 T r, xH1 T r, xW0 T r gc, not_true_eq_false, not_false_eq_true, false_implies, true_implies, and_true, true_and, and_self, nmM, if_true, if_false, or0, Int32.add_zero, forall_const, one_ne, zero_ne1, nz1, nz0, nI_z, cl, inN]
        simp only [wX9_apart, wX9_asksWeek]
        refine m_asks2 hw r (by omega) (fun μ' s h' M E' => ?_)
        obtain ⟨-, -, hW', hH', plt', hpl', hpp', hfo', htu', hsu', hsm'⟩ := id E'
        simp (disch := omega) only [mH1 h' r, mH1 h' r, mW0 h' r gc, not_true_eq_false, not_false_eq_true, false_implies, true_implies, and_true, true_and, and_self, nmM, if_true, if_false, or0, Int32.add_zero, forall_const, one_ne, zero_ne1, nz1, nz0, nI_z, cl, inN]
        exact k μ' (I.sc s)
    · skip
      by_cases gc : 0 < zN w ∧ 0 ≤ c.toInt ∧ c.toInt ≤ (zW w : Int)
      · skip
        have n0 := gc.1
        obtain ⟨c, hc, rfl⟩ := gN' gc.2 (by omega)
        simp (disch := omega) only [wX8_apart, xH1 T r, xH0 T r gb, xW1 T r, not_true_eq_false, not_false_eq_true, false_implies, true_implies, and_true, true_and, and_self, nmM, if_true, if_false, or0, Int32.add_zero, forall_const, one_ne, zero_ne1, nz1, nz0, nI_z, cl, inN]
        simp only [wX9_apart, wX9_asksWeek]
        refine m_asks2 hw r (by omega) (fun μ' s h' M E' => ?_)
        obtain ⟨-, -, hW', hH', plt', hpl', hpp', hfo', htu', hsu', hsm'⟩ := id E'
        simp (disch := omega) only [mH1 h' r, mH0 h' r gb, mW1 h' r, not_true_eq_false, not_false_eq_true, false_implies, true_implies, and_true, true_and, and_self, nmM, if_true, if_false, or0, Int32.add_zero, forall_const, one_ne, zero_ne1, nz1, nz0, nI_z, cl, inN]
        exact k μ' (I.sc s)
      · skip
        simp (disch := omega) only [wX8_apart, xH1 T r, xH0 T r gb, xW0 T r gc, not_true_eq_false, not_false_eq_true, false_implies, true_implies, and_true, true_and, and_self, nmM, if_true, if_false, or0, Int32.add_zero, forall_const, one_ne, zero_ne1, nz1, nz0, nI_z, cl, inN]
        simp only [wX9_apart, wX9_asksWeek]
        refine m_asks2 hw r (by omega) (fun μ' s h' M E' => ?_)
        obtain ⟨-, -, hW', hH', plt', hpl', hpp', hfo', htu', hsu', hsm'⟩ := id E'
        simp (disch := omega) only [mH1 h' r, mH0 h' r gb, mW0 h' r gc, not_true_eq_false, not_false_eq_true, false_implies, true_implies, and_true, true_and, and_self, nmM, if_true, if_false, or0, Int32.add_zero, forall_const, one_ne, zero_ne1, nz1, nz0, nI_z, cl, inN]
        exact k μ' (I.sc s)
  · skip
    by_cases gb : 0 ≤ b.toInt ∧ b.toInt < (zH w : Int)
    · skip
      obtain ⟨b, hb, rfl⟩ := gN gb (by omega)
      by_cases gc : 0 < zN w ∧ 0 ≤ c.toInt ∧ c.toInt ≤ (zW w : Int)
      · skip
        have n0 := gc.1
        obtain ⟨c, hc, rfl⟩ := gN' gc.2 (by omega)
        simp (disch := omega) only [wX8_apart, xH0 T r ga, xH1 T r, xW1 T r, not_true_eq_false, not_false_eq_true, false_implies, true_implies, and_true, true_and, and_self, nmM, if_true, if_false, or0, Int32.add_zero, forall_const, one_ne, zero_ne1, nz1, nz0, nI_z, cl, inN]
        simp only [wX9_apart, wX9_asksWeek]
        refine m_asks2 hw r (by omega) (fun μ' s h' M E' => ?_)
        obtain ⟨-, -, hW', hH', plt', hpl', hpp', hfo', htu', hsu', hsm'⟩ := id E'
        simp (disch := omega) only [mH0 h' r ga, mH1 h' r, mW1 h' r, not_true_eq_false, not_false_eq_true, false_implies, true_implies, and_true, true_and, and_self, nmM, if_true, if_false, or0, Int32.add_zero, forall_const, one_ne, zero_ne1, nz1, nz0, nI_z, cl, inN]
        exact k μ' (I.sc s)
      · skip
        simp (disch := omega) only [wX8_apart, xH0 T r ga, xH1 T r, xW0 T r gc, not_true_eq_false, not_false_eq_true, false_implies, true_implies, and_true, true_and, and_self, nmM, if_true, if_false, or0, Int32.add_zero, forall_const, one_ne, zero_ne1, nz1, nz0, nI_z, cl, inN]
        simp only [wX9_apart, wX9_asksWeek]
        refine m_asks2 hw r (by omega) (fun μ' s h' M E' => ?_)
        obtain ⟨-, -, hW', hH', plt', hpl', hpp', hfo', htu', hsu', hsm'⟩ := id E'
        simp (disch := omega) only [mH0 h' r ga, mH1 h' r, mW0 h' r gc, not_true_eq_false, not_false_eq_true, false_implies, true_implies, and_true, true_and, and_self, nmM, if_true, if_false, or0, Int32.add_zero, forall_const, one_ne, zero_ne1, nz1, nz0, nI_z, cl, inN]
        exact k μ' (I.sc s)
    · skip
      by_cases gc : 0 < zN w ∧ 0 ≤ c.toInt ∧ c.toInt ≤ (zW w : Int)
      · skip
        have n0 := gc.1
        obtain ⟨c, hc, rfl⟩ := gN' gc.2 (by omega)
        simp (disch := omega) only [wX8_apart, xH0 T r ga, xH0 T r gb, xW1 T r, not_true_eq_false, not_false_eq_true, false_implies, true_implies, and_true, true_and, and_self, nmM, if_true, if_false, or0, Int32.add_zero, forall_const, one_ne, zero_ne1, nz1, nz0, nI_z, cl, inN]
        simp only [wX9_apart, wX9_asksWeek]
        refine m_asks2 hw r (by omega) (fun μ' s h' M E' => ?_)
        obtain ⟨-, -, hW', hH', plt', hpl', hpp', hfo', htu', hsu', hsm'⟩ := id E'
        simp (disch := omega) only [mH0 h' r ga, mH0 h' r gb, mW1 h' r, not_true_eq_false, not_false_eq_true, false_implies, true_implies, and_true, true_and, and_self, nmM, if_true, if_false, or0, Int32.add_zero, forall_const, one_ne, zero_ne1, nz1, nz0, nI_z, cl, inN]
        exact k μ' (I.sc s)
      · skip
        simp (disch := omega) only [wX8_apart, xH0 T r ga, xH0 T r gb, xW0 T r gc, not_true_eq_false, not_false_eq_true, false_implies, true_implies, and_true, true_and, and_self, nmM, if_true, if_false, or0, Int32.add_zero, forall_const, one_ne, zero_ne1, nz1, nz0, nI_z, cl, inN]
        simp only [wX9_apart, wX9_asksWeek]
        refine m_asks2 hw r (by omega) (fun μ' s h' M E' => ?_)
        obtain ⟨-, -, hW', hH', plt', hpl', hpp', hfo', htu', hsu', hsm'⟩ := id E'
        simp (disch := omega) only [mH0 h' r ga, mH0 h' r gb, mW0 h' r gc, not_true_eq_false, not_false_eq_true, false_implies, true_implies, and_true, true_and, and_self, nmM, if_true, if_false, or0, Int32.add_zero, forall_const, one_ne, zero_ne1, nz1, nz0, nI_z, cl, inN]
        exact k μ' (I.sc s)
theorem c_26 {Ln n : Nat} {xs : Nat → Int32} {K : Int32 → qa_M → Prop} {i : Int32} {μ : qa_M} (I : INV μ) (hn : 2000 ≤ n) (k : ∀ μ', INV μ' → K (i + 6) μ') (v1 : vp_in (i + 1) Ln) (v2 : vp_in (i + 2) Ln) (v3 : vp_in (i + 3) Ln) (v4 : vp_in (i + 4) Ln) (v5 : vp_in (i + 5) Ln) : wLc_26 Ln xs n K i μ := by
  unfold wLc_26
  simp only [v1, v2, v3, v4, v5, true_and]
  generalize xs (i + 1).toNatClampNeg = a
  generalize xs (i + 2).toNatClampNeg = b
  obtain ⟨w, hw⟩ : ∃ w, μ.1 92 = w := ⟨_, rfl⟩
  obtain ⟨r, T, E, G⟩ := I.facts hw
  obtain ⟨r1, r2, r3, r4⟩ := r.n0
  have L8 := G.1
  have N1 := r.2.1.1
  obtain ⟨W20, H8, hW, hH, plt, hpl, hpp, hfo, htu, hsu, hsm⟩ := id E
  by_cases ga : 0 ≤ a.toInt ∧ a.toInt < (zH w : Int)
  · skip
    obtain ⟨a, ha, rfl⟩ := gN ga (by omega)
    by_cases gb : 0 ≤ b.toInt ∧ b.toInt < (zH w : Int)
    · skip
      obtain ⟨b, hb, rfl⟩ := gN gb (by omega)
      simp (disch := omega) only [wX8_often, xH1 T r, xP1 T r, xl_often E, not_true_eq_false, not_false_eq_true, false_implies, true_implies, and_true, true_and, and_self, nmM, if_true, if_false, or0, Int32.add_zero, forall_const, one_ne, zero_ne1, nz1, nz0, nI_z, cl, inN]
      simp only [wX9_often, wX9_asksHouse]
      refine m_asks2 hw r (by omega) (fun μ' s h' M E' => ?_)
      obtain ⟨-, -, hW', hH', plt', hpl', hpp', hfo', htu', hsu', hsm'⟩ := id E'
      simp (disch := omega) only [mH1 h' r, mP1 h' r, ml_often E', not_true_eq_false, not_false_eq_true, false_implies, true_implies, and_true, true_and, and_self, nmM, if_true, if_false, or0, Int32.add_zero, forall_const, one_ne, zero_ne1, nz1, nz0, nI_z, cl, inN]
      exact k μ' (I.sc s)
    · skip
      simp (disch := omega) only [wX8_often, xH1 T r, xP0 T r gb, not_true_eq_false, not_false_eq_true, false_implies, true_implies, and_true, true_and, and_self, nmM, if_true, if_false, or0, Int32.add_zero, forall_const, one_ne, zero_ne1, nz1, nz0, nI_z, cl, inN]
      simp only [wX9_often, wX9_asksHouse]
      refine m_asks2 hw r (by omega) (fun μ' s h' M E' => ?_)
      obtain ⟨-, -, hW', hH', plt', hpl', hpp', hfo', htu', hsu', hsm'⟩ := id E'
      simp (disch := omega) only [mH1 h' r, mP0 h' r gb, not_true_eq_false, not_false_eq_true, false_implies, true_implies, and_true, true_and, and_self, nmM, if_true, if_false, or0, Int32.add_zero, forall_const, one_ne, zero_ne1, nz1, nz0, nI_z, cl, inN]
      exact k μ' (I.sc s)
  · skip
    by_cases gb : 0 ≤ b.toInt ∧ b.toInt < (zH w : Int)
    · skip
      obtain ⟨b, hb, rfl⟩ := gN gb (by omega)
      simp (disch := omega) only [wX8_often, xH0 T r ga, xP1 T r, not_true_eq_false, not_false_eq_true, false_implies, true_implies, and_true, true_and, and_self, nmM, if_true, if_false, or0, Int32.add_zero, forall_const, one_ne, zero_ne1, nz1, nz0, nI_z, cl, inN]
      simp only [wX9_often, wX9_asksHouse]
      refine m_asks2 hw r (by omega) (fun μ' s h' M E' => ?_)
      obtain ⟨-, -, hW', hH', plt', hpl', hpp', hfo', htu', hsu', hsm'⟩ := id E'
      simp (disch := omega) only [mH0 h' r ga, mP1 h' r, not_true_eq_false, not_false_eq_true, false_implies, true_implies, and_true, true_and, and_self, nmM, if_true, if_false, or0, Int32.add_zero, forall_const, one_ne, zero_ne1, nz1, nz0, nI_z, cl, inN]
      exact k μ' (I.sc s)
    · skip
      simp (disch := omega) only [wX8_often, xH0 T r ga, xP0 T r gb, not_true_eq_false, not_false_eq_true, false_implies, true_implies, and_true, true_and, and_self, nmM, if_true, if_false, or0, Int32.add_zero, forall_const, one_ne, zero_ne1, nz1, nz0, nI_z, cl, inN]
      simp only [wX9_often, wX9_asksHouse]
      refine m_asks2 hw r (by omega) (fun μ' s h' M E' => ?_)
      obtain ⟨-, -, hW', hH', plt', hpl', hpp', hfo', htu', hsu', hsm'⟩ := id E'
      simp (disch := omega) only [mH0 h' r ga, mP0 h' r gb, not_true_eq_false, not_false_eq_true, false_implies, true_implies, and_true, true_and, and_self, nmM, if_true, if_false, or0, Int32.add_zero, forall_const, one_ne, zero_ne1, nz1, nz0, nI_z, cl, inN]
      exact k μ' (I.sc s)
theorem c_27 {Ln n : Nat} {xs : Nat → Int32} {K : Int32 → qa_M → Prop} {i : Int32} {μ : qa_M} (I : INV μ) (hn : 2000 ≤ n) (k : ∀ μ', INV μ' → K (i + 6) μ') (v1 : vp_in (i + 1) Ln) (v2 : vp_in (i + 2) Ln) (v3 : vp_in (i + 3) Ln) (v4 : vp_in (i + 4) Ln) (v5 : vp_in (i + 5) Ln) : wLc_27 Ln xs n K i μ := by
  unfold wLc_27
  simp only [v1, v2, v3, v4, v5, true_and]
  generalize xs (i + 1).toNatClampNeg = a
  obtain ⟨w, hw⟩ : ∃ w, μ.1 92 = w := ⟨_, rfl⟩
  obtain ⟨r, T, E, G⟩ := I.facts hw
  obtain ⟨r1, r2, r3, r4⟩ := r.n0
  have L8 := G.1
  have N1 := r.2.1.1
  obtain ⟨W20, H8, hW, hH, plt, hpl, hpp, hfo, htu, hsu, hsm⟩ := id E
  by_cases ga : 0 ≤ a.toInt ∧ a.toInt < (zH w : Int)
  · skip
    obtain ⟨a, ha, rfl⟩ := gN ga (by omega)
    simp (disch := omega) only [wX8_nose, xH1 T r, xl_nose E, not_true_eq_false, not_false_eq_true, false_implies, true_implies, and_true, true_and, and_self, nmM, if_true, if_false, or0, Int32.add_zero, forall_const, one_ne, zero_ne1, nz1, nz0, nI_z, cl, inN]
    simp only [wX9_nose, wX9_asksHouse]
    refine m_asks2 hw r (by omega) (fun μ' s h' M E' => ?_)
    obtain ⟨-, -, hW', hH', plt', hpl', hpp', hfo', htu', hsu', hsm'⟩ := id E'
    simp (disch := omega) only [mH1 h' r, ml_nose E', not_true_eq_false, not_false_eq_true, false_implies, true_implies, and_true, true_and, and_self, nmM, if_true, if_false, or0, Int32.add_zero, forall_const, one_ne, zero_ne1, nz1, nz0, nI_z, cl, inN]
    exact k μ' (I.sc s)
  · skip
    simp (disch := omega) only [wX8_nose, xH0 T r ga, not_true_eq_false, not_false_eq_true, false_implies, true_implies, and_true, true_and, and_self, nmM, if_true, if_false, or0, Int32.add_zero, forall_const, one_ne, zero_ne1, nz1, nz0, nI_z, cl, inN]
    simp only [wX9_nose, wX9_asksHouse]
    refine m_asks2 hw r (by omega) (fun μ' s h' M E' => ?_)
    obtain ⟨-, -, hW', hH', plt', hpl', hpp', hfo', htu', hsu', hsm'⟩ := id E'
    simp (disch := omega) only [mH0 h' r ga, not_true_eq_false, not_false_eq_true, false_implies, true_implies, and_true, true_and, and_self, nmM, if_true, if_false, or0, Int32.add_zero, forall_const, one_ne, zero_ne1, nz1, nz0, nI_z, cl, inN]
    exact k μ' (I.sc s)
theorem c_28 {Ln n : Nat} {xs : Nat → Int32} {K : Int32 → qa_M → Prop} {i : Int32} {μ : qa_M} (I : INV μ) (hn : 2000 ≤ n) (k : ∀ μ', INV μ' → K (i + 6) μ') (v1 : vp_in (i + 1) Ln) (v2 : vp_in (i + 2) Ln) (v3 : vp_in (i + 3) Ln) (v4 : vp_in (i + 4) Ln) (v5 : vp_in (i + 5) Ln) : wLc_28 Ln xs n K i μ := by
  unfold wLc_28
  simp only [v1, v2, v3, v4, v5, true_and]
  generalize xs (i + 1).toNatClampNeg = a
  obtain ⟨w, hw⟩ : ∃ w, μ.1 92 = w := ⟨_, rfl⟩
  obtain ⟨r, T, E, G⟩ := I.facts hw
  obtain ⟨r1, r2, r3, r4⟩ := r.n0
  have L8 := G.1
  have N1 := r.2.1.1
  obtain ⟨W20, H8, hW, hH, plt, hpl, hpp, hfo, htu, hsu, hsm⟩ := id E
  by_cases ga : 0 < zN w ∧ 0 ≤ a.toInt ∧ a.toInt < (zW w : Int)
  · skip
    have n0 := ga.1
    obtain ⟨a, ha, rfl⟩ := gN ga.2 (by omega)
    simp (disch := omega) only [wX8_idle, xA1 T r, xl_idle E, not_true_eq_false, not_false_eq_true, false_implies, true_implies, and_true, true_and, and_self, nmM, if_true, if_false, or0, Int32.add_zero, forall_const, one_ne, zero_ne1, nz1, nz0, nI_z, cl, inN]
    simp only [wX9_idle, wX9_asksAhead]
    refine m_asks2 hw r (by omega) (fun μ' s h' M E' => ?_)
    obtain ⟨-, -, hW', hH', plt', hpl', hpp', hfo', htu', hsu', hsm'⟩ := id E'
    simp (disch := omega) only [mA1 h' r, ml_idle E', not_true_eq_false, not_false_eq_true, false_implies, true_implies, and_true, true_and, and_self, nmM, if_true, if_false, or0, Int32.add_zero, forall_const, one_ne, zero_ne1, nz1, nz0, nI_z, cl, inN]
    exact k μ' (I.sc s)
  · skip
    simp (disch := omega) only [wX8_idle, xA0 T r ga, not_true_eq_false, not_false_eq_true, false_implies, true_implies, and_true, true_and, and_self, nmM, if_true, if_false, or0, Int32.add_zero, forall_const, one_ne, zero_ne1, nz1, nz0, nI_z, cl, inN]
    simp only [wX9_idle, wX9_asksAhead]
    refine m_asks2 hw r (by omega) (fun μ' s h' M E' => ?_)
    obtain ⟨-, -, hW', hH', plt', hpl', hpp', hfo', htu', hsu', hsm'⟩ := id E'
    simp (disch := omega) only [mA0 h' r ga, not_true_eq_false, not_false_eq_true, false_implies, true_implies, and_true, true_and, and_self, nmM, if_true, if_false, or0, Int32.add_zero, forall_const, one_ne, zero_ne1, nz1, nz0, nI_z, cl, inN]
    exact k μ' (I.sc s)
theorem c_29 {Ln n : Nat} {xs : Nat → Int32} {K : Int32 → qa_M → Prop} {i : Int32} {μ : qa_M} (I : INV μ) (hn : 2000 ≤ n) (k : ∀ μ', INV μ' → K (i + 6) μ') (v1 : vp_in (i + 1) Ln) (v2 : vp_in (i + 2) Ln) (v3 : vp_in (i + 3) Ln) (v4 : vp_in (i + 4) Ln) (v5 : vp_in (i + 5) Ln) : wLc_29 Ln xs n K i μ := by
  unfold wLc_29
  obtain ⟨w, hw⟩ : ∃ w, μ.1 92 = w := ⟨_, rfl⟩
  obtain ⟨r, T, E, G⟩ := I.facts hw
  obtain ⟨r1, r2, r3, r4⟩ := r.n0
  have L8 := G.1
  have N1 := r.2.1.1
  obtain ⟨W20, H8, hW, hH, plt, hpl, hpp, hfo, htu, hsu, hsm⟩ := id E
  by_cases gT : 0 < zN w
  · skip
    simp (disch := omega) only [wX8_backs, xT1 T r, xl_backs E, not_true_eq_false, not_false_eq_true, false_implies, true_implies, and_true, true_and, and_self, nmM, if_true, if_false, or0, Int32.add_zero, forall_const, one_ne, zero_ne1, nz1, nz0, nI_z, cl, inN]
    simp only [wX9_backs]
    refine m_asks2 hw r (by omega) (fun μ' s h' M E' => ?_)
    obtain ⟨-, -, hW', hH', plt', hpl', hpp', hfo', htu', hsu', hsm'⟩ := id E'
    simp (disch := omega) only [qb_p gT, ml_backs E', not_true_eq_false, not_false_eq_true, false_implies, true_implies, and_true, true_and, and_self, nmM, if_true, if_false, or0, Int32.add_zero, forall_const, one_ne, zero_ne1, nz1, nz0, nI_z, cl, inN]
    exact k μ' (I.sc s)
  · skip
    simp (disch := omega) only [wX8_backs, xT0 T r gT, not_true_eq_false, not_false_eq_true, false_implies, true_implies, and_true, true_and, and_self, nmM, if_true, if_false, or0, Int32.add_zero, forall_const, one_ne, zero_ne1, nz1, nz0, nI_z, cl, inN]
    simp only [wX9_backs]
    refine m_asks2 hw r (by omega) (fun μ' s h' M E' => ?_)
    obtain ⟨-, -, hW', hH', plt', hpl', hpp', hfo', htu', hsu', hsm'⟩ := id E'
    simp (disch := omega) only [qb_n gT, not_true_eq_false, not_false_eq_true, false_implies, true_implies, and_true, true_and, and_self, nmM, if_true, if_false, or0, Int32.add_zero, forall_const, one_ne, zero_ne1, nz1, nz0, nI_z, cl, inN]
    exact k μ' (I.sc s)
theorem c_31 {Ln n : Nat} {xs : Nat → Int32} {K : Int32 → qa_M → Prop} {i : Int32} {μ : qa_M} (I : INV μ) (hn : 2000 ≤ n) (k : ∀ μ', INV μ' → K (i + 6) μ') (v1 : vp_in (i + 1) Ln) (v2 : vp_in (i + 2) Ln) (v3 : vp_in (i + 3) Ln) (v4 : vp_in (i + 4) Ln) (v5 : vp_in (i + 5) Ln) : wLc_31 Ln xs n K i μ := by
  unfold wLc_31
  simp only [v1, v2, v3, v4, v5, true_and]
  generalize xs (i + 1).toNatClampNeg = a
  obtain ⟨w, hw⟩ : ∃ w, μ.1 92 = w := ⟨_, rfl⟩
  obtain ⟨r, T, E, G⟩ := I.facts hw
  obtain ⟨r1, r2, r3, r4⟩ := r.n0
  have L8 := G.1
  have N1 := r.2.1.1
  obtain ⟨W20, H8, hW, hH, plt, hpl, hpp, hfo, htu, hsu, hsm⟩ := id E
  by_cases ga : 0 < zN w ∧ 0 ≤ a.toInt ∧ a.toInt < (zW w : Int)
  · skip
    have n0 := ga.1
    obtain ⟨a, ha, rfl⟩ := gN ga.2 (by omega)
    simp (disch := omega) only [wX8_all, xA1 T r, xl_all E, not_true_eq_false, not_false_eq_true, false_implies, true_implies, and_true, true_and, and_self, nmM, if_true, if_false, or0, Int32.add_zero, forall_const, one_ne, zero_ne1, nz1, nz0, nI_z, cl, inN]
    simp only [wX9_all, wX9_asksAhead]
    refine m_asks2 hw r (by omega) (fun μ' s h' M E' => ?_)
    obtain ⟨-, -, hW', hH', plt', hpl', hpp', hfo', htu', hsu', hsm'⟩ := id E'
    simp (disch := omega) only [mA1 h' r, ml_all E', not_true_eq_false, not_false_eq_true, false_implies, true_implies, and_true, true_and, and_self, nmM, if_true, if_false, or0, Int32.add_zero, forall_const, one_ne, zero_ne1, nz1, nz0, nI_z, cl, inN]
    exact k μ' (I.sc s)
  · skip
    simp (disch := omega) only [wX8_all, xA0 T r ga, not_true_eq_false, not_false_eq_true, false_implies, true_implies, and_true, true_and, and_self, nmM, if_true, if_false, or0, Int32.add_zero, forall_const, one_ne, zero_ne1, nz1, nz0, nI_z, cl, inN]
    simp only [wX9_all, wX9_asksAhead]
    refine m_asks2 hw r (by omega) (fun μ' s h' M E' => ?_)
    obtain ⟨-, -, hW', hH', plt', hpl', hpp', hfo', htu', hsu', hsm'⟩ := id E'
    simp (disch := omega) only [mA0 h' r ga, not_true_eq_false, not_false_eq_true, false_implies, true_implies, and_true, true_and, and_self, nmM, if_true, if_false, or0, Int32.add_zero, forall_const, one_ne, zero_ne1, nz1, nz0, nI_z, cl, inN]
    exact k μ' (I.sc s)
theorem c_32 {Ln n : Nat} {xs : Nat → Int32} {K : Int32 → qa_M → Prop} {i : Int32} {μ : qa_M} (I : INV μ) (hn : 2000 ≤ n) (k : ∀ μ', INV μ' → K (i + 6) μ') (v1 : vp_in (i + 1) Ln) (v2 : vp_in (i + 2) Ln) (v3 : vp_in (i + 3) Ln) (v4 : vp_in (i + 4) Ln) (v5 : vp_in (i + 5) Ln) : wLc_32 Ln xs n K i μ := by
  unfold wLc_32
  simp only [v1, v2, v3, v4, v5, true_and]
  generalize xs (i + 1).toNatClampNeg = a
  obtain ⟨w, hw⟩ : ∃ w, μ.1 92 = w := ⟨_, rfl⟩
  obtain ⟨r, T, E, G⟩ := I.facts hw
  obtain ⟨r1, r2, r3, r4⟩ := r.n0
  have L8 := G.1
  have N1 := r.2.1.1
  obtain ⟨W20, H8, hW, hH, plt, hpl, hpp, hfo, htu, hsu, hsm⟩ := id E
  by_cases ga : 0 < zN w ∧ 0 ≤ a.toInt ∧ a.toInt ≤ (zW w : Int)
  · skip
    have n0 := ga.1
    obtain ⟨a, ha, rfl⟩ := gN' ga.2 (by omega)
    simp (disch := omega) only [wX8_noon, xW1 T r, xl_noon E (hsp := fun p _ => sun_pos r p), not_true_eq_false, not_false_eq_true, false_implies, true_implies, and_true, true_and, and_self, nmM, if_true, if_false, or0, Int32.add_zero, forall_const, one_ne, zero_ne1, nz1, nz0, nI_z, cl, inN]
    simp only [wX9_noon, wX9_asksWeek]
    refine m_asks2 hw r (by omega) (fun μ' s h' M E' => ?_)
    obtain ⟨-, -, hW', hH', plt', hpl', hpp', hfo', htu', hsu', hsm'⟩ := id E'
    simp (disch := omega) only [mW1 h' r, ml_noon E', not_true_eq_false, not_false_eq_true, false_implies, true_implies, and_true, true_and, and_self, nmM, if_true, if_false, or0, Int32.add_zero, forall_const, one_ne, zero_ne1, nz1, nz0, nI_z, cl, inN]
    exact k μ' (I.sc s)
  · skip
    simp (disch := omega) only [wX8_noon, xW0 T r ga, not_true_eq_false, not_false_eq_true, false_implies, true_implies, and_true, true_and, and_self, nmM, if_true, if_false, or0, Int32.add_zero, forall_const, one_ne, zero_ne1, nz1, nz0, nI_z, cl, inN]
    simp only [wX9_noon, wX9_asksWeek]
    refine m_asks2 hw r (by omega) (fun μ' s h' M E' => ?_)
    obtain ⟨-, -, hW', hH', plt', hpl', hpp', hfo', htu', hsu', hsm'⟩ := id E'
    simp (disch := omega) only [mW0 h' r ga, not_true_eq_false, not_false_eq_true, false_implies, true_implies, and_true, true_and, and_self, nmM, if_true, if_false, or0, Int32.add_zero, forall_const, one_ne, zero_ne1, nz1, nz0, nI_z, cl, inN]
    exact k μ' (I.sc s)
theorem c_35 {Ln n : Nat} {xs : Nat → Int32} {K : Int32 → qa_M → Prop} {i : Int32} {μ : qa_M} (I : INV μ) (hn : 2000 ≤ n) (k : ∀ μ', INV μ' → K (i + 6) μ') (v1 : vp_in (i + 1) Ln) (v2 : vp_in (i + 2) Ln) (v3 : vp_in (i + 3) Ln) (v4 : vp_in (i + 4) Ln) (v5 : vp_in (i + 5) Ln) : wLc_35 Ln xs n K i μ := by
  unfold wLc_35
  simp only [v1, v2, v3, v4, v5, true_and]
  generalize xs (i + 1).toNatClampNeg = a
  obtain ⟨w, hw⟩ : ∃ w, μ.1 92 = w := ⟨_, rfl⟩
  obtain ⟨r, T, E, G⟩ := I.facts hw
  obtain ⟨r1, r2, r3, r4⟩ := r.n0
  have L8 := G.1
  have N1 := r.2.1.1
  obtain ⟨W20, H8, hW, hH, plt, hpl, hpp, hfo, htu, hsu, hsm⟩ := id E
  by_cases ga : 0 ≤ a.toInt ∧ a.toInt < (zH w : Int)
  · skip
    obtain ⟨a, ha, rfl⟩ := gN ga (by omega)
    simp (disch := omega) only [wX8_best, xH1 T r, xl_best E, not_true_eq_false, not_false_eq_true, false_implies, true_implies, and_true, true_and, and_self, nmM, if_true, if_false, or0, Int32.add_zero, forall_const, one_ne, zero_ne1, nz1, nz0, nI_z, cl, inN]
    simp only [wX9_best, wX9_asksHouse]
    refine m_asks2 hw r (by omega) (fun μ' s h' M E' => ?_)
    obtain ⟨-, -, hW', hH', plt', hpl', hpp', hfo', htu', hsu', hsm'⟩ := id E'
    simp (disch := omega) only [mH1 h' r, ml_best E', not_true_eq_false, not_false_eq_true, false_implies, true_implies, and_true, true_and, and_self, nmM, if_true, if_false, or0, Int32.add_zero, forall_const, one_ne, zero_ne1, nz1, nz0, nI_z, cl, inN]
    exact k μ' (I.sc s)
  · skip
    simp (disch := omega) only [wX8_best, xH0 T r ga, not_true_eq_false, not_false_eq_true, false_implies, true_implies, and_true, true_and, and_self, nmM, if_true, if_false, or0, Int32.add_zero, forall_const, one_ne, zero_ne1, nz1, nz0, nI_z, cl, inN]
    simp only [wX9_best, wX9_asksHouse]
    refine m_asks2 hw r (by omega) (fun μ' s h' M E' => ?_)
    obtain ⟨-, -, hW', hH', plt', hpl', hpp', hfo', htu', hsu', hsm'⟩ := id E'
    simp (disch := omega) only [mH0 h' r ga, not_true_eq_false, not_false_eq_true, false_implies, true_implies, and_true, true_and, and_self, nmM, if_true, if_false, or0, Int32.add_zero, forall_const, one_ne, zero_ne1, nz1, nz0, nI_z, cl, inN]
    exact k μ' (I.sc s)
theorem c_36 {Ln n : Nat} {xs : Nat → Int32} {K : Int32 → qa_M → Prop} {i : Int32} {μ : qa_M} (I : INV μ) (hn : 2000 ≤ n) (k : ∀ μ', INV μ' → K (i + 6) μ') (v1 : vp_in (i + 1) Ln) (v2 : vp_in (i + 2) Ln) (v3 : vp_in (i + 3) Ln) (v4 : vp_in (i + 4) Ln) (v5 : vp_in (i + 5) Ln) : wLc_36 Ln xs n K i μ := by
  unfold wLc_36
  simp only [v1, v2, v3, v4, v5, true_and]
  generalize xs (i + 1).toNatClampNeg = a
  obtain ⟨w, hw⟩ : ∃ w, μ.1 92 = w := ⟨_, rfl⟩
  obtain ⟨r, T, E, G⟩ := I.facts hw
  obtain ⟨r1, r2, r3, r4⟩ := r.n0
  have L8 := G.1
  have N1 := r.2.1.1
  obtain ⟨W20, H8, hW, hH, plt, hpl, hpp, hfo, htu, hsu, hsm⟩ := id E
  by_cases ga : 0 ≤ a.toInt ∧ a.toInt < (zH w : Int)
  · skip
    obtain ⟨a, ha, rfl⟩ := gN ga (by omega)
    simp (disch := omega) only [wX8_sweet, xH1 T r, xl_sweet E, not_true_eq_false, not_false_eq_true, false_implies, true_implies, and_true, true_and, and_self, nmM, if_true, if_false, or0, Int32.add_zero, forall_const, one_ne, zero_ne1, nz1, nz0, nI_z, cl, inN]
    simp only [wX9_sweet, wX9_asksHouse]
    refine m_asks2 hw r (by omega) (fun μ' s h' M E' => ?_)
    obtain ⟨-, -, hW', hH', plt', hpl', hpp', hfo', htu', hsu', hsm'⟩ := id E'
    simp (disch := omega) only [mH1 h' r, ml_sweet E', not_true_eq_false, not_false_eq_true, false_implies, true_implies, and_true, true_and, and_self, nmM, if_true, if_false, or0, Int32.add_zero, forall_const, one_ne, zero_ne1, nz1, nz0, nI_z, cl, inN]
    exact k μ' (I.sc s)
  · skip
    simp (disch := omega) only [wX8_sweet, xH0 T r ga, not_true_eq_false, not_false_eq_true, false_implies, true_implies, and_true, true_and, and_self, nmM, if_true, if_false, or0, Int32.add_zero, forall_const, one_ne, zero_ne1, nz1, nz0, nI_z, cl, inN]
    simp only [wX9_sweet, wX9_asksHouse]
    refine m_asks2 hw r (by omega) (fun μ' s h' M E' => ?_)
    obtain ⟨-, -, hW', hH', plt', hpl', hpp', hfo', htu', hsu', hsm'⟩ := id E'
    simp (disch := omega) only [mH0 h' r ga, not_true_eq_false, not_false_eq_true, false_implies, true_implies, and_true, true_and, and_self, nmM, if_true, if_false, or0, Int32.add_zero, forall_const, one_ne, zero_ne1, nz1, nz0, nI_z, cl, inN]
    exact k μ' (I.sc s)
theorem c_37 {Ln n : Nat} {xs : Nat → Int32} {K : Int32 → qa_M → Prop} {i : Int32} {μ : qa_M} (I : INV μ) (hn : 2000 ≤ n) (k : ∀ μ', INV μ' → K (i + 6) μ') (v1 : vp_in (i + 1) Ln) (v2 : vp_in (i + 2) Ln) (v3 : vp_in (i + 3) Ln) (v4 : vp_in (i + 4) Ln) (v5 : vp_in (i + 5) Ln) : wLc_37 Ln xs n K i μ := by
  unfold wLc_37
  simp only [v1, v2, v3, v4, v5, true_and]
  generalize xs (i + 1).toNatClampNeg = a
  obtain ⟨w, hw⟩ : ∃ w, μ.1 92 = w := ⟨_, rfl⟩
  obtain ⟨r, T, E, G⟩ := I.facts hw
  obtain ⟨r1, r2, r3, r4⟩ := r.n0
  have L8 := G.1
  have N1 := r.2.1.1
  obtain ⟨W20, H8, hW, hH, plt, hpl, hpp, hfo, htu, hsu, hsm⟩ := id E
  by_cases ga : 0 ≤ a.toInt ∧ a.toInt < (zH w : Int)
  · skip
    obtain ⟨a, ha, rfl⟩ := gN ga (by omega)
    simp (disch := omega) only [wX8_last, xH1 T r, xl_last E, not_true_eq_false, not_false_eq_true, false_implies, true_implies, and_true, true_and, and_self, nmM, if_true, if_false, or0, Int32.add_zero, forall_const, one_ne, zero_ne1, nz1, nz0, nI_z, cl, inN]
    simp only [wX9_last, wX9_asksHouse]
    refine m_asks2 hw r (by omega) (fun μ' s h' M E' => ?_)
    obtain ⟨-, -, hW', hH', plt', hpl', hpp', hfo', htu', hsu', hsm'⟩ := id E'
    simp (disch := omega) only [mH1 h' r, s_mweeks, hW', ml_last E', not_true_eq_false, not_false_eq_true, false_implies, true_implies, and_true, true_and, and_self, nmM, if_true, if_false, or0, Int32.add_zero, forall_const, one_ne, zero_ne1, nz1, nz0, nI_z, cl, inN]
    exact k μ' (I.sc s)
  · skip
    simp (disch := omega) only [wX8_last, xH0 T r ga, not_true_eq_false, not_false_eq_true, false_implies, true_implies, and_true, true_and, and_self, nmM, if_true, if_false, or0, Int32.add_zero, forall_const, one_ne, zero_ne1, nz1, nz0, nI_z, cl, inN]
    simp only [wX9_last, wX9_asksHouse]
    refine m_asks2 hw r (by omega) (fun μ' s h' M E' => ?_)
    obtain ⟨-, -, hW', hH', plt', hpl', hpp', hfo', htu', hsu', hsm'⟩ := id E'
    simp (disch := omega) only [mH0 h' r ga, not_true_eq_false, not_false_eq_true, false_implies, true_implies, and_true, true_and, and_self, nmM, if_true, if_false, or0, Int32.add_zero, forall_const, one_ne, zero_ne1, nz1, nz0, nI_z, cl, inN]
    exact k μ' (I.sc s)
theorem c_38 {Ln n : Nat} {xs : Nat → Int32} {K : Int32 → qa_M → Prop} {i : Int32} {μ : qa_M} (I : INV μ) (hn : 2000 ≤ n) (k : ∀ μ', INV μ' → K (i + 6) μ') (v1 : vp_in (i + 1) Ln) (v2 : vp_in (i + 2) Ln) (v3 : vp_in (i + 3) Ln) (v4 : vp_in (i + 4) Ln) (v5 : vp_in (i + 5) Ln) : wLc_38 Ln xs n K i μ := by
  unfold wLc_38
  simp only [v1, v2, v3, v4, v5, true_and]
  generalize xs (i + 1).toNatClampNeg = a
  obtain ⟨w, hw⟩ : ∃ w, μ.1 92 = w := ⟨_, rfl⟩
  obtain ⟨r, T, E, G⟩ := I.facts hw
  obtain ⟨r1, r2, r3, r4⟩ := r.n0
  have L8 := G.1
  have N1 := r.2.1.1
  obtain ⟨W20, H8, hW, hH, plt, hpl, hpp, hfo, htu, hsu, hsm⟩ := id E
  by_cases ga : 0 < zN w ∧ 0 ≤ a.toInt ∧ a.toInt ≤ (zW w : Int)
  · skip
    have n0 := ga.1
    obtain ⟨a, ha, rfl⟩ := gN' ga.2 (by omega)
    simp (disch := omega) only [wX8_same, xW1 T r, x_same E, not_true_eq_false, not_false_eq_true, false_implies, true_implies, and_true, true_and, and_self, nmM, if_true, if_false, or0, Int32.add_zero, forall_const, one_ne, zero_ne1, nz1, nz0, nI_z, cl, inN]
    simp only [wX9_same, wX9_asksWeek]
    refine m_asks2 hw r (by omega) (fun μ' s h' M E' => ?_)
    obtain ⟨-, -, hW', hH', plt', hpl', hpp', hfo', htu', hsu', hsm'⟩ := id E'
    simp (disch := omega) only [mW1 h' r, m_same E', not_true_eq_false, not_false_eq_true, false_implies, true_implies, and_true, true_and, and_self, nmM, if_true, if_false, or0, Int32.add_zero, forall_const, one_ne, zero_ne1, nz1, nz0, nI_z, cl, inN]
    exact k μ' (I.sc s)
  · skip
    simp (disch := omega) only [wX8_same, xW0 T r ga, not_true_eq_false, not_false_eq_true, false_implies, true_implies, and_true, true_and, and_self, nmM, if_true, if_false, or0, Int32.add_zero, forall_const, one_ne, zero_ne1, nz1, nz0, nI_z, cl, inN]
    simp only [wX9_same, wX9_asksWeek]
    refine m_asks2 hw r (by omega) (fun μ' s h' M E' => ?_)
    obtain ⟨-, -, hW', hH', plt', hpl', hpp', hfo', htu', hsu', hsm'⟩ := id E'
    simp (disch := omega) only [mW0 h' r ga, not_true_eq_false, not_false_eq_true, false_implies, true_implies, and_true, true_and, and_self, nmM, if_true, if_false, or0, Int32.add_zero, forall_const, one_ne, zero_ne1, nz1, nz0, nI_z, cl, inN]
    exact k μ' (I.sc s)
