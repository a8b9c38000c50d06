theorem mIn1 {n : Nat} {v : Int32} {lo hi : Int64} {μ : qa_M} {Q : Int32 → qa_M → Prop} (h : lo.toInt ≤ v.toInt ∧ v.toInt ≤ hi.toInt) : wX9_in n v.toInt64 lo hi μ Q ↔ Q 1 μ := by
  rw [s_in, Int32.toInt_toInt64, qb_p h]
theorem mIn0 {n : Nat} {v : Int32} {lo hi : Int64} {μ : qa_M} {Q : Int32 → qa_M → Prop} (h : ¬ (lo.toInt ≤ v.toInt ∧ v.toInt ≤ hi.toInt)) : wX9_in n v.toInt64 lo hi μ Q ↔ Q 0 μ := by
  rw [s_in, Int32.toInt_toInt64, qb_n h]
theorem fin {P : Prop} {v : Int32} (h : P) : (v = v → P) ∧ (¬ v = v → False) := ⟨fun _ => h, fun q => q rfl⟩
theorem bt_0 (k : Nat) : bt 0 k = 0 := by
  unfold bt
  apply Int32.toBitVec_inj.mp
  simp
theorem bt_1sh : ∀ h, h < 8 → ∀ k, k < 8 → bt ((1 : Int32) <<< (nI h &&& 31)) k = if h = k then 1 else 0 := by decide
theorem bt_0sh : ∀ h, h < 8 → ∀ k, k < 8 → bt ((0 : Int32) <<< (nI h &&& 31)) k = 0 := by decide
theorem bt_leanW {w : Nat → Int32} (h01 : ∀ h, h < 8 → w (11 + 2 * h) = 0 ∨ w (11 + 2 * h) = 1) {k : Nat} (hk : k < 8) : bt (leanW w) k = w (11 + 2 * k) := by
  have : ∀ m, m ≤ 8 → bt (itr (fun h s => s ||| (w (11 + 2 * h) <<< (nI h &&& 31))) 0 m 0) k = if k < m then w (11 + 2 * k) else 0 := by
    intro m
    induction m with
    | zero => intro _; rw [if_neg (by omega)]; exact bt_0 k
    | succ m ih =>
      intro hm
      rw [itr_succ, Nat.zero_add, bt_or, ih (by omega)]
      by_cases e : m = k
      · subst e
        rw [if_neg (by omega), if_pos (by omega)]
        rcases h01 m (by omega) with q | q <;> rw [q]
        · rw [bt_0sh m (by omega) m hk]; rfl
        · rw [bt_1sh m (by omega) m hk, if_pos rfl]; rfl
      · have z : bt (w (11 + 2 * m) <<< (nI m &&& 31)) k = 0 := by
          rcases h01 m (by omega) with q | q <;> rw [q]
          · exact bt_0sh m (by omega) k hk
          · rw [bt_1sh m (by omega) k hk, if_neg e]
        rw [z, or0]
        by_cases c : k < m
        · rw [if_pos c, if_pos (by omega)]
        · rw [if_neg c, if_neg (by omega)]
  have q := this 8 (by omega)
  rw [if_pos hk] at q
  exact q
theorem RZ.l01 {w : Nat → Int32} (r : RZ w) : ∀ h, h < 8 → w (11 + 2 * h) = 0 ∨ w (11 + 2 * h) = 1 := by
  intro h hh
  by_cases c : h < zH w
  · exact (r.2.2.2.1.1 h c).2
  · exact Or.inl (r.2.2.2.1.2 h (by omega) hh)
theorem toI_of {v : Int32} {k : Nat} (hk : k < 2 ^ 31) (h : v.toInt = (k : Int)) : v = nI k := by
  rw [fa_eq, h, nI_toInt hk]
theorem jl0 : (0 : Int64).toInt = 0 := rfl
theorem jl1 : (1 : Int64).toInt = 1 := rfl
theorem jl2 : (2 : Int64).toInt = 2 := rfl
theorem jl3 : (3 : Int64).toInt = 3 := rfl
theorem jl9 : (9 : Int64).toInt = 9 := rfl
theorem c_48 {Ln n : Nat} {xs : Nat → Int32} {K : Int32 → qa_M → Prop} {i : Int32} {μ : qa_M} (I : INV μ) (hn : 2000 ≤ n) (k : ∀ μ', INV μ' → K (i + 6) μ') (v1 : vp_in (i + 1) Ln) (v2 : vp_in (i + 2) Ln) (v3 : vp_in (i + 3) Ln) (v4 : vp_in (i + 4) Ln) (v5 : vp_in (i + 5) Ln) : wLc_48 Ln xs n K i μ := by
  unfold wLc_48
  obtain ⟨w, hw⟩ : ∃ w, μ.1 92 = w := ⟨_, rfl⟩
  obtain ⟨r, T, E, G⟩ := I.facts hw
  obtain ⟨r1, r2, r3, r4⟩ := r.n0
  have L8 := G.1
  have N1 := r.2.1.1
  obtain ⟨W20, H8, hW, hH, plt, hpl, hpp, hfo, htu, hsu, hsm⟩ := id E
  by_cases gT : 0 < zN w
  · simp (disch := omega) only [wX8_fair, xT1 T r, not_true_eq_false, not_false_eq_true, false_implies, true_implies, and_true, true_and, and_self, nmM, if_true, if_false, or0, Int32.add_zero, forall_const, one_ne, zero_ne1, nz1, nz0, nI_z, cl, inN]
    refine xs_fair I hw (by omega) (fun μ1 s1 => ?_)
    have hw1 : μ1.1 92 = w := s1.w.trans hw
    simp only [wX9_fair]
    refine m_asks2 hw1 r (by omega) (fun μ' s h' M E' => ?_)
    simp (disch := omega) only [qb_p gT, not_true_eq_false, not_false_eq_true, false_implies, true_implies, and_true, true_and, and_self, nmM, if_true, if_false, or0, Int32.add_zero, forall_const, one_ne, zero_ne1, nz1, nz0, nI_z, cl, inN]
    exact ms_fair r gT hw1 (s.put91 21 1 (by omega)) (M.heavy 1) (by omega) (fun μ2 s2 => fin (k _ ((I.sc s1).sc s2)))
  · simp (disch := omega) only [wX8_fair, xT0 T r gT, not_true_eq_false, not_false_eq_true, false_implies, true_implies, and_true, true_and, and_self, nmM, if_true, if_false, or0, Int32.add_zero, forall_const, one_ne, zero_ne1, nz1, nz0, nI_z, cl, inN]
    simp only [wX9_fair]
    refine m_asks2 hw r (by omega) (fun μ' s h' M E' => ?_)
    simp (disch := omega) only [qb_n gT, not_true_eq_false, not_false_eq_true, false_implies, true_implies, and_true, true_and, and_self, nmM, if_true, if_false, or0, Int32.add_zero, forall_const, one_ne, zero_ne1, nz1, nz0, nI_z, cl, inN]
    exact k μ' (I.sc s)
theorem c_49 {Ln n : Nat} {xs : Nat → Int32} {K : Int32 → qa_M → Prop} {i : Int32} {μ : qa_M} (I : INV μ) (hn : 2000 ≤ n) (k : ∀ μ', INV μ' → K (i + 6) μ') (v1 : vp_in (i + 1) Ln) (v2 : vp_in (i + 2) Ln) (v3 : vp_in (i + 3) Ln) (v4 : vp_in (i + 4) Ln) (v5 : vp_in (i + 5) Ln) : wLc_49 Ln xs n K i μ := by
  unfold wLc_49
  obtain ⟨w, hw⟩ : ∃ w, μ.1 92 = w := ⟨_, rfl⟩
  obtain ⟨r, T, E, G⟩ := I.facts hw
  obtain ⟨r1, r2, r3, r4⟩ := r.n0
  have L8 := G.1
  have N1 := r.2.1.1
  obtain ⟨W20, H8, hW, hH, plt, hpl, hpp, hfo, htu, hsu, hsm⟩ := id E
  by_cases gT : 0 < zN w
  · simp (disch := omega) only [wX8_post, xT1 T r, not_true_eq_false, not_false_eq_true, false_implies, true_implies, and_true, true_and, and_self, nmM, if_true, if_false, or0, Int32.add_zero, forall_const, one_ne, zero_ne1, nz1, nz0, nI_z, cl, inN]
    refine xs_post I hw (by omega) (fun μ1 s1 => ?_)
    have hw1 : μ1.1 92 = w := s1.w.trans hw
    simp only [wX9_post]
    refine m_asks2 hw1 r (by omega) (fun μ' s h' M E' => ?_)
    simp (disch := omega) only [qb_p gT, not_true_eq_false, not_false_eq_true, false_implies, true_implies, and_true, true_and, and_self, nmM, if_true, if_false, or0, Int32.add_zero, forall_const, one_ne, zero_ne1, nz1, nz0, nI_z, cl, inN]
    exact ms_post r gT hw1 (s.put91 21 1 (by omega)) (M.heavy 1) (by omega) (fun μ2 s2 => fin (k _ ((I.sc s1).sc s2)))
  · simp (disch := omega) only [wX8_post, xT0 T r gT, not_true_eq_false, not_false_eq_true, false_implies, true_implies, and_true, true_and, and_self, nmM, if_true, if_false, or0, Int32.add_zero, forall_const, one_ne, zero_ne1, nz1, nz0, nI_z, cl, inN]
    simp only [wX9_post]
    refine m_asks2 hw r (by omega) (fun μ' s h' M E' => ?_)
    simp (disch := omega) only [qb_n gT, not_true_eq_false, not_false_eq_true, false_implies, true_implies, and_true, true_and, and_self, nmM, if_true, if_false, or0, Int32.add_zero, forall_const, one_ne, zero_ne1, nz1, nz0, nI_z, cl, inN]
    exact k μ' (I.sc s)
theorem c_51 {Ln n : Nat} {xs : Nat → Int32} {K : Int32 → qa_M → Prop} {i : Int32} {μ : qa_M} (I : INV μ) (hn : 2000 ≤ n) (k : ∀ μ', INV μ' → K (i + 6) μ') (v1 : vp_in (i + 1) Ln) (v2 : vp_in (i + 2) Ln) (v3 : vp_in (i + 3) Ln) (v4 : vp_in (i + 4) Ln) (v5 : vp_in (i + 5) Ln) : wLc_51 Ln xs n K i μ := by
  unfold wLc_51
  obtain ⟨w, hw⟩ : ∃ w, μ.1 92 = w := ⟨_, rfl⟩
  obtain ⟨r, T, E, G⟩ := I.facts hw
  obtain ⟨r1, r2, r3, r4⟩ := r.n0
  have L8 := G.1
  have N1 := r.2.1.1
  obtain ⟨W20, H8, hW, hH, plt, hpl, hpp, hfo, htu, hsu, hsm⟩ := id E
  by_cases gT : 0 < zN w
  · simp (disch := omega) only [wX8_law, xT1 T r, not_true_eq_false, not_false_eq_true, false_implies, true_implies, and_true, true_and, and_self, nmM, if_true, if_false, or0, Int32.add_zero, forall_const, one_ne, zero_ne1, nz1, nz0, nI_z, cl, inN]
    refine xs_law I hw (by omega) (fun μ1 s1 => ?_)
    have hw1 : μ1.1 92 = w := s1.w.trans hw
    simp only [wX9_law]
    refine m_asks2 hw1 r (by omega) (fun μ' s h' M E' => ?_)
    simp (disch := omega) only [qb_p gT, not_true_eq_false, not_false_eq_true, false_implies, true_implies, and_true, true_and, and_self, nmM, if_true, if_false, or0, Int32.add_zero, forall_const, one_ne, zero_ne1, nz1, nz0, nI_z, cl, inN]
    refine ms_law r hw1 s M (by omega) (fun μ2 s2 => ?_)
    rw [pal_low (SPl w) (by omega)]
    exact fin (k _ ((I.sc s1).sc s2))
  · simp (disch := omega) only [wX8_law, xT0 T r gT, not_true_eq_false, not_false_eq_true, false_implies, true_implies, and_true, true_and, and_self, nmM, if_true, if_false, or0, Int32.add_zero, forall_const, one_ne, zero_ne1, nz1, nz0, nI_z, cl, inN]
    simp only [wX9_law]
    refine m_asks2 hw r (by omega) (fun μ' s h' M E' => ?_)
    simp (disch := omega) only [qb_n gT, not_true_eq_false, not_false_eq_true, false_implies, true_implies, and_true, true_and, and_self, nmM, if_true, if_false, or0, Int32.add_zero, forall_const, one_ne, zero_ne1, nz1, nz0, nI_z, cl, inN]
    exact k μ' (I.sc s)
theorem c_50 {Ln n : Nat} {xs : Nat → Int32} {K : Int32 → qa_M → Prop} {i : Int32} {μ : qa_M} (I : INV μ) (hn : 2000 ≤ n) (k : ∀ μ', INV μ' → K (i + 6) μ') (v1 : vp_in (i + 1) Ln) (v2 : vp_in (i + 2) Ln) (v3 : vp_in (i + 3) Ln) (v4 : vp_in (i + 4) Ln) (v5 : vp_in (i + 5) Ln) : wLc_50 Ln xs n K i μ := by
  unfold wLc_50
  simp only [v1, v2, v3, v4, v5, true_and]
  generalize xs (i + 1).toNatClampNeg = a
  obtain ⟨w, hw⟩ : ∃ w, μ.1 92 = w := ⟨_, rfl⟩
  obtain ⟨r, T, E, G⟩ := I.facts hw
  obtain ⟨r1, r2, r3, r4⟩ := r.n0
  have L8 := G.1
  have N1 := r.2.1.1
  obtain ⟨W20, H8, hW, hH, plt, hpl, hpp, hfo, htu, hsu, hsm⟩ := id E
  have c0 : (a < 0) ↔ a.toInt < 0 := by rw [fa_lt]; exact Iff.rfl
  have c4 : ((4 : Int32) ≤ a) ↔ 4 ≤ a.toInt := by rw [fa_le]; exact Iff.rfl
  by_cases gT : 0 < zN w
  · by_cases ga : 0 ≤ a.toInt ∧ a.toInt < ((4 : Nat) : Int)
    · have d0 : ¬ a < 0 := by rw [c0]; omega
      have d4 : ¬ (4 : Int32) ≤ a := by rw [c4]; omega
      simp (disch := omega) only [wX8_by, xT1 T r, d0, d4, not_true_eq_false, not_false_eq_true, false_implies, true_implies, and_true, true_and, and_self, nmM, if_true, if_false, or0, Int32.add_zero, forall_const, one_ne, zero_ne1, nz1, nz0, nI_z, cl, inN]
      obtain ⟨h, hh, rfl⟩ := gN ga (by omega)
      unfold wX8_spreadBy
      refine x_law I hw (sc.rf μ) (lawN hh) (by omega) (fun μ1 s1 E1 G1 => ?_)
      rw [x_spread (y := 37) E1 (by omega)]
      have hw1 : μ1.1 92 = w := s1.w.trans hw
      simp only [wX9_by]
      refine m_asks2 hw1 r (by omega) (fun μ' s h' M E' => ?_)
      simp (disch := omega) only [qb_p gT, mIn1 (v := nI h) (lo := 0) (hi := 3) (by rw [jl0, jl3]; omega), not_true_eq_false, not_false_eq_true, false_implies, true_implies, and_true, true_and, and_self, nmM, if_true, if_false, or0, Int32.add_zero, forall_const, one_ne, zero_ne1, nz1, nz0, nI_z, cl, inN]
      exact m_spanBy (o := oT w) r hw1 s M (by omega) (fun μ2 s2 _ => fin (k _ ((I.sc s1).sc s2)))
    · have : ¬ a < 0 → ¬ ¬ (4 : Int32) ≤ a := by
        rw [c0, c4]
        intro q1 q2
        exact ga ⟨by omega, by omega⟩
      by_cases d0 : a < 0
      · simp (disch := omega) only [wX8_by, xT1 T r, d0, not_true_eq_false, not_false_eq_true, false_implies, true_implies, and_true, true_and, and_self, nmM, if_true, if_false, or0, Int32.add_zero, forall_const, one_ne, zero_ne1, nz1, nz0, nI_z, cl, inN]
        simp only [wX9_by]
        refine m_asks2 hw r (by omega) (fun μ' s h' M E' => ?_)
        simp (disch := omega) only [qb_p gT, mIn0 (v := a) (lo := 0) (hi := 3) (by rw [jl0, jl3]; omega), not_true_eq_false, not_false_eq_true, false_implies, true_implies, and_true, true_and, and_self, nmM, if_true, if_false, or0, Int32.add_zero, forall_const, one_ne, zero_ne1, nz1, nz0, nI_z, cl, inN]
        exact k μ' (I.sc s)
      · have d4 : (4 : Int32) ≤ a := Classical.not_not.mp (this d0)
        simp (disch := omega) only [wX8_by, xT1 T r, d0, d4, not_true_eq_false, not_false_eq_true, false_implies, true_implies, and_true, true_and, and_self, nmM, if_true, if_false, or0, Int32.add_zero, forall_const, one_ne, zero_ne1, nz1, nz0, nI_z, cl, inN]
        simp only [wX9_by]
        refine m_asks2 hw r (by omega) (fun μ' s h' M E' => ?_)
        simp (disch := omega) only [qb_p gT, mIn0 (v := a) (lo := 0) (hi := 3) (by rw [jl0, jl3]; omega), not_true_eq_false, not_false_eq_true, false_implies, true_implies, and_true, true_and, and_self, nmM, if_true, if_false, or0, Int32.add_zero, forall_const, one_ne, zero_ne1, nz1, nz0, nI_z, cl, inN]
        exact k μ' (I.sc s)
  · simp (disch := omega) only [wX8_by, xT0 T r gT, not_true_eq_false, not_false_eq_true, false_implies, true_implies, and_true, true_and, and_self, nmM, if_true, if_false, or0, Int32.add_zero, forall_const, one_ne, zero_ne1, nz1, nz0, nI_z, cl, inN]
    simp only [wX9_by]
    refine m_asks2 hw r (by omega) (fun μ' s h' M E' => ?_)
    simp (disch := omega) only [qb_n gT, not_true_eq_false, not_false_eq_true, false_implies, true_implies, and_true, true_and, and_self, nmM, if_true, if_false, or0, Int32.add_zero, forall_const, one_ne, zero_ne1, nz1, nz0, nI_z, cl, inN]
    exact k μ' (I.sc s)
theorem c_7 {Ln n : Nat} {xs : Nat → Int32} {K : Int32 → qa_M → Prop} {i : Int32} {μ : qa_M} (I : INV μ) (hn : 2000 ≤ n) (k : ∀ μ', INV μ' → K (i + 6) μ') (v1 : vp_in (i + 1) Ln) (v2 : vp_in (i + 2) Ln) (v3 : vp_in (i + 3) Ln) (v4 : vp_in (i + 4) Ln) (v5 : vp_in (i + 5) Ln) : wLc_7 Ln xs n K i μ := by
  unfold wLc_7
  obtain ⟨w, hw⟩ : ∃ w, μ.1 92 = w := ⟨_, rfl⟩
  obtain ⟨r, T, E, G⟩ := I.facts hw
  obtain ⟨r1, r2, r3, r4⟩ := r.n0
  have L8 := G.1
  have N1 := r.2.1.1
  obtain ⟨W20, H8, hW, hH, plt, hpl, hpp, hfo, htu, hsu, hsm⟩ := id E
  by_cases gT : 0 < zN w
  · simp (disch := omega) only [wX8_snows, xT1 T r, s_lowBits, T.1.2.1, T.1.2.2.2.2.2.2.2.2.2.2, not_true_eq_false, not_false_eq_true, false_implies, true_implies, and_true, true_and, and_self, nmM, if_true, if_false, or0, Int32.add_zero, forall_const, one_ne, zero_ne1, nz1, nz0, nI_z, cl, inN]
    simp only [wX9_snows]
    refine m_lay hw r (by omega) (fun μ' a1 a2 a3 M => ?_)
    have s := (sc.rf μ).lay a1 a2 a3
    have h' := s.w.trans hw
    simp (disch := omega) only [mT1 h' r, s_mweeks, show μ'.1 92 0 = nI (zW w) by rw [h']; exact r.1.2.1, show μ'.1 91 19 = snowW w (zS w) from M.2.2.2.1, not_true_eq_false, not_false_eq_true, false_implies, true_implies, and_true, true_and, and_self, nmM, if_true, if_false, or0, Int32.add_zero, forall_const, one_ne, zero_ne1, nz1, nz0, nI_z, cl, inN]
    exact k μ' (I.sc s)
  · simp (disch := omega) only [wX8_snows, xT0 T r gT, not_true_eq_false, not_false_eq_true, false_implies, true_implies, and_true, true_and, and_self, nmM, if_true, if_false, or0, Int32.add_zero, forall_const, one_ne, zero_ne1, nz1, nz0, nI_z, cl, inN]
    simp only [wX9_snows]
    refine m_lay hw r (by omega) (fun μ' a1 a2 a3 M => ?_)
    have s := (sc.rf μ).lay a1 a2 a3
    have h' := s.w.trans hw
    simp (disch := omega) only [mT0 h' r gT, not_true_eq_false, not_false_eq_true, false_implies, true_implies, and_true, true_and, and_self, nmM, if_true, if_false, or0, Int32.add_zero, forall_const, one_ne, zero_ne1, nz1, nz0, nI_z, cl, inN]
    exact k μ' (I.sc s)
theorem c_5 {Ln n : Nat} {xs : Nat → Int32} {K : Int32 → qa_M → Prop} {i : Int32} {μ : qa_M} (I : INV μ) (hn : 2000 ≤ n) (k : ∀ μ', INV μ' → K (i + 6) μ') (v1 : vp_in (i + 1) Ln) (v2 : vp_in (i + 2) Ln) (v3 : vp_in (i + 3) Ln) (v4 : vp_in (i + 4) Ln) (v5 : vp_in (i + 5) Ln) : wLc_5 Ln xs n K i μ := by
  unfold wLc_5
  simp only [v1, v2, v3, v4, v5, true_and]
  generalize xs (i + 1).toNatClampNeg = a
  generalize xs (i + 2).toNatClampNeg = b
  obtain ⟨w, hw⟩ : ∃ w, μ.1 92 = w := ⟨_, rfl⟩
  obtain ⟨r, T, E, G⟩ := I.facts hw
  obtain ⟨r1, r2, r3, r4⟩ := r.n0
  have L8 := G.1
  have N1 := r.2.1.1
  obtain ⟨W20, H8, hW, hH, plt, hpl, hpp, hfo, htu, hsu, hsm⟩ := id E
  by_cases ga : 0 ≤ a.toInt ∧ a.toInt < (zH w : Int)
  · obtain ⟨a, ha, rfl⟩ := gN ga (by omega)
    by_cases b0 : b = 0
    · subst b0
      simp (disch := omega) only [wX8_place, xP1 T r, hsu, not_true_eq_false, not_false_eq_true, false_implies, true_implies, and_true, true_and, and_self, nmM, if_true, if_false, or0, Int32.add_zero, forall_const, one_ne, zero_ne1, nz1, nz0, nI_z, cl, inN]
      simp only [wX9_place]
      refine m_lay hw r (by omega) (fun μ' a1 a2 a3 M => ?_)
      have s := (sc.rf μ).lay a1 a2 a3
      have h' := s.w.trans hw
      simp (disch := omega) only [mP1 h' r, mIn1 (v := (0 : Int32)) (lo := 0) (hi := 1) (by decide), M.2.2.2.2.2.2.1, not_true_eq_false, not_false_eq_true, false_implies, true_implies, and_true, true_and, and_self, nmM, if_true, if_false, or0, Int32.add_zero, forall_const, one_ne, zero_ne1, nz1, nz0, nI_z, cl, inN]
      exact k μ' (I.sc s)
    · by_cases b1 : b = 1
      · subst b1
        simp (disch := omega) only [wX8_place, xP1 T r, hsm, not_true_eq_false, not_false_eq_true, false_implies, true_implies, and_true, true_and, and_self, nmM, if_true, if_false, or0, Int32.add_zero, forall_const, one_ne, zero_ne1, nz1, nz0, nI_z, cl, inN]
        simp only [wX9_place]
        refine m_lay hw r (by omega) (fun μ' a1 a2 a3 M => ?_)
        have s := (sc.rf μ).lay a1 a2 a3
        have h' := s.w.trans hw
        simp (disch := omega) only [mP1 h' r, mIn1 (v := (1 : Int32)) (lo := 0) (hi := 1) (by decide), M.2.2.2.2.2.2.2.1, not_true_eq_false, not_false_eq_true, false_implies, true_implies, and_true, true_and, and_self, nmM, if_true, if_false, or0, Int32.add_zero, forall_const, one_ne, zero_ne1, nz1, nz0, nI_z, cl, inN]
        exact k μ' (I.sc s)
      · simp (disch := omega) only [wX8_place, xP1 T r, b0, b1, not_true_eq_false, not_false_eq_true, false_implies, true_implies, and_true, true_and, and_self, nmM, if_true, if_false, or0, Int32.add_zero, forall_const, one_ne, zero_ne1, nz1, nz0, nI_z, cl, inN]
        simp only [wX9_place]
        refine m_lay hw r (by omega) (fun μ' a1 a2 a3 M => ?_)
        have s := (sc.rf μ).lay a1 a2 a3
        have h' := s.w.trans hw
        have nb : ¬ ((0 : Int64).toInt ≤ b.toInt ∧ b.toInt ≤ (1 : Int64).toInt) := by
          rw [jl0, jl1]
          intro q
          have : b.toInt = 0 ∨ b.toInt = 1 := by omega
          rcases this with e | e
          · exact b0 (toI_of (k := 0) (by decide) e)
          · exact b1 (toI_of (k := 1) (by decide) e)
        simp (disch := omega) only [mP1 h' r, mIn0 nb, not_true_eq_false, not_false_eq_true, false_implies, true_implies, and_true, true_and, and_self, nmM, if_true, if_false, or0, Int32.add_zero, forall_const, one_ne, zero_ne1, nz1, nz0, nI_z, cl, inN]
        exact k μ' (I.sc s)
  · simp (disch := omega) only [wX8_place, xP0 T r ga, not_true_eq_false, not_false_eq_true, false_implies, true_implies, and_true, true_and, and_self, nmM, if_true, if_false, or0, Int32.add_zero, forall_const, one_ne, zero_ne1, nz1, nz0, nI_z, cl, inN]
    simp only [wX9_place]
    refine m_lay hw r (by omega) (fun μ' a1 a2 a3 M => ?_)
    have s := (sc.rf μ).lay a1 a2 a3
    have h' := s.w.trans hw
    simp (disch := omega) only [mP0 h' r ga, not_true_eq_false, not_false_eq_true, false_implies, true_implies, and_true, true_and, and_self, nmM, if_true, if_false, or0, Int32.add_zero, forall_const, one_ne, zero_ne1, nz1, nz0, nI_z, cl, inN]
    exact k μ' (I.sc s)
theorem c_4 {Ln n : Nat} {xs : Nat → Int32} {K : Int32 → qa_M → Prop} {i : Int32} {μ : qa_M} (I : INV μ) (hn : 2000 ≤ n) (k : ∀ μ', INV μ' → K (i + 6) μ') (v1 : vp_in (i + 1) Ln) (v2 : vp_in (i + 2) Ln) (v3 : vp_in (i + 3) Ln) (v4 : vp_in (i + 4) Ln) (v5 : vp_in (i + 5) Ln) : wLc_4 Ln xs n K i μ := by
  unfold wLc_4
  simp only [v1, v2, v3, v4, v5, true_and]
  generalize xs (i + 1).toNatClampNeg = a
  generalize xs (i + 2).toNatClampNeg = b
  obtain ⟨w, hw⟩ : ∃ w, μ.1 92 = w := ⟨_, rfl⟩
  obtain ⟨r, T, E, G⟩ := I.facts hw
  obtain ⟨r1, r2, r3, r4⟩ := r.n0
  have L8 := G.1
  have N1 := r.2.1.1
  obtain ⟨W20, H8, hW, hH, plt, hpl, hpp, hfo, htu, hsu, hsm⟩ := id E
  by_cases ga : 0 ≤ a.toInt ∧ a.toInt < (zH w : Int)
  · obtain ⟨a, ha, rfl⟩ := gN ga (by omega)
    by_cases b0 : b = 0
    · subst b0
      simp (disch := omega) only [wX8_house, xH1 T r, T.2.1.1 a ha, not_true_eq_false, not_false_eq_true, false_implies, true_implies, and_true, true_and, and_self, nmM, if_true, if_false, or0, Int32.add_zero, forall_const, one_ne, zero_ne1, nz1, nz0, nI_z, cl, inN]
      simp (disch := omega) only [wX9_house, mH1 hw r, mIn1 (v := (0 : Int32)) (lo := 0) (hi := 1) (by decide), ixP, hw, not_true_eq_false, not_false_eq_true, false_implies, true_implies, and_true, true_and, and_self, nmM, if_true, if_false, or0, Int32.add_zero, forall_const, one_ne, zero_ne1, nz1, nz0, nI_z, cl, inN]
      exact k μ I
    · by_cases b1 : b = 1
      · subst b1
        have e := bt_leanW r.l01 (k := a) (by omega)
        unfold bt at e
        simp (disch := omega) only [wX8_house, xH1 T r, s_bitOf, T.1.2.2.2.2.2.2.2.2.2.1, e, not_true_eq_false, not_false_eq_true, false_implies, true_implies, and_true, true_and, and_self, nmM, if_true, if_false, or0, Int32.add_zero, forall_const, one_ne, zero_ne1, nz1, nz0, nI_z, cl, inN]
        simp (disch := omega) only [wX9_house, mH1 hw r, mIn1 (v := (1 : Int32)) (lo := 0) (hi := 1) (by decide), ixL, hw, not_true_eq_false, not_false_eq_true, false_implies, true_implies, and_true, true_and, and_self, nmM, if_true, if_false, or0, Int32.add_zero, forall_const, one_ne, zero_ne1, nz1, nz0, nI_z, cl, inN]
        exact k μ I
      · simp (disch := omega) only [wX8_house, xH1 T r, b0, b1, not_true_eq_false, not_false_eq_true, false_implies, true_implies, and_true, true_and, and_self, nmM, if_true, if_false, or0, Int32.add_zero, forall_const, one_ne, zero_ne1, nz1, nz0, nI_z, cl, inN]
        have nb : ¬ ((0 : Int64).toInt ≤ b.toInt ∧ b.toInt ≤ (1 : Int64).toInt) := by
          rw [jl0, jl1]
          intro q
          have : b.toInt = 0 ∨ b.toInt = 1 := by omega
          rcases this with e | e
          · exact b0 (toI_of (k := 0) (by decide) e)
          · exact b1 (toI_of (k := 1) (by decide) e)
        simp (disch := omega) only [wX9_house, mH1 hw r, mIn0 nb, not_true_eq_false, not_false_eq_true, false_implies, true_implies, and_true, true_and, and_self, nmM, if_true, if_false, or0, Int32.add_zero, forall_const, one_ne, zero_ne1, nz1, nz0, nI_z, cl, inN]
        exact k μ I
  · simp (disch := omega) only [wX8_house, xH0 T r ga, not_true_eq_false, not_false_eq_true, false_implies, true_implies, and_true, true_and, and_self, nmM, if_true, if_false, or0, Int32.add_zero, forall_const, one_ne, zero_ne1, nz1, nz0, nI_z, cl, inN]
    simp (disch := omega) only [wX9_house, mH0 hw r ga, not_true_eq_false, not_false_eq_true, false_implies, true_implies, and_true, true_and, and_self, nmM, if_true, if_false, or0, Int32.add_zero, forall_const, one_ne, zero_ne1, nz1, nz0, nI_z, cl, inN]
    exact k μ I
theorem c_6 {Ln n : Nat} {xs : Nat → Int32} {K : Int32 → qa_M → Prop} {i : Int32} {μ : qa_M} (I : INV μ) (hn : 2000 ≤ n) (k : ∀ μ', INV μ' → K (i + 6) μ') (v1 : vp_in (i + 1) Ln) (v2 : vp_in (i + 2) Ln) (v3 : vp_in (i + 3) Ln) (v4 : vp_in (i + 4) Ln) (v5 : vp_in (i + 5) Ln) : wLc_6 Ln xs n K i μ := by
  unfold wLc_6
  simp only [v1, v2, v3, v4, v5, true_and]
  generalize xs (i + 1).toNatClampNeg = a
  generalize xs (i + 2).toNatClampNeg = b
  obtain ⟨w, hw⟩ : ∃ w, μ.1 92 = w := ⟨_, rfl⟩
  obtain ⟨r, T, E, G⟩ := I.facts hw
  obtain ⟨r1, r2, r3, r4⟩ := r.n0
  have L8 := G.1
  have N1 := r.2.1.1
  obtain ⟨W20, H8, hW, hH, plt, hpl, hpp, hfo, htu, hsu, hsm⟩ := id E
  by_cases ga : 0 ≤ a.toInt ∧ a.toInt < (zL w : Int)
  · obtain ⟨a, ha, rfl⟩ := gN ga (by omega)
    obtain ⟨⟨b1, b2, b3⟩, g1, g2, g3⟩ := G.2.2 a ha
    obtain ⟨-, g1', g2', g3'⟩ := (MLZ.of r hw).2.2 a ha
    by_cases c0 : b = 0
    · subst c0
      simp (disch := omega) only [wX8_letter, xL1 T r, g1, not_true_eq_false, not_false_eq_true, false_implies, true_implies, and_true, true_and, and_self, nmM, if_true, if_false, or0, Int32.add_zero, forall_const, one_ne, zero_ne1, nz1, nz0, nI_z, cl, inN]
      simp (disch := omega) only [wX9_letter, mL1 hw r, mIn1 (v := (0 : Int32)) (lo := 0) (hi := 2) (by decide), m_let0, g1', not_true_eq_false, not_false_eq_true, false_implies, true_implies, and_true, true_and, and_self, nmM, if_true, if_false, or0, Int32.add_zero, forall_const, one_ne, zero_ne1, nz1, nz0, nI_z, cl, inN]
      exact k μ I
    · by_cases c1 : b = 1
      · subst c1
        simp (disch := omega) only [wX8_letter, xL1 T r, g2, c0, not_true_eq_false, not_false_eq_true, false_implies, true_implies, and_true, true_and, and_self, nmM, if_true, if_false, or0, Int32.add_zero, forall_const, one_ne, zero_ne1, nz1, nz0, nI_z, cl, inN]
        simp (disch := omega) only [wX9_letter, mL1 hw r, mIn1 (v := (1 : Int32)) (lo := 0) (hi := 2) (by decide), m_let1, g2', not_true_eq_false, not_false_eq_true, false_implies, true_implies, and_true, true_and, and_self, nmM, if_true, if_false, or0, Int32.add_zero, forall_const, one_ne, zero_ne1, nz1, nz0, nI_z, cl, inN]
        exact k μ I
      · by_cases c2 : b = 2
        · subst c2
          simp (disch := omega) only [wX8_letter, xL1 T r, g3, c0, c1, not_true_eq_false, not_false_eq_true, false_implies, true_implies, and_true, true_and, and_self, nmM, if_true, if_false, or0, Int32.add_zero, forall_const, one_ne, zero_ne1, nz1, nz0, nI_z, cl, inN]
          simp (disch := omega) only [wX9_letter, mL1 hw r, mIn1 (v := (2 : Int32)) (lo := 0) (hi := 2) (by decide), m_let2, g3', not_true_eq_false, not_false_eq_true, false_implies, true_implies, and_true, true_and, and_self, nmM, if_true, if_false, or0, Int32.add_zero, forall_const, one_ne, zero_ne1, nz1, nz0, nI_z, cl, inN]
          exact k μ I
        · simp (disch := omega) only [wX8_letter, xL1 T r, c0, c1, c2, not_true_eq_false, not_false_eq_true, false_implies, true_implies, and_true, true_and, and_self, nmM, if_true, if_false, or0, Int32.add_zero, forall_const, one_ne, zero_ne1, nz1, nz0, nI_z, cl, inN]
          have nb : ¬ ((0 : Int64).toInt ≤ b.toInt ∧ b.toInt ≤ (2 : Int64).toInt) := by
            rw [jl0, jl2]
            intro q
            have : b.toInt = 0 ∨ b.toInt = 1 ∨ b.toInt = 2 := by omega
            rcases this with e | e | e
            · exact c0 (toI_of (k := 0) (by decide) e)
            · exact c1 (toI_of (k := 1) (by decide) e)
            · exact c2 (toI_of (k := 2) (by decide) e)
          simp (disch := omega) only [wX9_letter, mL1 hw r, mIn0 nb, not_true_eq_false, not_false_eq_true, false_implies, true_implies, and_true, true_and, and_self, nmM, if_true, if_false, or0, Int32.add_zero, forall_const, one_ne, zero_ne1, nz1, nz0, nI_z, cl, inN]
          exact k μ I
  · simp (disch := omega) only [wX8_letter, xL0 T r ga, not_true_eq_false, not_false_eq_true, false_implies, true_implies, and_true, true_and, and_self, nmM, if_true, if_false, or0, Int32.add_zero, forall_const, one_ne, zero_ne1, nz1, nz0, nI_z, cl, inN]
    simp (disch := omega) only [wX9_letter, mL0 hw r ga, not_true_eq_false, not_false_eq_true, false_implies, true_implies, and_true, true_and, and_self, nmM, if_true, if_false, or0, Int32.add_zero, forall_const, one_ne, zero_ne1, nz1, nz0, nI_z, cl, inN]
    exact k μ I
theorem c_3 {Ln n : Nat} {xs : Nat → Int32} {K : Int32 → qa_M → Prop} {i : Int32} {μ : qa_M} (I : INV μ) (hn : 2000 ≤ n) (k : ∀ μ', INV μ' → K (i + 6) μ') (v1 : vp_in (i + 1) Ln) (v2 : vp_in (i + 2) Ln) (v3 : vp_in (i + 3) Ln) (v4 : vp_in (i + 4) Ln) (v5 : vp_in (i + 5) Ln) : wLc_3 Ln xs n K i μ := by
  unfold wLc_3
  simp only [v1, v2, v3, v4, v5, true_and]
  generalize xs (i + 1).toNatClampNeg = a
  obtain ⟨f1, f2⟩ := I.2.2.2.2.2.2.1
  unfold wX8_fault wX9_fault
  rw [f1, f2]
  by_cases c0 : a = 0
  · simp only [c0, not_true_eq_false, not_false_eq_true, false_implies, true_implies, and_true, true_and, and_self, nmM, if_true, if_false, or0, Int32.add_zero, forall_const, one_ne, zero_ne1, nz1, nz0, nI_z, cl, inN]
    exact k μ I
  · by_cases c1 : a = 1
    · simp only [c0, c1, not_true_eq_false, not_false_eq_true, false_implies, true_implies, and_true, true_and, and_self, nmM, if_true, if_false, or0, Int32.add_zero, forall_const, one_ne, zero_ne1, nz1, nz0, nI_z, cl, inN]
      exact k μ I
    · simp only [c0, c1, not_true_eq_false, not_false_eq_true, false_implies, true_implies, and_true, true_and, and_self, nmM, if_true, if_false, or0, Int32.add_zero, forall_const, one_ne, zero_ne1, nz1, nz0, nI_z, cl, inN]
      exact k μ I
