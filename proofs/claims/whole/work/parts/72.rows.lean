theorem INV.rows {μ μ' : qa_M} (h : INV μ) (s1 : μ'.2.2 = μ.2.2) (s2 : ∀ b j, (b < 83 ∨ 90 < b) → b ≠ 110 → b ≠ 111 → μ'.1 b j = μ.1 b j) (S : SLOT μ') : INV μ' := by
  have e92 : μ'.1 92 = μ.1 92 := funext (fun j => s2 92 j (by omega) (by omega) (by omega))
  obtain ⟨i1, i2, i3, i4, i5, i6, i7, i8, i9, i10⟩ := h
  refine ⟨by rw [s1]; exact i1, by rw [s1]; exact i2, by rw [e92]; exact i3, ?_, ?_, ?_, ?_, ?_, S, ?_⟩
  · rw [s1, e92]
    rcases i2 with ⟨q, -⟩ | ⟨q, -⟩ <;> rw [q] at i4 ⊢
    · exact i4.mono (fun j x hj => s2 _ _ (by omega) (by omega) (by omega)) rfl
    · exact i4.mono (fun j x hj => s2 _ _ (by omega) (by omega) (by omega)) rfl
  · rw [e92]
    exact i5.mono (fun b j hb => s2 _ _ (by omega) (by omega) (by omega))
  · obtain ⟨T, t1, t2, t3, t4⟩ := i6
    refine ⟨T, t1, by rw [s2 _ _ (by omega) (by omega) (by omega)]; exact t2, by rw [s2 _ _ (by omega) (by omega) (by omega)]; exact t3, fun j hj => ?_⟩
    rw [s2 _ _ (by omega) (by omega) (by omega), s2 _ _ (by omega) (by omega) (by omega)]
    exact t4 j hj
  · rw [s2 _ _ (by omega) (by omega) (by omega), s2 _ _ (by omega) (by omega) (by omega), s2 _ _ (by omega) (by omega) (by omega), s2 _ _ (by omega) (by omega) (by omega)]
    exact i7
  · intro k hk
    have e93 : (fun j => μ'.1 93 (114 * k + j)) = (fun j => μ.1 93 (114 * k + j)) := funext (fun j => s2 _ _ (by omega) (by omega) (by omega))
    rw [s2 29 _ (by omega) (by omega) (by omega), s2 94 _ (by omega) (by omega) (by omega), e93]
    obtain ⟨g1, g2⟩ := i8 k hk
    refine ⟨g1, ?_⟩
    rcases g2 with g2 | ⟨g2, g3, g4⟩
    · exact Or.inl g2
    · exact Or.inr ⟨g2, g3, g4.mono (fun j x hj => s2 _ _ (by omega) (by omega) (by omega)) rfl⟩
  · unfold WRT
    rw [e92, s2 1 _ (by omega) (by omega) (by omega)]
    rcases i10 with g | ⟨g, g'⟩
    · exact Or.inl g
    · exact Or.inr ⟨g, fun k hk => by rw [s2 46 _ (by omega) (by omega) (by omega)]; exact g' k hk⟩
def onlyJ (a : Nat) (μ μ' : qa_M) : Prop := μ'.1 = μ.1 ∧ μ'.2.2 = μ.2.2 ∧ ∀ b j, b ≠ a → μ'.2.1 b j = μ.2.1 b j
theorem onlyJ.rf (a : Nat) (μ : qa_M) : onlyJ a μ μ := ⟨rfl, rfl, fun _ _ _ => rfl⟩
theorem onlyJ.put {a : Nat} {μ μ1 : qa_M} (h : onlyJ a μ μ1) (j : Nat) (x : Int64) : onlyJ a μ (qa_uJ μ1 a j x) := ⟨h.1, h.2.1, fun b j hb => (uJn _ _ (fun e => hb e.1)).trans (h.2.2 b j hb)⟩
theorem s_fillJ {n a N : Nat} {x : Int64} {μ : qa_M} {Q : qa_M → Prop} (hN : N < 2 ^ 31) (hn : N < n) (kk : ∀ μ', onlyJ a μ μ' → (∀ j, j < N → μ'.2.1 a j = x) → Q μ') : wJ7_fill_d0a16 n a N x μ Q := by
  unfold wJ7_fill_d0a16
  rw [nmM]
  refine inv_loop (fun n i s => wJ7_fill_d0a16_6 n a N x i (nI N) s Q) N (fun i μ' => onlyJ a μ μ' ∧ ∀ j, j < i → μ'.2.1 a j = x) ?_ ?_ N 0 μ n (by omega) (by omega) ⟨onlyJ.rf a μ, fun j hj => absurd hj (Nat.not_lt_zero j)⟩
  · intro n s ⟨h1, h2⟩
    show wJ7_fill_d0a16_6 (n + 1) _ _ _ _ _ _ _
    rw [wJ7_fill_d0a16_6]
    exact ⟨fun _ => kk s h1 h2, fun h => absurd (nI_le (Nat.le_refl N) hN) h⟩
  · intro n i s hi ⟨h1, h2⟩ ih
    show wJ7_fill_d0a16_6 (n + 1) _ _ _ _ _ _ _
    rw [wJ7_fill_d0a16_6]
    refine ⟨fun h => absurd h (nI_ge hi hN), fun _ => ⟨inN hi hN, ?_⟩⟩
    rw [nmM, cl (by omega), nI1]
    refine ih _ ⟨h1.put i x, fun j hj => ?_⟩
    by_cases e : j = i
    · rw [e, uJs]
    · rw [uJn _ _ (fun q => e q.2)]; exact h2 j (by omega)
theorem le60 {i : Nat} (h : i < 2 ^ 31) : ((60 : Int32) ≤ nI i) = (60 ≤ i) := nle 60 i (by decide) h
theorem m_row {n s : Nat} {μ : qa_M} {Q : Int32 → qa_M → Prop} (hs : s < 4) (hn : 70 < n) (kk : ∀ μ', onlyJ 112 μ μ' → (∀ j, (j < 60 * s ∨ 60 * s + 60 ≤ j) → μ'.2.1 112 j = μ.2.1 112 j) → (∀ j, j < 60 → μ'.2.1 112 (60 * s + j) = 0) → Q 0 μ') : wX9_row_52 n (nI s) 0 μ Q := by
  refine inv_loop (fun n i (σ : qa_M) => wX9_row_52 n (nI s) i σ Q) 60 (fun i σ => onlyJ 112 μ σ ∧ (∀ j, (j < 60 * s ∨ 60 * s + 60 ≤ j) → σ.2.1 112 j = μ.2.1 112 j) ∧ ∀ j, j < i → σ.2.1 112 (60 * s + j) = 0) ?_ ?_ 60 0 μ n (by omega) (by omega) ⟨onlyJ.rf _ _, fun _ _ => rfl, fun j hj => absurd hj (Nat.not_lt_zero j)⟩
  · intro n μ1 ⟨o1, e1, e2⟩
    show wX9_row_52 (n + 1) _ _ _ _
    simp (disch := omega) only [wX9_row_52, le60, not_true_eq_false, not_false_eq_true, false_implies, true_implies, and_true, true_and, and_self, nmM, if_true, if_false, or0, Int32.add_zero, forall_const, one_ne, zero_ne1, nz1, nz0, nI_z, cl, inN, Nat.le_refl, Nat.lt_irrefl, Nat.lt_succ_self, Bool.false_eq_true]
    exact kk μ1 o1 e1 e2
  · intro n i μ1 hi ⟨o1, e1, e2⟩ ih
    show wX9_row_52 (n + 1) _ _ _ _
    have hi' : ¬ 60 ≤ i := by omega
    simp (disch := omega) only [wX9_row_52, le60, hi', ixN60, nI1, not_true_eq_false, not_false_eq_true, false_implies, true_implies, and_true, true_and, and_self, nmM, if_true, if_false, or0, Int32.add_zero, forall_const, one_ne, zero_ne1, nz1, nz0, nI_z, cl, inN, Nat.le_refl, Nat.lt_irrefl, Nat.lt_succ_self, Bool.false_eq_true]
    refine ih _ ⟨o1.put _ _, fun j hj => (uJn _ _ (by omega)).trans (e1 j hj), fun j hj => ?_⟩
    by_cases c : j = i
    · rw [c, uJs]
    · rw [uJn _ _ (by omega)]; exact e2 j (by omega)
theorem s_in3 {n : Nat} {v : Int32} {μ : qa_M} {Q : Int32 → qa_M → Prop} : wX9_in n v.toInt64 0 3 μ Q ↔ Q (qb (0 ≤ v.toInt ∧ v.toInt ≤ 3)) μ := by
  rw [s_in, Int32.toInt_toInt64]
  exact Iff.rfl
theorem c_77 {Ln n : Nat} {xs : Nat → Int32} {K : Int32 → qa_M → Prop} {i : Int32} {μ : qa_M} (I : INV μ) (hn : 2000 ≤ n) (k : ∀ μ', INV μ' → K (i + 6) μ') (v1 : vp_in (i + 1) Ln) (v2 : vp_in (i + 2) Ln) (v3 : vp_in (i + 3) Ln) (v4 : vp_in (i + 4) Ln) (v5 : vp_in (i + 5) Ln) : wLc_77 Ln xs n K i μ := by
  unfold wLc_77
  simp only [v1, v2, v3, v4, v5, true_and]
  generalize xs (i + 1).toNatClampNeg = a
  generalize xs (i + 2).toNatClampNeg = b
  generalize xs (i + 3).toNatClampNeg = c
  obtain ⟨w, hw⟩ : ∃ w, μ.1 92 = w := ⟨_, rfl⟩
  obtain ⟨r, T, E, G⟩ := I.facts hw
  obtain ⟨r1, r2, r3, r4⟩ := r.n0
  have L8 := G.1
  have N1 := r.2.1.1
  obtain ⟨W20, H8, hW, hH, plt, hpl, hpp, hfo, htu, hsu, hsm⟩ := id E
  by_cases ga : 0 ≤ a.toInt ∧ a.toInt < 4
  · obtain ⟨a, ha, rfl⟩ := gN (H := 4) ga (by omega)
    by_cases gb : 0 ≤ b.toInt ∧ b.toInt ≤ 3
    · obtain ⟨b, hb, rfl⟩ := gN' (H := 3) gb (by omega)
      have b4 : ¬ (4 : Int32) ≤ nI b := by rw [l4, nle _ _ (by omega) (by omega)]; omega
      by_cases c60 : c ≤ 60
      · by_cases c0 : 0 ≤ c
        · have c0' : ¬ c < 0 := by rw [fa_lt]; rw [fa_le] at c0; omega
          obtain ⟨m, hm, rfl⟩ := nI_of2 (M := 60) (n := 60) rfl c0' c60
          simp (disch := omega) only [wX8_row, xS1 ha, n_neg, b4, c60, c0, wX3_begin, not_true_eq_false, not_false_eq_true, false_implies, true_implies, and_true, true_and, and_self, nmM, if_true, if_false, or0, Int32.add_zero, forall_const, one_ne, zero_ne1, nz1, nz0, nI_z, cl, inN, Nat.le_refl, Nat.lt_irrefl, Nat.lt_succ_self, Bool.false_eq_true]
          refine s_fillJ (by omega) (by omega) (fun μ1 o1 z1 => ?_)
          simp (disch := omega) only [wX9_row, mS1 ha, s_in3, qb_p gb, c60, c0, not_true_eq_false, not_false_eq_true, false_implies, true_implies, and_true, true_and, and_self, nmM, if_true, if_false, or0, Int32.add_zero, forall_const, one_ne, zero_ne1, nz1, nz0, nI_z, cl, inN, Nat.le_refl, Nat.lt_irrefl, Nat.lt_succ_self, Bool.false_eq_true]
          refine m_row ha (by omega) (fun μ2 o2 e2 z2 => ?_)
          simp only [not_true_eq_false, not_false_eq_true, false_implies, true_implies, and_true, true_and, and_self, nmM, if_true, if_false, or0, Int32.add_zero, forall_const, one_ne, zero_ne1, nz1, nz0, nI_z, cl, inN, Nat.le_refl, Nat.lt_irrefl, Nat.lt_succ_self, Bool.false_eq_true]
          have c1 : ∀ b' j, μ2.1 b' j = (qa_uI (qa_uI (qa_uI (qa_uI μ (83 + 2 * a) 1 (nI b)) (83 + 2 * a) 2 (nI m)) 110 a (nI m)) 111 a (nI b)).1 b' j := by
            intro b' j
            rw [o2.1]
            show (qa_uI (qa_uI μ1 110 a (nI m)) 111 a (nI b)).1 b' j = _
            rw [uI1, uI1, o1.1, uI1, uI1]
            rfl
          have cJ : ∀ b' j, b' ≠ 112 → b' ≠ 83 + 2 * a + 1 → μ2.2.1 b' j = μ.2.1 b' j := fun b' j h1 h2 => by
            rw [o2.2.2 b' j h1]
            exact o1.2.2 b' j h2
          have J12 : ∀ j, (j < 60 * a ∨ 60 * a + 60 ≤ j) → μ2.2.1 112 j = μ.2.1 112 j := fun j hj => by
            rw [e2 j hj]
            exact o1.2.2 112 j (by omega)
          refine k μ2 (I.rows (by rw [o2.2.1]; exact o1.2.1) (fun b' j h1 h2 h3 => by rw [c1, uIn _ _ (by omega), uIn _ _ (by omega), uIn _ _ (by omega), uIn _ _ (by omega)]) (fun s hs => ?_))
          by_cases e : s = a
          · subst e
            refine ⟨by rw [c1, c1, uIn _ _ (by omega), uIn _ _ (by omega), uIs, uIn _ _ (by omega), uIs], Or.inr ⟨m, hm, ?_, ?_, ?_, fun j hj => ?_⟩⟩
            · rw [c1, uIn _ _ (by omega), uIs]
            · rw [c1, c1, uIn _ _ (by omega), uIn _ _ (by omega), uIn _ _ (by omega), uIs, uIs]
            · rw [c1, uIs]; exact lawN (by omega)
            · rw [z2 j (by omega), o2.2.2 _ _ (by omega), show 84 + 2 * s = 83 + 2 * s + 1 by omega]
              exact z1 j (by omega)
          · obtain ⟨g1, g2⟩ := I.2.2.2.2.2.2.2.2.1 s hs
            have x1 : ∀ j, μ2.1 (83 + 2 * s) j = μ.1 (83 + 2 * s) j := fun j => by rw [c1, uIn _ _ (by omega), uIn _ _ (by omega), uIn _ _ (by omega), uIn _ _ (by omega)]
            have x2 : μ2.1 110 s = μ.1 110 s := by rw [c1, uIn _ _ (by omega), uIn _ _ (by omega), uIn _ _ (by omega), uIn _ _ (by omega)]
            have x3 : μ2.1 111 s = μ.1 111 s := by rw [c1, uIn _ _ (by omega), uIn _ _ (by omega), uIn _ _ (by omega), uIn _ _ (by omega)]
            rw [x1, x1, x2, x3]
            refine ⟨g1, ?_⟩
            rcases g2 with g2 | ⟨m', g2, g3, g4, g5, g6⟩
            · exact Or.inl g2
            · exact Or.inr ⟨m', g2, g3, g4, g5, fun j hj => by rw [cJ _ _ (by omega) (by omega), J12 _ (by omega)]; exact g6 j hj⟩
        · simp (disch := omega) only [wX8_row, xS1 ha, n_neg, b4, c60, c0, not_true_eq_false, not_false_eq_true, false_implies, true_implies, and_true, true_and, and_self, nmM, if_true, if_false, or0, Int32.add_zero, forall_const, one_ne, zero_ne1, nz1, nz0, nI_z, cl, inN, Nat.le_refl, Nat.lt_irrefl, Nat.lt_succ_self, Bool.false_eq_true]
          simp (disch := omega) only [wX9_row, mS1 ha, s_in3, qb_p gb, c60, c0, not_true_eq_false, not_false_eq_true, false_implies, true_implies, and_true, true_and, and_self, nmM, if_true, if_false, or0, Int32.add_zero, forall_const, one_ne, zero_ne1, nz1, nz0, nI_z, cl, inN, Nat.le_refl, Nat.lt_irrefl, Nat.lt_succ_self, Bool.false_eq_true]
          exact k μ I
      · simp (disch := omega) only [wX8_row, xS1 ha, n_neg, b4, c60, not_true_eq_false, not_false_eq_true, false_implies, true_implies, and_true, true_and, and_self, nmM, if_true, if_false, or0, Int32.add_zero, forall_const, one_ne, zero_ne1, nz1, nz0, nI_z, cl, inN, Nat.le_refl, Nat.lt_irrefl, Nat.lt_succ_self, Bool.false_eq_true]
        simp (disch := omega) only [wX9_row, mS1 ha, s_in3, qb_p gb, c60, not_true_eq_false, not_false_eq_true, false_implies, true_implies, and_true, true_and, and_self, nmM, if_true, if_false, or0, Int32.add_zero, forall_const, one_ne, zero_ne1, nz1, nz0, nI_z, cl, inN, Nat.le_refl, Nat.lt_irrefl, Nat.lt_succ_self, Bool.false_eq_true]
        exact k μ I
    · have fin : wX9_row n (nI a) b c μ (fun r2 μ2 => ((-2 : Int32) = r2 → K (i + 6) μ2) ∧ (¬ (-2 : Int32) = r2 → False)) := by
        simp (disch := omega) only [wX9_row, mS1 ha, s_in3, qb_n gb, not_true_eq_false, not_false_eq_true, false_implies, true_implies, and_true, true_and, and_self, nmM, if_true, if_false, or0, Int32.add_zero, forall_const, one_ne, zero_ne1, nz1, nz0, nI_z, cl, inN, Nat.le_refl, Nat.lt_irrefl, Nat.lt_succ_self, Bool.false_eq_true]
        exact k μ I
      by_cases c1 : b < 0
      · simp (disch := omega) only [wX8_row, xS1 ha, c1, not_true_eq_false, not_false_eq_true, false_implies, true_implies, and_true, true_and, and_self, nmM, if_true, if_false, or0, Int32.add_zero, forall_const, one_ne, zero_ne1, nz1, nz0, nI_z, cl, inN, Nat.le_refl, Nat.lt_irrefl, Nat.lt_succ_self, Bool.false_eq_true]
        exact fin
      · have c2 : (4 : Int32) ≤ b := by
          rw [fa_lt, show (0 : Int32).toInt = 0 from rfl] at c1
          rw [fa_le, show (4 : Int32).toInt = 4 from rfl]
          omega
        simp (disch := omega) only [wX8_row, xS1 ha, c1, c2, not_true_eq_false, not_false_eq_true, false_implies, true_implies, and_true, true_and, and_self, nmM, if_true, if_false, or0, Int32.add_zero, forall_const, one_ne, zero_ne1, nz1, nz0, nI_z, cl, inN, Nat.le_refl, Nat.lt_irrefl, Nat.lt_succ_self, Bool.false_eq_true]
        exact fin
  · simp (disch := omega) only [wX8_row, xS0 ga, not_true_eq_false, not_false_eq_true, false_implies, true_implies, and_true, true_and, and_self, nmM, if_true, if_false, or0, Int32.add_zero, forall_const, one_ne, zero_ne1, nz1, nz0, nI_z, cl, inN, Nat.le_refl, Nat.lt_irrefl, Nat.lt_succ_self, Bool.false_eq_true]
    simp (disch := omega) only [wX9_row, mS0 ga, not_true_eq_false, not_false_eq_true, false_implies, true_implies, and_true, true_and, and_self, nmM, if_true, if_false, or0, Int32.add_zero, forall_const, one_ne, zero_ne1, nz1, nz0, nI_z, cl, inN, Nat.le_refl, Nat.lt_irrefl, Nat.lt_succ_self, Bool.false_eq_true]
    exact k μ I
/-! a number cut -/
theorem sar_t {v s : Int64} {k : Nat} (hs : (s.toBitVec.smod 64).toNat = k) : ((v <<< s) >>> s).toInt = (if 2 * (v.toBitVec.toNat * 2 ^ k % 2 ^ 64) < 2 ^ 64 then ((v.toBitVec.toNat * 2 ^ k % 2 ^ 64 : Nat) : Int) else ((v.toBitVec.toNat * 2 ^ k % 2 ^ 64 : Nat) : Int) - ((2 ^ 64 : Nat) : Int)) / ((2 ^ k : Nat) : Int) := by
  show ((v.toBitVec <<< (s.toBitVec.smod 64).toNat).sshiftRight (s.toBitVec.smod 64).toNat).toInt = _
  rw [hs, BitVec.toInt_sshiftRight, BitVec.toInt_eq_toNat_cond, BitVec.toNat_shiftLeft, Nat.shiftLeft_eq, Int.shiftRight_eq_div_pow]
theorem v_toInt (v : Int64) : v.toInt = if 2 * v.toBitVec.toNat < 2 ^ 64 then (v.toBitVec.toNat : Int) else (v.toBitVec.toNat : Int) - ((2 ^ 64 : Nat) : Int) := BitVec.toInt_eq_toNat_cond v.toBitVec
theorem bm (x : Int) {m h : Nat} (hm : h = (m + 1) / 2) : x.bmod m = if x % (m : Int) < (h : Int) then x % (m : Int) else x % (m : Int) - m := by
  rw [Int.bmod_def]
  subst hm
  rfl
theorem cut_0 (v : Int64) : v.toInt32.toInt8.toInt32.toInt64 = (v <<< (((64 : Int32) - ((8 : Int32) <<< ((0 : Int32) &&& 31))).toInt64 &&& 63)) >>> (((64 : Int32) - ((8 : Int32) <<< ((0 : Int32) &&& 31))).toInt64 &&& 63) := by
  rw [fa_eq64, sar_t (k := 56) (by decide), Int32.toInt_toInt64, Int8.toInt_toInt32, Int32.toInt_toInt8, Int64.toInt_toInt32, v_toInt, bm _ (m := 2 ^ 8) (h := 128) rfl, bm _ (m := 2 ^ 32) (h := 2147483648) rfl]
  have := v.toBitVec.isLt
  generalize v.toBitVec.toNat = N at this
  omega
theorem cut_1 (v : Int64) : v.toInt32.toInt16.toInt32.toInt64 = (v <<< (((64 : Int32) - ((8 : Int32) <<< ((1 : Int32) &&& 31))).toInt64 &&& 63)) >>> (((64 : Int32) - ((8 : Int32) <<< ((1 : Int32) &&& 31))).toInt64 &&& 63) := by
  rw [fa_eq64, sar_t (k := 48) (by decide), Int32.toInt_toInt64, Int16.toInt_toInt32, Int32.toInt_toInt16, Int64.toInt_toInt32, v_toInt, bm _ (m := 2 ^ 16) (h := 32768) rfl, bm _ (m := 2 ^ 32) (h := 2147483648) rfl]
  have := v.toBitVec.isLt
  generalize v.toBitVec.toNat = N at this
  omega
theorem cut_2 (v : Int64) : v.toInt32.toInt64 = (v <<< (((64 : Int32) - ((8 : Int32) <<< ((2 : Int32) &&& 31))).toInt64 &&& 63)) >>> (((64 : Int32) - ((8 : Int32) <<< ((2 : Int32) &&& 31))).toInt64 &&& 63) := by
  rw [fa_eq64, sar_t (k := 32) (by decide), Int32.toInt_toInt64, Int64.toInt_toInt32, v_toInt, bm _ (m := 2 ^ 32) (h := 2147483648) rfl]
  have := v.toBitVec.isLt
  generalize v.toBitVec.toNat = N at this
  omega
theorem cut_3 (v : Int64) : v = (v <<< (((64 : Int32) - ((8 : Int32) <<< ((3 : Int32) &&& 31))).toInt64 &&& 63)) >>> (((64 : Int32) - ((8 : Int32) <<< ((3 : Int32) &&& 31))).toInt64 &&& 63) := by
  rw [fa_eq64, sar_t (k := 0) (by decide), v_toInt]
  have := v.toBitVec.isLt
  generalize v.toBitVec.toNat = N at this
  omega
def cutV (v : Int64) (x : Int32) : Int64 := (v <<< (((64 : Int32) - ((8 : Int32) <<< (x &&& 31))).toInt64 &&& 63)) >>> (((64 : Int32) - ((8 : Int32) <<< (x &&& 31))).toInt64 &&& 63)
theorem m_cut {n : Nat} {v : Int64} {x : Int32} {μ : qa_M} {Q : Int64 → qa_M → Prop} : wX9_cut n v x μ Q ↔ Q (cutV v x) μ := by
  unfold wX9_cut
  rw [nmM]
  exact Iff.rfl
theorem x_cut {n : Nat} {v : Int64} {x : Int32} {μ : qa_M} {Q : Int64 → qa_M → Prop} (hx : x = 0 ∨ x = 1 ∨ x = 2 ∨ x = 3) : wX8_cut n v x μ Q ↔ Q (cutV v x) μ := by
  unfold wX8_cut cutV
  rcases hx with rfl | rfl | rfl | rfl
  · rw [← cut_0]
    exact ⟨fun h => h.1 rfl, fun h => ⟨fun _ => h, fun q => absurd rfl q⟩⟩
  · rw [← cut_1]
    exact ⟨fun h => (h.2 (by decide)).1 rfl, fun h => ⟨fun q => absurd q (by decide), fun _ => ⟨fun _ => h, fun q => absurd rfl q⟩⟩⟩
  · rw [← cut_2]
    exact ⟨fun h => ((h.2 (by decide)).2 (by decide)).1 rfl, fun h => ⟨fun q => absurd q (by decide), fun _ => ⟨fun q => absurd q (by decide), fun _ => ⟨fun _ => h, fun q => absurd rfl q⟩⟩⟩⟩
  · rw [← cut_3]
    exact ⟨fun h => ((h.2 (by decide)).2 (by decide)).2 (by decide), fun h => ⟨fun q => absurd q (by decide), fun _ => ⟨fun q => absurd q (by decide), fun _ => ⟨fun q => absurd q (by decide), fun _ => h⟩⟩⟩⟩
