theorem xor_m1 (x : Int32) : x ^^^ (-1) = ~~~ x := by
  apply Int32.toBitVec_inj.mp
  rw [Int32.toBitVec_xor, Int32.toBitVec_not]
  show x.toBitVec ^^^ BitVec.allOnes 32 = ~~~ x.toBitVec
  rw [BitVec.xor_allOnes]
/-- a year with some staying in always -/
def oA (w : Nat → Int32) (x : Int32) : OV := (w 1, zK w, leanW w, snowW w (zS w), x, id)
theorem oW_eq (w : Nat → Int32) (s : Int32) : oA w (lowB (zH w) &&& (s ^^^ (-1))) = oW w s := by rw [xor_m1]; rfl
theorem x_turned {n : Nat} {x : Int32} {w : Nat → Int32} {μ0 μ : qa_M} {Q : Int32 → qa_M → Prop} (I : INV μ0) (hw : μ0.1 92 = w) (s : sc μ0 μ) (hn : 70 < n) (kk : ∀ μ', sc μ0 μ' → XK μ μ' → Q (wrt w x) μ') : wX8_turnedBy n x μ Q := by
  obtain ⟨r, -, -, -⟩ := I.facts hw
  have W20 := r.2.1.2.1
  have I' := I.sc s
  obtain ⟨-, T, E, -⟩ := I'.facts (s.w.trans hw)
  unfold wX8_turnedBy
  refine x_asTold I'.tw T (fun μ1 o1 P1 => ?_)
  have t31 := tw31 I'.tw
  have h5 : μ1.1 (μ1.2.2 1 2) 5 = nI (zH w) := by rw [o1.1, o1.2 _ _ t31]; exact E.2.2.2.1
  rw [h5, lowB_x, nmM]
  have s2 := (s.pln o1).pln (onlyP1 4 (lowB (zH w) &&& (x ^^^ (-1))) μ1)
  have I2 := I.sc s2
  obtain ⟨-, T2, -, -⟩ := I2.facts (s2.w.trans hw)
  refine x_year (o := oA w (lowB (zH w) &&& (x ^^^ (-1)))) I2.tw (Or.inr rfl) r T2 (P1.stay _) (Nat.le_refl _) (fun h => r.law (by omega)) (by omega) (fun μ' o' Y => ?_)
  have s3 : sc μ0 μ' := s2.tr' o'
  obtain ⟨-, T3, -, -⟩ := (I.sc s3).facts (s3.w.trans hw)
  have x3 : XK μ μ' := ⟨by rw [o'.1]; exact o1.1, fun b j h1 h2 h3 h4 h5 => by rw [o'.2 b j h2 h3 h4 h5, uIn _ _ (fun e => h1 e.1), o1.2 b j h1]⟩
  have tW : μ'.1 (μ'.2.2 1 2) 1 = nI (zW w) := T3.1.2.1
  rw [oW_eq] at Y
  have htu := Y.2.2.2
  have kk := kk μ' s3 x3
  unfold wrt at kk
  refine (for_iff 0 (fun n i (z : Int32) => wX8_turnedBy_51 n z i μ' Q) (fun z => Q z μ') (zW w) (fun v z => z + ab (ytu w (oW w x) v)) (fun _ _ => True) ?_ ?_ (fun _ _ _ _ => trivial) (zW w) 0 0 n (by omega) (by omega) trivial).mpr kk
  · intro n z _ _
    show wX8_turnedBy_51 (n + 1) _ _ _ _ ↔ _
    simp (disch := omega) only [wX8_turnedBy_51, tW, nle, not_true_eq_false, not_false_eq_true, false_implies, true_implies, and_true, true_and, and_self, nmM, if_true, if_false, or0, Int32.add_zero, forall_const, one_ne, zero_ne1, nz1, nz0, nI_z, cl, inN, Nat.le_refl, Nat.lt_irrefl, Nat.lt_succ_self, Bool.false_eq_true]
  · intro n i z _ hi _
    show wX8_turnedBy_51 (n + 1) _ _ _ _ ↔ _
    have hi' : ¬ zW w ≤ i := by omega
    have e := htu i hi
    simp (disch := omega) only [wX8_turnedBy_51, tW, nle, hi', nI1, e, s_abs2, not_true_eq_false, not_false_eq_true, false_implies, true_implies, and_true, true_and, and_self, nmM, if_true, if_false, or0, Int32.add_zero, forall_const, one_ne, zero_ne1, nz1, nz0, nI_z, cl, inN, Nat.le_refl, Nat.lt_irrefl, Nat.lt_succ_self, Bool.false_eq_true]
theorem m_worth {n : Nat} {x y0 : Int32} {w : Nat → Int32} {μ0 μ : qa_M} {Q : Int32 → qa_M → Prop} (r : RZ w) (hw : μ0.1 92 = w) (s : sc μ0 μ) (M : MS μ w (oA w y0)) (hn : 70 < n) (kk : ∀ μ', sc μ0 μ' → (∃ y, MS μ' w (oA w y)) → (∀ b j, b ≠ 91 → b ≠ 101 → b ≠ 102 → b ≠ 103 → b ≠ 104 → μ'.1 b j = μ.1 b j) → Q (wrt w x) μ') : wX9_worthOf n x μ Q := by
  have W20 := r.2.1.2.1
  have h4 : μ.1 92 4 = nI (zH w) := by rw [s.w.trans hw]; exact r.1.2.2.2.1
  unfold wX9_worthOf
  rw [s_mhouses, h4, nmM]
  refine m_try (o := oA w (lowB (zH w) &&& (x ^^^ (-1)))) r hw (s.put91 22 _ (by omega)) (M.stay _) (fun hW => (r.law hW).1) (by omega) (fun μ' s2 h2 M2 o2 E2 => ?_)
  rw [oW_eq] at E2
  obtain ⟨-, -, hW2, hH2, -, -, -, -, htu, -, -⟩ := id E2
  have kk := kk μ' s2 ⟨_, M2⟩ (fun b j h1 h2 h3 h4 h5 => by rw [o2.2 b j h2 h3 h4 h5, uIn _ _ (fun e => h1 e.1)])
  unfold wrt at kk
  refine (for_iff 0 (fun n i (z : Int32) => wX9_worthOf_24 n z i μ' Q) (fun z => Q z μ') (zW w) (fun v z => z + ab (ytu w (oW w x) v)) (fun _ _ => True) ?_ ?_ (fun _ _ _ _ => trivial) (zW w) 0 0 n (by omega) (by omega) trivial).mpr kk
  · intro n z _ _
    show wX9_worthOf_24 (n + 1) _ _ _ _ ↔ _
    simp (disch := omega) only [wX9_worthOf_24, s_mweeks, hW2, nle, not_true_eq_false, not_false_eq_true, false_implies, true_implies, and_true, true_and, and_self, nmM, if_true, if_false, or0, Int32.add_zero, forall_const, one_ne, zero_ne1, nz1, nz0, nI_z, cl, inN, Nat.le_refl, Nat.lt_irrefl, Nat.lt_succ_self, Bool.false_eq_true]
  · intro n i z _ hi _
    show wX9_worthOf_24 (n + 1) _ _ _ _ ↔ _
    have hi' : ¬ zW w ≤ i := by omega
    have e := htu i hi
    simp (disch := omega) only [wX9_worthOf_24, s_mweeks, hW2, nle, hi', nI1, e, s_abs2, not_true_eq_false, not_false_eq_true, false_implies, true_implies, and_true, true_and, and_self, nmM, if_true, if_false, or0, Int32.add_zero, forall_const, one_ne, zero_ne1, nz1, nz0, nI_z, cl, inN, Nat.le_refl, Nat.lt_irrefl, Nat.lt_succ_self, Bool.false_eq_true]
theorem n_neg {k : Nat} (h : k < 2 ^ 31) : (nI k < 0) = False := eq_false (nI_pos h)
theorem c_61 {Ln n : Nat} {xs : Nat → Int32} {K : Int32 → qa_M → Prop} {i : Int32} {μ : qa_M} (I : INV μ) (hn : 2000 ≤ n) (k : ∀ μ', INV μ' → K (i + 6) μ') (v1 : vp_in (i + 1) Ln) (v2 : vp_in (i + 2) Ln) (v3 : vp_in (i + 3) Ln) (v4 : vp_in (i + 4) Ln) (v5 : vp_in (i + 5) Ln) : wLc_61 Ln xs n K i μ := by
  unfold wLc_61
  simp only [v1, v2, v3, v4, v5, true_and]
  generalize xs (i + 1).toNatClampNeg = a
  obtain ⟨w, hw⟩ : ∃ w, μ.1 92 = w := ⟨_, rfl⟩
  obtain ⟨r, T, E, G⟩ := I.facts hw
  obtain ⟨r1, r2, r3, r4⟩ := r.n0
  have L8 := G.1
  have N1 := r.2.1.1
  obtain ⟨W20, H8, hW, hH, plt, hpl, hpp, hfo, htu, hsu, hsm⟩ := id E
  have b1 := pw1 H8
  obtain ⟨B, hB⟩ : ∃ B, B = 2 ^ zH w := ⟨_, rfl⟩
  rw [← hB] at b1
  have lw : ((1 : Int32) <<< (nI (zH w) &&& 31)) - 1 = nI (B - 1) := by rw [lowN _ H8, hB]
  have eB : (nI (B - 1)).toInt = ((B - 1 : Nat) : Int) := nI_toInt (by omega)
  have h4 : ∀ {μ1 : qa_M}, sc μ μ1 → μ1.1 92 4 = nI (zH w) := fun s => by rw [s.w.trans hw]; exact r.1.2.2.2.1
  by_cases gT : 0 < zN w
  · by_cases g : 0 ≤ a.toInt ∧ a.toInt < (B : Int)
    · obtain ⟨a, ha, rfl⟩ := gN g (by omega)
      have c1 : ¬ B - 1 < a := by omega
      simp (disch := omega) only [wX8_worth, xT1 T r gT, n_neg, hH, s_lowBits, lw, nlt, c1, not_true_eq_false, not_false_eq_true, false_implies, true_implies, and_true, true_and, and_self, nmM, if_true, if_false, or0, Int32.add_zero, forall_const, one_ne, zero_ne1, nz1, nz0, nI_z, cl, inN, Nat.le_refl, Nat.lt_irrefl, Nat.lt_succ_self, Bool.false_eq_true]
      refine x_turned I hw (sc.rf μ) (by omega) (fun μ1 s1 x1 => ?_)
      unfold wX9_worth
      refine m_lay (s1.w.trans hw) r (by omega) (fun μ2 a1 a2 a3 M2 => ?_)
      have s2 : sc μ μ2 := s1.lay a1 a2 a3
      have q : (0 : Int64).toInt ≤ (nI a).toInt64.toInt ∧ (nI a).toInt64.toInt ≤ (nI (B - 1)).toInt64.toInt := by rw [Int32.toInt_toInt64, Int32.toInt_toInt64, eB, nI_toInt (by omega), z64]; omega
      simp (disch := omega) only [mT1 (s2.w.trans hw) r gT, s_mhouses, h4 s2, lw, s_in, qb_p q, not_true_eq_false, not_false_eq_true, false_implies, true_implies, and_true, true_and, and_self, nmM, if_true, if_false, or0, Int32.add_zero, forall_const, one_ne, zero_ne1, nz1, nz0, nI_z, cl, inN, Nat.le_refl, Nat.lt_irrefl, Nat.lt_succ_self, Bool.false_eq_true]
      refine m_worth (y0 := 0) r hw s2 M2 (by omega) (fun μ3 s3 _ _ => ?_)
      simp only [not_true_eq_false, not_false_eq_true, false_implies, true_implies, and_true, true_and, and_self, nmM, if_true, if_false, or0, Int32.add_zero, forall_const, one_ne, zero_ne1, nz1, nz0, nI_z, cl, inN, Nat.le_refl, Nat.lt_irrefl, Nat.lt_succ_self, Bool.false_eq_true]
      exact k μ3 (I.sc s3)
    · have q : ¬ ((0 : Int64).toInt ≤ a.toInt64.toInt ∧ a.toInt64.toInt ≤ (nI (B - 1)).toInt64.toInt) := by rw [Int32.toInt_toInt64, Int32.toInt_toInt64, eB, z64]; omega
      have fin : wX9_worth n a μ (fun r2 μ2 => ((-2 : Int32) = r2 → K (i + 6) μ2) ∧ (¬ (-2 : Int32) = r2 → False)) := by
        unfold wX9_worth
        refine m_lay hw r (by omega) (fun μ2 a1 a2 a3 M2 => ?_)
        have s2 : sc μ μ2 := (sc.rf μ).lay a1 a2 a3
        simp (disch := omega) only [mT1 (s2.w.trans hw) r gT, s_mhouses, h4 s2, lw, s_in, qb_n q, not_true_eq_false, not_false_eq_true, false_implies, true_implies, and_true, true_and, and_self, nmM, if_true, if_false, or0, Int32.add_zero, forall_const, one_ne, zero_ne1, nz1, nz0, nI_z, cl, inN, Nat.le_refl, Nat.lt_irrefl, Nat.lt_succ_self, Bool.false_eq_true]
        exact k μ2 (I.sc s2)
      by_cases c1 : a < 0
      · simp (disch := omega) only [wX8_worth, xT1 T r gT, c1, not_true_eq_false, not_false_eq_true, false_implies, true_implies, and_true, true_and, and_self, nmM, if_true, if_false, or0, Int32.add_zero, forall_const, one_ne, zero_ne1, nz1, nz0, nI_z, cl, inN, Nat.le_refl, Nat.lt_irrefl, Nat.lt_succ_self, Bool.false_eq_true]
        exact fin
      · have c2 : nI (B - 1) < a := by
          rw [fa_lt, eB]
          rw [fa_lt, show (0 : Int32).toInt = 0 from rfl] at c1
          omega
        simp (disch := omega) only [wX8_worth, xT1 T r gT, c1, hH, s_lowBits, lw, c2, not_true_eq_false, not_false_eq_true, false_implies, true_implies, and_true, true_and, and_self, nmM, if_true, if_false, or0, Int32.add_zero, forall_const, one_ne, zero_ne1, nz1, nz0, nI_z, cl, inN, Nat.le_refl, Nat.lt_irrefl, Nat.lt_succ_self, Bool.false_eq_true]
        exact fin
  · simp (disch := omega) only [wX8_worth, xT0 T r gT, not_true_eq_false, not_false_eq_true, false_implies, true_implies, and_true, true_and, and_self, nmM, if_true, if_false, or0, Int32.add_zero, forall_const, one_ne, zero_ne1, nz1, nz0, nI_z, cl, inN, Nat.le_refl, Nat.lt_irrefl, Nat.lt_succ_self, Bool.false_eq_true]
    unfold wX9_worth
    refine m_lay hw r (by omega) (fun μ2 a1 a2 a3 M2 => ?_)
    have s2 : sc μ μ2 := (sc.rf μ).lay a1 a2 a3
    simp (disch := omega) only [mT0 (s2.w.trans hw) r gT, not_true_eq_false, not_false_eq_true, false_implies, true_implies, and_true, true_and, and_self, nmM, if_true, if_false, or0, Int32.add_zero, forall_const, one_ne, zero_ne1, nz1, nz0, nI_z, cl, inN, Nat.le_refl, Nat.lt_irrefl, Nat.lt_succ_self, Bool.false_eq_true]
    exact k μ2 (I.sc s2)
/-- what worths may change -/
theorem INV.wr {μ μ' : qa_M} (h : INV μ) (s1 : μ'.2 = μ.2) (s2 : ∀ b j, b ≠ 46 → (b = 1 → j ≠ 4) → μ'.1 b j = μ.1 b j) (hW : WRT μ') : INV μ' := by
  have e92 : μ'.1 92 = μ.1 92 := funext (fun j => s2 92 j (by omega) (by omega))
  obtain ⟨i1, i2, i3, i4, i5, i6, i7, i8, i9, i10⟩ := h
  refine ⟨by rw [s1]; exact i1, by rw [s1]; exact i2, by rw [e92]; exact i3, ?_, ?_, ?_, ?_, ?_, ?_, hW⟩
  · rw [s1, e92]
    rcases i2 with ⟨q, -⟩ | ⟨q, -⟩ <;> rw [q] at i4 ⊢
    · exact i4.mono (fun j x hj => s2 _ _ (by omega) (by omega)) rfl
    · exact i4.mono (fun j x hj => s2 _ _ (by omega) (by omega)) rfl
  · rw [e92]
    exact i5.mono (fun b j hb => s2 _ _ (by omega) (by omega))
  · obtain ⟨T, t1, t2, t3, t4⟩ := i6
    refine ⟨T, t1, by rw [s2 _ _ (by omega) (by omega)]; exact t2, by rw [s2 _ _ (by omega) (by omega)]; exact t3, fun j hj => ?_⟩
    rw [s2 _ _ (by omega) (by omega), s2 _ _ (by omega) (by omega)]
    exact t4 j hj
  · rw [s2 _ _ (by omega) (by omega), s2 _ _ (by omega) (by omega), s2 _ _ (by omega) (by omega), s2 _ _ (by omega) (by omega)]
    exact i7
  · intro k hk
    have e93 : (fun j => μ'.1 93 (114 * k + j)) = (fun j => μ.1 93 (114 * k + j)) := funext (fun j => s2 _ _ (by omega) (by omega))
    rw [s2 29 _ (by omega) (by omega), s2 94 _ (by omega) (by omega), e93]
    obtain ⟨g1, g2⟩ := i8 k hk
    refine ⟨g1, ?_⟩
    rcases g2 with g2 | ⟨g2, g3, g4⟩
    · exact Or.inl g2
    · exact Or.inr ⟨g2, g3, g4.mono (fun j x hj => s2 _ _ (by omega) (by omega)) rfl⟩
  · intro k hk
    obtain ⟨g1, g2⟩ := i9 k hk
    rw [s2 (83 + 2 * k) _ (by omega) (by omega), s2 110 _ (by omega) (by omega)]
    refine ⟨g1, ?_⟩
    rcases g2 with g2 | ⟨m, g2, g3, g4, g5, g6⟩
    · exact Or.inl g2
    · refine Or.inr ⟨m, g2, g3, ?_, ?_, fun j hj => ?_⟩
      · rw [s2 (83 + 2 * k) _ (by omega) (by omega), s2 111 _ (by omega) (by omega)]; exact g4
      · rw [s2 111 _ (by omega) (by omega)]; exact g5
      · rw [s1]; exact g6 j hj
theorem x_learn {n B : Nat} {w : Nat → Int32} {μ : qa_M} {Q : qa_M → Prop} (I : INV μ) (hw : μ.1 92 = w) (hB : B = 2 ^ zH w) (hn : 400 < n) (kk : ∀ μ', INV μ' → μ'.1 92 = w → (∀ s, s < B → μ'.1 46 s = wrt w (nI s)) → Q μ') : wX8_learnWorths n μ Q := by
  obtain ⟨r, T, E, G⟩ := I.facts hw
  have H8 := r.2.1.2.2.2.1
  have b1 := pw1 H8
  rw [← hB] at b1
  have lw : ((1 : Int32) <<< (nI (zH w) &&& 31)) - 1 = nI (B - 1) := by rw [lowN _ H8, hB]
  have wr := I.2.2.2.2.2.2.2.2.2
  unfold WRT at wr
  unfold wX8_learnWorths
  refine ⟨fun h14 => ?_, fun h14 => ?_⟩
  · refine inv_loopF 100 (fun n i (σ : qa_M) => wX8_learnWorths_10 n i σ Q) B (fun i σ => INV σ ∧ σ.1 92 = w ∧ σ.1 1 4 = 0 ∧ ∀ s, s < i → σ.1 46 s = wrt w (nI s)) ?_ ?_ B 0 μ n (by omega) (by omega) ⟨I, hw, h14, fun s hs => absurd hs (Nat.not_lt_zero s)⟩
    · intro n μ1 hm ⟨I1, w1, z1, t1⟩
      obtain ⟨-, T1, E1, -⟩ := I1.facts w1
      have cc : B - 1 < B := by omega
      simp (disch := omega) only [wX8_learnWorths_10, E1.2.2.2.1, s_lowBits, lw, nlt, cc, not_true_eq_false, not_false_eq_true, false_implies, true_implies, and_true, true_and, and_self, nmM, if_true, if_false, or0, Int32.add_zero, forall_const, one_ne, zero_ne1, nz1, nz0, nI_z, cl, inN, Nat.le_refl, Nat.lt_irrefl, Nat.lt_succ_self, Bool.false_eq_true]
      have t1' : ∀ s, s < B → (qa_uI μ1 1 4 1).1 46 s = wrt w (nI s) := fun s hs => by rw [uIn _ _ (fun e => by omega)]; exact t1 s hs
      have w1' : (qa_uI μ1 1 4 1).1 92 = w := by rw [← w1]; exact funext (fun j => uIn _ _ (fun e => by omega))
      refine kk _ (I1.wr rfl (fun b j _ h => uIn _ _ (fun e => by omega)) (Or.inr ⟨uIs _ _ _ _, ?_⟩)) w1' t1'
      rw [w1', ← hB]
      exact t1'
    · intro n i μ1 hm hi ⟨I1, w1, z1, t1⟩ ih
      obtain ⟨-, T1, E1, -⟩ := I1.facts w1
      have hi' : ¬ B - 1 < i := by omega
      simp (disch := omega) only [wX8_learnWorths_10, E1.2.2.2.1, s_lowBits, lw, nlt, hi', not_true_eq_false, not_false_eq_true, false_implies, true_implies, and_true, true_and, and_self, nmM, if_true, if_false, or0, Int32.add_zero, forall_const, one_ne, zero_ne1, nz1, nz0, nI_z, cl, inN, Nat.le_refl, Nat.lt_irrefl, Nat.lt_succ_self, Bool.false_eq_true]
      refine x_turned I1 w1 (sc.rf μ1) (by omega) (fun μ2 s2 x2 => ?_)
      simp (disch := omega) only [nI1, not_true_eq_false, not_false_eq_true, false_implies, true_implies, and_true, true_and, and_self, nmM, if_true, if_false, or0, Int32.add_zero, forall_const, one_ne, zero_ne1, nz1, nz0, nI_z, cl, inN, Nat.le_refl, Nat.lt_irrefl, Nat.lt_succ_self, Bool.false_eq_true]
      have I2 := I1.sc s2
      have w2 := s2.w.trans w1
      have z2 : (qa_uI μ2 46 i (wrt w (nI i))).1 1 4 = 0 := by rw [uIn _ _ (fun e => by omega), x2.2 _ _ (by omega) (by omega) (by omega) (by omega) (by omega)]; exact z1
      refine ih _ ⟨I2.wr rfl (fun b j h _ => uIn _ _ (fun e => h e.1)) (Or.inl z2), ?_, z2, fun s hs => ?_⟩
      · rw [← w2]; exact funext (fun j => uIn _ _ (fun e => by omega))
      · by_cases e : s = i
        · rw [e, uIs]
        · rw [uIn _ _ (fun q => e q.2), x2.2 _ _ (by omega) (by omega) (by omega) (by omega) (by omega)]; exact t1 s (by omega)
  · rcases wr with q | ⟨q, t⟩
    · exact absurd q h14
    · refine kk μ I hw ?_
      rw [hw, ← hB] at t
      exact t
/-! numbers of shares -/
def fN (k : Nat) : Nat := [1, 1, 2, 6, 24, 120, 720, 5040, 40320].getD k 0
theorem fN_eq : ∀ k, k < 9 → (qa_fac.getD k 0).toInt64 = lN (fN k) := by decide
theorem fN_rng : ∀ k, k < 9 → 1 ≤ fN k ∧ fN k ≤ 40320 := by decide
theorem fN_itr : ∀ k, k < 9 → itr (fun i (s : Nat) => s * i) 2 (k - 1) 1 = fN k := by decide
theorem m_fact {n k : Nat} {μ : qa_M} {Q : Int64 → qa_M → Prop} (hk : k < 9) (hn : 20 < n) : wX9_factorial n (nI k) μ Q ↔ Q (lN (fN k)) μ := by
  unfold wX9_factorial
  by_cases h : k < 2
  · obtain ⟨n, rfl⟩ : ∃ m, n = m + 1 := ⟨n - 1, by omega⟩
    rw [wX9_factorial_4, l2, nlt _ _ (by omega) (by omega)]
    have e : lN (fN k) = 1 := by
      have : k = 0 ∨ k = 1 := by omega
      rcases this with rfl | rfl <;> rfl
    rw [e]
    simp only [h, not_true_eq_false, not_false_eq_true, false_implies, true_implies, and_true, true_and, and_self, nmM, if_true, if_false, or0, Int32.add_zero, forall_const, one_ne, zero_ne1, nz1, nz0, nI_z, cl, inN, Nat.le_refl, Nat.lt_irrefl, Nat.lt_succ_self, Bool.false_eq_true]
  · rw [← fN_itr k hk]
    refine for_iff 0 (fun n i (s : Nat) => wX9_factorial_4 n (nI k) (lN s) i μ Q) (fun s => Q (lN s) μ) (k + 1) (fun i (s : Nat) => s * i) (fun _ _ => True) ?_ ?_ (fun _ _ _ _ => trivial) (k - 1) 2 1 n (by omega) (by omega) trivial
    · intro n z _ _
      show wX9_factorial_4 (n + 1) _ _ _ _ _ ↔ _
      simp (disch := omega) only [wX9_factorial_4, nlt, not_true_eq_false, not_false_eq_true, false_implies, true_implies, and_true, true_and, and_self, nmM, if_true, if_false, or0, Int32.add_zero, forall_const, one_ne, zero_ne1, nz1, nz0, nI_z, cl, inN, Nat.le_refl, Nat.lt_irrefl, Nat.lt_succ_self, Bool.false_eq_true]
    · intro n i z _ hi _
      show wX9_factorial_4 (n + 1) _ _ _ _ _ ↔ _
      have hi' : ¬ k < i := by omega
      simp (disch := omega) only [wX9_factorial_4, nlt, hi', nI_l, lN_mul, nI1, not_true_eq_false, not_false_eq_true, false_implies, true_implies, and_true, true_and, and_self, nmM, if_true, if_false, or0, Int32.add_zero, forall_const, one_ne, zero_ne1, nz1, nz0, nI_z, cl, inN, Nat.le_refl, Nat.lt_irrefl, Nat.lt_succ_self, Bool.false_eq_true]
theorem s_absL {n : Nat} {A : Int64} {μ : qa_M} {Q : Int64 → qa_M → Prop} (hA : -9223372036854775808 < A.toInt) : wJ9_abs_067f4 n A μ Q ↔ Q (lN A.toInt.natAbs) μ := by
  have b := fb_rngL A
  unfold wJ9_abs_067f4
  rw [cmp_ge, z64]
  by_cases h : 0 ≤ A.toInt
  · have e : A = lN A.toInt.natAbs := by rw [fa_eq64, pk_lT (by omega)]; omega
    simp only [h, not_true_eq_false, not_false_eq_true, false_implies, true_implies, and_true, true_and, and_self, nmM, if_true, if_false, or0, Int32.add_zero, forall_const, one_ne, zero_ne1, nz1, nz0, nI_z, cl, inN, Nat.le_refl, Nat.lt_irrefl, Nat.lt_succ_self, Bool.false_eq_true]
    rw [← e]
  · have e : -A = lN A.toInt.natAbs := by
      rw [fa_eq64, pk_lT (by omega), Int64.toInt_neg, fb_bmodL (by omega) (by omega)]
      omega
    simp only [h, not_true_eq_false, not_false_eq_true, false_implies, true_implies, and_true, true_and, and_self, nmM, if_true, if_false, or0, Int32.add_zero, forall_const, one_ne, zero_ne1, nz1, nz0, nI_z, cl, inN, Nat.le_refl, Nat.lt_irrefl, Nat.lt_succ_self, Bool.false_eq_true]
    rw [e]
theorem gcd_stp (a b : Nat) : Nat.gcd a b = Nat.gcd b (a % b) := by rw [Nat.gcd_comm a b, Nat.gcd_rec b a, Nat.gcd_comm]
theorem mod_half {a b : Nat} (h : b < a) (hb : 0 < b) : 2 * (a % b) < a := by
  have h1 := Nat.mod_lt a hb
  have h2 := Nat.div_add_mod a b
  have h3 : 1 ≤ a / b := Nat.div_pos (by omega) hb
  have h4 : b ≤ b * (a / b) := Nat.le_mul_of_pos_right b h3
  omega
theorem x_euclid {μ : qa_M} {Q : Int64 → qa_M → Prop} : ∀ (j a b n i : Nat), a < 2 ^ 63 → b < 2 ^ j → j ≤ 62 → i + 2 * j < 199 → 2 * j + 1 < n → (wX8_commonDivisor_3 n (lN a) (lN b) (nI i) μ Q ↔ Q (lN (Nat.gcd a b)) μ)
  | 0, a, b, n, i, ha, hb, hj, hi, hn => by
    obtain rfl : b = 0 := by omega
    obtain ⟨n, rfl⟩ : ∃ m, n = m + 1 := ⟨n - 1, by omega⟩
    have c : ¬ 200 ≤ i := by omega
    have e : (lN 0 = (0 : Int64)) = True := eq_true rfl
    rw [wX8_commonDivisor_3, show (200 : Int32) = nI 200 from rfl, nle _ _ (by omega) (by omega), lg_cmp_eq, Nat.gcd_zero_right]
    simp only [c, e, not_true_eq_false, not_false_eq_true, false_implies, true_implies, and_true, true_and, and_self, nmM, if_true, if_false, or0, Int32.add_zero, forall_const, one_ne, zero_ne1, nz1, nz0, nI_z, cl, inN, Nat.le_refl, Nat.lt_irrefl, Nat.lt_succ_self, Bool.false_eq_true]
  | j + 1, a, b, n, i, ha, hb, hj, hi, hn => by
    have p1 : 2 ^ (j + 1) ≤ 2 ^ 62 := Nat.pow_le_pow_right (by decide) hj
    have hz : ∀ x, x < 2 ^ 62 → (lN x = (0 : Int64)) = (x = 0) := fun x hx => propext (by rw [show (0 : Int64) = lN 0 from rfl]; exact pk_lEQ (by omega) (by decide))
    obtain ⟨n, rfl⟩ : ∃ m, n = m + 1 := ⟨n - 1, by omega⟩
    have c : ¬ 200 ≤ i := by omega
    rw [wX8_commonDivisor_3, show (200 : Int32) = nI 200 from rfl, nle _ _ (by omega) (by omega), lg_cmp_eq, hz b (by omega)]
    by_cases b0 : b = 0
    · subst b0
      rw [Nat.gcd_zero_right]
      simp only [c, not_true_eq_false, not_false_eq_true, false_implies, true_implies, and_true, true_and, and_self, nmM, if_true, if_false, or0, Int32.add_zero, forall_const, one_ne, zero_ne1, nz1, nz0, nI_z, cl, inN, Nat.le_refl, Nat.lt_irrefl, Nat.lt_succ_self, Bool.false_eq_true]
    · simp only [c, b0, not_true_eq_false, not_false_eq_true, false_implies, true_implies, and_true, true_and, and_self, nmM, if_true, if_false, or0, Int32.add_zero, forall_const, one_ne, zero_ne1, nz1, nz0, nI_z, cl, inN, Nat.le_refl, Nat.lt_irrefl, Nat.lt_succ_self, Bool.false_eq_true]
      rw [pk_lRem ha (by omega) (by omega), nI1, gcd_stp a b]
      have m1 : a % b < b := Nat.mod_lt a (by omega)
      generalize a % b = q at m1
      obtain ⟨n, rfl⟩ : ∃ m, n = m + 1 := ⟨n - 1, by omega⟩
      have c : ¬ 200 ≤ i + 1 := by omega
      rw [wX8_commonDivisor_3, show (200 : Int32) = nI 200 from rfl, nle _ _ (by omega) (by omega), lg_cmp_eq, hz q (by omega)]
      by_cases q0 : q = 0
      · subst q0
        rw [Nat.gcd_zero_right]
        simp only [c, not_true_eq_false, not_false_eq_true, false_implies, true_implies, and_true, true_and, and_self, nmM, if_true, if_false, or0, Int32.add_zero, forall_const, one_ne, zero_ne1, nz1, nz0, nI_z, cl, inN, Nat.le_refl, Nat.lt_irrefl, Nat.lt_succ_self, Bool.false_eq_true]
      · simp only [c, q0, not_true_eq_false, not_false_eq_true, false_implies, true_implies, and_true, true_and, and_self, nmM, if_true, if_false, or0, Int32.add_zero, forall_const, one_ne, zero_ne1, nz1, nz0, nI_z, cl, inN, Nat.le_refl, Nat.lt_irrefl, Nat.lt_succ_self, Bool.false_eq_true]
        rw [pk_lRem (by omega) (by omega) (by omega), nI1, gcd_stp b q]
        have m2 := mod_half m1 (by omega)
        exact x_euclid j q (b % q) n (i + 1 + 1) (by omega) (by rw [Nat.pow_succ] at hb; omega) (by omega) (by omega) (by omega)
theorem m_euclid {μ : qa_M} {Q : Int64 → qa_M → Prop} : ∀ (j a b n : Nat), a < 2 ^ 63 → b < 2 ^ j → j ≤ 62 → 2 * j + 1 < n → (wX9_divisor_9 n (lN a) (lN b) μ Q ↔ Q (lN (Nat.gcd a b)) μ)
  | 0, a, b, n, ha, hb, hj, hn => by
    obtain rfl : b = 0 := by omega
    obtain ⟨n, rfl⟩ : ∃ m, n = m + 1 := ⟨n - 1, by omega⟩
    have e : (lN 0 = (0 : Int64)) = True := eq_true rfl
    rw [wX9_divisor_9, lg_cmp_eq, Nat.gcd_zero_right]
    simp only [e, not_true_eq_false, not_false_eq_true, false_implies, true_implies, and_true, true_and, and_self, nmM, if_true, if_false, or0, Int32.add_zero, forall_const, one_ne, zero_ne1, nz1, nz0, nI_z, cl, inN, Nat.le_refl, Nat.lt_irrefl, Nat.lt_succ_self, Bool.false_eq_true]
  | j + 1, a, b, n, ha, hb, hj, hn => by
    have p1 : 2 ^ (j + 1) ≤ 2 ^ 62 := Nat.pow_le_pow_right (by decide) hj
    have hz : ∀ x, x < 2 ^ 62 → (lN x = (0 : Int64)) = (x = 0) := fun x hx => propext (by rw [show (0 : Int64) = lN 0 from rfl]; exact pk_lEQ (by omega) (by decide))
    obtain ⟨n, rfl⟩ : ∃ m, n = m + 1 := ⟨n - 1, by omega⟩
    rw [wX9_divisor_9, lg_cmp_eq, hz b (by omega)]
    by_cases b0 : b = 0
    · subst b0
      rw [Nat.gcd_zero_right]
      simp only [not_true_eq_false, not_false_eq_true, false_implies, true_implies, and_true, true_and, and_self, nmM, if_true, if_false, or0, Int32.add_zero, forall_const, one_ne, zero_ne1, nz1, nz0, nI_z, cl, inN, Nat.le_refl, Nat.lt_irrefl, Nat.lt_succ_self, Bool.false_eq_true]
    · simp only [b0, not_true_eq_false, not_false_eq_true, false_implies, true_implies, and_true, true_and, and_self, nmM, if_true, if_false, or0, Int32.add_zero, forall_const, one_ne, zero_ne1, nz1, nz0, nI_z, cl, inN, Nat.le_refl, Nat.lt_irrefl, Nat.lt_succ_self, Bool.false_eq_true]
      rw [pk_lRem ha (by omega) (by omega), gcd_stp a b]
      have m1 : a % b < b := Nat.mod_lt a (by omega)
      generalize a % b = q at m1
      obtain ⟨n, rfl⟩ : ∃ m, n = m + 1 := ⟨n - 1, by omega⟩
      rw [wX9_divisor_9, lg_cmp_eq, hz q (by omega)]
      by_cases q0 : q = 0
      · subst q0
        rw [Nat.gcd_zero_right]
        simp only [not_true_eq_false, not_false_eq_true, false_implies, true_implies, and_true, true_and, and_self, nmM, if_true, if_false, or0, Int32.add_zero, forall_const, one_ne, zero_ne1, nz1, nz0, nI_z, cl, inN, Nat.le_refl, Nat.lt_irrefl, Nat.lt_succ_self, Bool.false_eq_true]
      · simp only [q0, not_true_eq_false, not_false_eq_true, false_implies, true_implies, and_true, true_and, and_self, nmM, if_true, if_false, or0, Int32.add_zero, forall_const, one_ne, zero_ne1, nz1, nz0, nI_z, cl, inN, Nat.le_refl, Nat.lt_irrefl, Nat.lt_succ_self, Bool.false_eq_true]
        rw [pk_lRem (by omega) (by omega) (by omega), gcd_stp b q]
        have m2 := mod_half m1 (by omega)
        exact m_euclid j q (b % q) n (by omega) (by rw [Nat.pow_succ] at hb; omega) (by omega) (by omega)
def frc (A : Int64) (b : Nat) (v : Int32) : Int64 := if v = 0 then A / lN (Nat.gcd A.toInt.natAbs b) else lN b / lN (Nat.gcd A.toInt.natAbs b)
theorem x_frac {n b : Nat} {A : Int64} {v : Int32} {μ : qa_M} {Q : Int64 → qa_M → Prop} (hA : -9223372036854775808 < A.toInt) (hb : 1 ≤ b) (hb2 : b < 2 ^ 40) (hn : 200 < n) : wX8_fractionPart n A (lN b) v μ Q ↔ Q (frc A b v) μ := by
  have bb := fb_rngL A
  have g1 : 0 < Nat.gcd A.toInt.natAbs b := Nat.gcd_pos_of_pos_right _ (by omega)
  have g2 : Nat.gcd A.toInt.natAbs b ≤ b := Nat.gcd_le_right _ (by omega)
  unfold wX8_fractionPart wX8_commonDivisor frc
  rw [s_absL hA]
  refine Iff.trans (x_euclid 40 _ _ n 0 (by omega) hb2 (by omega) (by omega) (by omega)) ?_
  generalize Nat.gcd A.toInt.natAbs b = g at g1 g2
  have e1 : 0 ≤ lg_cmp (lN g) 1 := by rw [cmp_ge, pk_lT (by omega), show (1 : Int64).toInt = 1 from rfl]; omega
  have e2 : ¬ lN g = 0 := by
    intro e
    rw [show (0 : Int64) = lN 0 from rfl, pk_lEQ (by omega) (by decide)] at e
    omega
  by_cases c : v = 0
  · rw [if_pos c]; simp only [e1, e2, c, not_true_eq_false, not_false_eq_true, false_implies, true_implies, and_true, true_and, and_self, nmM, if_true, if_false, or0, Int32.add_zero, forall_const, one_ne, zero_ne1, nz1, nz0, nI_z, cl, inN, Nat.le_refl, Nat.lt_irrefl, Nat.lt_succ_self, Bool.false_eq_true]
  · rw [if_neg c]; simp only [e1, e2, c, not_true_eq_false, not_false_eq_true, false_implies, true_implies, and_true, true_and, and_self, nmM, if_true, if_false, or0, Int32.add_zero, forall_const, one_ne, zero_ne1, nz1, nz0, nI_z, cl, inN, Nat.le_refl, Nat.lt_irrefl, Nat.lt_succ_self, Bool.false_eq_true]
theorem m_part {n b : Nat} {A : Int64} {v : Int32} {μ : qa_M} {Q : Int64 → qa_M → Prop} (hA : -9223372036854775808 < A.toInt) (hb : 1 ≤ b) (hb2 : b < 2 ^ 40) (hn : 200 < n) : wX9_part n A (lN b) v μ Q ↔ Q (frc A b v) μ := by
  have bb := fb_rngL A
  have g1 : 0 < Nat.gcd A.toInt.natAbs b := Nat.gcd_pos_of_pos_right _ (by omega)
  have g2 : Nat.gcd A.toInt.natAbs b ≤ b := Nat.gcd_le_right _ (by omega)
  unfold wX9_part wX9_divisor frc
  simp only [s_absL hA]
  rw [m_euclid 40 _ _ n (by omega) hb2 (by omega) (by omega), m_euclid 40 _ _ n (by omega) hb2 (by omega) (by omega)]
  generalize Nat.gcd A.toInt.natAbs b = g at g1 g2
  have e2 : ¬ lN g = 0 := by
    intro e
    rw [show (0 : Int64) = lN 0 from rfl, pk_lEQ (by omega) (by decide)] at e
    omega
  by_cases c : v = 0
  · rw [if_pos c]; simp only [e2, c, not_true_eq_false, not_false_eq_true, false_implies, true_implies, and_true, true_and, and_self, nmM, if_true, if_false, or0, Int32.add_zero, forall_const, one_ne, zero_ne1, nz1, nz0, nI_z, cl, inN, Nat.le_refl, Nat.lt_irrefl, Nat.lt_succ_self, Bool.false_eq_true]
  · rw [if_neg c]; simp only [e2, c, not_true_eq_false, not_false_eq_true, false_implies, true_implies, and_true, true_and, and_self, nmM, if_true, if_false, or0, Int32.add_zero, forall_const, one_ne, zero_ne1, nz1, nz0, nI_z, cl, inN, Nat.le_refl, Nat.lt_irrefl, Nat.lt_succ_self, Bool.false_eq_true]
