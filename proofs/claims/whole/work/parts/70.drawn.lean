def lcg (k : Nat) : Nat := (1103515245 * k + 12345) % 2147483648
theorem lcg_lt (k : Nat) : lcg k < 2147483648 := Nat.mod_lt _ (by decide)
theorem lcg_x (k : Nat) : (((1103515245 : Int64) * lN k) + (12345 : Int64)) &&& (2147483647 : Int64) = lN (lcg k) := by
  rw [show (1103515245 : Int64) = lN 1103515245 from rfl, show (12345 : Int64) = lN 12345 from rfl, lN_mul, lN_add, show (2147483647 : Int64) = lN (2 ^ 31 - 1) from rfl, fb_maskL]
  rfl
theorem lcg_m {k : Nat} (hk : k < 2147483648) : (((1103515245 : Int64) * lN k) + (12345 : Int64)) - (((1103515245 : Int64) * lN k) + (12345 : Int64)) / (2147483648 : Int64) * (2147483648 : Int64) = lN (lcg k) := by
  rw [show (1103515245 : Int64) = lN 1103515245 from rfl, show (12345 : Int64) = lN 12345 from rfl, lN_mul, lN_add, show (2147483648 : Int64) = lN 2147483648 from rfl, pk_lRem (by omega) (by omega) (by omega)]
  rfl
theorem tenth {k : Nat} (hk : k < 2147483648) : (lN k / (65536 : Int64)) - (lN k / (65536 : Int64)) / (10 : Int64) * (10 : Int64) = lN (k / 65536 % 10) := by
  rw [show (65536 : Int64) = lN 65536 from rfl, pk_lDiv (by omega) (by omega) (by omega), show (10 : Int64) = lN 10 from rfl, pk_lRem (by omega) (by omega) (by omega)]
theorem ten_ge {k d : Nat} (hd : d ≤ 10) : (0 ≤ lg_cmp (lN (k / 65536 % 10)) (nI d).toInt64) = (d ≤ k / 65536 % 10) := by
  apply propext
  rw [cmp_ge, Int32.toInt_toInt64, nI_toInt (by omega), pk_lT (by omega)]
  omega
def drF (d : Nat) (j : Nat) (q : Nat × Int32) : Nat × Int32 := (lcg q.1, if d ≤ lcg q.1 / 65536 % 10 then q.2 else q.2 ||| ((1 : Int32) <<< (nI j &&& 31)))
def drS (w : Nat → Int32) (k : Nat) : Int32 := (itr (drF (zO w)) 0 (zW w) (k, 0)).2
theorem x_drawn {n k : Nat} {w : Nat → Int32} {μ : qa_M} {Q : Int32 → qa_M → Prop} (r : RZ w) (T : TZ μ (μ.2.2 1 2) w) (hk : k < 2147483648) (hn : 25 < n) : wX8_drawnSnows n (nI k) μ Q ↔ Q (drS w k) μ := by
  have W20 := r.2.1.2.1
  obtain ⟨o1, o2⟩ := r.odds
  have h1 : μ.1 (μ.2.2 1 2) 1 = nI (zW w) := T.1.2.1
  have h4 : μ.1 (μ.2.2 1 2) 4 = nI (zO w) := by rw [T.1.2.2.2.2.1, o2]
  unfold wX8_drawnSnows drS
  rw [nmM, nI_l (by omega)]
  refine for_iff 0 (fun n i (q : Nat × Int32) => wX8_drawnSnows_9 n (lN q.1) q.2 i μ Q) (fun q => Q q.2 μ) (zW w) (drF (zO w)) (fun _ q => q.1 < 2147483648) ?_ ?_ (fun i q _ _ => lcg_lt q.1) (zW w) 0 (k, 0) n (by omega) (by omega) hk
  · intro n q _ _
    show wX8_drawnSnows_9 (n + 1) _ _ _ _ _ ↔ _
    simp (disch := omega) only [wX8_drawnSnows_9, h1, nle, not_true_eq_false, not_false_eq_true, false_implies, true_implies, and_true, true_and, and_self, nmM, if_true, if_false, or0, Int32.add_zero, forall_const, one_ne, zero_ne1, nz1, nz0, nI_z, cl, inN, Nat.le_refl, Nat.lt_irrefl, Nat.lt_succ_self, Bool.false_eq_true]
  · intro n i ⟨x, s⟩ _ hi hx
    show wX8_drawnSnows_9 (n + 1) _ _ _ _ _ ↔ _
    have hi' : ¬ zW w ≤ i := by omega
    dsimp only at hx ⊢
    have lt := lcg_lt x
    simp (disch := omega) only [wX8_drawnSnows_9, h1, nle, hi', lcg_x, tenth, h4, ten_ge, nI1, not_true_eq_false, not_false_eq_true, false_implies, true_implies, and_true, true_and, and_self, nmM, if_true, if_false, or0, Int32.add_zero, forall_const, one_ne, zero_ne1, nz1, nz0, nI_z, cl, inN, Nat.le_refl, Nat.lt_irrefl, Nat.lt_succ_self, Bool.false_eq_true]
    unfold drF
    by_cases c : zO w ≤ lcg x / 65536 % 10 <;> simp only [c, not_true_eq_false, not_false_eq_true, false_implies, true_implies, and_true, true_and, and_self, nmM, if_true, if_false, or0, Int32.add_zero, forall_const, one_ne, zero_ne1, nz1, nz0, nI_z, cl, inN, Nat.le_refl, Nat.lt_irrefl, Nat.lt_succ_self, Bool.false_eq_true]
theorem m_drawn {n k : Nat} {w : Nat → Int32} {μ0 μ : qa_M} {Q : qa_M → Prop} (r : RZ w) (hw : μ0.1 92 = w) (s0 : sc μ0 μ) (hk : k < 2147483648) (hn : 120 < n) (kk : ∀ μ', sc μ0 μ' → μ'.1 92 = w → MS μ' w (oN w (drS w k)) → ME μ' (zH w) (zW w) (yp w (oN w (drS w k))) (ypp w (oN w (drS w k))) (yfo w (oN w (drS w k))) (ytu w (oN w (drS w k))) (sunW w (zP w)) (smellW w (zP w)) → Q μ') : wX9_goDrawn n (lN k) μ Q := by
  have W20 := r.2.1.2.1
  obtain ⟨o1, o2⟩ := r.odds
  unfold wX9_goDrawn
  refine m_lay (s0.w.trans hw) r (by omega) (fun μ1 a1 a2 a3 M1 => ?_)
  rw [nmM]
  refine inv_loopF 70 (fun n i (σ : Nat × Int32 × qa_M) => wX9_goDrawn_14 n (lN σ.1) i σ.2.2 Q) (zW w) (fun i σ => (σ.1, σ.2.1) = itr (drF (zO w)) 0 i (k, 0) ∧ σ.1 < 2147483648 ∧ sc μ0 σ.2.2 ∧ MS σ.2.2 w (oN w σ.2.1)) ?_ ?_ (zW w) 0 (k, 0, qa_uI μ1 91 19 0) n (by omega) (by omega) ⟨rfl, hk, (s0.lay a1 a2 a3).put91 19 _ (by omega), M1.snow 0⟩
  · intro n ⟨x, s, μ2⟩ hm ⟨e1, e2, s2, M2⟩
    dsimp only at e1 e2 s2 M2 ⊢
    have h0 : μ2.1 92 0 = nI (zW w) := by rw [s2.w.trans hw]; exact r.1.2.1
    simp (disch := omega) only [wX9_goDrawn_14, s_mweeks, h0, nle, not_true_eq_false, not_false_eq_true, false_implies, true_implies, and_true, true_and, and_self, nmM, if_true, if_false, or0, Int32.add_zero, forall_const, one_ne, zero_ne1, nz1, nz0, nI_z, cl, inN, Nat.le_refl, Nat.lt_irrefl, Nat.lt_succ_self, Bool.false_eq_true]
    have es : s = drS w k := by unfold drS; rw [← e1]
    rw [es] at M2
    exact m_try (o := oN w (drS w k)) r hw s2 M2 (fun hW => (r.law hW).1) (by omega) (fun μ3 s3 h3 M3 o3 E3 => kk μ3 s3 h3 M3 E3)
  · intro n i ⟨x, s, μ2⟩ hm hi ⟨e1, e2, s2, M2⟩ ih
    dsimp only at e1 e2 s2 M2 ⊢
    have h0 : μ2.1 92 0 = nI (zW w) := by rw [s2.w.trans hw]; exact r.1.2.1
    have h3 : μ2.1 92 3 = nI (zO w) := by rw [s2.w.trans hw]; exact o2
    have h19 : μ2.1 91 19 = s := M2.2.2.2.1
    have hi' : ¬ zW w ≤ i := by omega
    have lt := lcg_lt x
    simp (disch := omega) only [wX9_goDrawn_14, wX9_goDrawn_70, s_mweeks, h0, nle, hi', lcg_m, tenth, c3n, h3, ten_ge, h19, nI1, not_true_eq_false, not_false_eq_true, false_implies, true_implies, and_true, true_and, and_self, nmM, if_true, if_false, or0, Int32.add_zero, forall_const, one_ne, zero_ne1, nz1, nz0, nI_z, cl, inN, Nat.le_refl, Nat.lt_irrefl, Nat.lt_succ_self, Bool.false_eq_true]
    have stp : itr (drF (zO w)) 0 (i + 1) (k, 0) = drF (zO w) i (x, s) := by rw [itr_succ, Nat.zero_add, ← e1]
    unfold drF at stp
    dsimp only at stp
    refine ⟨fun c => ih (lcg x, s, qa_uI μ2 91 19 s) ⟨?_, lt, s2.put91 19 _ (by omega), M2.snow s⟩, fun c => ih (lcg x, s ||| ((1 : Int32) <<< (nI i &&& 31)), qa_uI μ2 91 19 (s ||| ((1 : Int32) <<< (nI i &&& 31)))) ⟨?_, lt, s2.put91 19 _ (by omega), M2.snow _⟩⟩
    · show _ = itr (fun j q => (lcg q.1, if zO w ≤ lcg q.1 / 65536 % 10 then q.2 else q.2 ||| ((1 : Int32) <<< (nI j &&& 31)))) 0 (i + 1) (k, 0)
      rw [stp, if_pos c]
    · show _ = itr (fun j q => (lcg q.1, if zO w ≤ lcg q.1 / 65536 % 10 then q.2 else q.2 ||| ((1 : Int32) <<< (nI j &&& 31)))) 0 (i + 1) (k, 0)
      rw [stp, if_neg c]
section SD
variable {n : Nat} {v : Int32} {μ : qa_M} {Q : Int32 → qa_M → Prop}
theorem xSd1 (h : (0 : Int32).toInt ≤ v.toInt ∧ v.toInt ≤ (2000000000 : Int32).toInt) : wX8_isSeed n v μ Q ↔ Q 1 μ := by rw [s_isSeed, qb_p h]
theorem xSd0 (h : ¬ ((0 : Int32).toInt ≤ v.toInt ∧ v.toInt ≤ (2000000000 : Int32).toInt)) : wX8_isSeed n v μ Q ↔ Q 0 μ := by rw [s_isSeed, qb_n h]
theorem mSd1 (h : (0 : Int32).toInt ≤ v.toInt ∧ v.toInt ≤ (2000000000 : Int32).toInt) : wX9_isSeed n v μ Q ↔ Q 1 μ := by rw [s_misSeed, qb_p h]
theorem mSd0 (h : ¬ ((0 : Int32).toInt ≤ v.toInt ∧ v.toInt ≤ (2000000000 : Int32).toInt)) : wX9_isSeed n v μ Q ↔ Q 0 μ := by rw [s_misSeed, qb_n h]
end SD
theorem seedN {v : Int32} (h : (0 : Int32).toInt ≤ v.toInt ∧ v.toInt ≤ (2000000000 : Int32).toInt) : ∃ k, k ≤ 2000000000 ∧ v = nI k := gN' (H := 2000000000) h (by omega)
theorem c_71 {Ln n : Nat} {xs : Nat → Int32} {K : Int32 → qa_M → Prop} {i : Int32} {μ : qa_M} (I : INV μ) (hn : 2000 ≤ n) (k : ∀ μ', INV μ' → K (i + 6) μ') (v1 : vp_in (i + 1) Ln) (v2 : vp_in (i + 2) Ln) (v3 : vp_in (i + 3) Ln) (v4 : vp_in (i + 4) Ln) (v5 : vp_in (i + 5) Ln) : wLc_71 Ln xs n K i μ := by
  unfold wLc_71
  simp only [v1, v2, v3, v4, v5, true_and]
  generalize xs (i + 1).toNatClampNeg = a
  generalize xs (i + 2).toNatClampNeg = b
  obtain ⟨w, hw⟩ : ∃ w, μ.1 92 = w := ⟨_, rfl⟩
  obtain ⟨r, T, E, G⟩ := I.facts hw
  obtain ⟨r1, r2, r3, r4⟩ := r.n0
  have L8 := G.1
  have N1 := r.2.1.1
  obtain ⟨W20, H8, hW, hH, plt, hpl, hpp, hfo, htu, hsu, hsm⟩ := id E
  have s2i : ∀ {μ1 : qa_M} {Q : Int32 → qa_M → Prop}, wX9_in n b.toInt64 0 2 μ1 Q ↔ Q (qb (0 ≤ b.toInt ∧ b.toInt ≤ 2)) μ1 := by
    intro μ1 Q
    rw [s_in, Int32.toInt_toInt64]
    exact Iff.rfl
  by_cases gT : 0 < zN w
  · by_cases ga : (0 : Int32).toInt ≤ a.toInt ∧ a.toInt ≤ (2000000000 : Int32).toInt
    · by_cases gb : 0 ≤ b.toInt ∧ b.toInt ≤ 2
      · obtain ⟨a, ha, rfl⟩ := seedN ga
        obtain ⟨b, hb, rfl⟩ := gN' (H := 2) gb (by omega)
        have b2 : (nI b ≤ 2) = True := eq_true (by rw [l2, nle _ _ (by omega) (by omega)]; exact hb)
        have e1 : (nI b = 1) = (b = 1) := nI_o1 (by omega)
        have al : (nI a).toInt64 = lN a := nI_l (by omega)
        simp (disch := omega) only [wX8_drawn, xT1 T r gT, xSd1 ga, n_neg, b2, x_drawn r T, hW, e1, not_true_eq_false, not_false_eq_true, false_implies, true_implies, and_true, true_and, and_self, nmM, if_true, if_false, or0, Int32.add_zero, forall_const, one_ne, zero_ne1, nz1, nz0, nI_z, cl, inN, Nat.le_refl, Nat.lt_irrefl, Nat.lt_succ_self, Bool.false_eq_true]
        refine ⟨fun c0 => ?_, fun c0 => ?_⟩
        · refine x_snows I hw (sc.rf μ) (Nat.le_refl _) (by omega) (fun μ1 s1 Y1 T1 => ?_)
          have hw1 := s1.w.trans hw
          have E1 := XEZ.of (a1 := 38) (a2 := 39) (a3 := 40) (a4 := 41) r T1 Y1 (Or.inl rfl)
          have G1 := XLZ.of r T1
          by_cases c1 : b = 1
          · subst c1
            simp (disch := omega) only [x_spread (y := 37) E1, not_true_eq_false, not_false_eq_true, false_implies, true_implies, and_true, true_and, and_self, nmM, if_true, if_false, or0, Int32.add_zero, forall_const, one_ne, zero_ne1, nz1, nz0, nI_z, cl, inN, Nat.le_refl, Nat.lt_irrefl, Nat.lt_succ_self, Bool.false_eq_true]
            simp (disch := omega) only [wX9_drawn, mT1 hw1 r gT, mSd1 ga, s2i, qb_p gb, al, not_true_eq_false, not_false_eq_true, false_implies, true_implies, and_true, true_and, and_self, nmM, if_true, if_false, or0, Int32.add_zero, forall_const, one_ne, zero_ne1, nz1, nz0, nI_z, cl, inN, Nat.le_refl, Nat.lt_irrefl, Nat.lt_succ_self, Bool.false_eq_true]
            refine m_drawn r hw1 (sc.rf μ1) (by omega) (by omega) (fun μ2 s2 h2 M2 E2 => ?_)
            simp (disch := omega) only [c0, e1, m_span E2, not_true_eq_false, not_false_eq_true, false_implies, true_implies, and_true, true_and, and_self, nmM, if_true, if_false, or0, Int32.add_zero, forall_const, one_ne, zero_ne1, nz1, nz0, nI_z, cl, inN, Nat.le_refl, Nat.lt_irrefl, Nat.lt_succ_self, Bool.false_eq_true]
            exact k μ2 ((I.sc s1).sc s2)
          · simp (disch := omega) only [c1, x_reached (y := 37) E1 G1, not_true_eq_false, not_false_eq_true, false_implies, true_implies, and_true, true_and, and_self, nmM, if_true, if_false, or0, Int32.add_zero, forall_const, one_ne, zero_ne1, nz1, nz0, nI_z, cl, inN, Nat.le_refl, Nat.lt_irrefl, Nat.lt_succ_self, Bool.false_eq_true]
            simp (disch := omega) only [wX9_drawn, mT1 hw1 r gT, mSd1 ga, s2i, qb_p gb, al, not_true_eq_false, not_false_eq_true, false_implies, true_implies, and_true, true_and, and_self, nmM, if_true, if_false, or0, Int32.add_zero, forall_const, one_ne, zero_ne1, nz1, nz0, nI_z, cl, inN, Nat.le_refl, Nat.lt_irrefl, Nat.lt_succ_self, Bool.false_eq_true]
            refine m_drawn r hw1 (sc.rf μ1) (by omega) (by omega) (fun μ2 s2 h2 M2 E2 => ?_)
            simp (disch := omega) only [c0, c1, e1, m_rights E2 (MLZ.of r h2) (r.town h2 gT), not_true_eq_false, not_false_eq_true, false_implies, true_implies, and_true, true_and, and_self, nmM, if_true, if_false, or0, Int32.add_zero, forall_const, one_ne, zero_ne1, nz1, nz0, nI_z, cl, inN, Nat.le_refl, Nat.lt_irrefl, Nat.lt_succ_self, Bool.false_eq_true]
            exact k μ2 ((I.sc s1).sc s2)
        · simp (disch := omega) only [wX9_drawn, mT1 hw r gT, mSd1 ga, s2i, qb_p gb, al, not_true_eq_false, not_false_eq_true, false_implies, true_implies, and_true, true_and, and_self, nmM, if_true, if_false, or0, Int32.add_zero, forall_const, one_ne, zero_ne1, nz1, nz0, nI_z, cl, inN, Nat.le_refl, Nat.lt_irrefl, Nat.lt_succ_self, Bool.false_eq_true]
          refine m_drawn (n := n) (k := a) r hw (sc.rf μ) (by omega) (by omega) (fun μ2 s2 h2 M2 E2 => ?_)
          have h19 : μ2.1 91 19 = drS w a := M2.2.2.2.1
          simp (disch := omega) only [c0, h19, not_true_eq_false, not_false_eq_true, false_implies, true_implies, and_true, true_and, and_self, nmM, if_true, if_false, or0, Int32.add_zero, forall_const, one_ne, zero_ne1, nz1, nz0, nI_z, cl, inN, Nat.le_refl, Nat.lt_irrefl, Nat.lt_succ_self, Bool.false_eq_true]
          exact k μ2 (I.sc s2)
      · have fin : wX9_drawn n a b μ (fun r2 μ2 => ((-2 : Int32) = r2 → K (i + 6) μ2) ∧ (¬ (-2 : Int32) = r2 → False)) := by
          simp (disch := omega) only [wX9_drawn, mT1 hw r gT, mSd1 ga, s2i, qb_n gb, not_true_eq_false, not_false_eq_true, false_implies, true_implies, and_true, true_and, and_self, nmM, if_true, if_false, or0, Int32.add_zero, forall_const, one_ne, zero_ne1, nz1, nz0, nI_z, cl, inN, Nat.le_refl, Nat.lt_irrefl, Nat.lt_succ_self, Bool.false_eq_true]
          exact k μ I
        by_cases c1 : b < 0
        · simp (disch := omega) only [wX8_drawn, xT1 T r gT, xSd1 ga, c1, not_true_eq_false, not_false_eq_true, false_implies, true_implies, and_true, true_and, and_self, nmM, if_true, if_false, or0, Int32.add_zero, forall_const, one_ne, zero_ne1, nz1, nz0, nI_z, cl, inN, Nat.le_refl, Nat.lt_irrefl, Nat.lt_succ_self, Bool.false_eq_true]
          exact fin
        · have c2 : ¬ b ≤ 2 := by
            rw [fa_lt, show (0 : Int32).toInt = 0 from rfl] at c1
            rw [fa_le, show (2 : Int32).toInt = 2 from rfl]
            omega
          simp (disch := omega) only [wX8_drawn, xT1 T r gT, xSd1 ga, c1, c2, not_true_eq_false, not_false_eq_true, false_implies, true_implies, and_true, true_and, and_self, nmM, if_true, if_false, or0, Int32.add_zero, forall_const, one_ne, zero_ne1, nz1, nz0, nI_z, cl, inN, Nat.le_refl, Nat.lt_irrefl, Nat.lt_succ_self, Bool.false_eq_true]
          exact fin
    · simp (disch := omega) only [wX8_drawn, xT1 T r gT, xSd0 ga, not_true_eq_false, not_false_eq_true, false_implies, true_implies, and_true, true_and, and_self, nmM, if_true, if_false, or0, Int32.add_zero, forall_const, one_ne, zero_ne1, nz1, nz0, nI_z, cl, inN, Nat.le_refl, Nat.lt_irrefl, Nat.lt_succ_self, Bool.false_eq_true]
      simp (disch := omega) only [wX9_drawn, mT1 hw r gT, mSd0 ga, not_true_eq_false, not_false_eq_true, false_implies, true_implies, and_true, true_and, and_self, nmM, if_true, if_false, or0, Int32.add_zero, forall_const, one_ne, zero_ne1, nz1, nz0, nI_z, cl, inN, Nat.le_refl, Nat.lt_irrefl, Nat.lt_succ_self, Bool.false_eq_true]
      exact k μ I
  · simp (disch := omega) only [wX8_drawn, xT0 T r gT, not_true_eq_false, not_false_eq_true, false_implies, true_implies, and_true, true_and, and_self, nmM, if_true, if_false, or0, Int32.add_zero, forall_const, one_ne, zero_ne1, nz1, nz0, nI_z, cl, inN, Nat.le_refl, Nat.lt_irrefl, Nat.lt_succ_self, Bool.false_eq_true]
    simp (disch := omega) only [wX9_drawn, mT0 hw r gT, not_true_eq_false, not_false_eq_true, false_implies, true_implies, and_true, true_and, and_self, nmM, if_true, if_false, or0, Int32.add_zero, forall_const, one_ne, zero_ne1, nz1, nz0, nI_z, cl, inN, Nat.le_refl, Nat.lt_irrefl, Nat.lt_succ_self, Bool.false_eq_true]
    exact k μ I
def lkF (w : Nat → Int32) (a c : Nat) (j s : Nat) : Nat := if rgb (yp w (oN w (drS w (a + j)))) (zW w) (lhW w) (lpW w) (lwW w) c = 0 then s else s + 1
theorem xs_luck {n a b c : Nat} {w : Nat → Int32} {μ : qa_M} {Q : Int32 → qa_M → Prop} (I : INV μ) (hw : μ.1 92 = w) (ha : a ≤ 2000000000) (hb : b ≤ 20) (hc : c < zL w) (hn : 200 < n) (kk : ∀ μ', sc μ μ' → Q (nI (itr (lkF w a c) 0 b 0)) μ') : wX8_luck_35 n (nI a) (nI b) (nI c) 0 0 μ Q := by
  obtain ⟨r, T, E, G⟩ := I.facts hw
  refine inv_loopF 100 (fun n i (σ : Nat × qa_M) => wX8_luck_35 n (nI a) (nI b) (nI c) (nI σ.1) i σ.2 Q) b (fun i σ => σ.1 = itr (lkF w a c) 0 i 0 ∧ sc μ σ.2) ?_ ?_ b 0 (0, μ) n (by omega) (by omega) ⟨rfl, sc.rf μ⟩
  · intro n ⟨s, μ1⟩ hm ⟨e1, s1⟩
    dsimp only at e1 s1 ⊢
    simp (disch := omega) only [wX8_luck_35, nle, not_true_eq_false, not_false_eq_true, false_implies, true_implies, and_true, true_and, and_self, nmM, if_true, if_false, or0, Int32.add_zero, forall_const, one_ne, zero_ne1, nz1, nz0, nI_z, cl, inN, Nat.le_refl, Nat.lt_irrefl, Nat.lt_succ_self, Bool.false_eq_true]
    rw [e1]
    exact kk μ1 s1
  · intro n i ⟨s, μ1⟩ hm hi ⟨e1, s1⟩ ih
    dsimp only at e1 s1 ⊢
    have hi' : ¬ b ≤ i := by omega
    obtain ⟨-, T1, E1, G1⟩ := (I.sc s1).facts (s1.w.trans hw)
    simp (disch := omega) only [wX8_luck_35, nle, hi', nI_add, x_drawn r T1, E1.2.2.1, nI1, not_true_eq_false, not_false_eq_true, false_implies, true_implies, and_true, true_and, and_self, nmM, if_true, if_false, or0, Int32.add_zero, forall_const, one_ne, zero_ne1, nz1, nz0, nI_z, cl, inN, Nat.le_refl, Nat.lt_irrefl, Nat.lt_succ_self, Bool.false_eq_true]
    refine x_snows I hw s1 (Nat.le_refl _) (by omega) (fun μ2 s2 Y2 T2 => ?_)
    have E2 := XEZ.of (a1 := 38) (a2 := 39) (a3 := 40) (a4 := 41) r T2 Y2 (Or.inl rfl)
    rw [x_reaches (y := 37) E2 (XLZ.of r T2) hc]
    have stp : itr (lkF w a c) 0 (i + 1) 0 = lkF w a c i s := by rw [itr_succ, Nat.zero_add, e1]
    exact ⟨fun q => ih (s, μ2) ⟨by rw [stp]; unfold lkF; rw [if_pos q], s2⟩, fun q => ih (s + 1, μ2) ⟨by rw [stp]; unfold lkF; rw [if_neg q], s2⟩⟩
theorem ms_luck {n a b c : Nat} {w : Nat → Int32} {μ : qa_M} {Q : Int32 → qa_M → Prop} (r : RZ w) (gT : 0 < zN w) (hw : μ.1 92 = w) (ha : a ≤ 2000000000) (hb : b ≤ 20) (hc : c < zL w) (hn : 250 < n) (kk : ∀ μ', sc μ μ' → Q (nI (itr (lkF w a c) 0 b 0)) μ') : wX9_luck_36 n (nI a) (nI b) (nI c) 0 0 μ Q := by
  refine inv_loopF 150 (fun n i (σ : Nat × qa_M) => wX9_luck_36 n (nI a) (nI b) (nI c) (nI σ.1) i σ.2 Q) b (fun i σ => σ.1 = itr (lkF w a c) 0 i 0 ∧ sc μ σ.2) ?_ ?_ b 0 (0, μ) n (by omega) (by omega) ⟨rfl, sc.rf μ⟩
  · intro n ⟨s, μ1⟩ hm ⟨e1, s1⟩
    dsimp only at e1 s1 ⊢
    simp (disch := omega) only [wX9_luck_36, nle, not_true_eq_false, not_false_eq_true, false_implies, true_implies, and_true, true_and, and_self, nmM, if_true, if_false, or0, Int32.add_zero, forall_const, one_ne, zero_ne1, nz1, nz0, nI_z, cl, inN, Nat.le_refl, Nat.lt_irrefl, Nat.lt_succ_self, Bool.false_eq_true]
    rw [e1]
    exact kk μ1 s1
  · intro n i ⟨s, μ1⟩ hm hi ⟨e1, s1⟩ ih
    dsimp only at e1 s1 ⊢
    have hi' : ¬ b ≤ i := by omega
    simp (disch := omega) only [wX9_luck_36, wX9_luck_67, nle, hi', nI_l, lN_add, nI1, not_true_eq_false, not_false_eq_true, false_implies, true_implies, and_true, true_and, and_self, nmM, if_true, if_false, or0, Int32.add_zero, forall_const, one_ne, zero_ne1, nz1, nz0, nI_z, cl, inN, Nat.le_refl, Nat.lt_irrefl, Nat.lt_succ_self, Bool.false_eq_true]
    refine m_drawn r hw s1 (by omega) (by omega) (fun μ2 s2 h2 M2 E2 => ?_)
    rw [m_isRight E2 (MLZ.of r h2) (r.town h2 gT) hc]
    have stp : itr (lkF w a c) 0 (i + 1) 0 = lkF w a c i s := by rw [itr_succ, Nat.zero_add, e1]
    exact ⟨fun q => ih (s, μ2) ⟨by rw [stp]; unfold lkF; rw [if_pos q], s2⟩, fun q => ih (s + 1, μ2) ⟨by rw [stp]; unfold lkF; rw [if_neg q], s2⟩⟩
theorem c_72 {Ln n : Nat} {xs : Nat → Int32} {K : Int32 → qa_M → Prop} {i : Int32} {μ : qa_M} (I : INV μ) (hn : 2000 ≤ n) (k : ∀ μ', INV μ' → K (i + 6) μ') (v1 : vp_in (i + 1) Ln) (v2 : vp_in (i + 2) Ln) (v3 : vp_in (i + 3) Ln) (v4 : vp_in (i + 4) Ln) (v5 : vp_in (i + 5) Ln) : wLc_72 Ln xs n K i μ := by
  unfold wLc_72
  simp only [v1, v2, v3, v4, v5, true_and]
  generalize xs (i + 1).toNatClampNeg = a
  generalize xs (i + 2).toNatClampNeg = b
  generalize xs (i + 3).toNatClampNeg = c
  obtain ⟨w, hw⟩ : ∃ w, μ.1 92 = w := ⟨_, rfl⟩
  obtain ⟨r, T, E, G⟩ := I.facts hw
  obtain ⟨r1, r2, r3, r4⟩ := r.n0
  have L8 := G.1
  have N1 := r.2.1.1
  obtain ⟨W20, H8, hW, hH, plt, hpl, hpp, hfo, htu, hsu, hsm⟩ := id E
  have s20 : ∀ {μ1 : qa_M} {Q : Int32 → qa_M → Prop}, wX9_in n b.toInt64 1 20 μ1 Q ↔ Q (qb (1 ≤ b.toInt ∧ b.toInt ≤ 20)) μ1 := by
    intro μ1 Q
    rw [s_in, Int32.toInt_toInt64]
    exact Iff.rfl
  by_cases ga : (0 : Int32).toInt ≤ a.toInt ∧ a.toInt ≤ (2000000000 : Int32).toInt
  · by_cases gb : 1 ≤ b.toInt ∧ b.toInt ≤ 20
    · have c1 : ¬ b < 1 := by rw [fa_lt, show (1 : Int32).toInt = 1 from rfl]; omega
      have c2 : ¬ (20 : Int32) < b := by rw [fa_lt, show (20 : Int32).toInt = 20 from rfl]; omega
      by_cases gc : 0 ≤ c.toInt ∧ c.toInt < (zL w : Int)
      · obtain ⟨a, ha, rfl⟩ := seedN ga
        obtain ⟨b, hb, rfl⟩ := gN' (H := 20) ⟨by omega, gb.2⟩ (by omega)
        obtain ⟨c, hc, rfl⟩ := gN gc (by omega)
        have gT : 0 < zN w := by omega
        simp (disch := omega) only [wX8_luck, xSd1 ga, c1, c2, xL1 T r hc, not_true_eq_false, not_false_eq_true, false_implies, true_implies, and_true, true_and, and_self, nmM, if_true, if_false, or0, Int32.add_zero, forall_const, one_ne, zero_ne1, nz1, nz0, nI_z, cl, inN, Nat.le_refl, Nat.lt_irrefl, Nat.lt_succ_self, Bool.false_eq_true]
        refine xs_luck I hw ha hb hc (by omega) (fun μ1 s1 => ?_)
        have hw1 := s1.w.trans hw
        simp (disch := omega) only [wX9_luck, mSd1 ga, s20, qb_p gb, mL1 hw1 r hc, not_true_eq_false, not_false_eq_true, false_implies, true_implies, and_true, true_and, and_self, nmM, if_true, if_false, or0, Int32.add_zero, forall_const, one_ne, zero_ne1, nz1, nz0, nI_z, cl, inN, Nat.le_refl, Nat.lt_irrefl, Nat.lt_succ_self, Bool.false_eq_true]
        refine ms_luck r gT hw1 ha hb hc (by omega) (fun μ2 s2 => ?_)
        simp only [not_true_eq_false, not_false_eq_true, false_implies, true_implies, and_true, true_and, and_self, nmM, if_true, if_false, or0, Int32.add_zero, forall_const, one_ne, zero_ne1, nz1, nz0, nI_z, cl, inN, Nat.le_refl, Nat.lt_irrefl, Nat.lt_succ_self, Bool.false_eq_true]
        exact k μ2 ((I.sc s1).sc s2)
      · simp (disch := omega) only [wX8_luck, xSd1 ga, c1, c2, xL0 T r gc, not_true_eq_false, not_false_eq_true, false_implies, true_implies, and_true, true_and, and_self, nmM, if_true, if_false, or0, Int32.add_zero, forall_const, one_ne, zero_ne1, nz1, nz0, nI_z, cl, inN, Nat.le_refl, Nat.lt_irrefl, Nat.lt_succ_self, Bool.false_eq_true]
        simp (disch := omega) only [wX9_luck, mSd1 ga, s20, qb_p gb, mL0 hw r gc, not_true_eq_false, not_false_eq_true, false_implies, true_implies, and_true, true_and, and_self, nmM, if_true, if_false, or0, Int32.add_zero, forall_const, one_ne, zero_ne1, nz1, nz0, nI_z, cl, inN, Nat.le_refl, Nat.lt_irrefl, Nat.lt_succ_self, Bool.false_eq_true]
        exact k μ I
    · have fin : wX9_luck n a b c μ (fun r2 μ2 => ((-2 : Int32) = r2 → K (i + 6) μ2) ∧ (¬ (-2 : Int32) = r2 → False)) := by
        simp (disch := omega) only [wX9_luck, mSd1 ga, s20, qb_n gb, not_true_eq_false, not_false_eq_true, false_implies, true_implies, and_true, true_and, and_self, nmM, if_true, if_false, or0, Int32.add_zero, forall_const, one_ne, zero_ne1, nz1, nz0, nI_z, cl, inN, Nat.le_refl, Nat.lt_irrefl, Nat.lt_succ_self, Bool.false_eq_true]
        exact k μ I
      by_cases c1 : b < 1
      · simp (disch := omega) only [wX8_luck, xSd1 ga, c1, not_true_eq_false, not_false_eq_true, false_implies, true_implies, and_true, true_and, and_self, nmM, if_true, if_false, or0, Int32.add_zero, forall_const, one_ne, zero_ne1, nz1, nz0, nI_z, cl, inN, Nat.le_refl, Nat.lt_irrefl, Nat.lt_succ_self, Bool.false_eq_true]
        exact fin
      · have c2 : (20 : Int32) < b := by
          rw [fa_lt, show (1 : Int32).toInt = 1 from rfl] at c1
          rw [fa_lt, show (20 : Int32).toInt = 20 from rfl]
          omega
        simp (disch := omega) only [wX8_luck, xSd1 ga, c1, c2, not_true_eq_false, not_false_eq_true, false_implies, true_implies, and_true, true_and, and_self, nmM, if_true, if_false, or0, Int32.add_zero, forall_const, one_ne, zero_ne1, nz1, nz0, nI_z, cl, inN, Nat.le_refl, Nat.lt_irrefl, Nat.lt_succ_self, Bool.false_eq_true]
        exact fin
  · simp (disch := omega) only [wX8_luck, xSd0 ga, not_true_eq_false, not_false_eq_true, false_implies, true_implies, and_true, true_and, and_self, nmM, if_true, if_false, or0, Int32.add_zero, forall_const, one_ne, zero_ne1, nz1, nz0, nI_z, cl, inN, Nat.le_refl, Nat.lt_irrefl, Nat.lt_succ_self, Bool.false_eq_true]
    simp (disch := omega) only [wX9_luck, mSd0 ga, not_true_eq_false, not_false_eq_true, false_implies, true_implies, and_true, true_and, and_self, nmM, if_true, if_false, or0, Int32.add_zero, forall_const, one_ne, zero_ne1, nz1, nz0, nI_z, cl, inN, Nat.le_refl, Nat.lt_irrefl, Nat.lt_succ_self, Bool.false_eq_true]
    exact k μ I
