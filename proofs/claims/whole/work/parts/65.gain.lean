def gV (w : Nat → Int32) (x : Int32) (h : Nat) : Int32 := itr (fun v s => if ypp w (oA w x) v h ≤ 0 then s else s + (-2)) 0 (zW w) (aSun (yp w (oA w x)) (sunW w (zP w)) h (zW w))
theorem x_gain {n a b : Nat} {x y z : Int32} {w : Nat → Int32} {μ0 μ : qa_M} {Q : Int32 → qa_M → Prop} (I : INV μ0) (hw : μ0.1 92 = w) (s : sc μ0 μ) (ha : a < zH w) (hz : (x <<< (nI a &&& 31)) ||| (y <<< (nI b &&& 31)) = z) (hn : 80 < n) (kk : ∀ μ', sc μ0 μ' → Q (gV w z a) μ') : wX8_gain n (nI a) (nI b) x y μ Q := by
  obtain ⟨r, -, -, -⟩ := I.facts hw
  have W20 := r.2.1.2.1
  have H8 := r.2.1.2.2.2.1
  unfold wX8_gain
  simp only [nmM, hz]
  refine x_trial (o := oA w z) (U := zW w) (fun μ => qa_uI μ 31 4 z) I hw s (fun μ1 P => P.stay z) (fun μ1 => onlyP1 4 _ μ1) (Nat.le_refl _) (fun h => r.law (by omega)) (by omega) (fun μ2 s2 x2 Y2 T2 => ?_)
  have E2 := XEZ.of (a1 := 38) (a2 := 39) (a3 := 40) (a4 := 41) r T2 Y2 (Or.inl rfl)
  obtain ⟨-, -, hW2, hH2, plt, hpl, hpp, hfo, htu, hsu, hsm⟩ := id E2
  rw [hW2, x_sunTo (y := 37) E2 ha (Nat.le_refl _) (by omega)]
  have kk := kk μ2 s2
  unfold gV at kk
  refine (for_iff 0 (fun n i (q : Int32) => wX8_gain_65 n (nI a) q i μ2 Q) (fun q => Q q μ2) (zW w) (fun v s => if ypp w (oA w z) v a ≤ 0 then s else s + (-2)) (fun _ _ => True) ?_ ?_ (fun _ _ _ _ => trivial) (zW w) 0 _ n (by omega) (by omega) trivial).mpr kk
  · intro n q _ _
    show wX8_gain_65 (n + 1) _ _ _ _ _ ↔ _
    simp (disch := omega) only [wX8_gain_65, hW2, nle, not_true_eq_false, not_false_eq_true, false_implies, true_implies, and_true, true_and, and_self, nmM, if_true, if_false, or0, Int32.add_zero, forall_const, one_ne, zero_ne1, nz1, nz0, nI_z, cl, inN, Nat.le_refl, Nat.lt_irrefl, Nat.lt_succ_self, Bool.false_eq_true]
  · intro n i q _ hi _
    show wX8_gain_65 (n + 1) _ _ _ _ _ ↔ _
    have hi' : ¬ zW w ≤ i := by omega
    have e := hpp i hi a ha
    simp (disch := omega) only [wX8_gain_65, hW2, nle, hi', nI1, s_effort, e, not_true_eq_false, not_false_eq_true, false_implies, true_implies, and_true, true_and, and_self, nmM, if_true, if_false, or0, Int32.add_zero, forall_const, one_ne, zero_ne1, nz1, nz0, nI_z, cl, inN, Nat.le_refl, Nat.lt_irrefl, Nat.lt_succ_self, Bool.false_eq_true]
    by_cases c : ypp w (oA w z) i a ≤ 0 <;> simp only [c, not_true_eq_false, not_false_eq_true, false_implies, true_implies, and_true, true_and, and_self, nmM, if_true, if_false, or0, Int32.add_zero, forall_const, one_ne, zero_ne1, nz1, nz0, nI_z, cl, inN, Nat.le_refl, Nat.lt_irrefl, Nat.lt_succ_self, Bool.false_eq_true]
theorem sub0 (x : Int32) : x - 0 = x := by simp
theorem sub2 (x : Int32) : x - 2 = x + (-2) := by rw [Int32.sub_eq_add_neg]
theorem m_gets {n a b h : Nat} {x y z d : Int32} {w : Nat → Int32} {μ0 μ : qa_M} {Q : Int32 → qa_M → Prop} (r : RZ w) (hw : μ0.1 92 = w) (s : sc μ0 μ) (ha : a < zH w) (hb : b < zH w) (hd : (d = 0 ∧ h = a) ∨ (d = 1 ∧ h = b)) (hz : (x <<< (nI a &&& 31)) ||| (y <<< (nI b &&& 31)) = z) (hn : 80 < n) (kk : ∀ μ', sc μ0 μ' → Q (gV w z h) μ') : wX9_getsBy n (nI a) (nI b) x y d μ Q := by
  have W20 := r.2.1.2.1
  have H8 := r.2.1.2.2.2.1
  unfold wX9_getsBy
  refine m_lay (s.w.trans hw) r (by omega) (fun μ1 a1 a2 a3 M1 => ?_)
  simp only [nmM, hz]
  refine m_try (o := oA w z) r hw ((s.lay a1 a2 a3).put91 22 _ (by omega)) (M1.stay z) (fun hW => (r.law hW).1) (by omega) (fun μ2 s2 h2 M2 o2 E2 => ?_)
  obtain ⟨-, -, hW2, hH2, plt, hpl, hpp, hfo, htu, hsu, hsm⟩ := id E2
  have kk := kk μ2 s2
  have fin : h < zH w → wX9_getsBy_30 n (nI h) μ2 Q := by
    intro hh
    unfold wX9_getsBy_30
    rw [m_sunAll E2 hh (by omega)]
    unfold gV at kk
    refine (for_iff 0 (fun n i (q : Int32) => wX9_getsBy_43 n (nI h) q i μ2 Q) (fun q => Q q μ2) (zW w) (fun v s => if ypp w (oA w z) v h ≤ 0 then s else s + (-2)) (fun _ _ => True) ?_ ?_ (fun _ _ _ _ => trivial) (zW w) 0 _ n (by omega) (by omega) trivial).mpr kk
    · intro n q _ _
      show wX9_getsBy_43 (n + 1) _ _ _ _ _ ↔ _
      simp (disch := omega) only [wX9_getsBy_43, s_mweeks, hW2, nle, not_true_eq_false, not_false_eq_true, false_implies, true_implies, and_true, true_and, and_self, nmM, if_true, if_false, or0, Int32.add_zero, forall_const, one_ne, zero_ne1, nz1, nz0, nI_z, cl, inN, Nat.le_refl, Nat.lt_irrefl, Nat.lt_succ_self, Bool.false_eq_true]
    · intro n i q _ hi _
      show wX9_getsBy_43 (n + 1) _ _ _ _ _ ↔ _
      have hi' : ¬ zW w ≤ i := by omega
      have e := hpp i hi h hh
      simp (disch := omega) only [wX9_getsBy_43, wX9_getsBy_70, s_mweeks, hW2, nle, hi', nI1, s_pushOf, e, sub0, sub2, not_true_eq_false, not_false_eq_true, false_implies, true_implies, and_true, true_and, and_self, nmM, if_true, if_false, or0, Int32.add_zero, forall_const, one_ne, zero_ne1, nz1, nz0, nI_z, cl, inN, Nat.le_refl, Nat.lt_irrefl, Nat.lt_succ_self, Bool.false_eq_true]
      by_cases c : ypp w (oA w z) i h ≤ 0 <;> simp only [c, not_true_eq_false, not_false_eq_true, false_implies, true_implies, and_true, true_and, and_self, nmM, if_true, if_false, or0, Int32.add_zero, forall_const, one_ne, zero_ne1, nz1, nz0, nI_z, cl, inN, Nat.le_refl, Nat.lt_irrefl, Nat.lt_succ_self, Bool.false_eq_true]
  rcases hd with ⟨rfl, rfl⟩ | ⟨rfl, rfl⟩
  · simp only [not_true_eq_false, not_false_eq_true, false_implies, true_implies, and_true, true_and, and_self, nmM, if_true, if_false, or0, Int32.add_zero, forall_const, one_ne, zero_ne1, nz1, nz0, nI_z, cl, inN, Nat.le_refl, Nat.lt_irrefl, Nat.lt_succ_self, Bool.false_eq_true]; exact fin ha
  · simp only [not_true_eq_false, not_false_eq_true, false_implies, true_implies, and_true, true_and, and_self, nmM, if_true, if_false, or0, Int32.add_zero, forall_const, one_ne, zero_ne1, nz1, nz0, nI_z, cl, inN, Nat.le_refl, Nat.lt_irrefl, Nat.lt_succ_self, Bool.false_eq_true]; exact fin hb
theorem xPr1 {n a b : Nat} {w : Nat → Int32} {μ : qa_M} {Q : Int32 → qa_M → Prop} (T : TZ μ (μ.2.2 1 2) w) (r : RZ w) (ha : a < zH w) (hb : b < zH w) (h : a ≠ b) : wX8_isPair n (nI a) (nI b) μ Q ↔ Q 1 μ := by
  have := r.2.1.2.2.2.1
  rw [s_isPair, T.1.2.2.2.2.2.1, nI_toInt (by omega), nI_toInt (by omega), nI_toInt (by omega), qb_p]
  exact ⟨by omega, by omega, fun e => h ((nI_eq (by omega) (by omega)).mp e)⟩
theorem xPr0 {n : Nat} {v u : Int32} {w : Nat → Int32} {μ : qa_M} {Q : Int32 → qa_M → Prop} (T : TZ μ (μ.2.2 1 2) w) (r : RZ w) (h : ¬ ((0 ≤ v.toInt ∧ v.toInt < (zH w : Int)) ∧ (0 ≤ u.toInt ∧ u.toInt < (zH w : Int)) ∧ ¬ v = u)) : wX8_isPair n v u μ Q ↔ Q 0 μ := by
  have := r.2.1.2.2.2.1
  rw [s_isPair, T.1.2.2.2.2.2.1, nI_toInt (by omega), qb_n h]
theorem mPr1 {n a b : Nat} {w : Nat → Int32} {μ : qa_M} {Q : Int32 → qa_M → Prop} (hw : μ.1 92 = w) (r : RZ w) (ha : a < zH w) (hb : b < zH w) (h : a ≠ b) : wX9_areTwo n (nI a) (nI b) μ Q ↔ Q 1 μ := by
  have := r.2.1.2.2.2.1
  rw [s_areTwo (by rw [hw]; exact r.1.2.2.2.1) this, nI_toInt (by omega), nI_toInt (by omega), qb_p]
  exact ⟨by omega, by omega, fun e => h ((nI_eq (by omega) (by omega)).mp e)⟩
theorem mPr0 {n : Nat} {v u : Int32} {w : Nat → Int32} {μ : qa_M} {Q : Int32 → qa_M → Prop} (hw : μ.1 92 = w) (r : RZ w) (h : ¬ ((0 ≤ v.toInt ∧ v.toInt < (zH w : Int)) ∧ (0 ≤ u.toInt ∧ u.toInt < (zH w : Int)) ∧ ¬ v = u)) : wX9_areTwo n v u μ Q ↔ Q 0 μ := by
  rw [s_areTwo (by rw [hw]; exact r.1.2.2.2.1) r.2.1.2.2.2.1, qb_n h]
theorem pairN {v u : Int32} {H : Nat} (hH : H ≤ 8) (h : (0 ≤ v.toInt ∧ v.toInt < (H : Int)) ∧ (0 ≤ u.toInt ∧ u.toInt < (H : Int)) ∧ ¬ v = u) : ∃ a b, a < H ∧ b < H ∧ a ≠ b ∧ v = nI a ∧ u = nI b := by
  obtain ⟨a, ha, rfl⟩ := gN h.1 (by omega)
  obtain ⟨b, hb, rfl⟩ := gN h.2.1 (by omega)
  exact ⟨a, b, ha, hb, fun e => h.2.2 (by rw [e]), rfl, rfl⟩
theorem c_64 {Ln n : Nat} {xs : Nat → Int32} {K : Int32 → qa_M → Prop} {i : Int32} {μ : qa_M} (I : INV μ) (hn : 2000 ≤ n) (k : ∀ μ', INV μ' → K (i + 6) μ') (v1 : vp_in (i + 1) Ln) (v2 : vp_in (i + 2) Ln) (v3 : vp_in (i + 3) Ln) (v4 : vp_in (i + 4) Ln) (v5 : vp_in (i + 5) Ln) : wLc_64 Ln xs n K i μ := by
  unfold wLc_64
  simp only [v1, v2, v3, v4, v5, true_and]
  generalize xs (i + 1).toNatClampNeg = a
  generalize xs (i + 2).toNatClampNeg = b
  generalize xs (i + 3).toNatClampNeg = c
  generalize xs (i + 4).toNatClampNeg = d
  obtain ⟨w, hw⟩ : ∃ w, μ.1 92 = w := ⟨_, rfl⟩
  obtain ⟨r, T, E, G⟩ := I.facts hw
  obtain ⟨r1, r2, r3, r4⟩ := r.n0
  have L8 := G.1
  have N1 := r.2.1.1
  obtain ⟨W20, H8, hW, hH, plt, hpl, hpp, hfo, htu, hsu, hsm⟩ := id E
  by_cases g : (0 ≤ a.toInt ∧ a.toInt < (zH w : Int)) ∧ (0 ≤ b.toInt ∧ b.toInt < (zH w : Int)) ∧ ¬ a = b
  · obtain ⟨a, b, ha, hb, hab, rfl, rfl⟩ := pairN H8 g
    by_cases gc : c = 0 ∨ c = 1
    · by_cases gd : d = 0 ∨ d = 1
      · simp (disch := omega) only [wX8_gets, xPr1 T r ha hb hab, xQ1 gc, xQ1 gd, not_true_eq_false, not_false_eq_true, false_implies, true_implies, and_true, true_and, and_self, nmM, if_true, if_false, or0, Int32.add_zero, forall_const, one_ne, zero_ne1, nz1, nz0, nI_z, cl, inN, Nat.le_refl, Nat.lt_irrefl, Nat.lt_succ_self, Bool.false_eq_true]
        refine x_gain I hw (sc.rf μ) ha rfl (by omega) (fun μ1 s1 => ?_)
        have hw1 := s1.w.trans hw
        simp (disch := omega) only [wX9_gets, mPr1 hw1 r ha hb hab, mQ1 gc, mQ1 gd, not_true_eq_false, not_false_eq_true, false_implies, true_implies, and_true, true_and, and_self, nmM, if_true, if_false, or0, Int32.add_zero, forall_const, one_ne, zero_ne1, nz1, nz0, nI_z, cl, inN, Nat.le_refl, Nat.lt_irrefl, Nat.lt_succ_self, Bool.false_eq_true]
        refine m_gets r hw s1 ha hb (Or.inl ⟨rfl, rfl⟩) rfl (by omega) (fun μ2 s2 => ?_)
        simp only [not_true_eq_false, not_false_eq_true, false_implies, true_implies, and_true, true_and, and_self, nmM, if_true, if_false, or0, Int32.add_zero, forall_const, one_ne, zero_ne1, nz1, nz0, nI_z, cl, inN, Nat.le_refl, Nat.lt_irrefl, Nat.lt_succ_self, Bool.false_eq_true]
        exact k μ2 (I.sc s2)
      · simp (disch := omega) only [wX8_gets, xPr1 T r ha hb hab, xQ1 gc, xQ0 gd, not_true_eq_false, not_false_eq_true, false_implies, true_implies, and_true, true_and, and_self, nmM, if_true, if_false, or0, Int32.add_zero, forall_const, one_ne, zero_ne1, nz1, nz0, nI_z, cl, inN, Nat.le_refl, Nat.lt_irrefl, Nat.lt_succ_self, Bool.false_eq_true]
        simp (disch := omega) only [wX9_gets, mPr1 hw r ha hb hab, mQ1 gc, mQ0 gd, not_true_eq_false, not_false_eq_true, false_implies, true_implies, and_true, true_and, and_self, nmM, if_true, if_false, or0, Int32.add_zero, forall_const, one_ne, zero_ne1, nz1, nz0, nI_z, cl, inN, Nat.le_refl, Nat.lt_irrefl, Nat.lt_succ_self, Bool.false_eq_true]
        exact k μ I
    · simp (disch := omega) only [wX8_gets, xPr1 T r ha hb hab, xQ0 gc, not_true_eq_false, not_false_eq_true, false_implies, true_implies, and_true, true_and, and_self, nmM, if_true, if_false, or0, Int32.add_zero, forall_const, one_ne, zero_ne1, nz1, nz0, nI_z, cl, inN, Nat.le_refl, Nat.lt_irrefl, Nat.lt_succ_self, Bool.false_eq_true]
      simp (disch := omega) only [wX9_gets, mPr1 hw r ha hb hab, mQ0 gc, not_true_eq_false, not_false_eq_true, false_implies, true_implies, and_true, true_and, and_self, nmM, if_true, if_false, or0, Int32.add_zero, forall_const, one_ne, zero_ne1, nz1, nz0, nI_z, cl, inN, Nat.le_refl, Nat.lt_irrefl, Nat.lt_succ_self, Bool.false_eq_true]
      exact k μ I
  · simp (disch := omega) only [wX8_gets, xPr0 T r g, not_true_eq_false, not_false_eq_true, false_implies, true_implies, and_true, true_and, and_self, nmM, if_true, if_false, or0, Int32.add_zero, forall_const, one_ne, zero_ne1, nz1, nz0, nI_z, cl, inN, Nat.le_refl, Nat.lt_irrefl, Nat.lt_succ_self, Bool.false_eq_true]
    simp (disch := omega) only [wX9_gets, mPr0 hw r g, not_true_eq_false, not_false_eq_true, false_implies, true_implies, and_true, true_and, and_self, nmM, if_true, if_false, or0, Int32.add_zero, forall_const, one_ne, zero_ne1, nz1, nz0, nI_z, cl, inN, Nat.le_refl, Nat.lt_irrefl, Nat.lt_succ_self, Bool.false_eq_true]
    exact k μ I
/-- what two who stay in, or not, choose -/
def zS2 (a b : Nat) (x y : Int32) : Int32 := (x <<< (nI a &&& 31)) ||| (y <<< (nI b &&& 31))
def rsF (w : Nat → Int32) (a b j : Nat) (s : Int32) : Int32 := if gV w (zS2 a b (nI j &&& 1) (nI j >>> ((1 : Int32) &&& 31))) a < gV w (zS2 a b (1 - (nI j &&& 1)) (nI j >>> ((1 : Int32) &&& 31))) a then s else if gV w (zS2 a b (nI j &&& 1) (nI j >>> ((1 : Int32) &&& 31))) b < gV w (zS2 a b (nI j &&& 1) (1 - (nI j >>> ((1 : Int32) &&& 31)))) b then s else s ||| ((1 : Int32) <<< (nI j &&& 31))
theorem or_c (x y : Int32) : x ||| y = y ||| x := by
  apply Int32.toBitVec_inj.mp
  rw [Int32.toBitVec_or, Int32.toBitVec_or, BitVec.or_comm]
theorem xs_rests {n a b : Nat} {w : Nat → Int32} {μ : qa_M} {Q : Int32 → qa_M → Prop} (I : INV μ) (hw : μ.1 92 = w) (ha : a < zH w) (hb : b < zH w) (hn : 300 < n) (kk : ∀ μ', sc μ μ' → Q (itr (rsF w a b) 0 4 0) μ') : wX8_rests_17 n (nI a) (nI b) 0 0 μ Q := by
  refine inv_loopF 100 (fun n i (σ : Int32 × qa_M) => wX8_rests_17 n (nI a) (nI b) σ.1 i σ.2 Q) 4 (fun i σ => σ.1 = itr (rsF w a b) 0 i 0 ∧ sc μ σ.2) ?_ ?_ 4 0 (0, μ) n (by omega) (by omega) ⟨rfl, sc.rf μ⟩
  · intro n ⟨v1, μ1⟩ hm ⟨e1, s⟩
    dsimp only at e1 s ⊢
    simp (disch := omega) only [wX8_rests_17, l4, nle, not_true_eq_false, not_false_eq_true, false_implies, true_implies, and_true, true_and, and_self, nmM, if_true, if_false, or0, Int32.add_zero, forall_const, one_ne, zero_ne1, nz1, nz0, nI_z, cl, inN, Nat.le_refl, Nat.lt_irrefl, Nat.lt_succ_self, Bool.false_eq_true]
    rw [e1]
    exact kk μ1 s
  · intro n i ⟨v1, μ1⟩ hm hi ⟨e1, s1⟩ ih
    dsimp only at e1 s1 ⊢
    have hi' : ¬ 4 ≤ i := by omega
    have stp : itr (rsF w a b) 0 (i + 1) 0 = rsF w a b i v1 := by rw [itr_succ, Nat.zero_add, e1]
    generalize itr (rsF w a b) 0 (i + 1) 0 = X at stp ih
    unfold rsF at stp
    simp (disch := omega) only [wX8_rests_17, wX8_rests_65, l4, nle, hi', nI1, not_true_eq_false, not_false_eq_true, false_implies, true_implies, and_true, true_and, and_self, nmM, if_true, if_false, or0, Int32.add_zero, forall_const, one_ne, zero_ne1, nz1, nz0, nI_z, cl, inN, Nat.le_refl, Nat.lt_irrefl, Nat.lt_succ_self, Bool.false_eq_true]
    refine x_gain I hw s1 ha rfl (by omega) (fun μ2 s2 => ?_)
    refine x_gain I hw s2 ha rfl (by omega) (fun μ3 s3 => ?_)
    show (gV w (zS2 a b (nI i &&& 1) (nI i >>> ((1 : Int32) &&& 31))) a < gV w (zS2 a b (1 - (nI i &&& 1)) (nI i >>> ((1 : Int32) &&& 31))) a → _) ∧ (¬ gV w (zS2 a b (nI i &&& 1) (nI i >>> ((1 : Int32) &&& 31))) a < gV w (zS2 a b (1 - (nI i &&& 1)) (nI i >>> ((1 : Int32) &&& 31))) a → _)
    refine ⟨fun h => ?_, fun h => ?_⟩
    · exact ih (v1, μ3) ⟨by rw [stp, if_pos h], s3⟩
    · rw [if_neg h] at stp
      refine x_gain I hw s3 hb (or_c _ _) (by omega) (fun μ4 s4 => ?_)
      refine x_gain I hw s4 hb (or_c _ _) (by omega) (fun μ5 s5 => ?_)
      show (gV w (zS2 a b (nI i &&& 1) (nI i >>> ((1 : Int32) &&& 31))) b < gV w (zS2 a b (nI i &&& 1) (1 - (nI i >>> ((1 : Int32) &&& 31)))) b → _) ∧ (¬ gV w (zS2 a b (nI i &&& 1) (nI i >>> ((1 : Int32) &&& 31))) b < gV w (zS2 a b (nI i &&& 1) (1 - (nI i >>> ((1 : Int32) &&& 31)))) b → _)
      exact ⟨fun h2 => ih (_, μ5) ⟨by rw [stp, if_pos h2], s5⟩, fun h2 => ih (_, μ5) ⟨by rw [stp, if_neg h2], s5⟩⟩
theorem ms_rests {n a b : Nat} {w : Nat → Int32} {μ : qa_M} {Q : Int32 → qa_M → Prop} (r : RZ w) (hw : μ.1 92 = w) (ha : a < zH w) (hb : b < zH w) (hn : 300 < n) (kk : ∀ μ', sc μ μ' → Q (itr (rsF w a b) 0 4 0) μ') : wX9_rests_17 n (nI a) (nI b) 0 0 μ Q := by
  refine inv_loopF 100 (fun n i (σ : Int32 × qa_M) => wX9_rests_17 n (nI a) (nI b) σ.1 i σ.2 Q) 4 (fun i σ => σ.1 = itr (rsF w a b) 0 i 0 ∧ sc μ σ.2) ?_ ?_ 4 0 (0, μ) n (by omega) (by omega) ⟨rfl, sc.rf μ⟩
  · intro n ⟨v1, μ1⟩ hm ⟨e1, s⟩
    dsimp only at e1 s ⊢
    simp (disch := omega) only [wX9_rests_17, l4, nle, not_true_eq_false, not_false_eq_true, false_implies, true_implies, and_true, true_and, and_self, nmM, if_true, if_false, or0, Int32.add_zero, forall_const, one_ne, zero_ne1, nz1, nz0, nI_z, cl, inN, Nat.le_refl, Nat.lt_irrefl, Nat.lt_succ_self, Bool.false_eq_true]
    rw [e1]
    exact kk μ1 s
  · intro n i ⟨v1, μ1⟩ hm hi ⟨e1, s1⟩ ih
    dsimp only at e1 s1 ⊢
    have hi' : ¬ 4 ≤ i := by omega
    have stp : itr (rsF w a b) 0 (i + 1) 0 = rsF w a b i v1 := by rw [itr_succ, Nat.zero_add, e1]
    generalize itr (rsF w a b) 0 (i + 1) 0 = X at stp ih
    unfold rsF at stp
    simp (disch := omega) only [wX9_rests_17, wX9_rests_93, wX9_rests_94, wX9_rests_110, l4, nle, hi', nI1, not_true_eq_false, not_false_eq_true, false_implies, true_implies, and_true, true_and, and_self, nmM, if_true, if_false, or0, Int32.add_zero, forall_const, one_ne, zero_ne1, nz1, nz0, nI_z, cl, inN, Nat.le_refl, Nat.lt_irrefl, Nat.lt_succ_self, Bool.false_eq_true]
    refine m_gets r hw s1 ha hb (Or.inl ⟨rfl, rfl⟩) rfl (by omega) (fun μ2 s2 => ?_)
    refine m_gets r hw s2 ha hb (Or.inl ⟨rfl, rfl⟩) rfl (by omega) (fun μ3 s3 => ?_)
    show (gV w (zS2 a b (nI i &&& 1) (nI i >>> ((1 : Int32) &&& 31))) a < gV w (zS2 a b (1 - (nI i &&& 1)) (nI i >>> ((1 : Int32) &&& 31))) a → _) ∧ (¬ gV w (zS2 a b (nI i &&& 1) (nI i >>> ((1 : Int32) &&& 31))) a < gV w (zS2 a b (1 - (nI i &&& 1)) (nI i >>> ((1 : Int32) &&& 31))) a → _)
    refine ⟨fun h => ?_, fun h => ?_⟩
    · exact ih (v1, μ3) ⟨by rw [stp, if_pos h], s3⟩
    · rw [if_neg h] at stp
      refine m_gets r hw s3 ha hb (Or.inr ⟨rfl, rfl⟩) rfl (by omega) (fun μ4 s4 => ?_)
      refine m_gets r hw s4 ha hb (Or.inr ⟨rfl, rfl⟩) rfl (by omega) (fun μ5 s5 => ?_)
      show (gV w (zS2 a b (nI i &&& 1) (nI i >>> ((1 : Int32) &&& 31))) b < gV w (zS2 a b (nI i &&& 1) (1 - (nI i >>> ((1 : Int32) &&& 31)))) b → _) ∧ (¬ gV w (zS2 a b (nI i &&& 1) (nI i >>> ((1 : Int32) &&& 31))) b < gV w (zS2 a b (nI i &&& 1) (1 - (nI i >>> ((1 : Int32) &&& 31)))) b → _)
      exact ⟨fun h2 => ih (_, μ5) ⟨by rw [stp, if_pos h2], s5⟩, fun h2 => ih (_, μ5) ⟨by rw [stp, if_neg h2], s5⟩⟩
theorem c_63 {Ln n : Nat} {xs : Nat → Int32} {K : Int32 → qa_M → Prop} {i : Int32} {μ : qa_M} (I : INV μ) (hn : 2000 ≤ n) (k : ∀ μ', INV μ' → K (i + 6) μ') (v1 : vp_in (i + 1) Ln) (v2 : vp_in (i + 2) Ln) (v3 : vp_in (i + 3) Ln) (v4 : vp_in (i + 4) Ln) (v5 : vp_in (i + 5) Ln) : wLc_63 Ln xs n K i μ := by
  unfold wLc_63
  simp only [v1, v2, v3, v4, v5, true_and]
  generalize xs (i + 1).toNatClampNeg = a
  generalize xs (i + 2).toNatClampNeg = b
  obtain ⟨w, hw⟩ : ∃ w, μ.1 92 = w := ⟨_, rfl⟩
  obtain ⟨r, T, E, G⟩ := I.facts hw
  obtain ⟨r1, r2, r3, r4⟩ := r.n0
  have L8 := G.1
  have N1 := r.2.1.1
  obtain ⟨W20, H8, hW, hH, plt, hpl, hpp, hfo, htu, hsu, hsm⟩ := id E
  by_cases g : (0 ≤ a.toInt ∧ a.toInt < (zH w : Int)) ∧ (0 ≤ b.toInt ∧ b.toInt < (zH w : Int)) ∧ ¬ a = b
  · obtain ⟨a, b, ha, hb, hab, rfl, rfl⟩ := pairN H8 g
    simp (disch := omega) only [wX8_rests, xPr1 T r ha hb hab, not_true_eq_false, not_false_eq_true, false_implies, true_implies, and_true, true_and, and_self, nmM, if_true, if_false, or0, Int32.add_zero, forall_const, one_ne, zero_ne1, nz1, nz0, nI_z, cl, inN, Nat.le_refl, Nat.lt_irrefl, Nat.lt_succ_self, Bool.false_eq_true]
    refine xs_rests I hw ha hb (by omega) (fun μ1 s1 => ?_)
    have hw1 := s1.w.trans hw
    simp (disch := omega) only [wX9_rests, mPr1 hw1 r ha hb hab, not_true_eq_false, not_false_eq_true, false_implies, true_implies, and_true, true_and, and_self, nmM, if_true, if_false, or0, Int32.add_zero, forall_const, one_ne, zero_ne1, nz1, nz0, nI_z, cl, inN, Nat.le_refl, Nat.lt_irrefl, Nat.lt_succ_self, Bool.false_eq_true]
    refine ms_rests r hw1 ha hb (by omega) (fun μ2 s2 => ?_)
    simp only [not_true_eq_false, not_false_eq_true, false_implies, true_implies, and_true, true_and, and_self, nmM, if_true, if_false, or0, Int32.add_zero, forall_const, one_ne, zero_ne1, nz1, nz0, nI_z, cl, inN, Nat.le_refl, Nat.lt_irrefl, Nat.lt_succ_self, Bool.false_eq_true]
    exact k μ2 ((I.sc s1).sc s2)
  · simp (disch := omega) only [wX8_rests, xPr0 T r g, not_true_eq_false, not_false_eq_true, false_implies, true_implies, and_true, true_and, and_self, nmM, if_true, if_false, or0, Int32.add_zero, forall_const, one_ne, zero_ne1, nz1, nz0, nI_z, cl, inN, Nat.le_refl, Nat.lt_irrefl, Nat.lt_succ_self, Bool.false_eq_true]
    simp (disch := omega) only [wX9_rests, mPr0 hw r g, not_true_eq_false, not_false_eq_true, false_implies, true_implies, and_true, true_and, and_self, nmM, if_true, if_false, or0, Int32.add_zero, forall_const, one_ne, zero_ne1, nz1, nz0, nI_z, cl, inN, Nat.le_refl, Nat.lt_irrefl, Nat.lt_succ_self, Bool.false_eq_true]
    exact k μ I
