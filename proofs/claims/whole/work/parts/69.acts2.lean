theorem l30 : (30 : Int32) = nI 30 := rfl
theorem c8n : (8 : Int32).toNatClampNeg = 8 := rfl
def NEWX (μ μ1 : qa_M) (w' : Nat → Int32) : Prop := kp μ μ1 ∧ μ1.1 1 4 = 0 ∧ TZ μ1 (μ1.2.2 1 2) w' ∧ YR μ1 33 34 35 36 (zW w') w' (oT w')
theorem INV.t2 {μ : qa_M} (I : INV μ) : μ.2.2 1 2 = 3 ∨ μ.2.2 1 2 = 16 := by
  rcases I.2.1 with ⟨h, -⟩ | ⟨h, -⟩
  · exact Or.inl h
  · exact Or.inr h
theorem NEWX.inv {μ μ1 μ1' μ2 : qa_M} {w' : Nat → Int32} (I : INV μ) (N : NEWX μ μ1 w') (r' : RZ w') (o : onlyA 92 μ1 μ1') (h92 : μ1'.1 92 = w') (s : sc μ1' μ2) : INV μ2 := by
  obtain ⟨n1, n2, n3, n4⟩ := N
  have t2 : μ1.2.2 1 2 = 3 ∨ μ1.2.2 1 2 = 16 := by rw [n1.1]; exact I.t2
  have k1 : kp μ μ1' := n1.tr ⟨by rw [o.1], fun b j hb => o.2 b j (by omega), ⟨o.2 _ _ (by omega), o.2 _ _ (by omega), o.2 _ _ (by omega)⟩, fun b j _ _ => by rw [o.1]⟩
  refine (I.new k1 (by rw [h92]; exact r') ?_ ?_ (by rw [o.2 _ _ (by omega)]; exact n2)).sc s
  · rw [h92, o.1]
    exact n3.mono (fun j x hj => o.2 _ _ (by omega)) rfl
  · rw [h92]
    exact n4.mono (fun b j hb => o.2 _ _ (by omega))
/-- after the town has changed: the year told anew -/
theorem x_new {n : Nat} {w' : Nat → Int32} {μ μ1 : qa_M} {Q : qa_M → Prop} (I : INV μ) (c : kp μ μ1) (r' : RZ w') (T : TZ μ1 (μ1.2.2 1 2) w') (hn : 60 < n) (kk : ∀ μ', NEWX μ μ' w' → μ'.2 = μ1.2 → (∀ b j, b ≠ 31 → b ≠ 33 → b ≠ 34 → b ≠ 35 → b ≠ 36 → b ≠ 1 → μ'.1 b j = μ1.1 b j) → Q μ') : wX8_renew n μ1 Q := by
  have t2 : μ1.2.2 1 2 = 3 ∨ μ1.2.2 1 2 = 16 := by rw [c.1]; exact I.t2
  refine x_renew t2 r' T hn (fun μ' e1 e2 e3 Y => ?_)
  refine kk μ' ⟨c.tr ⟨by rw [e1], fun b j hb => e2 b j (by omega) (by omega) (by omega) (by omega) (by omega) (by omega), ⟨e2 _ _ (by omega) (by omega) (by omega) (by omega) (by omega) (by omega), e2 _ _ (by omega) (by omega) (by omega) (by omega) (by omega) (by omega), e2 _ _ (by omega) (by omega) (by omega) (by omega) (by omega) (by omega)⟩, fun b j _ _ => by rw [e1]⟩, e3, ?_, Y⟩ e1 (fun b j h1 h2 h3 h4 h5 h6 => e2 b j h1 h2 h3 h4 h5 (by omega))
  rw [e1]
  exact T.mono (fun j x hj => e2 _ _ (by omega) (by omega) (by omega) (by omega) (by omega) (by omega)) rfl
theorem x_addAct {n t c H W : Nat} {x y z : Int32} {w' : Nat → Int32} {μ : qa_M} {Q : qa_M → Prop} (hH : H ≤ 8) (hW : W ≤ 20) (h0 : μ.1 (t + 7) 0 = nI c) (hc : c < 30) (e5 : μ.1 (t + 7) 5 = swapW w' c) (e11 : ∀ j, j < 20 → μ.1 (t + 11) j = restW w' c j) (A : ∀ μ' : qa_M, μ'.1 (t + 8) c = x → μ'.1 (t + 9) c = y → μ'.1 (t + 10) c = z → actX μ' t w' H W c)
    (kk : ∀ μ', μ'.2 = μ.2 → (∀ b j, b ≠ t + 7 → b ≠ t + 11 → ((b = t + 8 ∨ b = t + 9 ∨ b = t + 10) → j ≠ c) → μ'.1 b j = μ.1 b j) → μ'.1 (t + 7) 0 = nI (c + 1) → μ'.1 (t + 7) 5 = swapW w' (c + 1) → (∀ j, j < 20 → μ'.1 (t + 11) j = restW w' (c + 1) j) → actX μ' t w' H W c → Q μ') : wX0_add n t x y z μ Q := by
  unfold wX0_add
  have c1 : ¬ 30 ≤ c := by omega
  simp (disch := omega) only [h0, l30, nle, c1, uIn, not_true_eq_false, not_false_eq_true, false_implies, true_implies, and_true, true_and, and_self, nmM, if_true, if_false, or0, Int32.add_zero, forall_const, one_ne, zero_ne1, nz1, nz0, nI_z, cl, inN, Nat.le_refl, Nat.lt_irrefl, Nat.lt_succ_self, Bool.false_eq_true]
  have f8 : (qa_uI (qa_uI (qa_uI μ (t + 8) c x) (t + 9) c y) (t + 10) c z).1 (t + 8) c = x := by rw [uIn _ _ (by omega), uIn _ _ (by omega), uIs]
  have f9 : (qa_uI (qa_uI (qa_uI μ (t + 8) c x) (t + 9) c y) (t + 10) c z).1 (t + 9) c = y := by rw [uIn _ _ (by omega), uIs]
  have f10 : (qa_uI (qa_uI (qa_uI μ (t + 8) c x) (t + 9) c y) (t + 10) c z).1 (t + 10) c = z := uIs _ _ _ _
  have fo : ∀ b j, ((b = t + 8 ∨ b = t + 9 ∨ b = t + 10) → j ≠ c) → (qa_uI (qa_uI (qa_uI μ (t + 8) c x) (t + 9) c y) (t + 10) c z).1 b j = μ.1 b j := fun b j h => by rw [uIn _ _ (by omega), uIn _ _ (by omega), uIn _ _ (by omega)]
  refine x_note (c := c) hH hW hc (A _ f8 f9 f10) (by rw [fo _ _ (by omega)]; exact e5) (fun j hj => by rw [fo _ _ (by omega)]; exact e11 j hj) (fun μ2 g1 g2 g3 g4 => ?_)
  have z0 : μ2.1 (t + 7) 0 = nI c := by rw [g2 _ _ (by omega) (by omega), fo _ _ (by omega)]; exact h0
  rw [z0, nI1]
  refine kk _ g1 (fun b j h1 h2 h3 => ?_) (uIs _ _ _ _) ?_ (fun j hj => ?_) ?_
  · rw [uIn _ _ (by omega), g2 b j h2 (by omega), fo b j h3]
  · rw [uIn _ _ (by omega)]; exact g3
  · rw [uIn _ _ (by omega)]; exact g4 j hj
  · refine A _ ?_ ?_ ?_
    · rw [uIn _ _ (by omega), g2 _ _ (by omega) (by omega)]; exact f8
    · rw [uIn _ _ (by omega), g2 _ _ (by omega) (by omega)]; exact f9
    · rw [uIn _ _ (by omega), g2 _ _ (by omega) (by omega)]; exact f10
/-- a world with one act more -/
def wA (w : Nat → Int32) (x : Int32) : Nat → Int32 := fun j => if j = 8 then nI (zA w + 1) else if j = 84 + zA w then x else w j
theorem wA_o (w : Nat → Int32) (x : Int32) {j : Nat} (h1 : j ≠ 8) (h2 : j ≠ 84 + zA w) : wA w x j = w j := by unfold wA; rw [if_neg h1, if_neg h2]
theorem wA_x (w : Nat → Int32) (x : Int32) : wA w x (84 + zA w) = x := by unfold wA; rw [if_neg (by omega), if_pos rfl]
theorem kp_town {t : Nat} {μ μ' : qa_M} (ht : t = 3 ∨ t = 16) (e1 : μ'.2 = μ.2) (e2 : ∀ b j, (b < t ∨ t + 11 < b) → μ'.1 b j = μ.1 b j) : kp μ μ' := ⟨by rw [e1], fun b j hb => e2 b j (by omega), ⟨e2 _ _ (by omega), e2 _ _ (by omega), e2 _ _ (by omega)⟩, fun b j _ _ => by rw [e1]⟩
theorem x_act {n a v : Nat} {p x : Int32} {w : Nat → Int32} {μ : qa_M} {Q : Int32 → qa_M → Prop} (I : INV μ) (hw : μ.1 92 = w) (ha : a < zH w) (hv : v < zW w) (hx : (p = -1 ∧ x = nI (10000 + 100 * a + v)) ∨ ∃ b, b < zH w ∧ a ≠ b ∧ p = nI b ∧ x = nI (1000 * a + 100 * b + v)) (hn : 70 < n) (k0 : ¬ zA w < 30 → Q (-5) μ) (k1 : zA w < 30 → RZ (wA w x) → ∀ μ', NEWX μ μ' (wA w x) → μ'.1 92 = w → Q (nI (yp (wA w x) (oT (wA w x)) (zW w) a)) μ') : wX8_act n (nI a) p (nI v) μ Q := by
  obtain ⟨r, T, E, G⟩ := I.facts hw
  have H8 := r.2.1.2.2.2.1
  have W20 := r.2.1.2.1
  have A30 := r.2.1.2.2.2.2.2.2.2
  have t2 := I.t2
  have T0 := T
  obtain ⟨-, -, -, ⟨d1, d2, d3⟩, f0⟩ := T0
  have f : ∀ i, i < zA w → actX μ (μ.2.2 1 2) w (zH w) (zW w) i := f0
  unfold wX8_act
  rw [d1, l30, nlt _ _ (by omega) (by omega)]
  refine ⟨fun hA => ?_, k0⟩
  have wo : ∀ j, j < zA w → wA w x (84 + j) = w (84 + j) := fun j hj => wA_o w x (by omega) (by omega)
  have w84 : ∀ j, j < 84 → j ≠ 8 → wA w x j = w j := fun j h1 h2 => wA_o w x h2 (by omega)
  have ax : ∀ μ' : qa_M, μ'.1 (μ.2.2 1 2 + 8) (zA w) = nI a → μ'.1 (μ.2.2 1 2 + 9) (zA w) = p → μ'.1 (μ.2.2 1 2 + 10) (zA w) = nI v → actX μ' (μ.2.2 1 2) (wA w x) (zH w) (zW w) (zA w) := by
    intro μ' g1 g2 g3
    rcases hx with ⟨rfl, e⟩ | ⟨b, hb, hab, rfl, e⟩
    · exact Or.inl ⟨a, v, ha, hv, (wA_x w x).trans e, g1, g2, g3⟩
    · exact Or.inr ⟨a, b, v, ha, hb, hab, hv, (wA_x w x).trans e, g1, g2, g3⟩
  have am : ∀ i, i < zA w + 1 → actM (wA w x) (zH w) (zW w) i := by
    intro i hi
    by_cases c : i = zA w
    · rw [c]
      rcases hx with ⟨-, e⟩ | ⟨b, hb, hab, -, e⟩
      · exact Or.inl ⟨a, v, ha, hv, (wA_x w x).trans e⟩
      · exact Or.inr ⟨a, b, v, ha, hb, hab, hv, (wA_x w x).trans e⟩
    · have q := actX.m (f i (by omega))
      unfold actM at q ⊢
      rw [wo i (by omega)]
      exact q
  obtain ⟨r', z8⟩ := r.acts (w' := wA w x) w84 rfl (by omega) am
  obtain ⟨-, zw, -⟩ := z_c (w := w) (w' := wA w x) (fun j hj h8 => w84 j (by omega) h8)
  refine x_addAct (w' := wA w x) H8 W20 d1 hA (by rw [d2]; exact (swapW_c wo).symm) (fun j hj => by rw [d3 j hj]; exact (restW_c wo).symm) ax (fun μ1 g1 g2 g3 g4 g5 g6 => ?_)
  have T1 : TZ μ1 (μ1.2.2 1 2) (wA w x) := by
    rw [g1]
    refine T.acts r w84 z8 (fun j y hj => g2 _ _ (by omega) (by omega) (by omega)) g3 g4 g5 (fun i hi => ?_)
    by_cases c : i = zA w
    · rw [c]; exact g6
    · exact (f i (by omega)).mono (g2 _ _ (by omega) (by omega) (by omega)) (g2 _ _ (by omega) (by omega) (by omega)) (g2 _ _ (by omega) (by omega) (by omega)) (wo i (by omega))
  have c1 : kp μ μ1 := kp_town t2 g1 (fun b j hb => g2 b j (by omega) (by omega) (by omega))
  refine x_new I c1 r' T1 (by omega) (fun μ2 N e1 e2 => ?_)
  have tW : μ2.1 (μ2.2.2 1 2) 1 = nI (zW (wA w x)) := N.2.2.1.1.2.1
  have y2 := N.2.2.2.1 (zW (wA w x)) (Nat.le_refl _) a (by have := (z_c (w := w) (w' := wA w x) (fun j hj h8 => w84 j (by omega) h8)).2.2.2.1; omega)
  rw [tW, s_spot (by omega)]
  show Q (μ2.1 33 _) μ2
  rw [y2, zw]
  refine k1 hA r' μ2 N ?_
  rw [← hw]
  exact funext (fun j => (e2 92 j (by omega) (by omega) (by omega) (by omega) (by omega) (by omega)).trans (g2 92 j (by omega) (by omega) (by omega)))
theorem m_act {n a : Nat} {x : Int32} {w : Nat → Int32} {μ0 μ : qa_M} {Q : Int32 → qa_M → Prop} (I : INV μ0) (r : RZ w) (hw : μ.1 92 = w) (ha : a < zH w) (hn : 70 < n) (k0 : ¬ zA w < 30 → Q (-5) μ) (k1 : zA w < 30 → RZ (wA w x) ∧ NEWX μ0 μ (wA w x) ∧ ∀ μ', INV μ' → Q (nI (yp (wA w x) (oT (wA w x)) (zW w) a)) μ') : wX9_keepAct n x (nI a) μ Q := by
  have H8 := r.2.1.2.2.2.1
  have W20 := r.2.1.2.1
  have A30 := r.2.1.2.2.2.2.2.2.2
  have h8 : μ.1 92 8 = nI (zA w) := by rw [hw]; exact r.1.2.2.2.2.2.2.2
  have e30 : (nI (zA w) = 30) = (zA w = 30) := by rw [l30]; exact neq _ _ (by omega) (by omega)
  have ix : (84 : Int32) + nI (zA w) = nI (84 + zA w) := by rw [show (84 : Int32) = nI 84 from rfl, nI_add]
  have w84 : ∀ j, j < 84 → j ≠ 8 → wA w x j = w j := fun j h1 h2 => wA_o w x h2 (by omega)
  obtain ⟨-, zw, -, zh, -⟩ := z_c (w := w) (w' := wA w x) (fun j hj h8 => w84 j (by omega) h8)
  unfold wX9_keepAct
  simp (disch := omega) only [c8n, h8, e30, ix, uIn, nI1, not_true_eq_false, not_false_eq_true, false_implies, true_implies, and_true, true_and, and_self, nmM, if_true, if_false, or0, Int32.add_zero, forall_const, one_ne, zero_ne1, nz1, nz0, nI_z, cl, inN, Nat.le_refl, Nat.lt_irrefl, Nat.lt_succ_self, Bool.false_eq_true]
  refine ⟨fun c => ?_, fun c => k0 (by omega)⟩
  obtain ⟨r', N, k1⟩ := k1 (by omega)
  refine ⟨inN (by omega) (by decide), ?_⟩
  have h92 : (qa_uI (qa_uI μ 92 (84 + zA w) x) 92 8 (nI (zA w + 1))).1 92 = wA w x := by
    funext j
    rw [uI1, uI1]
    unfold wA
    by_cases c1 : j = 8
    · rw [if_pos ⟨rfl, c1⟩, if_pos c1]
    · rw [if_neg (fun q => c1 q.2), if_neg c1]
      by_cases c2 : j = 84 + zA w
      · rw [if_pos ⟨rfl, c2⟩, if_pos c2]
      · rw [if_neg (fun q => c2 q.2), if_neg c2, hw]
  refine m_asks2 h92 r' (by omega) (fun μ3 s3 h3 M3 E3 => ?_)
  have hW3 : μ3.1 92 0 = nI (zW (wA w x)) := E3.2.2.1
  have p3 := E3.2.2.2.2.2.1 (zW (wA w x)) (Nat.le_refl _) a (by omega)
  rw [s_mweeks, hW3, s_placeOf (by omega), p3, zw]
  exact k1 μ3 (N.inv I r' (((onlyA.rf 92 μ).put _ _).put _ _) h92 s3)
theorem c_67 {Ln n : Nat} {xs : Nat → Int32} {K : Int32 → qa_M → Prop} {i : Int32} {μ : qa_M} (I : INV μ) (hn : 2000 ≤ n) (k : ∀ μ', INV μ' → K (i + 6) μ') (v1 : vp_in (i + 1) Ln) (v2 : vp_in (i + 2) Ln) (v3 : vp_in (i + 3) Ln) (v4 : vp_in (i + 4) Ln) (v5 : vp_in (i + 5) Ln) : wLc_67 Ln xs n K i μ := by
  unfold wLc_67
  simp only [v1, v2, v3, v4, v5, true_and]
  generalize xs (i + 1).toNatClampNeg = a
  generalize xs (i + 2).toNatClampNeg = b
  obtain ⟨w, hw⟩ : ∃ w, μ.1 92 = w := ⟨_, rfl⟩
  obtain ⟨r, T, E, G⟩ := I.facts hw
  obtain ⟨r1, r2, r3, r4⟩ := r.n0
  have L8 := G.1
  have N1 := r.2.1.1
  obtain ⟨W20, H8, hW, hH, plt, hpl, hpp, hfo, htu, hsu, hsm⟩ := id E
  by_cases ga : 0 ≤ a.toInt ∧ a.toInt < (zH w : Int)
  · obtain ⟨a, ha, rfl⟩ := gN ga (by omega)
    by_cases gb : 0 < zN w ∧ 0 ≤ b.toInt ∧ b.toInt < (zW w : Int)
    · have n0 := gb.1
      obtain ⟨b, hb, rfl⟩ := gN gb.2 (by omega)
      have ex : ((10000 : Int32) + ((100 : Int32) * nI a)) + nI b = nI (10000 + 100 * a + b) := by rw [show (10000 : Int32) = nI 10000 from rfl, show (100 : Int32) = nI 100 from rfl, pk_mul, nI_add, nI_add]
      simp (disch := omega) only [wX8_rest, xH1 T r, xA1 T r n0 hb, not_true_eq_false, not_false_eq_true, false_implies, true_implies, and_true, true_and, and_self, nmM, if_true, if_false, or0, Int32.add_zero, forall_const, one_ne, zero_ne1, nz1, nz0, nI_z, cl, inN, Nat.le_refl, Nat.lt_irrefl, Nat.lt_succ_self, Bool.false_eq_true]
      refine x_act (x := nI (10000 + 100 * a + b)) I hw ha hb (Or.inl ⟨rfl, rfl⟩) (by omega) (fun hA => ?_) (fun hA r' μ1 N hw1 => ?_)
      · simp (disch := omega) only [wX9_rest, mH1 hw r, mA1 hw r n0 hb, ex, not_true_eq_false, not_false_eq_true, false_implies, true_implies, and_true, true_and, and_self, nmM, if_true, if_false, or0, Int32.add_zero, forall_const, one_ne, zero_ne1, nz1, nz0, nI_z, cl, inN, Nat.le_refl, Nat.lt_irrefl, Nat.lt_succ_self, Bool.false_eq_true]
        refine m_act I r hw ha (by omega) (fun _ => ?_) (fun h => absurd h hA)
        simp only [not_true_eq_false, not_false_eq_true, false_implies, true_implies, and_true, true_and, and_self, nmM, if_true, if_false, or0, Int32.add_zero, forall_const, one_ne, zero_ne1, nz1, nz0, nI_z, cl, inN, Nat.le_refl, Nat.lt_irrefl, Nat.lt_succ_self, Bool.false_eq_true]
        exact k μ I
      · simp (disch := omega) only [wX9_rest, mH1 hw1 r, mA1 hw1 r n0 hb, ex, not_true_eq_false, not_false_eq_true, false_implies, true_implies, and_true, true_and, and_self, nmM, if_true, if_false, or0, Int32.add_zero, forall_const, one_ne, zero_ne1, nz1, nz0, nI_z, cl, inN, Nat.le_refl, Nat.lt_irrefl, Nat.lt_succ_self, Bool.false_eq_true]
        refine m_act I r hw1 ha (by omega) (fun h => absurd hA h) (fun _ => ⟨r', N, fun μ2 I2 => ?_⟩)
        simp only [not_true_eq_false, not_false_eq_true, false_implies, true_implies, and_true, true_and, and_self, nmM, if_true, if_false, or0, Int32.add_zero, forall_const, one_ne, zero_ne1, nz1, nz0, nI_z, cl, inN, Nat.le_refl, Nat.lt_irrefl, Nat.lt_succ_self, Bool.false_eq_true]
        exact k μ2 I2
    · simp (disch := omega) only [wX8_rest, xH1 T r, xA0 T r gb, not_true_eq_false, not_false_eq_true, false_implies, true_implies, and_true, true_and, and_self, nmM, if_true, if_false, or0, Int32.add_zero, forall_const, one_ne, zero_ne1, nz1, nz0, nI_z, cl, inN, Nat.le_refl, Nat.lt_irrefl, Nat.lt_succ_self, Bool.false_eq_true]
      simp (disch := omega) only [wX9_rest, mH1 hw r, mA0 hw r gb, not_true_eq_false, not_false_eq_true, false_implies, true_implies, and_true, true_and, and_self, nmM, if_true, if_false, or0, Int32.add_zero, forall_const, one_ne, zero_ne1, nz1, nz0, nI_z, cl, inN, Nat.le_refl, Nat.lt_irrefl, Nat.lt_succ_self, Bool.false_eq_true]
      exact k μ I
  · simp (disch := omega) only [wX8_rest, xH0 T r ga, not_true_eq_false, not_false_eq_true, false_implies, true_implies, and_true, true_and, and_self, nmM, if_true, if_false, or0, Int32.add_zero, forall_const, one_ne, zero_ne1, nz1, nz0, nI_z, cl, inN, Nat.le_refl, Nat.lt_irrefl, Nat.lt_succ_self, Bool.false_eq_true]
    simp (disch := omega) only [wX9_rest, mH0 hw r ga, not_true_eq_false, not_false_eq_true, false_implies, true_implies, and_true, true_and, and_self, nmM, if_true, if_false, or0, Int32.add_zero, forall_const, one_ne, zero_ne1, nz1, nz0, nI_z, cl, inN, Nat.le_refl, Nat.lt_irrefl, Nat.lt_succ_self, Bool.false_eq_true]
    exact k μ I
theorem c_68 {Ln n : Nat} {xs : Nat → Int32} {K : Int32 → qa_M → Prop} {i : Int32} {μ : qa_M} (I : INV μ) (hn : 2000 ≤ n) (k : ∀ μ', INV μ' → K (i + 6) μ') (v1 : vp_in (i + 1) Ln) (v2 : vp_in (i + 2) Ln) (v3 : vp_in (i + 3) Ln) (v4 : vp_in (i + 4) Ln) (v5 : vp_in (i + 5) Ln) : wLc_68 Ln xs n K i μ := by
  unfold wLc_68
  simp only [v1, v2, v3, v4, v5, true_and]
  generalize xs (i + 1).toNatClampNeg = a
  generalize xs (i + 2).toNatClampNeg = b
  generalize xs (i + 3).toNatClampNeg = c
  obtain ⟨w, hw⟩ : ∃ w, μ.1 92 = w := ⟨_, rfl⟩
  obtain ⟨r, T, E, G⟩ := I.facts hw
  obtain ⟨r1, r2, r3, r4⟩ := r.n0
  have L8 := G.1
  have N1 := r.2.1.1
  obtain ⟨W20, H8, hW, hH, plt, hpl, hpp, hfo, htu, hsu, hsm⟩ := id E
  by_cases g : (0 ≤ a.toInt ∧ a.toInt < (zH w : Int)) ∧ (0 ≤ b.toInt ∧ b.toInt < (zH w : Int)) ∧ ¬ a = b
  · obtain ⟨a, b, ha, hb, hab, rfl, rfl⟩ := pairN H8 g
    by_cases gc : 0 < zN w ∧ 0 ≤ c.toInt ∧ c.toInt < (zW w : Int)
    · have n0 := gc.1
      obtain ⟨c, hc, rfl⟩ := gN gc.2 (by omega)
      have ex : (((1000 : Int32) * nI a) + ((100 : Int32) * nI b)) + nI c = nI (1000 * a + 100 * b + c) := by rw [show (1000 : Int32) = nI 1000 from rfl, show (100 : Int32) = nI 100 from rfl, pk_mul, pk_mul, nI_add, nI_add]
      simp (disch := omega) only [wX8_swap, xPr1 T r ha hb hab, xA1 T r n0 hc, not_true_eq_false, not_false_eq_true, false_implies, true_implies, and_true, true_and, and_self, nmM, if_true, if_false, or0, Int32.add_zero, forall_const, one_ne, zero_ne1, nz1, nz0, nI_z, cl, inN, Nat.le_refl, Nat.lt_irrefl, Nat.lt_succ_self, Bool.false_eq_true]
      refine x_act (x := nI (1000 * a + 100 * b + c)) I hw ha hc (Or.inr ⟨b, hb, hab, rfl, rfl⟩) (by omega) (fun hA => ?_) (fun hA r' μ1 N hw1 => ?_)
      · simp (disch := omega) only [wX9_swap, mPr1 hw r ha hb hab, mA1 hw r n0 hc, ex, not_true_eq_false, not_false_eq_true, false_implies, true_implies, and_true, true_and, and_self, nmM, if_true, if_false, or0, Int32.add_zero, forall_const, one_ne, zero_ne1, nz1, nz0, nI_z, cl, inN, Nat.le_refl, Nat.lt_irrefl, Nat.lt_succ_self, Bool.false_eq_true]
        refine m_act I r hw ha (by omega) (fun _ => ?_) (fun h => absurd h hA)
        simp only [not_true_eq_false, not_false_eq_true, false_implies, true_implies, and_true, true_and, and_self, nmM, if_true, if_false, or0, Int32.add_zero, forall_const, one_ne, zero_ne1, nz1, nz0, nI_z, cl, inN, Nat.le_refl, Nat.lt_irrefl, Nat.lt_succ_self, Bool.false_eq_true]
        exact k μ I
      · simp (disch := omega) only [wX9_swap, mPr1 hw1 r ha hb hab, mA1 hw1 r n0 hc, ex, not_true_eq_false, not_false_eq_true, false_implies, true_implies, and_true, true_and, and_self, nmM, if_true, if_false, or0, Int32.add_zero, forall_const, one_ne, zero_ne1, nz1, nz0, nI_z, cl, inN, Nat.le_refl, Nat.lt_irrefl, Nat.lt_succ_self, Bool.false_eq_true]
        refine m_act I r hw1 ha (by omega) (fun h => absurd hA h) (fun _ => ⟨r', N, fun μ2 I2 => ?_⟩)
        simp only [not_true_eq_false, not_false_eq_true, false_implies, true_implies, and_true, true_and, and_self, nmM, if_true, if_false, or0, Int32.add_zero, forall_const, one_ne, zero_ne1, nz1, nz0, nI_z, cl, inN, Nat.le_refl, Nat.lt_irrefl, Nat.lt_succ_self, Bool.false_eq_true]
        exact k μ2 I2
    · simp (disch := omega) only [wX8_swap, xPr1 T r ha hb hab, xA0 T r gc, not_true_eq_false, not_false_eq_true, false_implies, true_implies, and_true, true_and, and_self, nmM, if_true, if_false, or0, Int32.add_zero, forall_const, one_ne, zero_ne1, nz1, nz0, nI_z, cl, inN, Nat.le_refl, Nat.lt_irrefl, Nat.lt_succ_self, Bool.false_eq_true]
      simp (disch := omega) only [wX9_swap, mPr1 hw r ha hb hab, mA0 hw r gc, not_true_eq_false, not_false_eq_true, false_implies, true_implies, and_true, true_and, and_self, nmM, if_true, if_false, or0, Int32.add_zero, forall_const, one_ne, zero_ne1, nz1, nz0, nI_z, cl, inN, Nat.le_refl, Nat.lt_irrefl, Nat.lt_succ_self, Bool.false_eq_true]
      exact k μ I
  · simp (disch := omega) only [wX8_swap, xPr0 T r g, not_true_eq_false, not_false_eq_true, false_implies, true_implies, and_true, true_and, and_self, nmM, if_true, if_false, or0, Int32.add_zero, forall_const, one_ne, zero_ne1, nz1, nz0, nI_z, cl, inN, Nat.le_refl, Nat.lt_irrefl, Nat.lt_succ_self, Bool.false_eq_true]
    simp (disch := omega) only [wX9_swap, mPr0 hw r g, not_true_eq_false, not_false_eq_true, false_implies, true_implies, and_true, true_and, and_self, nmM, if_true, if_false, or0, Int32.add_zero, forall_const, one_ne, zero_ne1, nz1, nz0, nI_z, cl, inN, Nat.le_refl, Nat.lt_irrefl, Nat.lt_succ_self, Bool.false_eq_true]
    exact k μ I
/-- a world with the first c acts alone -/
def wB (w : Nat → Int32) (c : Nat) : Nat → Int32 := fun j => if j = 8 then nI c else w j
theorem wB_o (w : Nat → Int32) (c : Nat) {j : Nat} (h1 : j ≠ 8) : wB w c j = w j := by unfold wB; rw [if_neg h1]
theorem x_keep {n c : Nat} {w : Nat → Int32} {μ : qa_M} {Q : qa_M → Prop} (I : INV μ) (hw : μ.1 92 = w) (hc : c ≤ zA w) (hn : 70 < n) (k1 : RZ (wB w c) → ∀ μ', NEWX μ μ' (wB w c) → μ'.1 92 = w → μ'.1 (μ'.2.2 1 2 + 7) 0 = nI c → Q μ') : wX0_keepFirst n (μ.2.2 1 2) (nI c) μ (fun μ4 => wX8_renew n μ4 Q) := by
  obtain ⟨r, T, E, G⟩ := I.facts hw
  have H8 := r.2.1.2.2.2.1
  have W20 := r.2.1.2.1
  have A30 := r.2.1.2.2.2.2.2.2.2
  have t2 := I.t2
  have T0 := T
  obtain ⟨-, -, -, ⟨d1, d2, d3⟩, f0⟩ := T0
  have f : ∀ i, i < zA w → actX μ (μ.2.2 1 2) w (zH w) (zW w) i := f0
  unfold wX0_keepFirst
  rw [nmM]
  have w84 : ∀ j, j < 84 → j ≠ 8 → wB w c j = w j := fun j h1 h2 => wB_o w c h2
  have am : ∀ i, i < c → actM (wB w c) (zH w) (zW w) i := by
    intro i hi
    have q := actX.m (f i (by omega))
    unfold actM at q ⊢
    rw [wB_o w c (by omega)]
    exact q
  obtain ⟨r', z8⟩ := r.acts (w' := wB w c) w84 rfl (by omega) am
  refine x_noteAll (c := c) (w := wB w c) H8 W20 (uIs _ _ _ _) (by omega) (fun i hi => (f i (by omega)).mono (uIn _ _ (by omega)) (uIn _ _ (by omega)) (uIn _ _ (by omega)) (wB_o w c (by omega))) (by omega) (fun μ1 g1 g2 g3 g4 => ?_)
  have gg : ∀ b j, b ≠ μ.2.2 1 2 + 11 → b ≠ μ.2.2 1 2 + 7 → μ1.1 b j = μ.1 b j := fun b j h1 h2 => by rw [g2 b j h1 (by omega), uIn _ _ (by omega)]
  have z0 : μ1.1 (μ.2.2 1 2 + 7) 0 = nI c := by rw [g2 _ _ (by omega) (by omega), uIs]
  have T1 : TZ μ1 (μ1.2.2 1 2) (wB w c) := by
    rw [show μ1.2 = μ.2 from g1]
    exact T.acts r w84 z8 (fun j y hj => gg _ _ (by omega) (by omega)) z0 g3 g4 (fun i hi => (f i (by omega)).mono (gg _ _ (by omega) (by omega)) (gg _ _ (by omega) (by omega)) (gg _ _ (by omega) (by omega)) (wB_o w c (by omega)))
  have c1 : kp μ μ1 := kp_town t2 g1 (fun b j hb => gg b j (by omega) (by omega))
  refine x_new I c1 r' T1 (by omega) (fun μ2 N e1 e2 => ?_)
  refine k1 r' μ2 N ?_ ?_
  · rw [← hw]
    exact funext (fun j => (e2 92 j (by omega) (by omega) (by omega) (by omega) (by omega) (by omega)).trans (gg 92 j (by omega) (by omega)))
  · rw [e1, show μ1.2 = μ.2 from g1, e2 _ _ (by omega) (by omega) (by omega) (by omega) (by omega) (by omega)]
    exact z0
theorem wB_92 {w : Nat → Int32} {c : Nat} {μ : qa_M} (hw : μ.1 92 = w) : (qa_uI μ 92 8 (nI c)).1 92 = wB w c := by
  funext j
  rw [uI1]
  unfold wB
  by_cases c1 : j = 8
  · rw [if_pos ⟨rfl, c1⟩, if_pos c1]
  · rw [if_neg (fun q => c1 q.2), if_neg c1, hw]
theorem c_69 {Ln n : Nat} {xs : Nat → Int32} {K : Int32 → qa_M → Prop} {i : Int32} {μ : qa_M} (I : INV μ) (hn : 2000 ≤ n) (k : ∀ μ', INV μ' → K (i + 6) μ') (v1 : vp_in (i + 1) Ln) (v2 : vp_in (i + 2) Ln) (v3 : vp_in (i + 3) Ln) (v4 : vp_in (i + 4) Ln) (v5 : vp_in (i + 5) Ln) : wLc_69 Ln xs n K i μ := by
  unfold wLc_69
  obtain ⟨w, hw⟩ : ∃ w, μ.1 92 = w := ⟨_, rfl⟩
  obtain ⟨r, T, E, G⟩ := I.facts hw
  obtain ⟨r1, r2, r3, r4⟩ := r.n0
  have L8 := G.1
  have N1 := r.2.1.1
  obtain ⟨W20, H8, hW, hH, plt, hpl, hpp, hfo, htu, hsu, hsm⟩ := id E
  have A30 := r.2.1.2.2.2.2.2.2.2
  have d1 : μ.1 (μ.2.2 1 2 + 7) 0 = nI (zA w) := T.2.2.2.1.1
  have h8 : ∀ {μ1 : qa_M}, μ1.1 92 = w → μ1.1 92 8 = nI (zA w) := fun h => by rw [h]; exact r.1.2.2.2.2.2.2.2
  by_cases gT : 0 < zN w
  · by_cases c0 : zA w = 0
    · simp (disch := omega) only [wX8_undo, xT1 T r gT, d1, c0, not_true_eq_false, not_false_eq_true, false_implies, true_implies, and_true, true_and, and_self, nmM, if_true, if_false, or0, Int32.add_zero, forall_const, one_ne, zero_ne1, nz1, nz0, nI_z, cl, inN, Nat.le_refl, Nat.lt_irrefl, Nat.lt_succ_self, Bool.false_eq_true]
      simp (disch := omega) only [wX9_undo, mT1 hw r gT, c8n, h8 hw, c0, not_true_eq_false, not_false_eq_true, false_implies, true_implies, and_true, true_and, and_self, nmM, if_true, if_false, or0, Int32.add_zero, forall_const, one_ne, zero_ne1, nz1, nz0, nI_z, cl, inN, Nat.le_refl, Nat.lt_irrefl, Nat.lt_succ_self, Bool.false_eq_true]
      exact k μ I
    · have e1 : nI (zA w) - 1 = nI (zA w - 1) := by rw [l1, pk_sub (by omega)]
      simp (disch := omega) only [wX8_undo, xT1 T r gT, d1, c0, e1, not_true_eq_false, not_false_eq_true, false_implies, true_implies, and_true, true_and, and_self, nmM, if_true, if_false, or0, Int32.add_zero, forall_const, one_ne, zero_ne1, nz1, nz0, nI_z, cl, inN, Nat.le_refl, Nat.lt_irrefl, Nat.lt_succ_self, Bool.false_eq_true]
      refine x_keep I hw (by omega) (by omega) (fun r' μ1 N hw1 z1 => ?_)
      simp (disch := omega) only [z1, wX9_undo, mT1 hw1 r gT, c8n, h8 hw1, c0, e1, uIs, not_true_eq_false, not_false_eq_true, false_implies, true_implies, and_true, true_and, and_self, nmM, if_true, if_false, or0, Int32.add_zero, forall_const, one_ne, zero_ne1, nz1, nz0, nI_z, cl, inN, Nat.le_refl, Nat.lt_irrefl, Nat.lt_succ_self, Bool.false_eq_true]
      exact k _ (N.inv I r' ((onlyA.rf 92 μ1).put _ _) (wB_92 hw1) (sc.rf _))
  · simp (disch := omega) only [wX8_undo, xT0 T r gT, not_true_eq_false, not_false_eq_true, false_implies, true_implies, and_true, true_and, and_self, nmM, if_true, if_false, or0, Int32.add_zero, forall_const, one_ne, zero_ne1, nz1, nz0, nI_z, cl, inN, Nat.le_refl, Nat.lt_irrefl, Nat.lt_succ_self, Bool.false_eq_true]
    simp (disch := omega) only [wX9_undo, mT0 hw r gT, not_true_eq_false, not_false_eq_true, false_implies, true_implies, and_true, true_and, and_self, nmM, if_true, if_false, or0, Int32.add_zero, forall_const, one_ne, zero_ne1, nz1, nz0, nI_z, cl, inN, Nat.le_refl, Nat.lt_irrefl, Nat.lt_succ_self, Bool.false_eq_true]
    exact k μ I
theorem c_70 {Ln n : Nat} {xs : Nat → Int32} {K : Int32 → qa_M → Prop} {i : Int32} {μ : qa_M} (I : INV μ) (hn : 2000 ≤ n) (k : ∀ μ', INV μ' → K (i + 6) μ') (v1 : vp_in (i + 1) Ln) (v2 : vp_in (i + 2) Ln) (v3 : vp_in (i + 3) Ln) (v4 : vp_in (i + 4) Ln) (v5 : vp_in (i + 5) Ln) : wLc_70 Ln xs n K i μ := by
  unfold wLc_70
  obtain ⟨w, hw⟩ : ∃ w, μ.1 92 = w := ⟨_, rfl⟩
  obtain ⟨r, T, E, G⟩ := I.facts hw
  obtain ⟨r1, r2, r3, r4⟩ := r.n0
  have L8 := G.1
  have N1 := r.2.1.1
  obtain ⟨W20, H8, hW, hH, plt, hpl, hpp, hfo, htu, hsu, hsm⟩ := id E
  have A30 := r.2.1.2.2.2.2.2.2.2
  have d1 : μ.1 (μ.2.2 1 2 + 7) 0 = nI (zA w) := T.2.2.2.1.1
  have h8 : ∀ {μ1 : qa_M}, μ1.1 92 = w → μ1.1 92 8 = nI (zA w) := fun h => by rw [h]; exact r.1.2.2.2.2.2.2.2
  by_cases gT : 0 < zN w
  · simp (disch := omega) only [wX8_anew, xT1 T r gT, d1, not_true_eq_false, not_false_eq_true, false_implies, true_implies, and_true, true_and, and_self, nmM, if_true, if_false, or0, Int32.add_zero, forall_const, one_ne, zero_ne1, nz1, nz0, nI_z, cl, inN, Nat.le_refl, Nat.lt_irrefl, Nat.lt_succ_self, Bool.false_eq_true]
    refine x_keep (c := 0) I hw (by omega) (by omega) (fun r' μ1 N hw1 z1 => ?_)
    simp (disch := omega) only [wX9_anew, mT1 hw1 r gT, c8n, h8 hw1, not_true_eq_false, not_false_eq_true, false_implies, true_implies, and_true, true_and, and_self, nmM, if_true, if_false, or0, Int32.add_zero, forall_const, one_ne, zero_ne1, nz1, nz0, nI_z, cl, inN, Nat.le_refl, Nat.lt_irrefl, Nat.lt_succ_self, Bool.false_eq_true]
    exact k _ (N.inv I r' ((onlyA.rf 92 μ1).put 8 (nI 0)) (wB_92 hw1) (sc.rf _))
  · simp (disch := omega) only [wX8_anew, xT0 T r gT, not_true_eq_false, not_false_eq_true, false_implies, true_implies, and_true, true_and, and_self, nmM, if_true, if_false, or0, Int32.add_zero, forall_const, one_ne, zero_ne1, nz1, nz0, nI_z, cl, inN, Nat.le_refl, Nat.lt_irrefl, Nat.lt_succ_self, Bool.false_eq_true]
    simp (disch := omega) only [wX9_anew, mT0 hw r gT, not_true_eq_false, not_false_eq_true, false_implies, true_implies, and_true, true_and, and_self, nmM, if_true, if_false, or0, Int32.add_zero, forall_const, one_ne, zero_ne1, nz1, nz0, nI_z, cl, inN, Nat.le_refl, Nat.lt_irrefl, Nat.lt_succ_self, Bool.false_eq_true]
    exact k μ I
/-- a world with another push -/
def wR (w : Nat → Int32) (a : Nat) (x : Int32) : Nat → Int32 := fun j => if j = 10 + 2 * a then x else w j
theorem wR_o (w : Nat → Int32) (a : Nat) (x : Int32) {j : Nat} (h1 : j ≠ 10 + 2 * a) : wR w a x j = w j := by unfold wR; rw [if_neg h1]
theorem wR_s (w : Nat → Int32) (a : Nat) (x : Int32) : wR w a x (10 + 2 * a) = x := by unfold wR; rw [if_pos rfl]
theorem RZ.rate {w : Nat → Int32} {a b : Nat} (r : RZ w) (ha : a < zH w) (hb : b ≤ 40) : RZ (wR w a (nI b)) := by
  have H8 := r.2.1.2.2.2.1
  have wo : ∀ j, j ≠ 10 + 2 * a → wR w a (nI b) j = w j := fun j hj => wR_o w a _ hj
  obtain ⟨z1, z2, z3, z4, z5, z6, z7⟩ := z_c (w := w) (w' := wR w a (nI b)) (fun j hj h8 => wo j (by omega))
  have z8 : zA (wR w a (nI b)) = zA w := by unfold zA; rw [wo 8 (by omega)]
  obtain ⟨⟨a1, a2, a3, a4, a5, a6, a7, a8⟩, bb, ⟨⟨o, o1, o2⟩, c2, c3, c4⟩, ⟨d1, d2⟩, e, f, g, hh⟩ := r
  unfold RZ
  rw [z1, z2, z3, z4, z5, z6, z7, z8]
  refine ⟨⟨by rw [wo 9 (by omega)]; exact a1, by rw [wo 0 (by omega)]; exact a2, by rw [wo 2 (by omega)]; exact a3, by rw [wo 4 (by omega)]; exact a4, by rw [wo 5 (by omega)]; exact a5, by rw [wo 6 (by omega)]; exact a6, by rw [wo 7 (by omega)]; exact a7, by rw [wo 8 (by omega)]; exact a8⟩, bb, ⟨⟨o, o1, by rw [wo 3 (by omega)]; exact o2⟩, by rw [wo 1 (by omega)]; exact c2, c3, c4⟩, ⟨fun k hk => ⟨?_, ?_⟩, fun k h1 h2 => ?_⟩, fun k hk => ?_, fun k hk => ?_, fun k hk => ?_, fun k hk => ?_⟩
  · by_cases c : k = a
    · rw [c, wR_s]; exact ⟨b, hb, rfl⟩
    · rw [wo _ (by omega)]; exact (d1 k hk).1
  · rw [wo _ (by omega)]; exact (d1 k hk).2
  · rw [wo _ (by omega)]; exact d2 k h1 h2
  · rw [wo _ (by omega), wo _ (by omega), wo _ (by omega)]; exact e k hk
  · rw [wo _ (by omega)]; exact f k hk
  · rw [wo _ (by omega), wo _ (by omega), wo _ (by omega)]; exact g k hk
  · rw [wo _ (by omega)]; exact hh k hk
theorem TZ.rate {μ : qa_M} {t : Nat} {w : Nat → Int32} {a b : Nat} (T : TZ μ t w) (r : RZ w) (ha : a < zH w) : TZ (qa_uI μ (t + 1) a (nI b)) t (wR w a (nI b)) := by
  have H8 := r.2.1.2.2.2.1
  have wo : ∀ j, j ≠ 10 + 2 * a → wR w a (nI b) j = w j := fun j hj => wR_o w a _ hj
  obtain ⟨z1, z2, z3, z4, z5, z6, z7⟩ := z_c (w := w) (w' := wR w a (nI b)) (fun j hj h8 => wo j (by omega))
  have z8 : zA (wR w a (nI b)) = zA w := by unfold zA; rw [wo 8 (by omega)]
  obtain ⟨⟨a0, a1, a2, a3, a4, a5, a6, a7, a8, a9, a10⟩, ⟨q1, q2, q3⟩, cc, ⟨d1, d2, d3⟩, f⟩ := T
  have e : ∀ c x, c ≠ t + 1 → (qa_uI μ (t + 1) a (nI b)).1 c x = μ.1 c x := fun c x h => uIn _ _ (fun q => h q.1)
  unfold TZ
  rw [z1, z2, z3, z4, z5, z6, z7, z8]
  refine ⟨⟨by rw [e _ _ (by omega)]; exact a0, by rw [e _ _ (by omega)]; exact a1, by rw [e _ _ (by omega), wo 1 (by omega)]; exact a2, by rw [e _ _ (by omega)]; exact a3, by rw [e _ _ (by omega), wo 3 (by omega)]; exact a4, by rw [e _ _ (by omega)]; exact a5, by rw [e _ _ (by omega)]; exact a6, by rw [e _ _ (by omega)]; exact a7, by rw [e _ _ (by omega)]; exact a8, ?_, ?_⟩, ⟨fun k hk => ?_, fun p hp => ?_, fun p hp => ?_⟩, fun k hk => ?_, ⟨by rw [e _ _ (by omega)]; exact d1, ?_, fun j hj => ?_⟩, fun i hi => ?_⟩
  · rw [e _ _ (by omega), leanW_c (fun j hj => wo _ (by omega))]; exact a9
  · rw [e _ _ (by omega), snowW_c (fun j hj => wo _ (by omega))]; exact a10
  · by_cases c : k = a
    · rw [c, uIs, wR_s]
    · rw [uIn _ _ (fun q => c q.2), wo _ (by omega)]; exact q1 k hk
  · rw [e _ _ (by omega), sunW_c (fun j h1 h2 => wo _ (by omega))]; exact q2 p hp
  · rw [e _ _ (by omega), smellW_c (fun j h1 h2 => wo _ (by omega))]; exact q3 p hp
  · rw [e _ _ (by omega), e _ _ (by omega), e _ _ (by omega), wo _ (by omega), wo _ (by omega), wo _ (by omega)]; exact cc k hk
  · rw [e _ _ (by omega), swapW_c (fun j hj => wo _ (by omega))]; exact d2
  · rw [e _ _ (by omega), restW_c (fun j hj => wo _ (by omega))]; exact d3 j hj
  · have q : actX μ t w (zH w) (zW w) i := f i hi
    exact q.mono (e _ _ (by omega)) (e _ _ (by omega)) (e _ _ (by omega)) (wo _ (by omega))
theorem c_73 {Ln n : Nat} {xs : Nat → Int32} {K : Int32 → qa_M → Prop} {i : Int32} {μ : qa_M} (I : INV μ) (hn : 2000 ≤ n) (k : ∀ μ', INV μ' → K (i + 6) μ') (v1 : vp_in (i + 1) Ln) (v2 : vp_in (i + 2) Ln) (v3 : vp_in (i + 3) Ln) (v4 : vp_in (i + 4) Ln) (v5 : vp_in (i + 5) Ln) : wLc_73 Ln xs n K i μ := by
  unfold wLc_73
  simp only [v1, v2, v3, v4, v5, true_and]
  generalize xs (i + 1).toNatClampNeg = a
  generalize xs (i + 2).toNatClampNeg = b
  obtain ⟨w, hw⟩ : ∃ w, μ.1 92 = w := ⟨_, rfl⟩
  obtain ⟨r, T, E, G⟩ := I.facts hw
  obtain ⟨r1, r2, r3, r4⟩ := r.n0
  have L8 := G.1
  have N1 := r.2.1.1
  obtain ⟨W20, H8, hW, hH, plt, hpl, hpp, hfo, htu, hsu, hsm⟩ := id E
  have A30 := r.2.1.2.2.2.2.2.2.2
  have t2 := I.t2
  have d1 : μ.1 (μ.2.2 1 2 + 7) 0 = nI (zA w) := T.2.2.2.1.1
  have h8 : ∀ {μ1 : qa_M}, μ1.1 92 = w → μ1.1 92 8 = nI (zA w) := fun h => by rw [h]; exact r.1.2.2.2.2.2.2.2
  have le0 : (nI (zA w) ≤ 0) = (zA w = 0) := by
    rw [l0, nle _ _ (by omega) (by omega)]
    apply propext
    omega
  have s40 : ∀ {μ1 : qa_M} {Q : Int32 → qa_M → Prop}, wX9_in n b.toInt64 0 40 μ1 Q ↔ Q (qb (0 ≤ b.toInt ∧ b.toInt ≤ 40)) μ1 := by
    intro μ1 Q
    rw [s_in, Int32.toInt_toInt64]
    exact Iff.rfl
  by_cases ga : 0 ≤ a.toInt ∧ a.toInt < (zH w : Int)
  · obtain ⟨a, ha, rfl⟩ := gN ga (by omega)
    by_cases gb : 0 ≤ b.toInt ∧ b.toInt ≤ 40
    · obtain ⟨b, hb, rfl⟩ := gN' (H := 40) gb (by omega)
      have b40 : (nI b ≤ 40) = True := eq_true (by rw [show (40 : Int32) = nI 40 from rfl, nle _ _ (by omega) (by omega)]; exact hb)
      by_cases c0 : zA w = 0
      · have p0 : μ.1 (μ.2.2 1 2 + 1) a = w (10 + 2 * a) := T.2.1.1 a ha
        have le1 : (nI (zA w) ≤ 0) = True := by rw [le0]; exact eq_true c0
        have r' := r.rate ha hb
        have T' := T.rate (b := b) r ha
        have ix : (10 : Int32) + ((2 : Int32) * nI a) = nI (10 + 2 * a) := ixP a
        simp (disch := omega) only [wX8_rate, xH1 T r, n_neg, b40, d1, le1, p0, not_true_eq_false, not_false_eq_true, false_implies, true_implies, and_true, true_and, and_self, nmM, if_true, if_false, or0, Int32.add_zero, forall_const, one_ne, zero_ne1, nz1, nz0, nI_z, cl, inN, Nat.le_refl, Nat.lt_irrefl, Nat.lt_succ_self, Bool.false_eq_true]
        refine x_new (n := n) I (kp_town (μ' := qa_uI μ (μ.2.2 1 2 + 1) a (nI b)) t2 rfl (fun c j hc => uIn _ _ (by omega))) r' T' (by omega) (fun μ2 N e1 e2 => ?_)
        have hw2 : μ2.1 92 = w := by
          rw [← hw]
          exact funext (fun j => (e2 92 j (by omega) (by omega) (by omega) (by omega) (by omega) (by omega)).trans (uIn _ _ (by omega)))
        simp (disch := omega) only [wX9_rate, mH1 hw2 r, s40, qb_p gb, c8n, h8 hw2, le1, ix, hw2, not_true_eq_false, not_false_eq_true, false_implies, true_implies, and_true, true_and, and_self, nmM, if_true, if_false, or0, Int32.add_zero, forall_const, one_ne, zero_ne1, nz1, nz0, nI_z, cl, inN, Nat.le_refl, Nat.lt_irrefl, Nat.lt_succ_self, Bool.false_eq_true]
        refine k _ (N.inv I r' ((onlyA.rf 92 μ2).put (10 + 2 * a) (nI b)) ?_ (sc.rf _))
        funext j
        rw [uI1, hw2]
        unfold wR
        by_cases c1 : j = 10 + 2 * a
        · rw [if_pos ⟨rfl, c1⟩, if_pos c1]
        · rw [if_neg (fun q => c1 q.2), if_neg c1]
      · simp (disch := omega) only [wX8_rate, xH1 T r, n_neg, b40, d1, le0, c0, not_true_eq_false, not_false_eq_true, false_implies, true_implies, and_true, true_and, and_self, nmM, if_true, if_false, or0, Int32.add_zero, forall_const, one_ne, zero_ne1, nz1, nz0, nI_z, cl, inN, Nat.le_refl, Nat.lt_irrefl, Nat.lt_succ_self, Bool.false_eq_true]
        simp (disch := omega) only [wX9_rate, mH1 hw r, s40, qb_p gb, c8n, h8 hw, le0, c0, not_true_eq_false, not_false_eq_true, false_implies, true_implies, and_true, true_and, and_self, nmM, if_true, if_false, or0, Int32.add_zero, forall_const, one_ne, zero_ne1, nz1, nz0, nI_z, cl, inN, Nat.le_refl, Nat.lt_irrefl, Nat.lt_succ_self, Bool.false_eq_true]
        exact k μ I
    · have fin : wX9_rate n (nI a) b μ (fun r2 μ2 => ((-2 : Int32) = r2 → K (i + 6) μ2) ∧ (¬ (-2 : Int32) = r2 → False)) := by
        simp (disch := omega) only [wX9_rate, mH1 hw r, s40, qb_n gb, not_true_eq_false, not_false_eq_true, false_implies, true_implies, and_true, true_and, and_self, nmM, if_true, if_false, or0, Int32.add_zero, forall_const, one_ne, zero_ne1, nz1, nz0, nI_z, cl, inN, Nat.le_refl, Nat.lt_irrefl, Nat.lt_succ_self, Bool.false_eq_true]
        exact k μ I
      by_cases c1 : b < 0
      · simp (disch := omega) only [wX8_rate, xH1 T r, c1, not_true_eq_false, not_false_eq_true, false_implies, true_implies, and_true, true_and, and_self, nmM, if_true, if_false, or0, Int32.add_zero, forall_const, one_ne, zero_ne1, nz1, nz0, nI_z, cl, inN, Nat.le_refl, Nat.lt_irrefl, Nat.lt_succ_self, Bool.false_eq_true]
        exact fin
      · have c2 : ¬ b ≤ 40 := by
          rw [fa_lt, show (0 : Int32).toInt = 0 from rfl] at c1
          rw [fa_le, show (40 : Int32).toInt = 40 from rfl]
          omega
        simp (disch := omega) only [wX8_rate, xH1 T r, c1, c2, not_true_eq_false, not_false_eq_true, false_implies, true_implies, and_true, true_and, and_self, nmM, if_true, if_false, or0, Int32.add_zero, forall_const, one_ne, zero_ne1, nz1, nz0, nI_z, cl, inN, Nat.le_refl, Nat.lt_irrefl, Nat.lt_succ_self, Bool.false_eq_true]
        exact fin
  · simp (disch := omega) only [wX8_rate, xH0 T r ga, not_true_eq_false, not_false_eq_true, false_implies, true_implies, and_true, true_and, and_self, nmM, if_true, if_false, or0, Int32.add_zero, forall_const, one_ne, zero_ne1, nz1, nz0, nI_z, cl, inN, Nat.le_refl, Nat.lt_irrefl, Nat.lt_succ_self, Bool.false_eq_true]
    simp (disch := omega) only [wX9_rate, mH0 hw r ga, not_true_eq_false, not_false_eq_true, false_implies, true_implies, and_true, true_and, and_self, nmM, if_true, if_false, or0, Int32.add_zero, forall_const, one_ne, zero_ne1, nz1, nz0, nI_z, cl, inN, Nat.le_refl, Nat.lt_irrefl, Nat.lt_succ_self, Bool.false_eq_true]
    exact k μ I
