/-- a year with snows told otherwise -/
def oN (w : Nat → Int32) (x : Int32) : OV := (w 1, zK w, leanW w, x, 0, id)
theorem onlyP2 (k : Nat) (x : Int32) (k2 : Nat) (x2 : Int32) (μ : qa_M) : onlyP μ (qa_uI (qa_uI μ 31 k x) 31 k2 x2) := ⟨rfl, fun b j hb => by rw [uIn _ _ (fun e => hb e.1), uIn _ _ (fun e => hb e.1)]⟩
theorem x_snows {n U : Nat} {x : Int32} {w : Nat → Int32} {μ0 μ : qa_M} {Q : qa_M → Prop} (I : INV μ0) (hw : μ0.1 92 = w) (s : sc μ0 μ) (hU : U ≤ zW w) (hn : 60 < n) (kk : ∀ μ', sc μ0 μ' → YR μ' 38 39 40 41 U w (oN w x) → TZ μ' (μ'.2.2 1 2) w → Q μ') : wX8_followSnows n x (nI U) μ Q := by
  obtain ⟨r, -, -, -⟩ := I.facts hw
  unfold wX8_followSnows
  simp only [nmM]
  exact x_trial (o := oN w x) (U := U) (fun μ => qa_uI (qa_uI μ 31 3 x) 31 7 (nI U)) I hw s (fun μ1 P => (P.snow x).til U) (fun μ1 => onlyP2 3 _ 7 _ μ1) hU (fun h => r.law (by omega)) hn (fun μ2 s2 _ Y2 T2 => kk μ2 s2 Y2 T2)
theorem yForce_snow {H v : Nat} {pu sm : Nat → Int32} {lean s1 s2 : Int32} {st : Nat → Int32} {f : Nat → Nat} (h : bt s1 v = bt s2 v) : yForce H pu sm lean s1 st f v = yForce H pu sm lean s2 st f v := by
  unfold yForce ySg yPush
  rw [h]
theorem yPL_snow {H ac U : Nat} {pu sm : Nat → Int32} {la he lean s1 s2 : Int32} {st : Nat → Int32} {ex : Nat → Option (Nat × Nat × Nat)} {f0 : Nat → Nat} (h : ∀ j, j < U → bt s1 j = bt s2 j) : ∀ v, v ≤ U → yPL H pu sm la he lean s1 st ac ex f0 v = yPL H pu sm la he lean s2 st ac ex f0 v
  | 0, _ => rfl
  | v + 1, hv => by
    simp only [yPL]
    rw [yPL_snow h v (by omega), yForce_snow (h v (by omega))]
theorem yp_snow {w : Nat → Int32} {x y : Int32} {U : Nat} (h : ∀ j, j < U → bt x j = bt y j) (v : Nat) (hv : v ≤ U) : yp w (oN w x) v = yp w (oN w y) v := yPL_snow h v hv
theorem aSun_snow {w : Nat → Int32} {x y : Int32} {U : Nat} {su : Nat → Int32} (h : ∀ j, j < U → bt x j = bt y j) (q : Nat) : aSun (yp w (oN w x)) su q U = aSun (yp w (oN w y)) su q U := by
  unfold aSun
  refine itr_congr (U + 1) 0 0 (fun j s _ hj => ?_)
  rw [yp_snow h j (by omega)]
theorem x_sunU {n t h k H : Nat} {pl : Nat → Nat → Nat} {su : Nat → Int32} {μ : qa_M} {Q : Int32 → qa_M → Prop} (hk : k ≤ 20) (hH : H ≤ 8) (hh : h < H) (plt : ∀ v h, h < H → pl v h < H) (hpl : ∀ v, v ≤ k → ∀ h, h < H → μ.1 38 (v * 8 + h) = nI (pl v h)) (hsu : ∀ p, p < 8 → μ.1 (t + 2) p = su p) (hn : 25 < n) : wX7_sunTo n 37 t (nI h) (nI k) μ Q ↔ Q (aSun pl su h k) μ := by
  unfold wX7_sunTo aSun
  refine for_iff 0 (fun n i s => wX7_sunTo_6 n 37 t (nI h) (nI k) s i μ Q) (fun s => Q s μ) (k + 1) (fun j s => s + su (pl j h)) (fun _ _ => True) ?_ ?_ (fun _ _ _ _ => trivial) (k + 1) 0 0 n (by omega) (by omega) trivial
  · intro n s hn hs
    show wX7_sunTo_6 (n + 1) _ _ _ _ _ _ _ _ ↔ _
    simp (disch := omega) only [wX7_sunTo_6, nlt, not_true_eq_false, not_false_eq_true, false_implies, true_implies, and_true, true_and, and_self, nmM, if_true, if_false, or0, Int32.add_zero, forall_const, one_ne, zero_ne1, nz1, nz0, nI_z, cl, inN, Nat.le_refl, Nat.lt_irrefl, Nat.lt_succ_self, Bool.false_eq_true]
  · intro n i s hn hi hs
    show wX7_sunTo_6 (n + 1) _ _ _ _ _ _ _ _ ↔ _
    have hp := plt i h hh
    have hi2 : ¬ k < i := by omega
    simp (disch := omega) only [wX7_sunTo_6, s_spot, hpl, hsu, nlt, nI1, hi2, not_true_eq_false, not_false_eq_true, false_implies, true_implies, and_true, true_and, and_self, nmM, if_true, if_false, or0, Int32.add_zero, forall_const, one_ne, zero_ne1, nz1, nz0, nI_z, cl, inN, Nat.le_refl, Nat.lt_irrefl, Nat.lt_succ_self, Bool.false_eq_true]
/-! weights -/
def vW (d m k : Nat) : Nat := itr (fun j (s : Nat) => s * (if k / 2 ^ j % 2 = 1 then d else 10 - d)) 0 m 1
theorem vW_pow : ∀ d, d ≤ 10 → ∀ m, m ≤ 8 → ∀ k, k < 2 ^ m → d ^ bcN k * (10 - d) ^ (m - bcN k) = vW d m k := by decide +kernel
theorem vW_le : ∀ d, d ≤ 10 → ∀ m, m ≤ 8 → ∀ k, k < 2 ^ m → vW d m k ≤ 100000000 := by decide +kernel
theorem bc_le : ∀ m, m ≤ 8 → ∀ k, k < 2 ^ m → bcN k ≤ m := by decide +kernel
theorem vW_sum : ∀ d, d ≤ 10 → ∀ m, m ≤ 8 → itr (fun k (s : Nat) => s + vW d m k) 0 (2 ^ m) 0 = 10 ^ m := by decide +kernel
theorem x_power {n d e : Nat} {μ : qa_M} {Q : Int64 → qa_M → Prop} (hd : d ≤ 10) (he : e ≤ 8) (hn : 20 < n) : wX8_power n (nI d) (nI e) μ Q ↔ Q (lN (d ^ e)) μ := by
  have key : ∀ e : Nat, itr (fun _ (s : Nat) => s * d) 0 e 1 = d ^ e := by
    intro e
    induction e with
    | zero => rfl
    | succ e ih => rw [itr_succ, ih, Nat.pow_succ]
  unfold wX8_power
  rw [← key e]
  refine for_iff 0 (fun n i (s : Nat) => wX8_power_5 n (nI d) (nI e) (lN s) i μ Q) (fun s => Q (lN s) μ) e (fun _ (s : Nat) => s * d) (fun _ _ => True) ?_ ?_ (fun _ _ _ _ => trivial) e 0 1 n (by omega) (by omega) trivial
  · intro n s _ _
    show wX8_power_5 (n + 1) _ _ _ _ _ _ ↔ _
    simp (disch := omega) only [wX8_power_5, nle, not_true_eq_false, not_false_eq_true, false_implies, true_implies, and_true, true_and, and_self, nmM, if_true, if_false, or0, Int32.add_zero, forall_const, one_ne, zero_ne1, nz1, nz0, nI_z, cl, inN, Nat.le_refl, Nat.lt_irrefl, Nat.lt_succ_self, Bool.false_eq_true]
  · intro n i s _ hi _
    show wX8_power_5 (n + 1) _ _ _ _ _ _ ↔ _
    have hi' : ¬ e ≤ i := by omega
    simp (disch := omega) only [wX8_power_5, nle, hi', nI1, nI_l, lN_mul, not_true_eq_false, not_false_eq_true, false_implies, true_implies, and_true, true_and, and_self, nmM, if_true, if_false, or0, Int32.add_zero, forall_const, one_ne, zero_ne1, nz1, nz0, nI_z, cl, inN, Nat.le_refl, Nat.lt_irrefl, Nat.lt_succ_self, Bool.false_eq_true]
theorem x_weight {n d m k : Nat} {μ : qa_M} {Q : Int64 → qa_M → Prop} (h4 : μ.1 (μ.2.2 1 2) 4 = nI d) (hd : d ≤ 10) (hm : m ≤ 8) (hk : k < 2 ^ m) (hn : 20 < n) : wX8_weightOf n (nI k) (nI m) μ Q ↔ Q (lN (vW d m k)) μ := by
  have b1 := pw1 hm
  have b2 := bc_le m hm k hk
  have e1 : (10 : Int32) - nI d = nI (10 - d) := by rw [l10, pk_sub hd]
  have e2 : nI m - nI (bcN k) = nI (m - bcN k) := pk_sub b2
  unfold wX8_weightOf
  rw [s_bitCount (by omega), h4, x_power hd (by omega) hn, h4, e1, e2, x_power (by omega) (by omega) hn, lN_mul, vW_pow d hd m hm k hk]
def zO (w : Nat → Int32) : Nat := (w 3).toNatClampNeg
theorem RZ.odds {w : Nat → Int32} (r : RZ w) : zO w ≤ 10 ∧ w 3 = nI (zO w) := by
  obtain ⟨-, -, ⟨⟨o, o1, o2⟩, -⟩, -⟩ := r
  unfold zO
  rw [o2, cl (by omega)]
  exact ⟨o1, rfl⟩
def chF (w : Nat → Int32) (h U : Nat) (q : Int32) (k s : Nat) : Nat := if nI (yp w (oN w (nI k)) U h) = q then s + vW (zO w) U k else s
def sunN (w : Nat → Int32) (h U k : Nat) : Nat := (aSun (yp w (oN w (nI k))) (sunW w (zP w)) h U).toNatClampNeg
theorem sunN_eq {w : Nat → Int32} (r : RZ w) (h U k : Nat) (hU : U ≤ 20) : sunN w h U k ≤ 420 ∧ aSun (yp w (oN w (nI k))) (sunW w (zP w)) h U = nI (sunN w h U k) := by
  unfold sunN
  obtain ⟨q, q1, q2⟩ := aSun_rng (pl := yp w (oN w (nI k))) (sunW_rng r) h U hU
  rw [q2, cl (by omega)]
  exact ⟨q1, rfl⟩
def mnF (w : Nat → Int32) (h U k s : Nat) : Nat := s + vW (zO w) U k * sunN w h U k
def SU (w : Nat → Int32) (U i : Nat) : Nat := itr (fun k (s : Nat) => s + vW (zO w) U k) 0 i 0
theorem chA_le {w : Nat → Int32} {h U : Nat} {q : Int32} : ∀ i, itr (chF w h U q) 0 i 0 ≤ SU w U i
  | 0 => Nat.le_refl 0
  | i + 1 => by
    have ih := chA_le (w := w) (h := h) (U := U) (q := q) i
    unfold SU at ih ⊢
    rw [itr_succ, itr_succ, Nat.zero_add]
    unfold chF at ih ⊢
    split <;> omega
theorem mnA_le {w : Nat → Int32} (r : RZ w) {h U : Nat} (hU : U ≤ 20) : ∀ i, itr (mnF w h U) 0 i 0 ≤ 420 * SU w U i
  | 0 => Nat.le_refl 0
  | i + 1 => by
    have ih := mnA_le r (h := h) hU i
    have b := (sunN_eq r h U i hU).1
    unfold SU at ih ⊢
    rw [itr_succ, itr_succ, Nat.zero_add]
    have m : vW (zO w) U i * sunN w h U i ≤ vW (zO w) U i * 420 := Nat.mul_le_mul_left _ b
    show itr (mnF w h U) 0 i 0 + vW (zO w) U i * sunN w h U i ≤ _
    omega
theorem xs_chance {n h U : Nat} {q v : Int32} {w : Nat → Int32} {μ : qa_M} {K0 : Int32 → Int32 → Int64 → qa_M → Prop} {Q : Int64 → qa_M → Prop} (I : INV μ) (hw : μ.1 92 = w) (hh : h < zH w) (hU : U + 1 ≤ zW w) (hU8 : U + 1 ≤ 8) (hn : 500 < n) (k : ∀ μ', sc μ μ' → K0 (nI U) v (lN (itr (chF w h (U + 1) q) 0 (2 ^ (U + 1)) 0)) μ') : wX8_chance_42 n (nI h) q (nI U) v 0 0 μ K0 Q := by
  obtain ⟨r, T, E, G⟩ := I.facts hw
  have H8 := r.2.1.2.2.2.1
  have W20 := r.2.1.2.1
  have b1 := pw1 hU8
  obtain ⟨o1, o2⟩ := r.odds
  obtain ⟨B, hB⟩ : ∃ B, B = 2 ^ (U + 1) := ⟨_, rfl⟩
  rw [← hB] at b1 k
  have lw : ((1 : Int32) <<< (nI (U + 1) &&& 31)) - 1 = nI (B - 1) := by rw [lowN _ hU8, hB]
  refine inv_loopF 100 (fun n i (σ : Nat × qa_M) => wX8_chance_42 n (nI h) q (nI U) v (lN σ.1) i σ.2 K0 Q) B (fun i σ => σ.1 = itr (chF w h (U + 1) q) 0 i 0 ∧ sc μ σ.2) ?_ ?_ B 0 (0, μ) n (by omega) (by omega) ⟨rfl, sc.rf μ⟩
  · intro n ⟨s, μ1⟩ hm ⟨e1, s1⟩
    dsimp only at e1 s1 ⊢
    have cc : B - 1 < B := by omega
    simp (disch := omega) only [wX8_chance_42, nI1, s_lowBits, lw, nlt, cc, not_true_eq_false, not_false_eq_true, false_implies, true_implies, and_true, true_and, and_self, nmM, if_true, if_false, or0, Int32.add_zero, forall_const, one_ne, zero_ne1, nz1, nz0, nI_z, cl, inN, Nat.le_refl, Nat.lt_irrefl, Nat.lt_succ_self, Bool.false_eq_true]
    rw [e1]
    exact k μ1 s1
  · intro n i ⟨s, μ1⟩ hm hi ⟨e1, s1⟩ ih
    dsimp only at e1 s1 ⊢
    have hi' : ¬ B - 1 < i := by omega
    obtain ⟨-, T1, E1, -⟩ := (I.sc s1).facts (s1.w.trans hw)
    have h4 : μ1.1 (μ1.2.2 1 2) 4 = nI (zO w) := by rw [T1.1.2.2.2.2.1, o2]
    simp (disch := omega) only [wX8_chance_42, nI1, s_lowBits, lw, nlt, hi', x_weight h4 o1 hU8 (show i < 2 ^ (U + 1) by omega), not_true_eq_false, not_false_eq_true, false_implies, true_implies, and_true, true_and, and_self, nmM, if_true, if_false, or0, Int32.add_zero, forall_const, one_ne, zero_ne1, nz1, nz0, nI_z, cl, inN, Nat.le_refl, Nat.lt_irrefl, Nat.lt_succ_self, Bool.false_eq_true]
    refine x_snows I hw s1 hU (by omega) (fun μ2 s2 Y2 T2 => ?_)
    have y2 := Y2.1 (U + 1) (Nat.le_refl _) h hh
    simp (disch := omega) only [s_spot, y2, lN_add, not_true_eq_false, not_false_eq_true, false_implies, true_implies, and_true, true_and, and_self, nmM, if_true, if_false, or0, Int32.add_zero, forall_const, one_ne, zero_ne1, nz1, nz0, nI_z, cl, inN, Nat.le_refl, Nat.lt_irrefl, Nat.lt_succ_self, Bool.false_eq_true]
    have stp : itr (chF w h (U + 1) q) 0 (i + 1) 0 = chF w h (U + 1) q i s := by rw [itr_succ, Nat.zero_add, e1]
    exact ⟨fun c => ih (s, μ2) ⟨by rw [stp]; unfold chF; rw [if_neg c], s2⟩, fun c => ih (s + vW (zO w) (U + 1) i, μ2) ⟨by rw [stp]; unfold chF; rw [if_pos c], s2⟩⟩
theorem xs_mean {n h U : Nat} {v : Int32} {w : Nat → Int32} {μ : qa_M} {K0 : Int32 → Int32 → Int64 → qa_M → Prop} {Q : Int64 → qa_M → Prop} (I : INV μ) (hw : μ.1 92 = w) (hh : h < zH w) (hU : U + 1 ≤ zW w) (hU8 : U + 1 ≤ 8) (hn : 500 < n) (k : ∀ μ', sc μ μ' → K0 (nI U) v (lN (itr (mnF w h (U + 1)) 0 (2 ^ (U + 1)) 0)) μ') : wX8_mean_33 n (nI h) (nI U) v 0 0 μ K0 Q := by
  obtain ⟨r, T, E, G⟩ := I.facts hw
  have H8 := r.2.1.2.2.2.1
  have W20 := r.2.1.2.1
  have b1 := pw1 hU8
  obtain ⟨o1, o2⟩ := r.odds
  obtain ⟨B, hB⟩ : ∃ B, B = 2 ^ (U + 1) := ⟨_, rfl⟩
  rw [← hB] at b1 k
  have lw : ((1 : Int32) <<< (nI (U + 1) &&& 31)) - 1 = nI (B - 1) := by rw [lowN _ hU8, hB]
  refine inv_loopF 100 (fun n i (σ : Nat × qa_M) => wX8_mean_33 n (nI h) (nI U) v (lN σ.1) i σ.2 K0 Q) B (fun i σ => σ.1 = itr (mnF w h (U + 1)) 0 i 0 ∧ sc μ σ.2) ?_ ?_ B 0 (0, μ) n (by omega) (by omega) ⟨rfl, sc.rf μ⟩
  · intro n ⟨s, μ1⟩ hm ⟨e1, s1⟩
    dsimp only at e1 s1 ⊢
    have cc : B - 1 < B := by omega
    simp (disch := omega) only [wX8_mean_33, nI1, s_lowBits, lw, nlt, cc, not_true_eq_false, not_false_eq_true, false_implies, true_implies, and_true, true_and, and_self, nmM, if_true, if_false, or0, Int32.add_zero, forall_const, one_ne, zero_ne1, nz1, nz0, nI_z, cl, inN, Nat.le_refl, Nat.lt_irrefl, Nat.lt_succ_self, Bool.false_eq_true]
    rw [e1]
    exact k μ1 s1
  · intro n i ⟨s, μ1⟩ hm hi ⟨e1, s1⟩ ih
    dsimp only at e1 s1 ⊢
    have hi' : ¬ B - 1 < i := by omega
    obtain ⟨-, T1, E1, -⟩ := (I.sc s1).facts (s1.w.trans hw)
    have h4 : μ1.1 (μ1.2.2 1 2) 4 = nI (zO w) := by rw [T1.1.2.2.2.2.1, o2]
    obtain ⟨q1, q2⟩ := sunN_eq r h (U + 1) i (by omega)
    simp (disch := omega) only [wX8_mean_33, nI1, s_lowBits, lw, nlt, hi', x_weight h4 o1 hU8 (show i < 2 ^ (U + 1) by omega), not_true_eq_false, not_false_eq_true, false_implies, true_implies, and_true, true_and, and_self, nmM, if_true, if_false, or0, Int32.add_zero, forall_const, one_ne, zero_ne1, nz1, nz0, nI_z, cl, inN, Nat.le_refl, Nat.lt_irrefl, Nat.lt_succ_self, Bool.false_eq_true]
    refine x_snows I hw s1 hU (by omega) (fun μ2 s2 Y2 T2 => ?_)
    rw [x_sunU (pl := yp w (oN w (nI i))) (su := sunW w (zP w)) (by omega) H8 hh (fun v h hh => yp_lt r (Or.inl rfl) v h hh) Y2.1 T2.2.1.2.1 (by omega), q2, nI_l (by omega), lN_mul, lN_add]
    have stp : itr (mnF w h (U + 1)) 0 (i + 1) 0 = s + vW (zO w) (U + 1) i * sunN w h (U + 1) i := by rw [itr_succ, Nat.zero_add, ← e1]; rfl
    exact ih (_, μ2) ⟨stp.symm, s2⟩
