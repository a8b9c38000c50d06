theorem one_ne : ((1 : Int32) = 0) = False := by simp
theorem zero_ne1 : ((0 : Int32) = 0) = True := by simp
theorem x_sunTo {n t y h k : Nat} {H W : Nat} {pl : Nat → Nat → Nat} {pp : Nat → Nat → Int32} {fo tu su sm : Nat → Int32} {μ : qa_M} {Q : Int32 → qa_M → Prop} (E : XE μ t (y + 1) (y + 2) (y + 3) (y + 4) H W pl pp fo tu su sm) (hh : h < H) (hk : k ≤ W) (hn : 25 < n) : wX7_sunTo n y t (nI h) (nI k) μ Q ↔ Q (aSun pl su h k) μ := xl_sunTo E hh hk hn
theorem m_sunTo {n h k : Nat} {H W : Nat} {pl : Nat → Nat → Nat} {pp : Nat → Nat → Int32} {fo tu su sm : Nat → Int32} {μ : qa_M} {Q : Int32 → qa_M → Prop} (E : ME μ H W pl pp fo tu su sm) (hh : h < H) (hk : k ≤ W) (hn : 25 < n) : wX9_sunTo n (nI h) (nI k) μ Q ↔ Q (aSun pl su h k) μ := ml_sunTo E hh hk hn
theorem m_sunAll {n h : Nat} {H W : Nat} {pl : Nat → Nat → Nat} {pp : Nat → Nat → Int32} {fo tu su sm : Nat → Int32} {μ : qa_M} {Q : Int32 → qa_M → Prop} (E : ME μ H W pl pp fo tu su sm) (hh : h < H) (hn : 25 < n) : wX9_sunAll n (nI h) μ Q ↔ Q (aSun pl su h W) μ := by
  unfold wX9_sunAll
  rw [s_mweeks, E.2.2.1]
  exact m_sunTo E hh (Nat.le_refl W) hn
theorem x_who {n t y v : Nat} {q : Int32} {H W : Nat} {pl : Nat → Nat → Nat} {pp : Nat → Nat → Int32} {fo tu su sm : Nat → Int32} {μ : qa_M} {Q : Int32 → qa_M → Prop} (E : XE μ t (y + 1) (y + 2) (y + 3) (y + 4) H W pl pp fo tu su sm) (hv : v ≤ W) (hn : 25 < n) : wX7_houseOn n y q (nI v) (nI H) μ Q ↔ Q (fnd (fun h => decide (nI (pl v h) = q)) 0 H) μ := xl_who E hv hn
theorem m_who {n v : Nat} {q : Int32} {H W : Nat} {pl : Nat → Nat → Nat} {pp : Nat → Nat → Int32} {fo tu su sm : Nat → Int32} {μ : qa_M} {Q : Int32 → qa_M → Prop} (E : ME μ H W pl pp fo tu su sm) (hv : v ≤ W) (hn : 25 < n) : wX9_whoAt n q (nI v) μ Q ↔ Q (fnd (fun h => decide (nI (pl v h) = q)) 0 H) μ := ml_who E hv hn
def sameB (pl : Nat → Nat → Nat) (H v : Nat) : Int32 := itr (fun h s => if nI (pl v h) = nI (pl 0 h) then s ||| ((1 : Int32) <<< (nI h &&& 31)) else s) 0 H 0
theorem x_same {n v : Nat} {H W : Nat} {pl : Nat → Nat → Nat} {pp : Nat → Nat → Int32} {fo tu su sm : Nat → Int32} {μ : qa_M} {Q : Int32 → qa_M → Prop} (E : XE μ (μ.2.2 1 2) 33 34 35 36 H W pl pp fo tu su sm) (hv : v ≤ W) (hn : 25 < n) : wX8_backHomeBits n (nI v) μ Q ↔ Q (sameB pl H v) μ := xl_same E hv hn
theorem m_same {n v : Nat} {H W : Nat} {pl : Nat → Nat → Nat} {pp : Nat → Nat → Int32} {fo tu su sm : Nat → Int32} {μ : qa_M} {Q : Int32 → qa_M → Prop} (E : ME μ H W pl pp fo tu su sm) (hv : v ≤ W) (hn : 25 < n) : wX9_sameIn n (nI v) μ Q ↔ Q (sameB pl H v) μ := ml_same E hv hn
theorem lowB_x {n H : Nat} {μ : qa_M} {Q : Int32 → qa_M → Prop} : wX8_lowBits n (nI H) μ Q ↔ Q (lowB H) μ := s_lowBits
theorem lowB_m {H : Nat} : ((1 : Int32) <<< (nI H &&& 31)) - 1 = lowB H := rfl
theorem x_dist {n a b v : Nat} {H W : Nat} {pl : Nat → Nat → Nat} {pp : Nat → Nat → Int32} {fo tu su sm : Nat → Int32} {μ : qa_M} {Q : Int32 → qa_M → Prop} (E : XE μ (μ.2.2 1 2) 33 34 35 36 H W pl pp fo tu su sm) (ha : a < H) (hb : b < H) (hv : v ≤ W) : wX8_distance n (nI a) (nI b) (nI v) μ Q ↔ Q (ov (nI (pl v b) - nI (pl v a)) H) μ := by
  have E0 := E
  obtain ⟨W20, H8, hW, hH, plt, hpl, hpp, hfo, htu, hsu, hsm⟩ := E
  have hpl0 : ∀ h, h < H → μ.1 (33) h = nI (pl 0 h) := fun h hh => by
    have := hpl 0 (Nat.zero_le W) h hh
    rwa [Nat.zero_mul, Nat.zero_add] at this
  simp (disch := omega) only [wX8_distance, s_spot, hpl, hH, s_round, show ¬ H = 0 by omega, if_false]
theorem xl_home {n : Nat} {H W : Nat} {pl : Nat → Nat → Nat} {pp : Nat → Nat → Int32} {fo tu su sm : Nat → Int32} {μ : qa_M} {Q : Int32 → qa_M → Prop} (E : XE μ (μ.2.2 1 2) 33 34 35 36 H W pl pp fo tu su sm)  (hn : 60 < n) : wX8_home_12 n 1 μ Q ↔ Q (fnd (fun v => decide (sameB pl H v = lowB H)) 1 (W)) μ := by
  have E0 := E
  obtain ⟨W20, H8, hW, hH, plt, hpl, hpp, hfo, htu, hsu, hsm⟩ := E
  have hpl0 : ∀ h, h < H → μ.1 (33) h = nI (pl 0 h) := fun h hh => by
    have := hpl 0 (Nat.zero_le W) h hh
    rwa [Nat.zero_mul, Nat.zero_add] at this
  refine fnd_iff 30 (fun n i => wX8_home_12 n i μ Q) (fun r => Q r μ) (W + 1) (fun v => decide (sameB pl H v = lowB H)) ?_ ?_ (W) 1 n (by omega) (by omega)
  · intro n hn
    simp (disch := omega) only [wX8_home_12, s_effort, s_spot, s_spot0, hW, hH, hpl, hpl0, hpp, hfo, htu, hsu, hsm, nle, nlt, nI1, cl, inN, s_abs2, not_true_eq_false, not_false_eq_true, false_implies, true_implies, and_true, true_and, and_self, nmM, if_true, if_false, or0, Int32.add_zero, forall_const, Nat.le_refl, Nat.lt_irrefl, Nat.lt_succ_self, x_same E0, lowB_x]
  · intro n i hn hi
    have hi' : ¬ W < i := by omega
    by_cases hc : sameB pl H i = lowB H <;> simp (disch := omega) only [wX8_home_12, s_effort, s_spot, s_spot0, hW, hH, hpl, hpl0, hpp, hfo, htu, hsu, hsm, nle, nlt, nI1, cl, inN, s_abs2, not_true_eq_false, not_false_eq_true, false_implies, true_implies, and_true, true_and, and_self, nmM, if_true, if_false, or0, Int32.add_zero, forall_const, Nat.le_refl, Nat.lt_irrefl, Nat.lt_succ_self, x_same E0, lowB_x, hi', hc, decide_eq_true_eq, or_false, or_true, true_or, false_or]
theorem ml_home {n : Nat} {H W : Nat} {pl : Nat → Nat → Nat} {pp : Nat → Nat → Int32} {fo tu su sm : Nat → Int32} {μ : qa_M} {Q : Int32 → qa_M → Prop} (E : ME μ H W pl pp fo tu su sm)  (hn : 60 < n) : wX9_home_12 n 1 μ Q ↔ Q (fnd (fun v => decide (sameB pl H v = lowB H)) 1 (W)) μ := by
  have E0 := E
  obtain ⟨W20, H8, hW, hH, plt, hpl, hpp, hfo, htu, hsu, hsm⟩ := E
  have hpl0 : ∀ h, h < H → μ.1 (101) h = nI (pl 0 h) := fun h hh => by
    have := hpl 0 (Nat.zero_le W) h hh
    rwa [Nat.zero_mul, Nat.zero_add] at this
  refine fnd_iff 30 (fun n i => wX9_home_12 n i μ Q) (fun r => Q r μ) (W + 1) (fun v => decide (sameB pl H v = lowB H)) ?_ ?_ (W) 1 n (by omega) (by omega)
  · intro n hn
    simp (disch := omega) only [wX9_home_12, s_mweeks, s_mhouses, s_pushOf, s_placeOf, s_placeOf0, hW, hH, hpl, hpl0, hpp, hfo, htu, hsu, hsm, nle, nlt, nI1, cl, inN, s_abs2, not_true_eq_false, not_false_eq_true, false_implies, true_implies, and_true, true_and, and_self, nmM, if_true, if_false, or0, Int32.add_zero, forall_const, Nat.le_refl, Nat.lt_irrefl, Nat.lt_succ_self, m_same E0, lowB_m]
  · intro n i hn hi
    have hi' : ¬ W < i := by omega
    by_cases hc : sameB pl H i = lowB H <;> simp (disch := omega) only [wX9_home_12, s_mweeks, s_mhouses, s_pushOf, s_placeOf, s_placeOf0, hW, hH, hpl, hpl0, hpp, hfo, htu, hsu, hsm, nle, nlt, nI1, cl, inN, s_abs2, not_true_eq_false, not_false_eq_true, false_implies, true_implies, and_true, true_and, and_self, nmM, if_true, if_false, or0, Int32.add_zero, forall_const, Nat.le_refl, Nat.lt_irrefl, Nat.lt_succ_self, m_same E0, lowB_m, hi', hc, decide_eq_true_eq, or_false, or_true, true_or, false_or]
theorem xl_beside {n a b : Nat} {H W : Nat} {pl : Nat → Nat → Nat} {pp : Nat → Nat → Int32} {fo tu su sm : Nat → Int32} {μ : qa_M} {Q : Int32 → qa_M → Prop} (E : XE μ (μ.2.2 1 2) 33 34 35 36 H W pl pp fo tu su sm) (ha : a < H) (hb : b < H) (hn : 25 < n) : wX8_beside_14 n (nI a) (nI b) 0 μ Q ↔ Q (fnd (fun v => decide (ov (nI (pl v b) - nI (pl v a)) H = 1 ∨ ov (nI (pl v b) - nI (pl v a)) H = nI H - 1)) 0 (W + 1)) μ := by
  have E0 := E
  obtain ⟨W20, H8, hW, hH, plt, hpl, hpp, hfo, htu, hsu, hsm⟩ := E
  have hpl0 : ∀ h, h < H → μ.1 (33) h = nI (pl 0 h) := fun h hh => by
    have := hpl 0 (Nat.zero_le W) h hh
    rwa [Nat.zero_mul, Nat.zero_add] at this
  refine fnd_iff 0 (fun n i => wX8_beside_14 n (nI a) (nI b) i μ Q) (fun r => Q r μ) (W + 1) (fun v => decide (ov (nI (pl v b) - nI (pl v a)) H = 1 ∨ ov (nI (pl v b) - nI (pl v a)) H = nI H - 1)) ?_ ?_ (W + 1) 0 n (by omega) (by omega)
  · intro n hn
    simp (disch := omega) only [wX8_beside_14, s_effort, s_spot, s_spot0, hW, hH, hpl, hpl0, hpp, hfo, htu, hsu, hsm, nle, nlt, nI1, cl, inN, s_abs2, not_true_eq_false, not_false_eq_true, false_implies, true_implies, and_true, true_and, and_self, nmM, if_true, if_false, or0, Int32.add_zero, forall_const, Nat.le_refl, Nat.lt_irrefl, Nat.lt_succ_self, x_dist E0]
  · intro n i hn hi
    have hi' : ¬ W < i := by omega
    by_cases hc : ov (nI (pl i b) - nI (pl i a)) H = 1 <;> by_cases hd : ov (nI (pl i b) - nI (pl i a)) H = nI H - 1 <;> simp (disch := omega) only [wX8_beside_14, s_effort, s_spot, s_spot0, hW, hH, hpl, hpl0, hpp, hfo, htu, hsu, hsm, nle, nlt, nI1, cl, inN, s_abs2, not_true_eq_false, not_false_eq_true, false_implies, true_implies, and_true, true_and, and_self, nmM, if_true, if_false, or0, Int32.add_zero, forall_const, Nat.le_refl, Nat.lt_irrefl, Nat.lt_succ_self, x_dist E0, hi', hc, hd, decide_eq_true_eq, or_false, or_true, true_or, false_or]
    all_goals by_cases hz : nI H - 1 = 1 <;> simp only [hz, not_true_eq_false, not_false_eq_true, false_implies, true_implies, and_true, true_and, and_self, nmM, if_true, if_false, or0, Int32.add_zero, forall_const, Nat.le_refl, Nat.lt_irrefl, Nat.lt_succ_self]
theorem ml_beside {n a b : Nat} {H W : Nat} {pl : Nat → Nat → Nat} {pp : Nat → Nat → Int32} {fo tu su sm : Nat → Int32} {μ : qa_M} {Q : Int32 → qa_M → Prop} (E : ME μ H W pl pp fo tu su sm) (ha : a < H) (hb : b < H) (hn : 25 < n) : wX9_beside_19 n (nI a) (nI b) 0 μ Q ↔ Q (fnd (fun v => decide (ov (nI (pl v b) - nI (pl v a)) H = 1 ∨ ov (nI (pl v b) - nI (pl v a)) H = nI H - 1)) 0 (W + 1)) μ := by
  have E0 := E
  obtain ⟨W20, H8, hW, hH, plt, hpl, hpp, hfo, htu, hsu, hsm⟩ := E
  have hpl0 : ∀ h, h < H → μ.1 (101) h = nI (pl 0 h) := fun h hh => by
    have := hpl 0 (Nat.zero_le W) h hh
    rwa [Nat.zero_mul, Nat.zero_add] at this
  refine fnd_iff 0 (fun n i => wX9_beside_19 n (nI a) (nI b) i μ Q) (fun r => Q r μ) (W + 1) (fun v => decide (ov (nI (pl v b) - nI (pl v a)) H = 1 ∨ ov (nI (pl v b) - nI (pl v a)) H = nI H - 1)) ?_ ?_ (W + 1) 0 n (by omega) (by omega)
  · intro n hn
    simp (disch := omega) only [wX9_beside_19, s_mweeks, s_mhouses, s_pushOf, s_placeOf, s_placeOf0, hW, hH, hpl, hpl0, hpp, hfo, htu, hsu, hsm, nle, nlt, nI1, cl, inN, s_abs2, not_true_eq_false, not_false_eq_true, false_implies, true_implies, and_true, true_and, and_self, nmM, if_true, if_false, or0, Int32.add_zero, forall_const, Nat.le_refl, Nat.lt_irrefl, Nat.lt_succ_self, wX9_areBeside, s_over, one_ne, zero_ne1]
  · intro n i hn hi
    have hi' : ¬ W < i := by omega
    by_cases hc : ov (nI (pl i b) - nI (pl i a)) H = 1 <;> by_cases hd : ov (nI (pl i b) - nI (pl i a)) H = nI H - 1 <;> simp (disch := omega) only [wX9_beside_19, s_mweeks, s_mhouses, s_pushOf, s_placeOf, s_placeOf0, hW, hH, hpl, hpl0, hpp, hfo, htu, hsu, hsm, nle, nlt, nI1, cl, inN, s_abs2, not_true_eq_false, not_false_eq_true, false_implies, true_implies, and_true, true_and, and_self, nmM, if_true, if_false, or0, Int32.add_zero, forall_const, Nat.le_refl, Nat.lt_irrefl, Nat.lt_succ_self, wX9_areBeside, s_over, one_ne, zero_ne1, hi', hc, hd, decide_eq_true_eq, or_false, or_true, true_or, false_or]
    all_goals by_cases hz : nI H - 1 = 1 <;> simp only [hz, not_true_eq_false, not_false_eq_true, false_implies, true_implies, and_true, true_and, and_self, nmM, if_true, if_false, or0, Int32.add_zero, forall_const, Nat.le_refl, Nat.lt_irrefl, Nat.lt_succ_self]
