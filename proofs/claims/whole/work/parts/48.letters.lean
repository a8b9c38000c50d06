def XL (μ : qa_M) (t H L : Nat) (lh lp lw : Nat → Nat) : Prop := L ≤ 8 ∧ μ.1 t 8 = nI L ∧ ∀ i, i < L → (lh i < H ∧ lp i < 8 ∧ lw i < 20) ∧ μ.1 (t + 4) i = nI (lh i) ∧ μ.1 (t + 5) i = nI (lp i) ∧ μ.1 (t + 6) i = nI (lw i)
def ML (μ : qa_M) (H L : Nat) (lh lp lw : Nat → Nat) : Prop := L ≤ 8 ∧ μ.1 92 7 = nI L ∧ ∀ i, i < L → (lh i < H ∧ lp i < 8 ∧ lw i < 20) ∧ μ.1 92 (60 + 3 * i) = nI (lh i) ∧ μ.1 92 (61 + 3 * i) = nI (lp i) ∧ μ.1 92 (62 + 3 * i) = nI (lw i)
def rgt (pl : Nat → Nat → Nat) (W : Nat) (lh lp lw : Nat → Nat) (k : Nat) : Prop := lw k ≤ W ∧ nI (pl (lw k) (lh k)) = nI (lp k)
theorem ix60 (k : Nat) : ((60 : Int32) + ((3 : Int32) * nI k)) + 0 = nI (60 + 3 * k) := by rw [Int32.add_zero, show (60 : Int32) = nI 60 from rfl, l3, pk_mul, nI_add]
theorem ix61 (k : Nat) : ((60 : Int32) + ((3 : Int32) * nI k)) + 1 = nI (61 + 3 * k) := by rw [show (60 : Int32) = nI 60 from rfl, l3, pk_mul, nI_add, l1, nI_add]; congr 1; omega
theorem ix62 (k : Nat) : ((60 : Int32) + ((3 : Int32) * nI k)) + 2 = nI (62 + 3 * k) := by rw [show (60 : Int32) = nI 60 from rfl, l3, pk_mul, nI_add, l2, nI_add]; congr 1; omega
theorem m_let0 {n k : Nat} {μ : qa_M} {Q : Int32 → qa_M → Prop} (hk : k < 8) : wX9_letterOf n (nI k) 0 μ Q ↔ Q (μ.1 92 (60 + 3 * k)) μ := by
  unfold wX9_letterOf
  rw [ix60, cl (by omega)]
  exact ⟨fun h => h.2, fun h => ⟨inN (by omega) (by decide), h⟩⟩
theorem m_let1 {n k : Nat} {μ : qa_M} {Q : Int32 → qa_M → Prop} (hk : k < 8) : wX9_letterOf n (nI k) 1 μ Q ↔ Q (μ.1 92 (61 + 3 * k)) μ := by
  unfold wX9_letterOf
  rw [ix61, cl (by omega)]
  exact ⟨fun h => h.2, fun h => ⟨inN (by omega) (by decide), h⟩⟩
theorem m_let2 {n k : Nat} {μ : qa_M} {Q : Int32 → qa_M → Prop} (hk : k < 8) : wX9_letterOf n (nI k) 2 μ Q ↔ Q (μ.1 92 (62 + 3 * k)) μ := by
  unfold wX9_letterOf
  rw [ix62, cl (by omega)]
  exact ⟨fun h => h.2, fun h => ⟨inN (by omega) (by decide), h⟩⟩
theorem qb_t : qb True = 1 := if_pos trivial
theorem qb_f : qb False = 0 := if_neg (fun h => h)
theorem qb_p {c : Prop} [Decidable c] (h : c) : qb c = 1 := if_pos h
theorem qb_n {c : Prop} [Decidable c] (h : ¬ c) : qb c = 0 := if_neg h
def rgb (pl : Nat → Nat → Nat) (W : Nat) (lh lp lw : Nat → Nat) (k : Nat) : Int32 := if lw k ≤ W then (if nI (pl (lw k) (lh k)) = nI (lp k) then 1 else 0) else 0
theorem x_reaches {n t y k : Nat} {H W : Nat} {pl : Nat → Nat → Nat} {pp : Nat → Nat → Int32} {fo tu su sm : Nat → Int32} {μ : qa_M} {Q : Int32 → qa_M → Prop} (E : XE μ t (y + 1) (y + 2) (y + 3) (y + 4) H W pl pp fo tu su sm) {L : Nat} {lh lp lw : Nat → Nat} (G : XL μ t H L lh lp lw) (hk : k < L) : wX7_reaches n y t (nI k) μ Q ↔ Q (rgb pl W lh lp lw k) μ := by
  have E0 := E
  obtain ⟨W20, H8, hW, hH, plt, hpl, hpp, hfo, htu, hsu, hsm⟩ := E
  have hpl0 : ∀ h, h < H → μ.1 (y + 1) h = nI (pl 0 h) := fun h hh => by
    have := hpl 0 (Nat.zero_le W) h hh
    rwa [Nat.zero_mul, Nat.zero_add] at this
  obtain ⟨L8, hL, g⟩ := G
  obtain ⟨⟨b1, b2, b3⟩, g1, g2, g3⟩ := g k hk
  by_cases h1 : lw k ≤ W
  · have h1' : ¬ W < lw k := by omega
    by_cases h2 : nI (pl (lw k) (lh k)) = nI (lp k) <;> simp (disch := omega) only [wX7_reaches, s_effort, s_spot, s_spot0, s_lowBits, hW, hH, hpl, hpl0, hpp, hfo, htu, hsu, hsm, nle, nlt, nI1, cl, inN, s_abs2, not_true_eq_false, not_false_eq_true, false_implies, true_implies, and_true, true_and, and_self, nmM, if_true, if_false, or0, Int32.add_zero, forall_const, Nat.le_refl, Nat.lt_irrefl, Nat.lt_succ_self, g1, g2, g3, rgb, h1, h1', h2]
  · have h1' : W < lw k := by omega
    simp (disch := omega) only [wX7_reaches, s_effort, s_spot, s_spot0, s_lowBits, hW, hH, hpl, hpl0, hpp, hfo, htu, hsu, hsm, nle, nlt, nI1, cl, inN, s_abs2, not_true_eq_false, not_false_eq_true, false_implies, true_implies, and_true, true_and, and_self, nmM, if_true, if_false, or0, Int32.add_zero, forall_const, Nat.le_refl, Nat.lt_irrefl, Nat.lt_succ_self, g1, g2, g3, rgb, h1, h1']
theorem m_isRight {n k : Nat} {H W : Nat} {pl : Nat → Nat → Nat} {pp : Nat → Nat → Int32} {fo tu su sm : Nat → Int32} {μ : qa_M} {Q : Int32 → qa_M → Prop} (E : ME μ H W pl pp fo tu su sm) {L : Nat} {lh lp lw : Nat → Nat} (G : ML μ H L lh lp lw) (hT : 0 < (μ.1 92 9).toInt) (hk : k < L) : wX9_isRight n (nI k) μ Q ↔ Q (rgb pl W lh lp lw k) μ := by
  have E0 := E
  obtain ⟨W20, H8, hW, hH, plt, hpl, hpp, hfo, htu, hsu, hsm⟩ := E
  have hpl0 : ∀ h, h < H → μ.1 (101) h = nI (pl 0 h) := fun h hh => by
    have := hpl 0 (Nat.zero_le W) h hh
    rwa [Nat.zero_mul, Nat.zero_add] at this
  obtain ⟨L8, hL, g⟩ := G
  obtain ⟨⟨b1, b2, b3⟩, g1, g2, g3⟩ := g k hk
  unfold wX9_isRight
  rw [m_let2 (by omega), s_misWeek hW W20, g3, Int32.toInt_toInt64, nI_toInt (by omega)]
  by_cases h1 : lw k ≤ W
  · rw [qb_p (show 0 < (μ.1 92 9).toInt ∧ (0 : Int) ≤ (lw k : Int) ∧ (lw k : Int) ≤ (W : Int) from ⟨hT, by omega, by omega⟩)]
    by_cases h2 : nI (pl (lw k) (lh k)) = nI (lp k) <;> simp (disch := omega) only [m_let0, s_mweeks, s_mhouses, s_pushOf, s_placeOf, s_placeOf0, hW, hH, hpl, hpl0, hpp, hfo, htu, hsu, hsm, nle, nlt, nI1, cl, inN, s_abs2, not_true_eq_false, not_false_eq_true, false_implies, true_implies, and_true, true_and, and_self, nmM, if_true, if_false, or0, Int32.add_zero, forall_const, Nat.le_refl, Nat.lt_irrefl, Nat.lt_succ_self, m_let1, m_let2, g1, g2, g3, rgb, h1, h2, one_ne]
  · rw [qb_n (show ¬ (0 < (μ.1 92 9).toInt ∧ (0 : Int) ≤ (lw k : Int) ∧ (lw k : Int) ≤ (W : Int)) from fun h => by omega)]
    simp (disch := omega) only [not_true_eq_false, not_false_eq_true, false_implies, true_implies, and_true, true_and, and_self, nmM, if_true, if_false, or0, Int32.add_zero, forall_const, Nat.le_refl, Nat.lt_irrefl, Nat.lt_succ_self, rgb, h1]
theorem rgb_01 (pl : Nat → Nat → Nat) (W : Nat) (lh lp lw : Nat → Nat) (k : Nat) : rgb pl W lh lp lw k = 0 ∨ rgb pl W lh lp lw k = 1 := by
  unfold rgb
  split
  · split <;> simp
  · simp
def rgs (pl : Nat → Nat → Nat) (W : Nat) (lh lp lw : Nat → Nat) (L : Nat) : Int32 := itr (fun k s => if rgb pl W lh lp lw k = 0 then s else s ||| ((1 : Int32) <<< (nI k &&& 31))) 0 L 0
theorem xl_reached {n t y : Nat} {H W : Nat} {pl : Nat → Nat → Nat} {pp : Nat → Nat → Int32} {fo tu su sm : Nat → Int32} {μ : qa_M} {Q : Int32 → qa_M → Prop} (E : XE μ t (y + 1) (y + 2) (y + 3) (y + 4) H W pl pp fo tu su sm) {L : Nat} {lh lp lw : Nat → Nat} (G : XL μ t H L lh lp lw) (hn : 25 < n) : wX7_reachedBits_4 n y t 0 0 μ Q ↔ Q (itr (fun k s => if rgb pl W lh lp lw k = 0 then s else s ||| ((1 : Int32) <<< (nI k &&& 31))) 0 (L) 0) μ := by
  have E0 := E
  obtain ⟨W20, H8, hW, hH, plt, hpl, hpp, hfo, htu, hsu, hsm⟩ := E
  have hpl0 : ∀ h, h < H → μ.1 (y + 1) h = nI (pl 0 h) := fun h hh => by
    have := hpl 0 (Nat.zero_le W) h hh
    rwa [Nat.zero_mul, Nat.zero_add] at this
  have L8 := G.1
  refine for_iff 0 (fun n i s => wX7_reachedBits_4 n y t s i μ Q) (fun s => Q s μ) (L) (fun k s => if rgb pl W lh lp lw k = 0 then s else s ||| ((1 : Int32) <<< (nI k &&& 31))) (fun _ _ => True) ?_ ?_ (fun _ _ _ _ => trivial) (L) 0 0 n (by omega) (by omega) trivial
  · intro n s hn hs
    simp (disch := omega) only [wX7_reachedBits_4, s_effort, s_spot, s_spot0, s_lowBits, hW, hH, hpl, hpl0, hpp, hfo, htu, hsu, hsm, nle, nlt, nI1, cl, inN, s_abs2, not_true_eq_false, not_false_eq_true, false_implies, true_implies, and_true, true_and, and_self, nmM, if_true, if_false, or0, Int32.add_zero, forall_const, Nat.le_refl, Nat.lt_irrefl, Nat.lt_succ_self, G.2.1]
  · intro n i s hn hi hs
    have hi' : ¬ L ≤ i := by omega
    have L8 := G.1
    by_cases hc0 : rgb pl W lh lp lw i = 0 <;> simp (disch := omega) only [wX7_reachedBits_4, s_effort, s_spot, s_spot0, s_lowBits, hW, hH, hpl, hpl0, hpp, hfo, htu, hsu, hsm, nle, nlt, nI1, cl, inN, s_abs2, not_true_eq_false, not_false_eq_true, false_implies, true_implies, and_true, true_and, and_self, nmM, if_true, if_false, or0, Int32.add_zero, forall_const, Nat.le_refl, Nat.lt_irrefl, Nat.lt_succ_self, G.2.1, hi', hc0, x_reaches E0 G]
theorem ml_rights {n : Nat} {H W : Nat} {pl : Nat → Nat → Nat} {pp : Nat → Nat → Int32} {fo tu su sm : Nat → Int32} {μ : qa_M} {Q : Int32 → qa_M → Prop} (E : ME μ H W pl pp fo tu su sm) {L : Nat} {lh lp lw : Nat → Nat} (G : ML μ H L lh lp lw) (hT : 0 < (μ.1 92 9).toInt) (hn : 25 < n) : wX9_rightSet_4 n 0 0 μ Q ↔ Q (itr (fun k s => if rgb pl W lh lp lw k = 0 then s else s ||| ((1 : Int32) <<< (nI k &&& 31))) 0 (L) 0) μ := by
  have E0 := E
  obtain ⟨W20, H8, hW, hH, plt, hpl, hpp, hfo, htu, hsu, hsm⟩ := E
  have hpl0 : ∀ h, h < H → μ.1 (101) h = nI (pl 0 h) := fun h hh => by
    have := hpl 0 (Nat.zero_le W) h hh
    rwa [Nat.zero_mul, Nat.zero_add] at this
  have L8 := G.1
  refine for_iff 0 (fun n i s => wX9_rightSet_4 n s i μ Q) (fun s => Q s μ) (L) (fun k s => if rgb pl W lh lp lw k = 0 then s else s ||| ((1 : Int32) <<< (nI k &&& 31))) (fun _ _ => True) ?_ ?_ (fun _ _ _ _ => trivial) (L) 0 0 n (by omega) (by omega) trivial
  · intro n s hn hs
    simp (disch := omega) only [wX9_rightSet_4, s_mweeks, s_mhouses, s_pushOf, s_placeOf, s_placeOf0, hW, hH, hpl, hpl0, hpp, hfo, htu, hsu, hsm, nle, nlt, nI1, cl, inN, s_abs2, not_true_eq_false, not_false_eq_true, false_implies, true_implies, and_true, true_and, and_self, nmM, if_true, if_false, or0, Int32.add_zero, forall_const, Nat.le_refl, Nat.lt_irrefl, Nat.lt_succ_self, G.2.1, wX9_rightSet_31, show (7 : Int32).toNatClampNeg = 7 from rfl]
  · intro n i s hn hi hs
    have hi' : ¬ L ≤ i := by omega
    have L8 := G.1
    by_cases hc0 : rgb pl W lh lp lw i = 0 <;> simp (disch := omega) only [wX9_rightSet_4, s_mweeks, s_mhouses, s_pushOf, s_placeOf, s_placeOf0, hW, hH, hpl, hpl0, hpp, hfo, htu, hsu, hsm, nle, nlt, nI1, cl, inN, s_abs2, not_true_eq_false, not_false_eq_true, false_implies, true_implies, and_true, true_and, and_self, nmM, if_true, if_false, or0, Int32.add_zero, forall_const, Nat.le_refl, Nat.lt_irrefl, Nat.lt_succ_self, G.2.1, wX9_rightSet_31, show (7 : Int32).toNatClampNeg = 7 from rfl, hi', hc0, m_isRight E0 G hT]
theorem x_reached {n t y : Nat} {H W : Nat} {pl : Nat → Nat → Nat} {pp : Nat → Nat → Int32} {fo tu su sm : Nat → Int32} {μ : qa_M} {Q : Int32 → qa_M → Prop} (E : XE μ t (y + 1) (y + 2) (y + 3) (y + 4) H W pl pp fo tu su sm) {L : Nat} {lh lp lw : Nat → Nat} (G : XL μ t H L lh lp lw) (hn : 25 < n) : wX7_reachedBits n y t μ Q ↔ Q (rgs pl W lh lp lw L) μ := xl_reached E G hn
theorem m_rights {n : Nat} {H W : Nat} {pl : Nat → Nat → Nat} {pp : Nat → Nat → Int32} {fo tu su sm : Nat → Int32} {μ : qa_M} {Q : Int32 → qa_M → Prop} (E : ME μ H W pl pp fo tu su sm) {L : Nat} {lh lp lw : Nat → Nat} (G : ML μ H L lh lp lw) (hT : 0 < (μ.1 92 9).toInt) (hn : 25 < n) : wX9_rightSet n μ Q ↔ Q (rgs pl W lh lp lw L) μ := ml_rights E G hT hn
theorem x_first {n h k : Nat} {q : Int32} {H W : Nat} {pl : Nat → Nat → Nat} {pp : Nat → Nat → Int32} {fo tu su sm : Nat → Int32} {μ : qa_M} {Q : Int32 → qa_M → Prop} (E : XE μ (μ.2.2 1 2) 33 34 35 36 H W pl pp fo tu su sm) (hh : h < H) (hk : k < 20) (hn : 25 < n) : wX8_firstWeekOn n (nI h) q (nI k) μ Q ↔ Q (fnd (fun v => decide (nI (pl v h) = q)) k (W + 1 - k)) μ := by
  unfold wX8_firstWeekOn
  by_cases h1 : k ≤ W
  · exact xl_first E hh h1 hn
  · obtain ⟨n, rfl⟩ : ∃ m, n = m + 1 := ⟨n - 1, by omega⟩
    have h1' : W < k := by omega
    rw [show W + 1 - k = 0 by omega, wX8_firstWeekOn_3, E.2.2.1, nlt _ _ (by have := E.1; omega) (by omega)]
    exact ⟨fun h => h.1 h1', fun h => ⟨fun _ => h, fun z => absurd h1' z⟩⟩
theorem ml_late1 {n j k : Nat} {H W : Nat} {pl : Nat → Nat → Nat} {pp : Nat → Nat → Int32} {fo tu su sm : Nat → Int32} {μ : qa_M} {Q : Int32 → qa_M → Prop} (E : ME μ H W pl pp fo tu su sm) {L : Nat} {lh lp lw : Nat → Nat} (G : ML μ H L lh lp lw) (hj : j < L) (hk : k ≤ W) (hn : 25 < n) : wX9_late_23 n (nI j) (nI k) μ Q ↔ Q (fnd (fun v => decide (nI (pl v (lh j)) = nI (lp j))) k (W + 1 - k)) μ := by
  have E0 := E
  obtain ⟨W20, H8, hW, hH, plt, hpl, hpp, hfo, htu, hsu, hsm⟩ := E
  have hpl0 : ∀ h, h < H → μ.1 (101) h = nI (pl 0 h) := fun h hh => by
    have := hpl 0 (Nat.zero_le W) h hh
    rwa [Nat.zero_mul, Nat.zero_add] at this
  have L8 := G.1
  obtain ⟨⟨b1, b2, b3⟩, g1, g2, g3⟩ := G.2.2 j hj
  refine fnd_iff 0 (fun n i => wX9_late_23 n (nI j) i μ Q) (fun r => Q r μ) (W + 1) (fun v => decide (nI (pl v (lh j)) = nI (lp j))) ?_ ?_ (W + 1 - k) k n (by omega) (by omega)
  · intro n hn
    simp (disch := omega) only [wX9_late_23, s_mweeks, s_mhouses, s_pushOf, s_placeOf, s_placeOf0, hW, hH, hpl, hpl0, hpp, hfo, htu, hsu, hsm, nle, nlt, nI1, cl, inN, s_abs2, not_true_eq_false, not_false_eq_true, false_implies, true_implies, and_true, true_and, and_self, nmM, if_true, if_false, or0, Int32.add_zero, forall_const, Nat.le_refl, Nat.lt_irrefl, Nat.lt_succ_self, m_let0, m_let1, g1, g2]
  · intro n i hn hi
    have hi' : ¬ W < i := by omega
    by_cases hc : nI (pl i (lh j)) = nI (lp j) <;> simp (disch := omega) only [wX9_late_23, s_mweeks, s_mhouses, s_pushOf, s_placeOf, s_placeOf0, hW, hH, hpl, hpl0, hpp, hfo, htu, hsu, hsm, nle, nlt, nI1, cl, inN, s_abs2, not_true_eq_false, not_false_eq_true, false_implies, true_implies, and_true, true_and, and_self, nmM, if_true, if_false, or0, Int32.add_zero, forall_const, Nat.le_refl, Nat.lt_irrefl, Nat.lt_succ_self, m_let0, m_let1, g1, g2, hi', hc, decide_eq_true_eq, or_false, or_true, true_or, false_or]
theorem m_late {n j k : Nat} {H W : Nat} {pl : Nat → Nat → Nat} {pp : Nat → Nat → Int32} {fo tu su sm : Nat → Int32} {μ : qa_M} {Q : Int32 → qa_M → Prop} (E : ME μ H W pl pp fo tu su sm) {L : Nat} {lh lp lw : Nat → Nat} (G : ML μ H L lh lp lw) (hj : j < L) (hk : k < 20) (hn : 25 < n) : wX9_late_23 n (nI j) (nI k) μ Q ↔ Q (fnd (fun v => decide (nI (pl v (lh j)) = nI (lp j))) k (W + 1 - k)) μ := by
  by_cases h1 : k ≤ W
  · exact ml_late1 E G hj h1 hn
  · obtain ⟨n, rfl⟩ : ∃ m, n = m + 1 := ⟨n - 1, by omega⟩
    have h1' : W < k := by omega
    rw [show W + 1 - k = 0 by omega, wX9_late_23, s_mweeks, E.2.2.1, nlt _ _ (by have := E.1; omega) (by omega)]
    exact ⟨fun h => h.1 h1', fun h => ⟨fun _ => h, fun z => absurd h1' z⟩⟩
