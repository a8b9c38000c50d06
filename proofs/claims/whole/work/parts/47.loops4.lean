/-- the one with most, the one with least -/
def topI (S : Nat → Int32) (H : Nat) : Nat := itr (fun h q => if S h ≤ S q then q else h) 1 (H - 1) 0
def lowI (S : Nat → Int32) (H : Nat) : Nat := itr (fun h q => if S q ≤ S h then q else h) 1 (H - 1) 0
theorem bro_some (S : Nat → Int32) : ∀ (k i q : Nat), itr (bro S) i k (some q) = some (itr (fun h q => if S h ≤ S q then q else h) i k q)
  | 0, _, _ => rfl
  | k + 1, i, q => by
    show itr (bro S) (i + 1) k (bro S i (some q)) = some (itr (fun h q => if S h ≤ S q then q else h) (i + 1) k (if S i ≤ S q then q else i))
    rw [← bro_some S k (i + 1)]
    congr 1
    show (if S i ≤ S q then some q else some i) = some (if S i ≤ S q then q else i)
    split <;> rfl
theorem pal_some (S : Nat → Int32) : ∀ (k i q : Nat), itr (pal S) i k (some q) = some (itr (fun h q => if S q ≤ S h then q else h) i k q)
  | 0, _, _ => rfl
  | k + 1, i, q => by
    show itr (pal S) (i + 1) k (pal S i (some q)) = some (itr (fun h q => if S q ≤ S h then q else h) (i + 1) k (if S q ≤ S i then q else i))
    rw [← pal_some S k (i + 1)]
    congr 1
    show (if S q ≤ S i then some q else some i) = some (if S q ≤ S i then q else i)
    split <;> rfl
theorem bro_top (S : Nat → Int32) {H : Nat} (h : 1 ≤ H) : itr (bro S) 0 H none = some (topI S H) := by
  obtain ⟨k, rfl⟩ : ∃ k, H = k + 1 := ⟨H - 1, by omega⟩
  exact bro_some S k 1 0
theorem pal_low (S : Nat → Int32) {H : Nat} (h : 1 ≤ H) : itr (pal S) 0 H none = some (lowI S H) := by
  obtain ⟨k, rfl⟩ : ∃ k, H = k + 1 := ⟨H - 1, by omega⟩
  exact pal_some S k 1 0
theorem topI_lt (S : Nat → Int32) {H : Nat} (h : 1 ≤ H) : topI S H < H := by
  refine itr_inv (fun i q => q < H) (H - 1) 1 0 (by omega) (fun j q h1 h2 hq => ?_)
  try dsimp only
  split <;> omega
theorem lowI_lt (S : Nat → Int32) {H : Nat} (h : 1 ≤ H) : lowI S H < H := by
  refine itr_inv (fun i q => q < H) (H - 1) 1 0 (by omega) (fun j q h1 h2 hq => ?_)
  try dsimp only
  split <;> omega
theorem itr_pair {α β : Type} (f : Nat → α → α) (g : Nat → β → β) : ∀ (k i : Nat) (a : α) (b : β), itr (fun j (s : α × β) => (f j s.1, g j s.2)) i k (a, b) = (itr f i k a, itr g i k b)
  | 0, _, _, _ => rfl
  | k + 1, i, a, b => itr_pair f g k (i + 1) (f i a) (g i b)
def spanV (S : Nat → Int32) (H : Nat) : Int32 := if H = 0 then 0 else S (topI S H) - S (lowI S H)
theorem mn_if {a b : Int32} : (if b < a then b else a) = if a ≤ b then a else b := by
  by_cases h : a ≤ b
  · rw [if_pos h, if_neg (fun q => by rw [fa_lt] at q; rw [fa_le] at h; omega)]
  · rw [if_neg h, if_pos (fa_of_nle h)]
theorem mx_if {a b : Int32} : (if a < b then b else a) = if b ≤ a then a else b := by
  by_cases h : b ≤ a
  · rw [if_pos h, if_neg (fun q => by rw [fa_lt] at q; rw [fa_le] at h; omega)]
  · rw [if_neg h, if_pos (fa_of_nle h)]
theorem s_min2 {n : Nat} {v u : Int32} {μ : qa_M} {Q : Int32 → qa_M → Prop} : wJ9_min_7cf53 n v u μ Q ↔ Q (if v ≤ u then v else u) μ := by rw [s_min, mn_if]
theorem s_max2 {n : Nat} {v u : Int32} {μ : qa_M} {Q : Int32 → qa_M → Prop} : wJ9_max_7cf53 n v u μ Q ↔ Q (if u ≤ v then v else u) μ := by rw [s_max, mx_if]
theorem ap_if {S : Nat → Int32} {c : Prop} [Decidable c] {a b : Nat} : S (if c then a else b) = if c then S a else S b := by split <;> rfl
theorem x_spread {n t y : Nat} {H W : Nat} {pl : Nat → Nat → Nat} {pp : Nat → Nat → Int32} {fo tu su sm : Nat → Int32} {μ : qa_M} {Q : Int32 → qa_M → Prop} (E : XE μ t (y + 1) (y + 2) (y + 3) (y + 4) H W pl pp fo tu su sm) (hn : 60 < n) : wX7_spread n y t μ Q ↔ Q (spanV (fun h => aSun pl su h W) H) μ := by
  have E0 := E
  obtain ⟨W20, H8, hW, hH, plt, hpl, hpp, hfo, htu, hsu, hsm⟩ := E
  have hpl0 : ∀ h, h < H → μ.1 (y + 1) h = nI (pl 0 h) := fun h hh => by
    have := hpl 0 (Nat.zero_le W) h hh
    rwa [Nat.zero_mul, Nat.zero_add] at this
  unfold wX7_spread spanV
  rw [hH]
  by_cases h0 : H = 0
  · rw [if_pos h0, h0]
    exact ⟨fun h => h.2 rfl, fun h => ⟨fun q => absurd rfl q, fun _ => h⟩⟩
  · have hne : (nI H = 0) = False := by
      rw [l0, neq _ _ (by omega) (by decide)]
      exact eq_false h0
    rw [if_neg h0, hne, hW, l0, x_sunTo E0 (by omega) (Nat.le_refl W) (by omega)]
    simp only [not_false_eq_true, true_implies, false_implies, and_true]
    have q := for_iff 30 (fun n i (s : Nat × Nat) => wX7_spread_25 n y t (aSun pl su s.1 W) (aSun pl su s.2 W) i μ Q) (fun s => Q (aSun pl su s.2 W - aSun pl su s.1 W) μ) H (fun h (s : Nat × Nat) => ((if aSun pl su s.1 W ≤ aSun pl su h W then s.1 else h), (if aSun pl su h W ≤ aSun pl su s.2 W then s.2 else h))) (fun _ _ => True) ?_ ?_ (fun _ _ _ _ => trivial) (H - 1) 1 (0, 0) n (by omega) (by omega) trivial
    · rw [itr_pair (fun h p => if aSun pl su p W ≤ aSun pl su h W then p else h) (fun h q => if aSun pl su h W ≤ aSun pl su q W then q else h)] at q
      exact q
    · intro n s hn _
      simp (disch := omega) only [wX7_spread_25, s_effort, s_spot, s_spot0, s_lowBits, hW, hH, hpl, hpl0, hpp, hfo, htu, hsu, hsm, nle, nlt, nI1, cl, inN, s_abs2, not_true_eq_false, not_false_eq_true, false_implies, true_implies, and_true, true_and, and_self, nmM, if_true, if_false, or0, Int32.add_zero, forall_const, Nat.le_refl, Nat.lt_irrefl, Nat.lt_succ_self]
    · intro n i s hn hi _
      have hi' : ¬ H ≤ i := by omega
      simp (disch := omega) only [wX7_spread_25, s_effort, s_spot, s_spot0, s_lowBits, hW, hH, hpl, hpl0, hpp, hfo, htu, hsu, hsm, nle, nlt, nI1, cl, inN, s_abs2, not_true_eq_false, not_false_eq_true, false_implies, true_implies, and_true, true_and, and_self, nmM, if_true, if_false, or0, Int32.add_zero, forall_const, Nat.le_refl, Nat.lt_irrefl, Nat.lt_succ_self, hi', x_sunTo E0, s_min2, s_max2]
      rw [ap_if (S := fun h => aSun pl su h W), ap_if (S := fun h => aSun pl su h W)]
theorem m_brownOf {n : Nat} {H W : Nat} {pl : Nat → Nat → Nat} {pp : Nat → Nat → Int32} {fo tu su sm : Nat → Int32} {μ : qa_M} {Q : Int32 → qa_M → Prop} (E : ME μ H W pl pp fo tu su sm) (hn : 60 < n) : wX9_brownOf n μ Q ↔ Q (oI (itr (bro (fun h => aSun pl su h W)) 0 H none)) μ := ml_brown E hn
theorem m_paleOf {n : Nat} {H W : Nat} {pl : Nat → Nat → Nat} {pp : Nat → Nat → Int32} {fo tu su sm : Nat → Int32} {μ : qa_M} {Q : Int32 → qa_M → Prop} (E : ME μ H W pl pp fo tu su sm) (hn : 60 < n) : wX9_paleOf n μ Q ↔ Q (oI (itr (pal (fun h => aSun pl su h W)) 0 H none)) μ := ml_pale E hn
theorem m_span {n : Nat} {H W : Nat} {pl : Nat → Nat → Nat} {pp : Nat → Nat → Int32} {fo tu su sm : Nat → Int32} {μ : qa_M} {Q : Int32 → qa_M → Prop} (E : ME μ H W pl pp fo tu su sm) (hn : 60 < n) : wX9_spanOf n μ Q ↔ Q (spanV (fun h => aSun pl su h W) H) μ := by
  have E0 := E
  obtain ⟨W20, H8, hW, hH, plt, hpl, hpp, hfo, htu, hsu, hsm⟩ := E
  have hpl0 : ∀ h, h < H → μ.1 (101) h = nI (pl 0 h) := fun h hh => by
    have := hpl 0 (Nat.zero_le W) h hh
    rwa [Nat.zero_mul, Nat.zero_add] at this
  unfold wX9_spanOf spanV
  rw [s_mhouses, hH]
  by_cases h0 : H = 0
  · rw [if_pos h0, h0]
    exact ⟨fun h => h.2 rfl, fun h => ⟨fun q => absurd rfl q, fun _ => h⟩⟩
  · have hne : (nI H = 0) = False := by
      rw [l0, neq _ _ (by omega) (by decide)]
      exact eq_false h0
    rw [if_neg h0, hne, m_brownOf E0 hn, bro_top _ (by omega)]
    show (¬ False → _) ∧ (False → _) ↔ _
    have t1 := topI_lt (fun h => aSun pl su h W) (H := H) (by omega)
    have t2 := lowI_lt (fun h => aSun pl su h W) (H := H) (by omega)
    simp (disch := omega) only [oI, m_sunAll E0, m_paleOf E0, pal_low, not_true_eq_false, not_false_eq_true, false_implies, true_implies, and_true, true_and, and_self, nmM, if_true, if_false, or0, Int32.add_zero, forall_const, Nat.le_refl, Nat.lt_irrefl, Nat.lt_succ_self]
theorem xl_gold {n q : Nat} {H W : Nat} {pl : Nat → Nat → Nat} {pp : Nat → Nat → Int32} {fo tu su sm : Nat → Int32} {μ : qa_M} {Q : Int32 → qa_M → Prop} (E : XE μ (μ.2.2 1 2) 33 34 35 36 H W pl pp fo tu su sm) (hq : q < H) (hn : 100 < n) : wX8_gold_18 n (nI q) 0 0 μ Q ↔ Q (itr (fun h s => if aSun pl su h W = aSun pl su q W then s ||| ((1 : Int32) <<< (nI h &&& 31)) else s) 0 (H) 0) μ := by
  have E0 := E
  obtain ⟨W20, H8, hW, hH, plt, hpl, hpp, hfo, htu, hsu, hsm⟩ := E
  have hpl0 : ∀ h, h < H → μ.1 (33) h = nI (pl 0 h) := fun h hh => by
    have := hpl 0 (Nat.zero_le W) h hh
    rwa [Nat.zero_mul, Nat.zero_add] at this
  refine for_iff 70 (fun n i s => wX8_gold_18 n (nI q) s i μ Q) (fun s => Q s μ) (H) (fun h s => if aSun pl su h W = aSun pl su q W then s ||| ((1 : Int32) <<< (nI h &&& 31)) else s) (fun _ _ => True) ?_ ?_ (fun _ _ _ _ => trivial) (H) 0 0 n (by omega) (by omega) trivial
  · intro n s hn hs
    simp (disch := omega) only [wX8_gold_18, s_effort, s_spot, s_spot0, s_lowBits, hW, hH, hpl, hpl0, hpp, hfo, htu, hsu, hsm, nle, nlt, nI1, cl, inN, s_abs2, not_true_eq_false, not_false_eq_true, false_implies, true_implies, and_true, true_and, and_self, nmM, if_true, if_false, or0, Int32.add_zero, forall_const, Nat.le_refl, Nat.lt_irrefl, Nat.lt_succ_self, x_sunTo (y := 32) E0]
  · intro n i s hn hi hs
    have hi' : ¬ H ≤ i := by omega
    by_cases hc0 : aSun pl su i W = aSun pl su q W <;> simp (disch := omega) only [wX8_gold_18, s_effort, s_spot, s_spot0, s_lowBits, hW, hH, hpl, hpl0, hpp, hfo, htu, hsu, hsm, nle, nlt, nI1, cl, inN, s_abs2, not_true_eq_false, not_false_eq_true, false_implies, true_implies, and_true, true_and, and_self, nmM, if_true, if_false, or0, Int32.add_zero, forall_const, Nat.le_refl, Nat.lt_irrefl, Nat.lt_succ_self, x_sunTo (y := 32) E0, hi', hc0]
theorem ml_gold {n q : Nat} {H W : Nat} {pl : Nat → Nat → Nat} {pp : Nat → Nat → Int32} {fo tu su sm : Nat → Int32} {μ : qa_M} {Q : Int32 → qa_M → Prop} (E : ME μ H W pl pp fo tu su sm) (hq : q < H) (htop : topI (fun h => aSun pl su h W) H = q) (hn : 100 < n) : wX9_gold_14 n 0 0 μ Q ↔ Q (itr (fun h s => if aSun pl su h W = aSun pl su q W then s ||| ((1 : Int32) <<< (nI h &&& 31)) else s) 0 (H) 0) μ := by
  have E0 := E
  obtain ⟨W20, H8, hW, hH, plt, hpl, hpp, hfo, htu, hsu, hsm⟩ := E
  have hpl0 : ∀ h, h < H → μ.1 (101) h = nI (pl 0 h) := fun h hh => by
    have := hpl 0 (Nat.zero_le W) h hh
    rwa [Nat.zero_mul, Nat.zero_add] at this
  refine for_iff 70 (fun n i s => wX9_gold_14 n s i μ Q) (fun s => Q s μ) (H) (fun h s => if aSun pl su h W = aSun pl su q W then s ||| ((1 : Int32) <<< (nI h &&& 31)) else s) (fun _ _ => True) ?_ ?_ (fun _ _ _ _ => trivial) (H) 0 0 n (by omega) (by omega) trivial
  · intro n s hn hs
    simp (disch := omega) only [wX9_gold_14, s_mweeks, s_mhouses, s_pushOf, s_placeOf, s_placeOf0, hW, hH, hpl, hpl0, hpp, hfo, htu, hsu, hsm, nle, nlt, nI1, cl, inN, s_abs2, not_true_eq_false, not_false_eq_true, false_implies, true_implies, and_true, true_and, and_self, nmM, if_true, if_false, or0, Int32.add_zero, forall_const, Nat.le_refl, Nat.lt_irrefl, Nat.lt_succ_self, m_sunAll E0, m_brownOf E0, bro_top, oI, htop, wX9_gold_46]
  · intro n i s hn hi hs
    have hi' : ¬ H ≤ i := by omega
    by_cases hc0 : aSun pl su i W = aSun pl su q W <;> simp (disch := omega) only [wX9_gold_14, s_mweeks, s_mhouses, s_pushOf, s_placeOf, s_placeOf0, hW, hH, hpl, hpl0, hpp, hfo, htu, hsu, hsm, nle, nlt, nI1, cl, inN, s_abs2, not_true_eq_false, not_false_eq_true, false_implies, true_implies, and_true, true_and, and_self, nmM, if_true, if_false, or0, Int32.add_zero, forall_const, Nat.le_refl, Nat.lt_irrefl, Nat.lt_succ_self, m_sunAll E0, m_brownOf E0, bro_top, oI, htop, wX9_gold_46, hi', hc0]
theorem n1m (k : Nat) : nI (k + 1) + -1 = nI k := by
  rw [← nI1, Int32.add_assoc]
  show nI k + (1 + -1) = nI k
  rw [show (1 : Int32) + -1 = 0 from rfl, Int32.add_zero]
theorem xl_last {n h : Nat} {H W : Nat} {pl : Nat → Nat → Nat} {pp : Nat → Nat → Int32} {fo tu su sm : Nat → Int32} {μ : qa_M} {Q : Int32 → qa_M → Prop} (E : XE μ (μ.2.2 1 2) 33 34 35 36 H W pl pp fo tu su sm) (hh : h < H) (hn : 25 < n) : wX8_last_15 n (nI h) 0 1 μ Q ↔ Q (nI (itr (fun v s => if nI (pl v h) = nI (pl 0 h) then v else s) 1 (W) 0)) μ := by
  have E0 := E
  obtain ⟨W20, H8, hW, hH, plt, hpl, hpp, hfo, htu, hsu, hsm⟩ := E
  have hpl0 : ∀ h, h < H → μ.1 (33) h = nI (pl 0 h) := fun h hh => by
    have := hpl 0 (Nat.zero_le W) h hh
    rwa [Nat.zero_mul, Nat.zero_add] at this
  refine for_iff 0 (fun n i s => wX8_last_15 n (nI h) (nI s) i μ Q) (fun s => Q (nI s) μ) (W + 1) (fun v s => if nI (pl v h) = nI (pl 0 h) then v else s) (fun _ _ => True) ?_ ?_ (fun _ _ _ _ => trivial) (W) 1 0 n (by omega) (by omega) trivial
  · intro n s hn hs
    simp (disch := omega) only [wX8_last_15, s_effort, s_spot, s_spot0, s_lowBits, hW, hH, hpl, hpl0, hpp, hfo, htu, hsu, hsm, nle, nlt, nI1, cl, inN, s_abs2, not_true_eq_false, not_false_eq_true, false_implies, true_implies, and_true, true_and, and_self, nmM, if_true, if_false, or0, Int32.add_zero, forall_const, Nat.le_refl, Nat.lt_irrefl, Nat.lt_succ_self]
  · intro n i s hn hi hs
    have hi' : ¬ W < i := by omega
    by_cases hc0 : nI (pl i h) = nI (pl 0 h) <;> simp (disch := omega) only [wX8_last_15, s_effort, s_spot, s_spot0, s_lowBits, hW, hH, hpl, hpl0, hpp, hfo, htu, hsu, hsm, nle, nlt, nI1, cl, inN, s_abs2, not_true_eq_false, not_false_eq_true, false_implies, true_implies, and_true, true_and, and_self, nmM, if_true, if_false, or0, Int32.add_zero, forall_const, Nat.le_refl, Nat.lt_irrefl, Nat.lt_succ_self, hi', hc0]
theorem ml_last {h : Nat} {H W : Nat} {pl : Nat → Nat → Nat} {pp : Nat → Nat → Int32} {fo tu su sm : Nat → Int32} {μ : qa_M} {Q : Int32 → qa_M → Prop} (E : ME μ H W pl pp fo tu su sm) (hh : h < H) : ∀ (v n : Nat), v ≤ W → v < n → (wX9_last_16 n (nI h) (nI v) μ Q ↔ Q (nI (itr (fun v s => if nI (pl v h) = nI (pl 0 h) then v else s) 1 v 0)) μ)
  | 0, n, hv, hn => by
    obtain ⟨n, rfl⟩ : ∃ m, n = m + 1 := ⟨n - 1, by omega⟩
    rw [wX9_last_16]
    have E0 := E
    obtain ⟨W20, H8, hW, hH, plt, hpl, hpp, hfo, htu, hsu, hsm⟩ := E
    have e0 : (0 : Int32) = nI 0 := rfl
    rw [s_placeOf (by omega), s_placeOf0 (by omega), hpl 0 hv h hh, show μ.1 101 h = nI (pl 0 h) by have := hpl 0 hv h hh; rwa [Nat.zero_mul, Nat.zero_add] at this]
    exact ⟨fun q => q.1 rfl, fun q => ⟨fun _ => q, fun z => absurd rfl z⟩⟩
  | v + 1, n, hv, hn => by
    obtain ⟨n, rfl⟩ : ∃ m, n = m + 1 := ⟨n - 1, by omega⟩
    have ih := ml_last (Q := Q) E hh v n (by omega) (by omega)
    rw [wX9_last_16]
    have E0 := E
    obtain ⟨W20, H8, hW, hH, plt, hpl, hpp, hfo, htu, hsu, hsm⟩ := E
    rw [s_placeOf (by omega), s_placeOf0 (by omega), hpl (v + 1) hv h hh, show μ.1 101 h = nI (pl 0 h) by have := hpl 0 (by omega) h hh; rwa [Nat.zero_mul, Nat.zero_add] at this, n1m, ih, itr_succ, show 1 + v = v + 1 by omega]
    by_cases hc : nI (pl (v + 1) h) = nI (pl 0 h) <;> simp only [hc, not_true_eq_false, not_false_eq_true, false_implies, true_implies, and_true, true_and, and_self, nmM, if_true, if_false, or0, Int32.add_zero, forall_const, Nat.le_refl, Nat.lt_irrefl, Nat.lt_succ_self]
theorem fnd_some {p : Nat → Bool} : ∀ (k i : Nat), (∃ j, i ≤ j ∧ j < i + k ∧ p j = true) → ∃ b, i ≤ b ∧ b < i + k ∧ fnd p i k = nI b ∧ p b = true
  | 0, i, h => by
    obtain ⟨j, h1, h2, -⟩ := h
    omega
  | k + 1, i, h => by
    unfold fnd
    by_cases c : p i = true
    · exact ⟨i, Nat.le_refl i, by omega, if_pos c, c⟩
    · obtain ⟨j, h1, h2, h3⟩ := h
      have : j ≠ i := fun e => c (e ▸ h3)
      obtain ⟨b, b1, b2, b3, b4⟩ := fnd_some k (i + 1) ⟨j, by omega, by omega, h3⟩
      exact ⟨b, by omega, by omega, by rw [if_neg c]; exact b3, b4⟩
theorem fnd_none {p : Nat → Bool} : ∀ (k i : Nat), (∀ j, i ≤ j → j < i + k → p j = false) → fnd p i k = -1
  | 0, _, _ => rfl
  | k + 1, i, h => by
    unfold fnd
    rw [if_neg (by rw [h i (Nat.le_refl i) (by omega)]; decide)]
    exact fnd_none k (i + 1) (fun j h1 h2 => h j (by omega) (by omega))
/-- every place has a house -/
def ONTO (pl : Nat → Nat → Nat) (H W : Nat) : Prop := ∀ v, v ≤ W → ∀ p, p < H → ∃ h, h < H ∧ pl v h = p
theorem who_is {pl : Nat → Nat → Nat} {H W : Nat} (o : ONTO pl H W) {v p : Nat} (hv : v ≤ W) (hp : p < H) : ∃ b, b < H ∧ fnd (fun h => decide (nI (pl v h) = nI p)) 0 H = nI b ∧ nI (pl v b) = nI p := by
  obtain ⟨h, h1, h2⟩ := o v hv p hp
  obtain ⟨b, -, b2, b3, b4⟩ := fnd_some (p := fun h => decide (nI (pl v h) = nI p)) H 0 ⟨h, by omega, by omega, by rw [h2]; exact decide_eq_true rfl⟩
  exact ⟨b, by omega, b3, of_decide_eq_true b4⟩
def whoN (pl : Nat → Nat → Nat) (H v p : Nat) : Nat := (fnd (fun h => decide (nI (pl v h) = nI p)) 0 H).toNatClampNeg
theorem xl_loose {n p : Nat} {H W : Nat} {pl : Nat → Nat → Nat} {pp : Nat → Nat → Int32} {fo tu su sm : Nat → Int32} {μ : qa_M} {Q : Int32 → qa_M → Prop} (E : XE μ (μ.2.2 1 2) 33 34 35 36 H W pl pp fo tu su sm) (hp : p < H) (on : ONTO pl H W) (hn : 60 < n) : wX8_loose_15 n (nI p) 0 0 μ Q ↔ Q (itr (fun v s => if pp v (whoN pl H v p) = 0 then s ||| ((1 : Int32) <<< (nI v &&& 31)) else s) 0 (W) 0) μ := by
  have E0 := E
  obtain ⟨W20, H8, hW, hH, plt, hpl, hpp, hfo, htu, hsu, hsm⟩ := E
  have hpl0 : ∀ h, h < H → μ.1 (33) h = nI (pl 0 h) := fun h hh => by
    have := hpl 0 (Nat.zero_le W) h hh
    rwa [Nat.zero_mul, Nat.zero_add] at this
  refine for_iff 30 (fun n i s => wX8_loose_15 n (nI p) s i μ Q) (fun s => Q s μ) (W) (fun v s => if pp v (whoN pl H v p) = 0 then s ||| ((1 : Int32) <<< (nI v &&& 31)) else s) (fun _ _ => True) ?_ ?_ (fun _ _ _ _ => trivial) (W) 0 0 n (by omega) (by omega) trivial
  · intro n s hn hs
    simp (disch := omega) only [wX8_loose_15, s_effort, s_spot, s_spot0, s_lowBits, hW, hH, hpl, hpl0, hpp, hfo, htu, hsu, hsm, nle, nlt, nI1, cl, inN, s_abs2, not_true_eq_false, not_false_eq_true, false_implies, true_implies, and_true, true_and, and_self, nmM, if_true, if_false, or0, Int32.add_zero, forall_const, Nat.le_refl, Nat.lt_irrefl, Nat.lt_succ_self]
  · intro n i s hn hi hs
    have hi' : ¬ W ≤ i := by omega
    obtain ⟨b, hb, e1, -⟩ := who_is on (v := i) (by omega) hp
    have e2 : whoN pl H i p = b := by unfold whoN; rw [e1, cl (by omega)]
    by_cases hc0 : pp i b = 0 <;> simp (disch := omega) only [wX8_loose_15, s_effort, s_spot, s_spot0, s_lowBits, hW, hH, hpl, hpl0, hpp, hfo, htu, hsu, hsm, nle, nlt, nI1, cl, inN, s_abs2, not_true_eq_false, not_false_eq_true, false_implies, true_implies, and_true, true_and, and_self, nmM, if_true, if_false, or0, Int32.add_zero, forall_const, Nat.le_refl, Nat.lt_irrefl, Nat.lt_succ_self, hi', hc0, e1, e2, x_who (y := 32) E0, e1, neg1_ne]
theorem ml_loose {n p : Nat} {H W : Nat} {pl : Nat → Nat → Nat} {pp : Nat → Nat → Int32} {fo tu su sm : Nat → Int32} {μ : qa_M} {Q : Int32 → qa_M → Prop} (E : ME μ H W pl pp fo tu su sm) (hp : p < H) (on : ONTO pl H W) (hn : 60 < n) : wX9_loose_21 n (nI p) 0 0 μ Q ↔ Q (itr (fun v s => if pp v (whoN pl H v p) = 0 then s ||| ((1 : Int32) <<< (nI v &&& 31)) else s) 0 (W) 0) μ := by
  have E0 := E
  obtain ⟨W20, H8, hW, hH, plt, hpl, hpp, hfo, htu, hsu, hsm⟩ := E
  have hpl0 : ∀ h, h < H → μ.1 (101) h = nI (pl 0 h) := fun h hh => by
    have := hpl 0 (Nat.zero_le W) h hh
    rwa [Nat.zero_mul, Nat.zero_add] at this
  refine for_iff 30 (fun n i s => wX9_loose_21 n (nI p) s i μ Q) (fun s => Q s μ) (W) (fun v s => if pp v (whoN pl H v p) = 0 then s ||| ((1 : Int32) <<< (nI v &&& 31)) else s) (fun _ _ => True) ?_ ?_ (fun _ _ _ _ => trivial) (W) 0 0 n (by omega) (by omega) trivial
  · intro n s hn hs
    simp (disch := omega) only [wX9_loose_21, s_mweeks, s_mhouses, s_pushOf, s_placeOf, s_placeOf0, hW, hH, hpl, hpl0, hpp, hfo, htu, hsu, hsm, nle, nlt, nI1, cl, inN, s_abs2, not_true_eq_false, not_false_eq_true, false_implies, true_implies, and_true, true_and, and_self, nmM, if_true, if_false, or0, Int32.add_zero, forall_const, Nat.le_refl, Nat.lt_irrefl, Nat.lt_succ_self]
  · intro n i s hn hi hs
    have hi' : ¬ W ≤ i := by omega
    obtain ⟨b, hb, e1, -⟩ := who_is on (v := i) (by omega) hp
    have e2 : whoN pl H i p = b := by unfold whoN; rw [e1, cl (by omega)]
    by_cases hc0 : pp i b = 0 <;> simp (disch := omega) only [wX9_loose_21, s_mweeks, s_mhouses, s_pushOf, s_placeOf, s_placeOf0, hW, hH, hpl, hpl0, hpp, hfo, htu, hsu, hsm, nle, nlt, nI1, cl, inN, s_abs2, not_true_eq_false, not_false_eq_true, false_implies, true_implies, and_true, true_and, and_self, nmM, if_true, if_false, or0, Int32.add_zero, forall_const, Nat.le_refl, Nat.lt_irrefl, Nat.lt_succ_self, hi', hc0, e1, e2, m_who E0, e1, wX9_loose_51]
