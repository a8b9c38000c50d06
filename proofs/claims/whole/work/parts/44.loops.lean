theorem s_spot0 {n v h : Nat} {μ : qa_M} {Q : Int32 → qa_M → Prop} (hh : h < 8) : wX7_spot n v (nI h) 0 μ Q ↔ Q (μ.1 (v + 1) h) μ := by
  rw [l0, s_spot (by omega), Nat.zero_mul, Nat.zero_add]
theorem s_placeOf0 {n h : Nat} {μ : qa_M} {Q : Int32 → qa_M → Prop} (hh : h < 8) : wX9_placeOf n (nI h) 0 μ Q ↔ Q (μ.1 101 h) μ := by
  rw [l0, s_placeOf (by omega), Nat.zero_mul, Nat.zero_add]
theorem s_abs2 {n : Nat} {v : Int32} {μ : qa_M} {Q : Int32 → qa_M → Prop} : wJ9_abs_0f7a4 n v μ Q ↔ Q (ab v) μ := s_abs
theorem xl_toil {n h : Nat} {H W : Nat} {pl : Nat → Nat → Nat} {pp : Nat → Nat → Int32} {fo tu su sm : Nat → Int32} {μ : qa_M} {Q : Int32 → qa_M → Prop} (E : XE μ (μ.2.2 1 2) 33 34 35 36 H W pl pp fo tu su sm) (hh : h < H) (hn : 25 < n) : wX8_toil_15 n (nI h) 0 0 μ Q ↔ Q (itr (fun v s => s + pp v h) 0 (W) 0) μ := by
  obtain ⟨W20, H8, hW, hH, plt, hpl, hpp, hfo, htu, hsu, hsm⟩ := E
  have hpl0 : ∀ h, h < H → μ.1 (33) h = nI (pl 0 h) := fun h hh => by
    have := hpl 0 (Nat.zero_le W) h hh
    rwa [Nat.zero_mul, Nat.zero_add] at this
  refine for_iff 0 (fun n i s => wX8_toil_15 n (nI h) s i μ Q) (fun s => Q s μ) (W) (fun v s => s + pp v h) (fun _ _ => True) ?_ ?_ (fun _ _ _ _ => trivial) (W) 0 0 n (by omega) (by omega) trivial
  · intro n s hn hs
    simp (disch := omega) only [wX8_toil_15, s_effort, s_spot, s_spot0, s_lowBits, hW, hH, hpl, hpl0, hpp, hfo, htu, hsu, hsm, nle, nlt, nI1, cl, inN, s_abs2, not_true_eq_false, not_false_eq_true, false_implies, true_implies, and_true, true_and, and_self, nmM, if_true, if_false, or0, Int32.add_zero, forall_const, Nat.le_refl, Nat.lt_irrefl, Nat.lt_succ_self]
  · intro n i s hn hi hs
    have hi' : ¬ W ≤ i := by omega
    simp (disch := omega) only [wX8_toil_15, s_effort, s_spot, s_spot0, s_lowBits, hW, hH, hpl, hpl0, hpp, hfo, htu, hsu, hsm, nle, nlt, nI1, cl, inN, s_abs2, not_true_eq_false, not_false_eq_true, false_implies, true_implies, and_true, true_and, and_self, nmM, if_true, if_false, or0, Int32.add_zero, forall_const, Nat.le_refl, Nat.lt_irrefl, Nat.lt_succ_self, hi']
theorem ml_toil {n h : Nat} {H W : Nat} {pl : Nat → Nat → Nat} {pp : Nat → Nat → Int32} {fo tu su sm : Nat → Int32} {μ : qa_M} {Q : Int32 → qa_M → Prop} (E : ME μ H W pl pp fo tu su sm) (hh : h < H) (hn : 25 < n) : wX9_toil_15 n (nI h) 0 0 μ Q ↔ Q (itr (fun v s => s + pp v h) 0 (W) 0) μ := by
  obtain ⟨W20, H8, hW, hH, plt, hpl, hpp, hfo, htu, hsu, hsm⟩ := E
  have hpl0 : ∀ h, h < H → μ.1 (101) h = nI (pl 0 h) := fun h hh => by
    have := hpl 0 (Nat.zero_le W) h hh
    rwa [Nat.zero_mul, Nat.zero_add] at this
  refine for_iff 0 (fun n i s => wX9_toil_15 n (nI h) s i μ Q) (fun s => Q s μ) (W) (fun v s => s + pp v h) (fun _ _ => True) ?_ ?_ (fun _ _ _ _ => trivial) (W) 0 0 n (by omega) (by omega) trivial
  · intro n s hn hs
    simp (disch := omega) only [wX9_toil_15, s_mweeks, s_mhouses, s_pushOf, s_placeOf, s_placeOf0, hW, hH, hpl, hpl0, hpp, hfo, htu, hsu, hsm, nle, nlt, nI1, cl, inN, s_abs2, not_true_eq_false, not_false_eq_true, false_implies, true_implies, and_true, true_and, and_self, nmM, if_true, if_false, or0, Int32.add_zero, forall_const, Nat.le_refl, Nat.lt_irrefl, Nat.lt_succ_self]
  · intro n i s hn hi hs
    have hi' : ¬ W ≤ i := by omega
    simp (disch := omega) only [wX9_toil_15, s_mweeks, s_mhouses, s_pushOf, s_placeOf, s_placeOf0, hW, hH, hpl, hpl0, hpp, hfo, htu, hsu, hsm, nle, nlt, nI1, cl, inN, s_abs2, not_true_eq_false, not_false_eq_true, false_implies, true_implies, and_true, true_and, and_self, nmM, if_true, if_false, or0, Int32.add_zero, forall_const, Nat.le_refl, Nat.lt_irrefl, Nat.lt_succ_self, hi']
theorem xl_jerk {n : Nat} {H W : Nat} {pl : Nat → Nat → Nat} {pp : Nat → Nat → Int32} {fo tu su sm : Nat → Int32} {μ : qa_M} {Q : Int32 → qa_M → Prop} (E : XE μ (μ.2.2 1 2) 33 34 35 36 H W pl pp fo tu su sm) (h1 : 1 ≤ W) (hn : 25 < n) : wX8_jerk_14 n 0 1 μ Q ↔ Q (nI (itr (fun v s => if ab (tu v) ≤ ab (tu s) then s else v) 1 (W - 1) 0)) μ := by
  obtain ⟨W20, H8, hW, hH, plt, hpl, hpp, hfo, htu, hsu, hsm⟩ := E
  have hpl0 : ∀ h, h < H → μ.1 (33) h = nI (pl 0 h) := fun h hh => by
    have := hpl 0 (Nat.zero_le W) h hh
    rwa [Nat.zero_mul, Nat.zero_add] at this
  refine for_iff 0 (fun n i s => wX8_jerk_14 n (nI s) i μ Q) (fun s => Q (nI s) μ) (W) (fun v s => if ab (tu v) ≤ ab (tu s) then s else v) (fun _ s => s < W) ?_ ?_ ?_ (W - 1) 1 0 n (by omega) (by omega) (by omega)
  · intro n s hn hs
    simp (disch := omega) only [wX8_jerk_14, s_effort, s_spot, s_spot0, s_lowBits, hW, hH, hpl, hpl0, hpp, hfo, htu, hsu, hsm, nle, nlt, nI1, cl, inN, s_abs2, not_true_eq_false, not_false_eq_true, false_implies, true_implies, and_true, true_and, and_self, nmM, if_true, if_false, or0, Int32.add_zero, forall_const, Nat.le_refl, Nat.lt_irrefl, Nat.lt_succ_self]
  · intro n i s hn hi hs
    have hi' : ¬ W ≤ i := by omega
    by_cases hc0 : ab (tu i) ≤ ab (tu s) <;> simp (disch := omega) only [wX8_jerk_14, s_effort, s_spot, s_spot0, s_lowBits, hW, hH, hpl, hpl0, hpp, hfo, htu, hsu, hsm, nle, nlt, nI1, cl, inN, s_abs2, not_true_eq_false, not_false_eq_true, false_implies, true_implies, and_true, true_and, and_self, nmM, if_true, if_false, or0, Int32.add_zero, forall_const, Nat.le_refl, Nat.lt_irrefl, Nat.lt_succ_self, hi', hc0]
  · intro i s hi hs
    try dsimp only at hs ⊢
    try split
    all_goals omega
theorem ml_jerk {n : Nat} {H W : Nat} {pl : Nat → Nat → Nat} {pp : Nat → Nat → Int32} {fo tu su sm : Nat → Int32} {μ : qa_M} {Q : Int32 → qa_M → Prop} (E : ME μ H W pl pp fo tu su sm) (h1 : 1 ≤ W) (hn : 25 < n) : wX9_jerk_14 n 0 1 μ Q ↔ Q (nI (itr (fun v s => if ab (tu v) ≤ ab (tu s) then s else v) 1 (W - 1) 0)) μ := by
  obtain ⟨W20, H8, hW, hH, plt, hpl, hpp, hfo, htu, hsu, hsm⟩ := E
  have hpl0 : ∀ h, h < H → μ.1 (101) h = nI (pl 0 h) := fun h hh => by
    have := hpl 0 (Nat.zero_le W) h hh
    rwa [Nat.zero_mul, Nat.zero_add] at this
  refine for_iff 0 (fun n i s => wX9_jerk_14 n (nI s) i μ Q) (fun s => Q (nI s) μ) (W) (fun v s => if ab (tu v) ≤ ab (tu s) then s else v) (fun _ s => s < W) ?_ ?_ ?_ (W - 1) 1 0 n (by omega) (by omega) (by omega)
  · intro n s hn hs
    simp (disch := omega) only [wX9_jerk_14, s_mweeks, s_mhouses, s_pushOf, s_placeOf, s_placeOf0, hW, hH, hpl, hpl0, hpp, hfo, htu, hsu, hsm, nle, nlt, nI1, cl, inN, s_abs2, not_true_eq_false, not_false_eq_true, false_implies, true_implies, and_true, true_and, and_self, nmM, if_true, if_false, or0, Int32.add_zero, forall_const, Nat.le_refl, Nat.lt_irrefl, Nat.lt_succ_self, wX9_jerk_48]
  · intro n i s hn hi hs
    have hi' : ¬ W ≤ i := by omega
    by_cases hc0 : ab (tu i) ≤ ab (tu s) <;> simp (disch := omega) only [wX9_jerk_14, s_mweeks, s_mhouses, s_pushOf, s_placeOf, s_placeOf0, hW, hH, hpl, hpl0, hpp, hfo, htu, hsu, hsm, nle, nlt, nI1, cl, inN, s_abs2, not_true_eq_false, not_false_eq_true, false_implies, true_implies, and_true, true_and, and_self, nmM, if_true, if_false, or0, Int32.add_zero, forall_const, Nat.le_refl, Nat.lt_irrefl, Nat.lt_succ_self, wX9_jerk_48, hi', hc0]
  · intro i s hi hs
    try dsimp only at hs ⊢
    try split
    all_goals omega
theorem xl_still {n : Nat} {H W : Nat} {pl : Nat → Nat → Nat} {pp : Nat → Nat → Int32} {fo tu su sm : Nat → Int32} {μ : qa_M} {Q : Int32 → qa_M → Prop} (E : XE μ (μ.2.2 1 2) 33 34 35 36 H W pl pp fo tu su sm)  (hn : 25 < n) : wX8_still_14 n 0 0 μ Q ↔ Q (itr (fun v s => if tu v = 0 then s ||| ((1 : Int32) <<< (nI v &&& 31)) else s) 0 (W) 0) μ := by
  obtain ⟨W20, H8, hW, hH, plt, hpl, hpp, hfo, htu, hsu, hsm⟩ := E
  have hpl0 : ∀ h, h < H → μ.1 (33) h = nI (pl 0 h) := fun h hh => by
    have := hpl 0 (Nat.zero_le W) h hh
    rwa [Nat.zero_mul, Nat.zero_add] at this
  refine for_iff 0 (fun n i s => wX8_still_14 n s i μ Q) (fun s => Q s μ) (W) (fun v s => if tu v = 0 then s ||| ((1 : Int32) <<< (nI v &&& 31)) else s) (fun _ _ => True) ?_ ?_ (fun _ _ _ _ => trivial) (W) 0 0 n (by omega) (by omega) trivial
  · intro n s hn hs
    simp (disch := omega) only [wX8_still_14, s_effort, s_spot, s_spot0, s_lowBits, hW, hH, hpl, hpl0, hpp, hfo, htu, hsu, hsm, nle, nlt, nI1, cl, inN, s_abs2, not_true_eq_false, not_false_eq_true, false_implies, true_implies, and_true, true_and, and_self, nmM, if_true, if_false, or0, Int32.add_zero, forall_const, Nat.le_refl, Nat.lt_irrefl, Nat.lt_succ_self]
  · intro n i s hn hi hs
    have hi' : ¬ W ≤ i := by omega
    by_cases hc0 : tu i = 0 <;> simp (disch := omega) only [wX8_still_14, s_effort, s_spot, s_spot0, s_lowBits, hW, hH, hpl, hpl0, hpp, hfo, htu, hsu, hsm, nle, nlt, nI1, cl, inN, s_abs2, not_true_eq_false, not_false_eq_true, false_implies, true_implies, and_true, true_and, and_self, nmM, if_true, if_false, or0, Int32.add_zero, forall_const, Nat.le_refl, Nat.lt_irrefl, Nat.lt_succ_self, hi', hc0]
theorem ml_still {n : Nat} {H W : Nat} {pl : Nat → Nat → Nat} {pp : Nat → Nat → Int32} {fo tu su sm : Nat → Int32} {μ : qa_M} {Q : Int32 → qa_M → Prop} (E : ME μ H W pl pp fo tu su sm)  (hn : 25 < n) : wX9_still_14 n 0 0 μ Q ↔ Q (itr (fun v s => if tu v = 0 then s ||| ((1 : Int32) <<< (nI v &&& 31)) else s) 0 (W) 0) μ := by
  obtain ⟨W20, H8, hW, hH, plt, hpl, hpp, hfo, htu, hsu, hsm⟩ := E
  have hpl0 : ∀ h, h < H → μ.1 (101) h = nI (pl 0 h) := fun h hh => by
    have := hpl 0 (Nat.zero_le W) h hh
    rwa [Nat.zero_mul, Nat.zero_add] at this
  refine for_iff 0 (fun n i s => wX9_still_14 n s i μ Q) (fun s => Q s μ) (W) (fun v s => if tu v = 0 then s ||| ((1 : Int32) <<< (nI v &&& 31)) else s) (fun _ _ => True) ?_ ?_ (fun _ _ _ _ => trivial) (W) 0 0 n (by omega) (by omega) trivial
  · intro n s hn hs
    simp (disch := omega) only [wX9_still_14, s_mweeks, s_mhouses, s_pushOf, s_placeOf, s_placeOf0, hW, hH, hpl, hpl0, hpp, hfo, htu, hsu, hsm, nle, nlt, nI1, cl, inN, s_abs2, not_true_eq_false, not_false_eq_true, false_implies, true_implies, and_true, true_and, and_self, nmM, if_true, if_false, or0, Int32.add_zero, forall_const, Nat.le_refl, Nat.lt_irrefl, Nat.lt_succ_self, wX9_still_39]
  · intro n i s hn hi hs
    have hi' : ¬ W ≤ i := by omega
    by_cases hc0 : tu i = 0 <;> simp (disch := omega) only [wX9_still_14, s_mweeks, s_mhouses, s_pushOf, s_placeOf, s_placeOf0, hW, hH, hpl, hpl0, hpp, hfo, htu, hsu, hsm, nle, nlt, nI1, cl, inN, s_abs2, not_true_eq_false, not_false_eq_true, false_implies, true_implies, and_true, true_and, and_self, nmM, if_true, if_false, or0, Int32.add_zero, forall_const, Nat.le_refl, Nat.lt_irrefl, Nat.lt_succ_self, wX9_still_39, hi', hc0]
theorem xl_stands {n k : Nat} {H W : Nat} {pl : Nat → Nat → Nat} {pp : Nat → Nat → Int32} {fo tu su sm : Nat → Int32} {μ : qa_M} {Q : Int32 → qa_M → Prop} (E : XE μ (μ.2.2 1 2) 33 34 35 36 H W pl pp fo tu su sm) (hk : k ≤ W) (hn : 25 < n) : wX8_stands_15 n (nI k) 0 0 μ Q ↔ Q (if H = 0 then 0 else ov (itr (fun v s => s + tu v) 0 (k) 0) H) μ := by
  obtain ⟨W20, H8, hW, hH, plt, hpl, hpp, hfo, htu, hsu, hsm⟩ := E
  have hpl0 : ∀ h, h < H → μ.1 (33) h = nI (pl 0 h) := fun h hh => by
    have := hpl 0 (Nat.zero_le W) h hh
    rwa [Nat.zero_mul, Nat.zero_add] at this
  refine for_iff 0 (fun n i s => wX8_stands_15 n (nI k) s i μ Q) (fun s => Q (if H = 0 then 0 else ov s H) μ) (k) (fun v s => s + tu v) (fun _ _ => True) ?_ ?_ (fun _ _ _ _ => trivial) (k) 0 0 n (by omega) (by omega) trivial
  · intro n s hn hs
    simp (disch := omega) only [wX8_stands_15, s_effort, s_spot, s_spot0, s_lowBits, hW, hH, hpl, hpl0, hpp, hfo, htu, hsu, hsm, nle, nlt, nI1, cl, inN, s_abs2, not_true_eq_false, not_false_eq_true, false_implies, true_implies, and_true, true_and, and_self, nmM, if_true, if_false, or0, Int32.add_zero, forall_const, Nat.le_refl, Nat.lt_irrefl, Nat.lt_succ_self, s_round]
  · intro n i s hn hi hs
    have hi' : ¬ k ≤ i := by omega
    simp (disch := omega) only [wX8_stands_15, s_effort, s_spot, s_spot0, s_lowBits, hW, hH, hpl, hpl0, hpp, hfo, htu, hsu, hsm, nle, nlt, nI1, cl, inN, s_abs2, not_true_eq_false, not_false_eq_true, false_implies, true_implies, and_true, true_and, and_self, nmM, if_true, if_false, or0, Int32.add_zero, forall_const, Nat.le_refl, Nat.lt_irrefl, Nat.lt_succ_self, s_round, hi']
theorem ml_stands {n k : Nat} {H W : Nat} {pl : Nat → Nat → Nat} {pp : Nat → Nat → Int32} {fo tu su sm : Nat → Int32} {μ : qa_M} {Q : Int32 → qa_M → Prop} (E : ME μ H W pl pp fo tu su sm) {K : Int32 → qa_M → Prop} (hk : k ≤ W) (hn : 25 < n) : wX9_stands_15 n (nI k) 0 0 μ K Q ↔ K (itr (fun v s => s + tu v) 0 (k) 0) μ := by
  obtain ⟨W20, H8, hW, hH, plt, hpl, hpp, hfo, htu, hsu, hsm⟩ := E
  have hpl0 : ∀ h, h < H → μ.1 (101) h = nI (pl 0 h) := fun h hh => by
    have := hpl 0 (Nat.zero_le W) h hh
    rwa [Nat.zero_mul, Nat.zero_add] at this
  refine for_iff 0 (fun n i s => wX9_stands_15 n (nI k) s i μ K Q) (fun s => K s μ) (k) (fun v s => s + tu v) (fun _ _ => True) ?_ ?_ (fun _ _ _ _ => trivial) (k) 0 0 n (by omega) (by omega) trivial
  · intro n s hn hs
    simp (disch := omega) only [wX9_stands_15, s_mweeks, s_mhouses, s_pushOf, s_placeOf, s_placeOf0, hW, hH, hpl, hpl0, hpp, hfo, htu, hsu, hsm, nle, nlt, nI1, cl, inN, s_abs2, not_true_eq_false, not_false_eq_true, false_implies, true_implies, and_true, true_and, and_self, nmM, if_true, if_false, or0, Int32.add_zero, forall_const, Nat.le_refl, Nat.lt_irrefl, Nat.lt_succ_self]
  · intro n i s hn hi hs
    have hi' : ¬ k ≤ i := by omega
    simp (disch := omega) only [wX9_stands_15, s_mweeks, s_mhouses, s_pushOf, s_placeOf, s_placeOf0, hW, hH, hpl, hpl0, hpp, hfo, htu, hsu, hsm, nle, nlt, nI1, cl, inN, s_abs2, not_true_eq_false, not_false_eq_true, false_implies, true_implies, and_true, true_and, and_self, nmM, if_true, if_false, or0, Int32.add_zero, forall_const, Nat.le_refl, Nat.lt_irrefl, Nat.lt_succ_self, hi']
theorem xl_sunTo {n t y h k : Nat} {H W : Nat} {pl : Nat → Nat → Nat} {pp : Nat → Nat → Int32} {fo tu su sm : Nat → Int32} {μ : qa_M} {Q : Int32 → qa_M → Prop} (E : XE μ t (y + 1) (y + 2) (y + 3) (y + 4) H W pl pp fo tu su sm) (hh : h < H) (hk : k ≤ W) (hn : 25 < n) : wX7_sunTo_6 n y t (nI h) (nI k) 0 0 μ Q ↔ Q (itr (fun j s => s + su (pl j h)) 0 (k + 1) 0) μ := by
  obtain ⟨W20, H8, hW, hH, plt, hpl, hpp, hfo, htu, hsu, hsm⟩ := E
  have hpl0 : ∀ h, h < H → μ.1 (y + 1) h = nI (pl 0 h) := fun h hh => by
    have := hpl 0 (Nat.zero_le W) h hh
    rwa [Nat.zero_mul, Nat.zero_add] at this
  refine for_iff 0 (fun n i s => wX7_sunTo_6 n y t (nI h) (nI k) s i μ Q) (fun s => Q s μ) (k + 1) (fun j s => s + su (pl j h)) (fun _ _ => True) ?_ ?_ (fun _ _ _ _ => trivial) (k + 1) 0 0 n (by omega) (by omega) trivial
  · intro n s hn hs
    simp (disch := omega) only [wX7_sunTo_6, s_effort, s_spot, s_spot0, s_lowBits, hW, hH, hpl, hpl0, hpp, hfo, htu, hsu, hsm, nle, nlt, nI1, cl, inN, s_abs2, not_true_eq_false, not_false_eq_true, false_implies, true_implies, and_true, true_and, and_self, nmM, if_true, if_false, or0, Int32.add_zero, forall_const, Nat.le_refl, Nat.lt_irrefl, Nat.lt_succ_self]
  · intro n i s hn hi hs
    have hi' : ¬ k + 1 ≤ i := by omega
    have hp := plt i h hh
    have hi2 : ¬ k < i := by omega
    simp (disch := omega) only [wX7_sunTo_6, s_effort, s_spot, s_spot0, s_lowBits, hW, hH, hpl, hpl0, hpp, hfo, htu, hsu, hsm, nle, nlt, nI1, cl, inN, s_abs2, not_true_eq_false, not_false_eq_true, false_implies, true_implies, and_true, true_and, and_self, nmM, if_true, if_false, or0, Int32.add_zero, forall_const, Nat.le_refl, Nat.lt_irrefl, Nat.lt_succ_self, hi', hi2]
theorem ml_sunTo {n h k : Nat} {H W : Nat} {pl : Nat → Nat → Nat} {pp : Nat → Nat → Int32} {fo tu su sm : Nat → Int32} {μ : qa_M} {Q : Int32 → qa_M → Prop} (E : ME μ H W pl pp fo tu su sm) (hh : h < H) (hk : k ≤ W) (hn : 25 < n) : wX9_sunTo_5 n (nI h) (nI k) 0 0 μ Q ↔ Q (itr (fun j s => s + su (pl j h)) 0 (k + 1) 0) μ := by
  obtain ⟨W20, H8, hW, hH, plt, hpl, hpp, hfo, htu, hsu, hsm⟩ := E
  have hpl0 : ∀ h, h < H → μ.1 (101) h = nI (pl 0 h) := fun h hh => by
    have := hpl 0 (Nat.zero_le W) h hh
    rwa [Nat.zero_mul, Nat.zero_add] at this
  refine for_iff 0 (fun n i s => wX9_sunTo_5 n (nI h) (nI k) s i μ Q) (fun s => Q s μ) (k + 1) (fun j s => s + su (pl j h)) (fun _ _ => True) ?_ ?_ (fun _ _ _ _ => trivial) (k + 1) 0 0 n (by omega) (by omega) trivial
  · intro n s hn hs
    simp (disch := omega) only [wX9_sunTo_5, s_mweeks, s_mhouses, s_pushOf, s_placeOf, s_placeOf0, hW, hH, hpl, hpl0, hpp, hfo, htu, hsu, hsm, nle, nlt, nI1, cl, inN, s_abs2, not_true_eq_false, not_false_eq_true, false_implies, true_implies, and_true, true_and, and_self, nmM, if_true, if_false, or0, Int32.add_zero, forall_const, Nat.le_refl, Nat.lt_irrefl, Nat.lt_succ_self]
  · intro n i s hn hi hs
    have hi' : ¬ k + 1 ≤ i := by omega
    have hp := plt i h hh
    have hi2 : ¬ k < i := by omega
    simp (disch := omega) only [wX9_sunTo_5, s_mweeks, s_mhouses, s_pushOf, s_placeOf, s_placeOf0, hW, hH, hpl, hpl0, hpp, hfo, htu, hsu, hsm, nle, nlt, nI1, cl, inN, s_abs2, not_true_eq_false, not_false_eq_true, false_implies, true_implies, and_true, true_and, and_self, nmM, if_true, if_false, or0, Int32.add_zero, forall_const, Nat.le_refl, Nat.lt_irrefl, Nat.lt_succ_self, hi', hi2]
theorem xl_same {n v : Nat} {H W : Nat} {pl : Nat → Nat → Nat} {pp : Nat → Nat → Int32} {fo tu su sm : Nat → Int32} {μ : qa_M} {Q : Int32 → qa_M → Prop} (E : XE μ (μ.2.2 1 2) 33 34 35 36 H W pl pp fo tu su sm) (hv : v ≤ W) (hn : 25 < n) : wX8_backHomeBits_4 n (nI v) 0 0 μ Q ↔ Q (itr (fun h s => if nI (pl v h) = nI (pl 0 h) then s ||| ((1 : Int32) <<< (nI h &&& 31)) else s) 0 (H) 0) μ := by
  obtain ⟨W20, H8, hW, hH, plt, hpl, hpp, hfo, htu, hsu, hsm⟩ := E
  have hpl0 : ∀ h, h < H → μ.1 (33) h = nI (pl 0 h) := fun h hh => by
    have := hpl 0 (Nat.zero_le W) h hh
    rwa [Nat.zero_mul, Nat.zero_add] at this
  refine for_iff 0 (fun n i s => wX8_backHomeBits_4 n (nI v) s i μ Q) (fun s => Q s μ) (H) (fun h s => if nI (pl v h) = nI (pl 0 h) then s ||| ((1 : Int32) <<< (nI h &&& 31)) else s) (fun _ _ => True) ?_ ?_ (fun _ _ _ _ => trivial) (H) 0 0 n (by omega) (by omega) trivial
  · intro n s hn hs
    simp (disch := omega) only [wX8_backHomeBits_4, s_effort, s_spot, s_spot0, s_lowBits, hW, hH, hpl, hpl0, hpp, hfo, htu, hsu, hsm, nle, nlt, nI1, cl, inN, s_abs2, not_true_eq_false, not_false_eq_true, false_implies, true_implies, and_true, true_and, and_self, nmM, if_true, if_false, or0, Int32.add_zero, forall_const, Nat.le_refl, Nat.lt_irrefl, Nat.lt_succ_self]
  · intro n i s hn hi hs
    have hi' : ¬ H ≤ i := by omega
    have hp := plt i
    by_cases hc0 : nI (pl v i) = nI (pl 0 i) <;> simp (disch := omega) only [wX8_backHomeBits_4, s_effort, s_spot, s_spot0, s_lowBits, hW, hH, hpl, hpl0, hpp, hfo, htu, hsu, hsm, nle, nlt, nI1, cl, inN, s_abs2, not_true_eq_false, not_false_eq_true, false_implies, true_implies, and_true, true_and, and_self, nmM, if_true, if_false, or0, Int32.add_zero, forall_const, Nat.le_refl, Nat.lt_irrefl, Nat.lt_succ_self, hi', hc0]
theorem ml_same {n v : Nat} {H W : Nat} {pl : Nat → Nat → Nat} {pp : Nat → Nat → Int32} {fo tu su sm : Nat → Int32} {μ : qa_M} {Q : Int32 → qa_M → Prop} (E : ME μ H W pl pp fo tu su sm) (hv : v ≤ W) (hn : 25 < n) : wX9_sameIn_4 n (nI v) 0 0 μ Q ↔ Q (itr (fun h s => if nI (pl v h) = nI (pl 0 h) then s ||| ((1 : Int32) <<< (nI h &&& 31)) else s) 0 (H) 0) μ := by
  obtain ⟨W20, H8, hW, hH, plt, hpl, hpp, hfo, htu, hsu, hsm⟩ := E
  have hpl0 : ∀ h, h < H → μ.1 (101) h = nI (pl 0 h) := fun h hh => by
    have := hpl 0 (Nat.zero_le W) h hh
    rwa [Nat.zero_mul, Nat.zero_add] at this
  refine for_iff 0 (fun n i s => wX9_sameIn_4 n (nI v) s i μ Q) (fun s => Q s μ) (H) (fun h s => if nI (pl v h) = nI (pl 0 h) then s ||| ((1 : Int32) <<< (nI h &&& 31)) else s) (fun _ _ => True) ?_ ?_ (fun _ _ _ _ => trivial) (H) 0 0 n (by omega) (by omega) trivial
  · intro n s hn hs
    simp (disch := omega) only [wX9_sameIn_4, s_mweeks, s_mhouses, s_pushOf, s_placeOf, s_placeOf0, hW, hH, hpl, hpl0, hpp, hfo, htu, hsu, hsm, nle, nlt, nI1, cl, inN, s_abs2, not_true_eq_false, not_false_eq_true, false_implies, true_implies, and_true, true_and, and_self, nmM, if_true, if_false, or0, Int32.add_zero, forall_const, Nat.le_refl, Nat.lt_irrefl, Nat.lt_succ_self, wX9_sameIn_35]
  · intro n i s hn hi hs
    have hi' : ¬ H ≤ i := by omega
    have hp := plt i
    by_cases hc0 : nI (pl v i) = nI (pl 0 i) <;> simp (disch := omega) only [wX9_sameIn_4, s_mweeks, s_mhouses, s_pushOf, s_placeOf, s_placeOf0, hW, hH, hpl, hpl0, hpp, hfo, htu, hsu, hsm, nle, nlt, nI1, cl, inN, s_abs2, not_true_eq_false, not_false_eq_true, false_implies, true_implies, and_true, true_and, and_self, nmM, if_true, if_false, or0, Int32.add_zero, forall_const, Nat.le_refl, Nat.lt_irrefl, Nat.lt_succ_self, wX9_sameIn_35, hi', hc0]
theorem xl_sees {n h : Nat} {H W : Nat} {pl : Nat → Nat → Nat} {pp : Nat → Nat → Int32} {fo tu su sm : Nat → Int32} {μ : qa_M} {Q : Int32 → qa_M → Prop} (E : XE μ (μ.2.2 1 2) 33 34 35 36 H W pl pp fo tu su sm) (hh : h < H) (hn : 25 < n) : wX8_sees_15 n (nI h) 0 0 μ Q ↔ Q (itr (fun v s => s ||| ((1 : Int32) <<< (nI (pl v h) &&& 31))) 0 (W + 1) 0) μ := by
  obtain ⟨W20, H8, hW, hH, plt, hpl, hpp, hfo, htu, hsu, hsm⟩ := E
  have hpl0 : ∀ h, h < H → μ.1 (33) h = nI (pl 0 h) := fun h hh => by
    have := hpl 0 (Nat.zero_le W) h hh
    rwa [Nat.zero_mul, Nat.zero_add] at this
  refine for_iff 0 (fun n i s => wX8_sees_15 n (nI h) s i μ Q) (fun s => Q s μ) (W + 1) (fun v s => s ||| ((1 : Int32) <<< (nI (pl v h) &&& 31))) (fun _ _ => True) ?_ ?_ (fun _ _ _ _ => trivial) (W + 1) 0 0 n (by omega) (by omega) trivial
  · intro n s hn hs
    simp (disch := omega) only [wX8_sees_15, s_effort, s_spot, s_spot0, s_lowBits, hW, hH, hpl, hpl0, hpp, hfo, htu, hsu, hsm, nle, nlt, nI1, cl, inN, s_abs2, not_true_eq_false, not_false_eq_true, false_implies, true_implies, and_true, true_and, and_self, nmM, if_true, if_false, or0, Int32.add_zero, forall_const, Nat.le_refl, Nat.lt_irrefl, Nat.lt_succ_self]
  · intro n i s hn hi hs
    have hi' : ¬ W < i := by omega
    simp (disch := omega) only [wX8_sees_15, s_effort, s_spot, s_spot0, s_lowBits, hW, hH, hpl, hpl0, hpp, hfo, htu, hsu, hsm, nle, nlt, nI1, cl, inN, s_abs2, not_true_eq_false, not_false_eq_true, false_implies, true_implies, and_true, true_and, and_self, nmM, if_true, if_false, or0, Int32.add_zero, forall_const, Nat.le_refl, Nat.lt_irrefl, Nat.lt_succ_self, hi']
theorem ml_sees {n h : Nat} {H W : Nat} {pl : Nat → Nat → Nat} {pp : Nat → Nat → Int32} {fo tu su sm : Nat → Int32} {μ : qa_M} {Q : Int32 → qa_M → Prop} (E : ME μ H W pl pp fo tu su sm) (hh : h < H) (hn : 25 < n) : wX9_sees_15 n (nI h) 0 0 μ Q ↔ Q (itr (fun v s => s ||| ((1 : Int32) <<< (nI (pl v h) &&& 31))) 0 (W + 1) 0) μ := by
  obtain ⟨W20, H8, hW, hH, plt, hpl, hpp, hfo, htu, hsu, hsm⟩ := E
  have hpl0 : ∀ h, h < H → μ.1 (101) h = nI (pl 0 h) := fun h hh => by
    have := hpl 0 (Nat.zero_le W) h hh
    rwa [Nat.zero_mul, Nat.zero_add] at this
  refine for_iff 0 (fun n i s => wX9_sees_15 n (nI h) s i μ Q) (fun s => Q s μ) (W + 1) (fun v s => s ||| ((1 : Int32) <<< (nI (pl v h) &&& 31))) (fun _ _ => True) ?_ ?_ (fun _ _ _ _ => trivial) (W + 1) 0 0 n (by omega) (by omega) trivial
  · intro n s hn hs
    simp (disch := omega) only [wX9_sees_15, s_mweeks, s_mhouses, s_pushOf, s_placeOf, s_placeOf0, hW, hH, hpl, hpl0, hpp, hfo, htu, hsu, hsm, nle, nlt, nI1, cl, inN, s_abs2, not_true_eq_false, not_false_eq_true, false_implies, true_implies, and_true, true_and, and_self, nmM, if_true, if_false, or0, Int32.add_zero, forall_const, Nat.le_refl, Nat.lt_irrefl, Nat.lt_succ_self]
  · intro n i s hn hi hs
    have hi' : ¬ W < i := by omega
    simp (disch := omega) only [wX9_sees_15, s_mweeks, s_mhouses, s_pushOf, s_placeOf, s_placeOf0, hW, hH, hpl, hpl0, hpp, hfo, htu, hsu, hsm, nle, nlt, nI1, cl, inN, s_abs2, not_true_eq_false, not_false_eq_true, false_implies, true_implies, and_true, true_and, and_self, nmM, if_true, if_false, or0, Int32.add_zero, forall_const, Nat.le_refl, Nat.lt_irrefl, Nat.lt_succ_self, hi']
theorem xl_when {n h : Nat} {H W : Nat} {pl : Nat → Nat → Nat} {pp : Nat → Nat → Int32} {fo tu su sm : Nat → Int32} {μ : qa_M} {Q : Int32 → qa_M → Prop} (E : XE μ (μ.2.2 1 2) 33 34 35 36 H W pl pp fo tu su sm) {q : Int32} (hh : h < H) (hn : 25 < n) : wX8_firstWeekOn_3 n (nI h) q 0 μ Q ↔ Q (fnd (fun v => decide (nI (pl v h) = q)) 0 (W + 1)) μ := by
  obtain ⟨W20, H8, hW, hH, plt, hpl, hpp, hfo, htu, hsu, hsm⟩ := E
  have hpl0 : ∀ h, h < H → μ.1 (33) h = nI (pl 0 h) := fun h hh => by
    have := hpl 0 (Nat.zero_le W) h hh
    rwa [Nat.zero_mul, Nat.zero_add] at this
  refine fnd_iff 0 (fun n i => wX8_firstWeekOn_3 n (nI h) q i μ Q) (fun r => Q r μ) (W + 1) (fun v => decide (nI (pl v h) = q)) ?_ ?_ (W + 1) 0 n (by omega) (by omega)
  · intro n hn
    simp (disch := omega) only [wX8_firstWeekOn_3, s_effort, s_spot, s_spot0, s_lowBits, hW, hH, hpl, hpl0, hpp, hfo, htu, hsu, hsm, nle, nlt, nI1, cl, inN, s_abs2, not_true_eq_false, not_false_eq_true, false_implies, true_implies, and_true, true_and, and_self, nmM, if_true, if_false, or0, Int32.add_zero, forall_const, Nat.le_refl, Nat.lt_irrefl, Nat.lt_succ_self]
  · intro n i hn hi
    have hi' : ¬ W < i := by omega
    by_cases hc : nI (pl i h) = q <;> simp (disch := omega) only [wX8_firstWeekOn_3, s_effort, s_spot, s_spot0, s_lowBits, hW, hH, hpl, hpl0, hpp, hfo, htu, hsu, hsm, nle, nlt, nI1, cl, inN, s_abs2, not_true_eq_false, not_false_eq_true, false_implies, true_implies, and_true, true_and, and_self, nmM, if_true, if_false, or0, Int32.add_zero, forall_const, Nat.le_refl, Nat.lt_irrefl, Nat.lt_succ_self, hi', hc, decide_eq_true_eq, or_false, or_true, true_or, false_or]
theorem ml_when {n h : Nat} {H W : Nat} {pl : Nat → Nat → Nat} {pp : Nat → Nat → Int32} {fo tu su sm : Nat → Int32} {μ : qa_M} {Q : Int32 → qa_M → Prop} (E : ME μ H W pl pp fo tu su sm) {q : Int32} (hh : h < H) (hn : 25 < n) : wX9_when_22 n (nI h) q 0 μ Q ↔ Q (fnd (fun v => decide (nI (pl v h) = q)) 0 (W + 1)) μ := by
  obtain ⟨W20, H8, hW, hH, plt, hpl, hpp, hfo, htu, hsu, hsm⟩ := E
  have hpl0 : ∀ h, h < H → μ.1 (101) h = nI (pl 0 h) := fun h hh => by
    have := hpl 0 (Nat.zero_le W) h hh
    rwa [Nat.zero_mul, Nat.zero_add] at this
  refine fnd_iff 0 (fun n i => wX9_when_22 n (nI h) q i μ Q) (fun r => Q r μ) (W + 1) (fun v => decide (nI (pl v h) = q)) ?_ ?_ (W + 1) 0 n (by omega) (by omega)
  · intro n hn
    simp (disch := omega) only [wX9_when_22, s_mweeks, s_mhouses, s_pushOf, s_placeOf, s_placeOf0, hW, hH, hpl, hpl0, hpp, hfo, htu, hsu, hsm, nle, nlt, nI1, cl, inN, s_abs2, not_true_eq_false, not_false_eq_true, false_implies, true_implies, and_true, true_and, and_self, nmM, if_true, if_false, or0, Int32.add_zero, forall_const, Nat.le_refl, Nat.lt_irrefl, Nat.lt_succ_self]
  · intro n i hn hi
    have hi' : ¬ W < i := by omega
    by_cases hc : nI (pl i h) = q <;> simp (disch := omega) only [wX9_when_22, s_mweeks, s_mhouses, s_pushOf, s_placeOf, s_placeOf0, hW, hH, hpl, hpl0, hpp, hfo, htu, hsu, hsm, nle, nlt, nI1, cl, inN, s_abs2, not_true_eq_false, not_false_eq_true, false_implies, true_implies, and_true, true_and, and_self, nmM, if_true, if_false, or0, Int32.add_zero, forall_const, Nat.le_refl, Nat.lt_irrefl, Nat.lt_succ_self, hi', hc, decide_eq_true_eq, or_false, or_true, true_or, false_or]
theorem xl_first {n h k : Nat} {H W : Nat} {pl : Nat → Nat → Nat} {pp : Nat → Nat → Int32} {fo tu su sm : Nat → Int32} {μ : qa_M} {Q : Int32 → qa_M → Prop} (E : XE μ (μ.2.2 1 2) 33 34 35 36 H W pl pp fo tu su sm) {q : Int32} (hh : h < H) (hk : k ≤ W) (hn : 25 < n) : wX8_firstWeekOn_3 n (nI h) q (nI k) μ Q ↔ Q (fnd (fun v => decide (nI (pl v h) = q)) k (W + 1 - k)) μ := by
  obtain ⟨W20, H8, hW, hH, plt, hpl, hpp, hfo, htu, hsu, hsm⟩ := E
  have hpl0 : ∀ h, h < H → μ.1 (33) h = nI (pl 0 h) := fun h hh => by
    have := hpl 0 (Nat.zero_le W) h hh
    rwa [Nat.zero_mul, Nat.zero_add] at this
  refine fnd_iff 0 (fun n i => wX8_firstWeekOn_3 n (nI h) q i μ Q) (fun r => Q r μ) (W + 1) (fun v => decide (nI (pl v h) = q)) ?_ ?_ (W + 1 - k) k n (by omega) (by omega)
  · intro n hn
    simp (disch := omega) only [wX8_firstWeekOn_3, s_effort, s_spot, s_spot0, s_lowBits, hW, hH, hpl, hpl0, hpp, hfo, htu, hsu, hsm, nle, nlt, nI1, cl, inN, s_abs2, not_true_eq_false, not_false_eq_true, false_implies, true_implies, and_true, true_and, and_self, nmM, if_true, if_false, or0, Int32.add_zero, forall_const, Nat.le_refl, Nat.lt_irrefl, Nat.lt_succ_self]
  · intro n i hn hi
    have hi' : ¬ W < i := by omega
    by_cases hc : nI (pl i h) = q <;> simp (disch := omega) only [wX8_firstWeekOn_3, s_effort, s_spot, s_spot0, s_lowBits, hW, hH, hpl, hpl0, hpp, hfo, htu, hsu, hsm, nle, nlt, nI1, cl, inN, s_abs2, not_true_eq_false, not_false_eq_true, false_implies, true_implies, and_true, true_and, and_self, nmM, if_true, if_false, or0, Int32.add_zero, forall_const, Nat.le_refl, Nat.lt_irrefl, Nat.lt_succ_self, hi', hc, decide_eq_true_eq, or_false, or_true, true_or, false_or]
theorem xl_often {n h : Nat} {H W : Nat} {pl : Nat → Nat → Nat} {pp : Nat → Nat → Int32} {fo tu su sm : Nat → Int32} {μ : qa_M} {Q : Int32 → qa_M → Prop} (E : XE μ (μ.2.2 1 2) 33 34 35 36 H W pl pp fo tu su sm) {q : Int32} (hh : h < H) (hn : 25 < n) : wX8_often_24 n (nI h) q 0 0 μ Q ↔ Q (itr (fun v s => if nI (pl v h) = q then s + 1 else s) 0 (W + 1) 0) μ := by
  obtain ⟨W20, H8, hW, hH, plt, hpl, hpp, hfo, htu, hsu, hsm⟩ := E
  have hpl0 : ∀ h, h < H → μ.1 (33) h = nI (pl 0 h) := fun h hh => by
    have := hpl 0 (Nat.zero_le W) h hh
    rwa [Nat.zero_mul, Nat.zero_add] at this
  refine for_iff 0 (fun n i s => wX8_often_24 n (nI h) q s i μ Q) (fun s => Q s μ) (W + 1) (fun v s => if nI (pl v h) = q then s + 1 else s) (fun _ _ => True) ?_ ?_ (fun _ _ _ _ => trivial) (W + 1) 0 0 n (by omega) (by omega) trivial
  · intro n s hn hs
    simp (disch := omega) only [wX8_often_24, s_effort, s_spot, s_spot0, s_lowBits, hW, hH, hpl, hpl0, hpp, hfo, htu, hsu, hsm, nle, nlt, nI1, cl, inN, s_abs2, not_true_eq_false, not_false_eq_true, false_implies, true_implies, and_true, true_and, and_self, nmM, if_true, if_false, or0, Int32.add_zero, forall_const, Nat.le_refl, Nat.lt_irrefl, Nat.lt_succ_self]
  · intro n i s hn hi hs
    have hi' : ¬ W < i := by omega
    by_cases hc0 : nI (pl i h) = q <;> simp (disch := omega) only [wX8_often_24, s_effort, s_spot, s_spot0, s_lowBits, hW, hH, hpl, hpl0, hpp, hfo, htu, hsu, hsm, nle, nlt, nI1, cl, inN, s_abs2, not_true_eq_false, not_false_eq_true, false_implies, true_implies, and_true, true_and, and_self, nmM, if_true, if_false, or0, Int32.add_zero, forall_const, Nat.le_refl, Nat.lt_irrefl, Nat.lt_succ_self, hi', hc0]
theorem ml_often {n h : Nat} {H W : Nat} {pl : Nat → Nat → Nat} {pp : Nat → Nat → Int32} {fo tu su sm : Nat → Int32} {μ : qa_M} {Q : Int32 → qa_M → Prop} (E : ME μ H W pl pp fo tu su sm) {q : Int32} (hh : h < H) (hn : 25 < n) : wX9_often_25 n (nI h) q 0 0 μ Q ↔ Q (itr (fun v s => if nI (pl v h) = q then s + 1 else s) 0 (W + 1) 0) μ := by
  obtain ⟨W20, H8, hW, hH, plt, hpl, hpp, hfo, htu, hsu, hsm⟩ := E
  have hpl0 : ∀ h, h < H → μ.1 (101) h = nI (pl 0 h) := fun h hh => by
    have := hpl 0 (Nat.zero_le W) h hh
    rwa [Nat.zero_mul, Nat.zero_add] at this
  refine for_iff 0 (fun n i s => wX9_often_25 n (nI h) q s i μ Q) (fun s => Q s μ) (W + 1) (fun v s => if nI (pl v h) = q then s + 1 else s) (fun _ _ => True) ?_ ?_ (fun _ _ _ _ => trivial) (W + 1) 0 0 n (by omega) (by omega) trivial
  · intro n s hn hs
    simp (disch := omega) only [wX9_often_25, s_mweeks, s_mhouses, s_pushOf, s_placeOf, s_placeOf0, hW, hH, hpl, hpl0, hpp, hfo, htu, hsu, hsm, nle, nlt, nI1, cl, inN, s_abs2, not_true_eq_false, not_false_eq_true, false_implies, true_implies, and_true, true_and, and_self, nmM, if_true, if_false, or0, Int32.add_zero, forall_const, Nat.le_refl, Nat.lt_irrefl, Nat.lt_succ_self, wX9_often_51]
  · intro n i s hn hi hs
    have hi' : ¬ W < i := by omega
    by_cases hc0 : nI (pl i h) = q <;> simp (disch := omega) only [wX9_often_25, s_mweeks, s_mhouses, s_pushOf, s_placeOf, s_placeOf0, hW, hH, hpl, hpl0, hpp, hfo, htu, hsu, hsm, nle, nlt, nI1, cl, inN, s_abs2, not_true_eq_false, not_false_eq_true, false_implies, true_implies, and_true, true_and, and_self, nmM, if_true, if_false, or0, Int32.add_zero, forall_const, Nat.le_refl, Nat.lt_irrefl, Nat.lt_succ_self, wX9_often_51, hi', hc0]
theorem xl_nose {n h : Nat} {H W : Nat} {pl : Nat → Nat → Nat} {pp : Nat → Nat → Int32} {fo tu su sm : Nat → Int32} {μ : qa_M} {Q : Int32 → qa_M → Prop} (E : XE μ (μ.2.2 1 2) 33 34 35 36 H W pl pp fo tu su sm) (hh : h < H) (hn : 25 < n) : wX8_nose_15 n (nI h) 0 0 μ Q ↔ Q (itr (fun v s => s + sm (pl v h)) 0 (W + 1) 0) μ := by
  obtain ⟨W20, H8, hW, hH, plt, hpl, hpp, hfo, htu, hsu, hsm⟩ := E
  have hpl0 : ∀ h, h < H → μ.1 (33) h = nI (pl 0 h) := fun h hh => by
    have := hpl 0 (Nat.zero_le W) h hh
    rwa [Nat.zero_mul, Nat.zero_add] at this
  refine for_iff 0 (fun n i s => wX8_nose_15 n (nI h) s i μ Q) (fun s => Q s μ) (W + 1) (fun v s => s + sm (pl v h)) (fun _ _ => True) ?_ ?_ (fun _ _ _ _ => trivial) (W + 1) 0 0 n (by omega) (by omega) trivial
  · intro n s hn hs
    simp (disch := omega) only [wX8_nose_15, s_effort, s_spot, s_spot0, s_lowBits, hW, hH, hpl, hpl0, hpp, hfo, htu, hsu, hsm, nle, nlt, nI1, cl, inN, s_abs2, not_true_eq_false, not_false_eq_true, false_implies, true_implies, and_true, true_and, and_self, nmM, if_true, if_false, or0, Int32.add_zero, forall_const, Nat.le_refl, Nat.lt_irrefl, Nat.lt_succ_self]
  · intro n i s hn hi hs
    have hi' : ¬ W < i := by omega
    have hp := plt i h hh
    simp (disch := omega) only [wX8_nose_15, s_effort, s_spot, s_spot0, s_lowBits, hW, hH, hpl, hpl0, hpp, hfo, htu, hsu, hsm, nle, nlt, nI1, cl, inN, s_abs2, not_true_eq_false, not_false_eq_true, false_implies, true_implies, and_true, true_and, and_self, nmM, if_true, if_false, or0, Int32.add_zero, forall_const, Nat.le_refl, Nat.lt_irrefl, Nat.lt_succ_self, hi']
theorem ml_nose {n h : Nat} {H W : Nat} {pl : Nat → Nat → Nat} {pp : Nat → Nat → Int32} {fo tu su sm : Nat → Int32} {μ : qa_M} {Q : Int32 → qa_M → Prop} (E : ME μ H W pl pp fo tu su sm) (hh : h < H) (hn : 25 < n) : wX9_nose_15 n (nI h) 0 0 μ Q ↔ Q (itr (fun v s => s + sm (pl v h)) 0 (W + 1) 0) μ := by
  obtain ⟨W20, H8, hW, hH, plt, hpl, hpp, hfo, htu, hsu, hsm⟩ := E
  have hpl0 : ∀ h, h < H → μ.1 (101) h = nI (pl 0 h) := fun h hh => by
    have := hpl 0 (Nat.zero_le W) h hh
    rwa [Nat.zero_mul, Nat.zero_add] at this
  refine for_iff 0 (fun n i s => wX9_nose_15 n (nI h) s i μ Q) (fun s => Q s μ) (W + 1) (fun v s => s + sm (pl v h)) (fun _ _ => True) ?_ ?_ (fun _ _ _ _ => trivial) (W + 1) 0 0 n (by omega) (by omega) trivial
  · intro n s hn hs
    simp (disch := omega) only [wX9_nose_15, s_mweeks, s_mhouses, s_pushOf, s_placeOf, s_placeOf0, hW, hH, hpl, hpl0, hpp, hfo, htu, hsu, hsm, nle, nlt, nI1, cl, inN, s_abs2, not_true_eq_false, not_false_eq_true, false_implies, true_implies, and_true, true_and, and_self, nmM, if_true, if_false, or0, Int32.add_zero, forall_const, Nat.le_refl, Nat.lt_irrefl, Nat.lt_succ_self]
  · intro n i s hn hi hs
    have hi' : ¬ W < i := by omega
    have hp := plt i h hh
    simp (disch := omega) only [wX9_nose_15, s_mweeks, s_mhouses, s_pushOf, s_placeOf, s_placeOf0, hW, hH, hpl, hpl0, hpp, hfo, htu, hsu, hsm, nle, nlt, nI1, cl, inN, s_abs2, not_true_eq_false, not_false_eq_true, false_implies, true_implies, and_true, true_and, and_self, nmM, if_true, if_false, or0, Int32.add_zero, forall_const, Nat.le_refl, Nat.lt_irrefl, Nat.lt_succ_self, hi']
theorem xl_idle {n v : Nat} {H W : Nat} {pl : Nat → Nat → Nat} {pp : Nat → Nat → Int32} {fo tu su sm : Nat → Int32} {μ : qa_M} {Q : Int32 → qa_M → Prop} (E : XE μ (μ.2.2 1 2) 33 34 35 36 H W pl pp fo tu su sm) (hv : v < W) (hn : 25 < n) : wX8_idle_15 n (nI v) 0 0 μ Q ↔ Q (itr (fun h s => if pp v h = 0 then s ||| ((1 : Int32) <<< (nI h &&& 31)) else s) 0 (H) 0) μ := by
  obtain ⟨W20, H8, hW, hH, plt, hpl, hpp, hfo, htu, hsu, hsm⟩ := E
  have hpl0 : ∀ h, h < H → μ.1 (33) h = nI (pl 0 h) := fun h hh => by
    have := hpl 0 (Nat.zero_le W) h hh
    rwa [Nat.zero_mul, Nat.zero_add] at this
  refine for_iff 0 (fun n i s => wX8_idle_15 n (nI v) s i μ Q) (fun s => Q s μ) (H) (fun h s => if pp v h = 0 then s ||| ((1 : Int32) <<< (nI h &&& 31)) else s) (fun _ _ => True) ?_ ?_ (fun _ _ _ _ => trivial) (H) 0 0 n (by omega) (by omega) trivial
  · intro n s hn hs
    simp (disch := omega) only [wX8_idle_15, s_effort, s_spot, s_spot0, s_lowBits, hW, hH, hpl, hpl0, hpp, hfo, htu, hsu, hsm, nle, nlt, nI1, cl, inN, s_abs2, not_true_eq_false, not_false_eq_true, false_implies, true_implies, and_true, true_and, and_self, nmM, if_true, if_false, or0, Int32.add_zero, forall_const, Nat.le_refl, Nat.lt_irrefl, Nat.lt_succ_self]
  · intro n i s hn hi hs
    have hi' : ¬ H ≤ i := by omega
    by_cases hc0 : pp v i = 0 <;> simp (disch := omega) only [wX8_idle_15, s_effort, s_spot, s_spot0, s_lowBits, hW, hH, hpl, hpl0, hpp, hfo, htu, hsu, hsm, nle, nlt, nI1, cl, inN, s_abs2, not_true_eq_false, not_false_eq_true, false_implies, true_implies, and_true, true_and, and_self, nmM, if_true, if_false, or0, Int32.add_zero, forall_const, Nat.le_refl, Nat.lt_irrefl, Nat.lt_succ_self, hi', hc0]
theorem ml_idle {n v : Nat} {H W : Nat} {pl : Nat → Nat → Nat} {pp : Nat → Nat → Int32} {fo tu su sm : Nat → Int32} {μ : qa_M} {Q : Int32 → qa_M → Prop} (E : ME μ H W pl pp fo tu su sm) (hv : v < W) (hn : 25 < n) : wX9_idle_15 n (nI v) 0 0 μ Q ↔ Q (itr (fun h s => if pp v h = 0 then s ||| ((1 : Int32) <<< (nI h &&& 31)) else s) 0 (H) 0) μ := by
  obtain ⟨W20, H8, hW, hH, plt, hpl, hpp, hfo, htu, hsu, hsm⟩ := E
  have hpl0 : ∀ h, h < H → μ.1 (101) h = nI (pl 0 h) := fun h hh => by
    have := hpl 0 (Nat.zero_le W) h hh
    rwa [Nat.zero_mul, Nat.zero_add] at this
  refine for_iff 0 (fun n i s => wX9_idle_15 n (nI v) s i μ Q) (fun s => Q s μ) (H) (fun h s => if pp v h = 0 then s ||| ((1 : Int32) <<< (nI h &&& 31)) else s) (fun _ _ => True) ?_ ?_ (fun _ _ _ _ => trivial) (H) 0 0 n (by omega) (by omega) trivial
  · intro n s hn hs
    simp (disch := omega) only [wX9_idle_15, s_mweeks, s_mhouses, s_pushOf, s_placeOf, s_placeOf0, hW, hH, hpl, hpl0, hpp, hfo, htu, hsu, hsm, nle, nlt, nI1, cl, inN, s_abs2, not_true_eq_false, not_false_eq_true, false_implies, true_implies, and_true, true_and, and_self, nmM, if_true, if_false, or0, Int32.add_zero, forall_const, Nat.le_refl, Nat.lt_irrefl, Nat.lt_succ_self, wX9_idle_40]
  · intro n i s hn hi hs
    have hi' : ¬ H ≤ i := by omega
    by_cases hc0 : pp v i = 0 <;> simp (disch := omega) only [wX9_idle_15, s_mweeks, s_mhouses, s_pushOf, s_placeOf, s_placeOf0, hW, hH, hpl, hpl0, hpp, hfo, htu, hsu, hsm, nle, nlt, nI1, cl, inN, s_abs2, not_true_eq_false, not_false_eq_true, false_implies, true_implies, and_true, true_and, and_self, nmM, if_true, if_false, or0, Int32.add_zero, forall_const, Nat.le_refl, Nat.lt_irrefl, Nat.lt_succ_self, wX9_idle_40, hi', hc0]
theorem xl_backs {n : Nat} {H W : Nat} {pl : Nat → Nat → Nat} {pp : Nat → Nat → Int32} {fo tu su sm : Nat → Int32} {μ : qa_M} {Q : Int32 → qa_M → Prop} (E : XE μ (μ.2.2 1 2) 33 34 35 36 H W pl pp fo tu su sm)  (hn : 25 < n) : wX8_backs_14 n 0 0 μ Q ↔ Q (itr (fun v s => if 0 ≤ tu v then s else s + 1) 0 (W) 0) μ := by
  obtain ⟨W20, H8, hW, hH, plt, hpl, hpp, hfo, htu, hsu, hsm⟩ := E
  have hpl0 : ∀ h, h < H → μ.1 (33) h = nI (pl 0 h) := fun h hh => by
    have := hpl 0 (Nat.zero_le W) h hh
    rwa [Nat.zero_mul, Nat.zero_add] at this
  refine for_iff 0 (fun n i s => wX8_backs_14 n s i μ Q) (fun s => Q s μ) (W) (fun v s => if 0 ≤ tu v then s else s + 1) (fun _ _ => True) ?_ ?_ (fun _ _ _ _ => trivial) (W) 0 0 n (by omega) (by omega) trivial
  · intro n s hn hs
    simp (disch := omega) only [wX8_backs_14, s_effort, s_spot, s_spot0, s_lowBits, hW, hH, hpl, hpl0, hpp, hfo, htu, hsu, hsm, nle, nlt, nI1, cl, inN, s_abs2, not_true_eq_false, not_false_eq_true, false_implies, true_implies, and_true, true_and, and_self, nmM, if_true, if_false, or0, Int32.add_zero, forall_const, Nat.le_refl, Nat.lt_irrefl, Nat.lt_succ_self]
  · intro n i s hn hi hs
    have hi' : ¬ W ≤ i := by omega
    by_cases hc0 : 0 ≤ tu i <;> simp (disch := omega) only [wX8_backs_14, s_effort, s_spot, s_spot0, s_lowBits, hW, hH, hpl, hpl0, hpp, hfo, htu, hsu, hsm, nle, nlt, nI1, cl, inN, s_abs2, not_true_eq_false, not_false_eq_true, false_implies, true_implies, and_true, true_and, and_self, nmM, if_true, if_false, or0, Int32.add_zero, forall_const, Nat.le_refl, Nat.lt_irrefl, Nat.lt_succ_self, hi', hc0]
theorem ml_backs {n : Nat} {H W : Nat} {pl : Nat → Nat → Nat} {pp : Nat → Nat → Int32} {fo tu su sm : Nat → Int32} {μ : qa_M} {Q : Int32 → qa_M → Prop} (E : ME μ H W pl pp fo tu su sm)  (hn : 25 < n) : wX9_backs_14 n 0 0 μ Q ↔ Q (itr (fun v s => if 0 ≤ tu v then s else s + 1) 0 (W) 0) μ := by
  obtain ⟨W20, H8, hW, hH, plt, hpl, hpp, hfo, htu, hsu, hsm⟩ := E
  have hpl0 : ∀ h, h < H → μ.1 (101) h = nI (pl 0 h) := fun h hh => by
    have := hpl 0 (Nat.zero_le W) h hh
    rwa [Nat.zero_mul, Nat.zero_add] at this
  refine for_iff 0 (fun n i s => wX9_backs_14 n s i μ Q) (fun s => Q s μ) (W) (fun v s => if 0 ≤ tu v then s else s + 1) (fun _ _ => True) ?_ ?_ (fun _ _ _ _ => trivial) (W) 0 0 n (by omega) (by omega) trivial
  · intro n s hn hs
    simp (disch := omega) only [wX9_backs_14, s_mweeks, s_mhouses, s_pushOf, s_placeOf, s_placeOf0, hW, hH, hpl, hpl0, hpp, hfo, htu, hsu, hsm, nle, nlt, nI1, cl, inN, s_abs2, not_true_eq_false, not_false_eq_true, false_implies, true_implies, and_true, true_and, and_self, nmM, if_true, if_false, or0, Int32.add_zero, forall_const, Nat.le_refl, Nat.lt_irrefl, Nat.lt_succ_self, wX9_backs_37]
  · intro n i s hn hi hs
    have hi' : ¬ W ≤ i := by omega
    by_cases hc0 : 0 ≤ tu i <;> simp (disch := omega) only [wX9_backs_14, s_mweeks, s_mhouses, s_pushOf, s_placeOf, s_placeOf0, hW, hH, hpl, hpl0, hpp, hfo, htu, hsu, hsm, nle, nlt, nI1, cl, inN, s_abs2, not_true_eq_false, not_false_eq_true, false_implies, true_implies, and_true, true_and, and_self, nmM, if_true, if_false, or0, Int32.add_zero, forall_const, Nat.le_refl, Nat.lt_irrefl, Nat.lt_succ_self, wX9_backs_37, hi', hc0]
theorem xl_all {n v : Nat} {H W : Nat} {pl : Nat → Nat → Nat} {pp : Nat → Nat → Int32} {fo tu su sm : Nat → Int32} {μ : qa_M} {Q : Int32 → qa_M → Prop} (E : XE μ (μ.2.2 1 2) 33 34 35 36 H W pl pp fo tu su sm) (hv : v < W) (hn : 25 < n) : wX8_all_15 n (nI v) 0 0 μ Q ↔ Q (itr (fun h s => s + pp v h) 0 (H) 0) μ := by
  obtain ⟨W20, H8, hW, hH, plt, hpl, hpp, hfo, htu, hsu, hsm⟩ := E
  have hpl0 : ∀ h, h < H → μ.1 (33) h = nI (pl 0 h) := fun h hh => by
    have := hpl 0 (Nat.zero_le W) h hh
    rwa [Nat.zero_mul, Nat.zero_add] at this
  refine for_iff 0 (fun n i s => wX8_all_15 n (nI v) s i μ Q) (fun s => Q s μ) (H) (fun h s => s + pp v h) (fun _ _ => True) ?_ ?_ (fun _ _ _ _ => trivial) (H) 0 0 n (by omega) (by omega) trivial
  · intro n s hn hs
    simp (disch := omega) only [wX8_all_15, s_effort, s_spot, s_spot0, s_lowBits, hW, hH, hpl, hpl0, hpp, hfo, htu, hsu, hsm, nle, nlt, nI1, cl, inN, s_abs2, not_true_eq_false, not_false_eq_true, false_implies, true_implies, and_true, true_and, and_self, nmM, if_true, if_false, or0, Int32.add_zero, forall_const, Nat.le_refl, Nat.lt_irrefl, Nat.lt_succ_self]
  · intro n i s hn hi hs
    have hi' : ¬ H ≤ i := by omega
    simp (disch := omega) only [wX8_all_15, s_effort, s_spot, s_spot0, s_lowBits, hW, hH, hpl, hpl0, hpp, hfo, htu, hsu, hsm, nle, nlt, nI1, cl, inN, s_abs2, not_true_eq_false, not_false_eq_true, false_implies, true_implies, and_true, true_and, and_self, nmM, if_true, if_false, or0, Int32.add_zero, forall_const, Nat.le_refl, Nat.lt_irrefl, Nat.lt_succ_self, hi']
theorem ml_all {n v : Nat} {H W : Nat} {pl : Nat → Nat → Nat} {pp : Nat → Nat → Int32} {fo tu su sm : Nat → Int32} {μ : qa_M} {Q : Int32 → qa_M → Prop} (E : ME μ H W pl pp fo tu su sm) (hv : v < W) (hn : 25 < n) : wX9_all_15 n (nI v) 0 0 μ Q ↔ Q (itr (fun h s => s + pp v h) 0 (H) 0) μ := by
  obtain ⟨W20, H8, hW, hH, plt, hpl, hpp, hfo, htu, hsu, hsm⟩ := E
  have hpl0 : ∀ h, h < H → μ.1 (101) h = nI (pl 0 h) := fun h hh => by
    have := hpl 0 (Nat.zero_le W) h hh
    rwa [Nat.zero_mul, Nat.zero_add] at this
  refine for_iff 0 (fun n i s => wX9_all_15 n (nI v) s i μ Q) (fun s => Q s μ) (H) (fun h s => s + pp v h) (fun _ _ => True) ?_ ?_ (fun _ _ _ _ => trivial) (H) 0 0 n (by omega) (by omega) trivial
  · intro n s hn hs
    simp (disch := omega) only [wX9_all_15, s_mweeks, s_mhouses, s_pushOf, s_placeOf, s_placeOf0, hW, hH, hpl, hpl0, hpp, hfo, htu, hsu, hsm, nle, nlt, nI1, cl, inN, s_abs2, not_true_eq_false, not_false_eq_true, false_implies, true_implies, and_true, true_and, and_self, nmM, if_true, if_false, or0, Int32.add_zero, forall_const, Nat.le_refl, Nat.lt_irrefl, Nat.lt_succ_self]
  · intro n i s hn hi hs
    have hi' : ¬ H ≤ i := by omega
    simp (disch := omega) only [wX9_all_15, s_mweeks, s_mhouses, s_pushOf, s_placeOf, s_placeOf0, hW, hH, hpl, hpl0, hpp, hfo, htu, hsu, hsm, nle, nlt, nI1, cl, inN, s_abs2, not_true_eq_false, not_false_eq_true, false_implies, true_implies, and_true, true_and, and_self, nmM, if_true, if_false, or0, Int32.add_zero, forall_const, Nat.le_refl, Nat.lt_irrefl, Nat.lt_succ_self, hi']
theorem xl_best {n h : Nat} {H W : Nat} {pl : Nat → Nat → Nat} {pp : Nat → Nat → Int32} {fo tu su sm : Nat → Int32} {μ : qa_M} {Q : Int32 → qa_M → Prop} (E : XE μ (μ.2.2 1 2) 33 34 35 36 H W pl pp fo tu su sm) (hh : h < H) (hn : 25 < n) : wX8_best_15 n (nI h) 0 1 μ Q ↔ Q (nI (itr (fun v s => if su (pl v h) ≤ su (pl s h) then s else v) 1 (W) 0)) μ := by
  obtain ⟨W20, H8, hW, hH, plt, hpl, hpp, hfo, htu, hsu, hsm⟩ := E
  have hpl0 : ∀ h, h < H → μ.1 (33) h = nI (pl 0 h) := fun h hh => by
    have := hpl 0 (Nat.zero_le W) h hh
    rwa [Nat.zero_mul, Nat.zero_add] at this
  refine for_iff 0 (fun n i s => wX8_best_15 n (nI h) (nI s) i μ Q) (fun s => Q (nI s) μ) (W + 1) (fun v s => if su (pl v h) ≤ su (pl s h) then s else v) (fun _ s => s ≤ W) ?_ ?_ ?_ (W) 1 0 n (by omega) (by omega) (by omega)
  · intro n s hn hs
    simp (disch := omega) only [wX8_best_15, s_effort, s_spot, s_spot0, s_lowBits, hW, hH, hpl, hpl0, hpp, hfo, htu, hsu, hsm, nle, nlt, nI1, cl, inN, s_abs2, not_true_eq_false, not_false_eq_true, false_implies, true_implies, and_true, true_and, and_self, nmM, if_true, if_false, or0, Int32.add_zero, forall_const, Nat.le_refl, Nat.lt_irrefl, Nat.lt_succ_self]
  · intro n i s hn hi hs
    have hi' : ¬ W < i := by omega
    have hp := plt i h hh
    have hp2 := plt s h hh
    by_cases hc0 : su (pl i h) ≤ su (pl s h) <;> simp (disch := omega) only [wX8_best_15, s_effort, s_spot, s_spot0, s_lowBits, hW, hH, hpl, hpl0, hpp, hfo, htu, hsu, hsm, nle, nlt, nI1, cl, inN, s_abs2, not_true_eq_false, not_false_eq_true, false_implies, true_implies, and_true, true_and, and_self, nmM, if_true, if_false, or0, Int32.add_zero, forall_const, Nat.le_refl, Nat.lt_irrefl, Nat.lt_succ_self, hi', hc0]
  · intro i s hi hs
    try dsimp only at hs ⊢
    try split
    all_goals omega
theorem ml_best {n h : Nat} {H W : Nat} {pl : Nat → Nat → Nat} {pp : Nat → Nat → Int32} {fo tu su sm : Nat → Int32} {μ : qa_M} {Q : Int32 → qa_M → Prop} (E : ME μ H W pl pp fo tu su sm) (hh : h < H) (hn : 25 < n) : wX9_best_15 n (nI h) 0 1 μ Q ↔ Q (nI (itr (fun v s => if su (pl v h) ≤ su (pl s h) then s else v) 1 (W) 0)) μ := by
  obtain ⟨W20, H8, hW, hH, plt, hpl, hpp, hfo, htu, hsu, hsm⟩ := E
  have hpl0 : ∀ h, h < H → μ.1 (101) h = nI (pl 0 h) := fun h hh => by
    have := hpl 0 (Nat.zero_le W) h hh
    rwa [Nat.zero_mul, Nat.zero_add] at this
  refine for_iff 0 (fun n i s => wX9_best_15 n (nI h) (nI s) i μ Q) (fun s => Q (nI s) μ) (W + 1) (fun v s => if su (pl v h) ≤ su (pl s h) then s else v) (fun _ s => s ≤ W) ?_ ?_ ?_ (W) 1 0 n (by omega) (by omega) (by omega)
  · intro n s hn hs
    simp (disch := omega) only [wX9_best_15, s_mweeks, s_mhouses, s_pushOf, s_placeOf, s_placeOf0, hW, hH, hpl, hpl0, hpp, hfo, htu, hsu, hsm, nle, nlt, nI1, cl, inN, s_abs2, not_true_eq_false, not_false_eq_true, false_implies, true_implies, and_true, true_and, and_self, nmM, if_true, if_false, or0, Int32.add_zero, forall_const, Nat.le_refl, Nat.lt_irrefl, Nat.lt_succ_self, wX9_best_53]
  · intro n i s hn hi hs
    have hi' : ¬ W < i := by omega
    have hp := plt i h hh
    have hp2 := plt s h hh
    by_cases hc0 : su (pl i h) ≤ su (pl s h) <;> simp (disch := omega) only [wX9_best_15, s_mweeks, s_mhouses, s_pushOf, s_placeOf, s_placeOf0, hW, hH, hpl, hpl0, hpp, hfo, htu, hsu, hsm, nle, nlt, nI1, cl, inN, s_abs2, not_true_eq_false, not_false_eq_true, false_implies, true_implies, and_true, true_and, and_self, nmM, if_true, if_false, or0, Int32.add_zero, forall_const, Nat.le_refl, Nat.lt_irrefl, Nat.lt_succ_self, wX9_best_53, hi', hc0]
  · intro i s hi hs
    try dsimp only at hs ⊢
    try split
    all_goals omega
theorem xl_sweet {n h : Nat} {H W : Nat} {pl : Nat → Nat → Nat} {pp : Nat → Nat → Int32} {fo tu su sm : Nat → Int32} {μ : qa_M} {Q : Int32 → qa_M → Prop} (E : XE μ (μ.2.2 1 2) 33 34 35 36 H W pl pp fo tu su sm) (hh : h < H) (hn : 25 < n) : wX8_sweet_15 n (nI h) 0 0 μ Q ↔ Q (itr (fun v s => if su (pl v h) ≤ sm (pl v h) then s else s + 1) 0 (W + 1) 0) μ := by
  obtain ⟨W20, H8, hW, hH, plt, hpl, hpp, hfo, htu, hsu, hsm⟩ := E
  have hpl0 : ∀ h, h < H → μ.1 (33) h = nI (pl 0 h) := fun h hh => by
    have := hpl 0 (Nat.zero_le W) h hh
    rwa [Nat.zero_mul, Nat.zero_add] at this
  refine for_iff 0 (fun n i s => wX8_sweet_15 n (nI h) s i μ Q) (fun s => Q s μ) (W + 1) (fun v s => if su (pl v h) ≤ sm (pl v h) then s else s + 1) (fun _ _ => True) ?_ ?_ (fun _ _ _ _ => trivial) (W + 1) 0 0 n (by omega) (by omega) trivial
  · intro n s hn hs
    simp (disch := omega) only [wX8_sweet_15, s_effort, s_spot, s_spot0, s_lowBits, hW, hH, hpl, hpl0, hpp, hfo, htu, hsu, hsm, nle, nlt, nI1, cl, inN, s_abs2, not_true_eq_false, not_false_eq_true, false_implies, true_implies, and_true, true_and, and_self, nmM, if_true, if_false, or0, Int32.add_zero, forall_const, Nat.le_refl, Nat.lt_irrefl, Nat.lt_succ_self]
  · intro n i s hn hi hs
    have hi' : ¬ W < i := by omega
    have hp := plt i h hh
    by_cases hc0 : su (pl i h) ≤ sm (pl i h) <;> simp (disch := omega) only [wX8_sweet_15, s_effort, s_spot, s_spot0, s_lowBits, hW, hH, hpl, hpl0, hpp, hfo, htu, hsu, hsm, nle, nlt, nI1, cl, inN, s_abs2, not_true_eq_false, not_false_eq_true, false_implies, true_implies, and_true, true_and, and_self, nmM, if_true, if_false, or0, Int32.add_zero, forall_const, Nat.le_refl, Nat.lt_irrefl, Nat.lt_succ_self, hi', hc0]
theorem ml_sweet {n h : Nat} {H W : Nat} {pl : Nat → Nat → Nat} {pp : Nat → Nat → Int32} {fo tu su sm : Nat → Int32} {μ : qa_M} {Q : Int32 → qa_M → Prop} (E : ME μ H W pl pp fo tu su sm) (hh : h < H) (hn : 25 < n) : wX9_sweet_15 n (nI h) 0 0 μ Q ↔ Q (itr (fun v s => if su (pl v h) ≤ sm (pl v h) then s else s + 1) 0 (W + 1) 0) μ := by
  obtain ⟨W20, H8, hW, hH, plt, hpl, hpp, hfo, htu, hsu, hsm⟩ := E
  have hpl0 : ∀ h, h < H → μ.1 (101) h = nI (pl 0 h) := fun h hh => by
    have := hpl 0 (Nat.zero_le W) h hh
    rwa [Nat.zero_mul, Nat.zero_add] at this
  refine for_iff 0 (fun n i s => wX9_sweet_15 n (nI h) s i μ Q) (fun s => Q s μ) (W + 1) (fun v s => if su (pl v h) ≤ sm (pl v h) then s else s + 1) (fun _ _ => True) ?_ ?_ (fun _ _ _ _ => trivial) (W + 1) 0 0 n (by omega) (by omega) trivial
  · intro n s hn hs
    simp (disch := omega) only [wX9_sweet_15, s_mweeks, s_mhouses, s_pushOf, s_placeOf, s_placeOf0, hW, hH, hpl, hpl0, hpp, hfo, htu, hsu, hsm, nle, nlt, nI1, cl, inN, s_abs2, not_true_eq_false, not_false_eq_true, false_implies, true_implies, and_true, true_and, and_self, nmM, if_true, if_false, or0, Int32.add_zero, forall_const, Nat.le_refl, Nat.lt_irrefl, Nat.lt_succ_self, wX9_sweet_54]
  · intro n i s hn hi hs
    have hi' : ¬ W < i := by omega
    have hp := plt i h hh
    by_cases hc0 : su (pl i h) ≤ sm (pl i h) <;> simp (disch := omega) only [wX9_sweet_15, s_mweeks, s_mhouses, s_pushOf, s_placeOf, s_placeOf0, hW, hH, hpl, hpl0, hpp, hfo, htu, hsu, hsm, nle, nlt, nI1, cl, inN, s_abs2, not_true_eq_false, not_false_eq_true, false_implies, true_implies, and_true, true_and, and_self, nmM, if_true, if_false, or0, Int32.add_zero, forall_const, Nat.le_refl, Nat.lt_irrefl, Nat.lt_succ_self, wX9_sweet_54, hi', hc0]
theorem xl_who {n t y v : Nat} {H W : Nat} {pl : Nat → Nat → Nat} {pp : Nat → Nat → Int32} {fo tu su sm : Nat → Int32} {μ : qa_M} {Q : Int32 → qa_M → Prop} (E : XE μ t (y + 1) (y + 2) (y + 3) (y + 4) H W pl pp fo tu su sm) {q : Int32} (hv : v ≤ W) (hn : 25 < n) : wX7_houseOn_3 n y q (nI v) (nI H) 0 μ Q ↔ Q (fnd (fun h => decide (nI (pl v h) = q)) 0 (H)) μ := by
  obtain ⟨W20, H8, hW, hH, plt, hpl, hpp, hfo, htu, hsu, hsm⟩ := E
  have hpl0 : ∀ h, h < H → μ.1 (y + 1) h = nI (pl 0 h) := fun h hh => by
    have := hpl 0 (Nat.zero_le W) h hh
    rwa [Nat.zero_mul, Nat.zero_add] at this
  refine fnd_iff 0 (fun n i => wX7_houseOn_3 n y q (nI v) (nI H) i μ Q) (fun r => Q r μ) (H) (fun h => decide (nI (pl v h) = q)) ?_ ?_ (H) 0 n (by omega) (by omega)
  · intro n hn
    simp (disch := omega) only [wX7_houseOn_3, s_effort, s_spot, s_spot0, s_lowBits, hW, hH, hpl, hpl0, hpp, hfo, htu, hsu, hsm, nle, nlt, nI1, cl, inN, s_abs2, not_true_eq_false, not_false_eq_true, false_implies, true_implies, and_true, true_and, and_self, nmM, if_true, if_false, or0, Int32.add_zero, forall_const, Nat.le_refl, Nat.lt_irrefl, Nat.lt_succ_self]
  · intro n i hn hi
    have hi' : ¬ H ≤ i := by omega
    by_cases hc : nI (pl v i) = q <;> simp (disch := omega) only [wX7_houseOn_3, s_effort, s_spot, s_spot0, s_lowBits, hW, hH, hpl, hpl0, hpp, hfo, htu, hsu, hsm, nle, nlt, nI1, cl, inN, s_abs2, not_true_eq_false, not_false_eq_true, false_implies, true_implies, and_true, true_and, and_self, nmM, if_true, if_false, or0, Int32.add_zero, forall_const, Nat.le_refl, Nat.lt_irrefl, Nat.lt_succ_self, hi', hc, decide_eq_true_eq, or_false, or_true, true_or, false_or]
theorem ml_who {n v : Nat} {H W : Nat} {pl : Nat → Nat → Nat} {pp : Nat → Nat → Int32} {fo tu su sm : Nat → Int32} {μ : qa_M} {Q : Int32 → qa_M → Prop} (E : ME μ H W pl pp fo tu su sm) {q : Int32} (hv : v ≤ W) (hn : 25 < n) : wX9_whoAt_2 n q (nI v) 0 μ Q ↔ Q (fnd (fun h => decide (nI (pl v h) = q)) 0 (H)) μ := by
  obtain ⟨W20, H8, hW, hH, plt, hpl, hpp, hfo, htu, hsu, hsm⟩ := E
  have hpl0 : ∀ h, h < H → μ.1 (101) h = nI (pl 0 h) := fun h hh => by
    have := hpl 0 (Nat.zero_le W) h hh
    rwa [Nat.zero_mul, Nat.zero_add] at this
  refine fnd_iff 0 (fun n i => wX9_whoAt_2 n q (nI v) i μ Q) (fun r => Q r μ) (H) (fun h => decide (nI (pl v h) = q)) ?_ ?_ (H) 0 n (by omega) (by omega)
  · intro n hn
    simp (disch := omega) only [wX9_whoAt_2, s_mweeks, s_mhouses, s_pushOf, s_placeOf, s_placeOf0, hW, hH, hpl, hpl0, hpp, hfo, htu, hsu, hsm, nle, nlt, nI1, cl, inN, s_abs2, not_true_eq_false, not_false_eq_true, false_implies, true_implies, and_true, true_and, and_self, nmM, if_true, if_false, or0, Int32.add_zero, forall_const, Nat.le_refl, Nat.lt_irrefl, Nat.lt_succ_self]
  · intro n i hn hi
    have hi' : ¬ H ≤ i := by omega
    by_cases hc : nI (pl v i) = q <;> simp (disch := omega) only [wX9_whoAt_2, s_mweeks, s_mhouses, s_pushOf, s_placeOf, s_placeOf0, hW, hH, hpl, hpl0, hpp, hfo, htu, hsu, hsm, nle, nlt, nI1, cl, inN, s_abs2, not_true_eq_false, not_false_eq_true, false_implies, true_implies, and_true, true_and, and_self, nmM, if_true, if_false, or0, Int32.add_zero, forall_const, Nat.le_refl, Nat.lt_irrefl, Nat.lt_succ_self, hi', hc, decide_eq_true_eq, or_false, or_true, true_or, false_or]
