def bro (S : Nat → Int32) (h : Nat) (s : Option Nat) : Option Nat := s.elim (some h) (fun q => if S h ≤ S q then some q else some h)
def pal (S : Nat → Int32) (h : Nat) (s : Option Nat) : Option Nat := s.elim (some h) (fun q => if S q ≤ S h then some q else some h)
def stg (S : Nat → Int32) (h : Nat) (s : Option Nat) : Option Nat := s.elim (if S h ≤ 0 then none else some h) (fun q => if S h ≤ S q then some q else some h)
theorem xl_strongest {n v : Nat} {H W : Nat} {pl : Nat → Nat → Nat} {pp : Nat → Nat → Int32} {fo tu su sm : Nat → Int32} {μ : qa_M} {Q : Int32 → qa_M → Prop} (E : XE μ (μ.2.2 1 2) 33 34 35 36 H W pl pp fo tu su sm) (hv : v < W) (hn : 25 < n) : wX8_strongest_18 n (nI v) (-1) 0 0 μ Q ↔ Q (oI (itr (stg (fun h => pp v h)) 0 H none)) μ := by
  have E0 := E
  obtain ⟨W20, H8, hW, hH, plt, hpl, hpp, hfo, htu, hsu, hsm⟩ := E
  have hpl0 : ∀ h, h < H → μ.1 (33) h = nI (pl 0 h) := fun h hh => by
    have := hpl 0 (Nat.zero_le W) h hh
    rwa [Nat.zero_mul, Nat.zero_add] at this
  refine for_iff 0 (fun n i (s : Option Nat) => wX8_strongest_18 n (nI v) (oI s) (s.elim 0 (fun q => pp v q)) i μ Q) (fun s => Q (oI s) μ) H (stg (fun h => pp v h)) (fun _ s => ∀ q, s = some q → q < H) ?_ ?_ ?_ H 0 none n (by omega) (by omega) (fun q e => nomatch e)
  · intro n s hn hs
    simp (disch := omega) only [wX8_strongest_18, s_effort, s_spot, s_spot0, s_lowBits, hW, hH, hpl, hpl0, hpp, hfo, htu, hsu, hsm, nle, nlt, nI1, cl, inN, s_abs2, not_true_eq_false, not_false_eq_true, false_implies, true_implies, and_true, true_and, and_self, nmM, if_true, if_false, or0, Int32.add_zero, forall_const, Nat.le_refl, Nat.lt_irrefl, Nat.lt_succ_self, stg, oI, Option.elim, neg1_ne]
  · intro n i s hn hi hs
    have hi' : ¬ H ≤ i := by omega
    cases s with
    | none =>
      by_cases hc : pp v i ≤ 0 <;> simp (disch := omega) only [wX8_strongest_18, s_effort, s_spot, s_spot0, s_lowBits, hW, hH, hpl, hpl0, hpp, hfo, htu, hsu, hsm, nle, nlt, nI1, cl, inN, s_abs2, not_true_eq_false, not_false_eq_true, false_implies, true_implies, and_true, true_and, and_self, nmM, if_true, if_false, or0, Int32.add_zero, forall_const, Nat.le_refl, Nat.lt_irrefl, Nat.lt_succ_self, stg, oI, Option.elim, neg1_ne, hi', hc]
    | some q =>
      have hq : q < H := hs q rfl
      by_cases hc : pp v i ≤ pp v q <;> simp (disch := omega) only [wX8_strongest_18, s_effort, s_spot, s_spot0, s_lowBits, hW, hH, hpl, hpl0, hpp, hfo, htu, hsu, hsm, nle, nlt, nI1, cl, inN, s_abs2, not_true_eq_false, not_false_eq_true, false_implies, true_implies, and_true, true_and, and_self, nmM, if_true, if_false, or0, Int32.add_zero, forall_const, Nat.le_refl, Nat.lt_irrefl, Nat.lt_succ_self, stg, oI, Option.elim, neg1_ne, hi', hc]
  · intro i s hi hs q e
    cases s with
    | none =>
      simp only [stg, Option.elim] at e
      try split at e
      all_goals (cases e; try omega)
    | some p =>
      have hp : p < H := hs p rfl
      simp only [stg, Option.elim] at e
      split at e
      all_goals (cases e; omega)
theorem ml_strongest {n v : Nat} {H W : Nat} {pl : Nat → Nat → Nat} {pp : Nat → Nat → Int32} {fo tu su sm : Nat → Int32} {μ : qa_M} {Q : Int32 → qa_M → Prop} (E : ME μ H W pl pp fo tu su sm) (hv : v < W) (hn : 25 < n) : wX9_strongest_15 n (nI v) (-1) 0 μ Q ↔ Q (oI (itr (stg (fun h => pp v h)) 0 H none)) μ := by
  have E0 := E
  obtain ⟨W20, H8, hW, hH, plt, hpl, hpp, hfo, htu, hsu, hsm⟩ := E
  have hpl0 : ∀ h, h < H → μ.1 (101) h = nI (pl 0 h) := fun h hh => by
    have := hpl 0 (Nat.zero_le W) h hh
    rwa [Nat.zero_mul, Nat.zero_add] at this
  refine for_iff 0 (fun n i (s : Option Nat) => wX9_strongest_15 n (nI v) (oI s) i μ Q) (fun s => Q (oI s) μ) H (stg (fun h => pp v h)) (fun _ s => ∀ q, s = some q → q < H) ?_ ?_ ?_ H 0 none n (by omega) (by omega) (fun q e => nomatch e)
  · intro n s hn hs
    simp (disch := omega) only [wX9_strongest_15, s_mweeks, s_mhouses, s_pushOf, s_placeOf, s_placeOf0, hW, hH, hpl, hpl0, hpp, hfo, htu, hsu, hsm, nle, nlt, nI1, cl, inN, s_abs2, not_true_eq_false, not_false_eq_true, false_implies, true_implies, and_true, true_and, and_self, nmM, if_true, if_false, or0, Int32.add_zero, forall_const, Nat.le_refl, Nat.lt_irrefl, Nat.lt_succ_self, stg, wX9_strongest_44, oI, Option.elim, neg1_ne]
  · intro n i s hn hi hs
    have hi' : ¬ H ≤ i := by omega
    cases s with
    | none =>
      by_cases hc : pp v i ≤ 0 <;> simp (disch := omega) only [wX9_strongest_15, s_mweeks, s_mhouses, s_pushOf, s_placeOf, s_placeOf0, hW, hH, hpl, hpl0, hpp, hfo, htu, hsu, hsm, nle, nlt, nI1, cl, inN, s_abs2, not_true_eq_false, not_false_eq_true, false_implies, true_implies, and_true, true_and, and_self, nmM, if_true, if_false, or0, Int32.add_zero, forall_const, Nat.le_refl, Nat.lt_irrefl, Nat.lt_succ_self, stg, wX9_strongest_44, oI, Option.elim, neg1_ne, hi', hc]
    | some q =>
      have hq : q < H := hs q rfl
      by_cases hc : pp v i ≤ pp v q <;> simp (disch := omega) only [wX9_strongest_15, s_mweeks, s_mhouses, s_pushOf, s_placeOf, s_placeOf0, hW, hH, hpl, hpl0, hpp, hfo, htu, hsu, hsm, nle, nlt, nI1, cl, inN, s_abs2, not_true_eq_false, not_false_eq_true, false_implies, true_implies, and_true, true_and, and_self, nmM, if_true, if_false, or0, Int32.add_zero, forall_const, Nat.le_refl, Nat.lt_irrefl, Nat.lt_succ_self, stg, wX9_strongest_44, oI, Option.elim, neg1_ne, hi', hc]
  · intro i s hi hs q e
    cases s with
    | none =>
      simp only [stg, wX9_strongest_44, Option.elim] at e
      try split at e
      all_goals (cases e; try omega)
    | some p =>
      have hp : p < H := hs p rfl
      simp only [stg, wX9_strongest_44, Option.elim] at e
      split at e
      all_goals (cases e; omega)
theorem xl_brown {n : Nat} {H W : Nat} {pl : Nat → Nat → Nat} {pp : Nat → Nat → Int32} {fo tu su sm : Nat → Int32} {μ : qa_M} {Q : Int32 → qa_M → Prop} (E : XE μ (μ.2.2 1 2) 33 34 35 36 H W pl pp fo tu su sm)  (hn : 60 < n) : wX8_brown_16 n (-1) (-1) 0 μ Q ↔ Q (oI (itr (bro (fun h => aSun pl su h W)) 0 H none)) μ := by
  have E0 := E
  obtain ⟨W20, H8, hW, hH, plt, hpl, hpp, hfo, htu, hsu, hsm⟩ := E
  have hpl0 : ∀ h, h < H → μ.1 (33) h = nI (pl 0 h) := fun h hh => by
    have := hpl 0 (Nat.zero_le W) h hh
    rwa [Nat.zero_mul, Nat.zero_add] at this
  refine for_iff 30 (fun n i (s : Option Nat) => wX8_brown_16 n (oI s) (s.elim (-1) (fun q => aSun pl su q W)) i μ Q) (fun s => Q (oI s) μ) H (bro (fun h => aSun pl su h W)) (fun _ s => ∀ q, s = some q → q < H) ?_ ?_ ?_ H 0 none n (by omega) (by omega) (fun q e => nomatch e)
  · intro n s hn hs
    simp (disch := omega) only [wX8_brown_16, s_effort, s_spot, s_spot0, s_lowBits, hW, hH, hpl, hpl0, hpp, hfo, htu, hsu, hsm, nle, nlt, nI1, cl, inN, s_abs2, not_true_eq_false, not_false_eq_true, false_implies, true_implies, and_true, true_and, and_self, nmM, if_true, if_false, or0, Int32.add_zero, forall_const, Nat.le_refl, Nat.lt_irrefl, Nat.lt_succ_self, bro, wX8_brown_59, x_sunTo (y := 32) E0, oI, Option.elim, neg1_ne]
  · intro n i s hn hi hs
    have hi' : ¬ H ≤ i := by omega
    cases s with
    | none =>
      simp (disch := omega) only [wX8_brown_16, s_effort, s_spot, s_spot0, s_lowBits, hW, hH, hpl, hpl0, hpp, hfo, htu, hsu, hsm, nle, nlt, nI1, cl, inN, s_abs2, not_true_eq_false, not_false_eq_true, false_implies, true_implies, and_true, true_and, and_self, nmM, if_true, if_false, or0, Int32.add_zero, forall_const, Nat.le_refl, Nat.lt_irrefl, Nat.lt_succ_self, bro, wX8_brown_59, x_sunTo (y := 32) E0, oI, Option.elim, neg1_ne, hi']
    | some q =>
      have hq : q < H := hs q rfl
      by_cases hc : aSun pl su i W ≤ aSun pl su q W <;> simp (disch := omega) only [wX8_brown_16, s_effort, s_spot, s_spot0, s_lowBits, hW, hH, hpl, hpl0, hpp, hfo, htu, hsu, hsm, nle, nlt, nI1, cl, inN, s_abs2, not_true_eq_false, not_false_eq_true, false_implies, true_implies, and_true, true_and, and_self, nmM, if_true, if_false, or0, Int32.add_zero, forall_const, Nat.le_refl, Nat.lt_irrefl, Nat.lt_succ_self, bro, wX8_brown_59, x_sunTo (y := 32) E0, oI, Option.elim, neg1_ne, hi', hc]
  · intro i s hi hs q e
    cases s with
    | none =>
      simp only [bro, Option.elim] at e
      try split at e
      all_goals (cases e; try omega)
    | some p =>
      have hp : p < H := hs p rfl
      simp only [bro, Option.elim] at e
      split at e
      all_goals (cases e; omega)
theorem ml_brown {n : Nat} {H W : Nat} {pl : Nat → Nat → Nat} {pp : Nat → Nat → Int32} {fo tu su sm : Nat → Int32} {μ : qa_M} {Q : Int32 → qa_M → Prop} (E : ME μ H W pl pp fo tu su sm)  (hn : 60 < n) : wX9_brownOf_4 n (-1) 0 μ Q ↔ Q (oI (itr (bro (fun h => aSun pl su h W)) 0 H none)) μ := by
  have E0 := E
  obtain ⟨W20, H8, hW, hH, plt, hpl, hpp, hfo, htu, hsu, hsm⟩ := E
  have hpl0 : ∀ h, h < H → μ.1 (101) h = nI (pl 0 h) := fun h hh => by
    have := hpl 0 (Nat.zero_le W) h hh
    rwa [Nat.zero_mul, Nat.zero_add] at this
  refine for_iff 30 (fun n i (s : Option Nat) => wX9_brownOf_4 n (oI s) i μ Q) (fun s => Q (oI s) μ) H (bro (fun h => aSun pl su h W)) (fun _ s => ∀ q, s = some q → q < H) ?_ ?_ ?_ H 0 none n (by omega) (by omega) (fun q e => nomatch e)
  · intro n s hn hs
    simp (disch := omega) only [wX9_brownOf_4, s_mweeks, s_mhouses, s_pushOf, s_placeOf, s_placeOf0, hW, hH, hpl, hpl0, hpp, hfo, htu, hsu, hsm, nle, nlt, nI1, cl, inN, s_abs2, not_true_eq_false, not_false_eq_true, false_implies, true_implies, and_true, true_and, and_self, nmM, if_true, if_false, or0, Int32.add_zero, forall_const, Nat.le_refl, Nat.lt_irrefl, Nat.lt_succ_self, bro, wX9_brownOf_30, m_sunAll E0, oI, Option.elim, neg1_ne]
  · intro n i s hn hi hs
    have hi' : ¬ H ≤ i := by omega
    cases s with
    | none =>
      simp (disch := omega) only [wX9_brownOf_4, s_mweeks, s_mhouses, s_pushOf, s_placeOf, s_placeOf0, hW, hH, hpl, hpl0, hpp, hfo, htu, hsu, hsm, nle, nlt, nI1, cl, inN, s_abs2, not_true_eq_false, not_false_eq_true, false_implies, true_implies, and_true, true_and, and_self, nmM, if_true, if_false, or0, Int32.add_zero, forall_const, Nat.le_refl, Nat.lt_irrefl, Nat.lt_succ_self, bro, wX9_brownOf_30, m_sunAll E0, oI, Option.elim, neg1_ne, hi']
    | some q =>
      have hq : q < H := hs q rfl
      by_cases hc : aSun pl su i W ≤ aSun pl su q W <;> simp (disch := omega) only [wX9_brownOf_4, s_mweeks, s_mhouses, s_pushOf, s_placeOf, s_placeOf0, hW, hH, hpl, hpl0, hpp, hfo, htu, hsu, hsm, nle, nlt, nI1, cl, inN, s_abs2, not_true_eq_false, not_false_eq_true, false_implies, true_implies, and_true, true_and, and_self, nmM, if_true, if_false, or0, Int32.add_zero, forall_const, Nat.le_refl, Nat.lt_irrefl, Nat.lt_succ_self, bro, wX9_brownOf_30, m_sunAll E0, oI, Option.elim, neg1_ne, hi', hc]
  · intro i s hi hs q e
    cases s with
    | none =>
      simp only [bro, wX9_brownOf_30, m_sunAll E0, Option.elim] at e
      try split at e
      all_goals (cases e; try omega)
    | some p =>
      have hp : p < H := hs p rfl
      simp only [bro, wX9_brownOf_30, m_sunAll E0, Option.elim] at e
      split at e
      all_goals (cases e; omega)
theorem xl_pale {n : Nat} {H W : Nat} {pl : Nat → Nat → Nat} {pp : Nat → Nat → Int32} {fo tu su sm : Nat → Int32} {μ : qa_M} {Q : Int32 → qa_M → Prop} (E : XE μ (μ.2.2 1 2) 33 34 35 36 H W pl pp fo tu su sm)  (hn : 60 < n) : wX8_pale_16 n (-1) 0 0 μ Q ↔ Q (oI (itr (pal (fun h => aSun pl su h W)) 0 H none)) μ := by
  have E0 := E
  obtain ⟨W20, H8, hW, hH, plt, hpl, hpp, hfo, htu, hsu, hsm⟩ := E
  have hpl0 : ∀ h, h < H → μ.1 (33) h = nI (pl 0 h) := fun h hh => by
    have := hpl 0 (Nat.zero_le W) h hh
    rwa [Nat.zero_mul, Nat.zero_add] at this
  refine for_iff 30 (fun n i (s : Option Nat) => wX8_pale_16 n (oI s) (s.elim 0 (fun q => aSun pl su q W)) i μ Q) (fun s => Q (oI s) μ) H (pal (fun h => aSun pl su h W)) (fun _ s => ∀ q, s = some q → q < H) ?_ ?_ ?_ H 0 none n (by omega) (by omega) (fun q e => nomatch e)
  · intro n s hn hs
    simp (disch := omega) only [wX8_pale_16, s_effort, s_spot, s_spot0, s_lowBits, hW, hH, hpl, hpl0, hpp, hfo, htu, hsu, hsm, nle, nlt, nI1, cl, inN, s_abs2, not_true_eq_false, not_false_eq_true, false_implies, true_implies, and_true, true_and, and_self, nmM, if_true, if_false, or0, Int32.add_zero, forall_const, Nat.le_refl, Nat.lt_irrefl, Nat.lt_succ_self, pal, wX8_pale_59, x_sunTo (y := 32) E0, oI, Option.elim, neg1_ne]
  · intro n i s hn hi hs
    have hi' : ¬ H ≤ i := by omega
    cases s with
    | none =>
      simp (disch := omega) only [wX8_pale_16, s_effort, s_spot, s_spot0, s_lowBits, hW, hH, hpl, hpl0, hpp, hfo, htu, hsu, hsm, nle, nlt, nI1, cl, inN, s_abs2, not_true_eq_false, not_false_eq_true, false_implies, true_implies, and_true, true_and, and_self, nmM, if_true, if_false, or0, Int32.add_zero, forall_const, Nat.le_refl, Nat.lt_irrefl, Nat.lt_succ_self, pal, wX8_pale_59, x_sunTo (y := 32) E0, oI, Option.elim, neg1_ne, hi']
    | some q =>
      have hq : q < H := hs q rfl
      by_cases hc : aSun pl su q W ≤ aSun pl su i W <;> simp (disch := omega) only [wX8_pale_16, s_effort, s_spot, s_spot0, s_lowBits, hW, hH, hpl, hpl0, hpp, hfo, htu, hsu, hsm, nle, nlt, nI1, cl, inN, s_abs2, not_true_eq_false, not_false_eq_true, false_implies, true_implies, and_true, true_and, and_self, nmM, if_true, if_false, or0, Int32.add_zero, forall_const, Nat.le_refl, Nat.lt_irrefl, Nat.lt_succ_self, pal, wX8_pale_59, x_sunTo (y := 32) E0, oI, Option.elim, neg1_ne, hi', hc]
  · intro i s hi hs q e
    cases s with
    | none =>
      simp only [pal, Option.elim] at e
      try split at e
      all_goals (cases e; try omega)
    | some p =>
      have hp : p < H := hs p rfl
      simp only [pal, Option.elim] at e
      split at e
      all_goals (cases e; omega)
theorem ml_pale {n : Nat} {H W : Nat} {pl : Nat → Nat → Nat} {pp : Nat → Nat → Int32} {fo tu su sm : Nat → Int32} {μ : qa_M} {Q : Int32 → qa_M → Prop} (E : ME μ H W pl pp fo tu su sm)  (hn : 60 < n) : wX9_paleOf_4 n (-1) 0 μ Q ↔ Q (oI (itr (pal (fun h => aSun pl su h W)) 0 H none)) μ := by
  have E0 := E
  obtain ⟨W20, H8, hW, hH, plt, hpl, hpp, hfo, htu, hsu, hsm⟩ := E
  have hpl0 : ∀ h, h < H → μ.1 (101) h = nI (pl 0 h) := fun h hh => by
    have := hpl 0 (Nat.zero_le W) h hh
    rwa [Nat.zero_mul, Nat.zero_add] at this
  refine for_iff 30 (fun n i (s : Option Nat) => wX9_paleOf_4 n (oI s) i μ Q) (fun s => Q (oI s) μ) H (pal (fun h => aSun pl su h W)) (fun _ s => ∀ q, s = some q → q < H) ?_ ?_ ?_ H 0 none n (by omega) (by omega) (fun q e => nomatch e)
  · intro n s hn hs
    simp (disch := omega) only [wX9_paleOf_4, s_mweeks, s_mhouses, s_pushOf, s_placeOf, s_placeOf0, hW, hH, hpl, hpl0, hpp, hfo, htu, hsu, hsm, nle, nlt, nI1, cl, inN, s_abs2, not_true_eq_false, not_false_eq_true, false_implies, true_implies, and_true, true_and, and_self, nmM, if_true, if_false, or0, Int32.add_zero, forall_const, Nat.le_refl, Nat.lt_irrefl, Nat.lt_succ_self, pal, wX9_paleOf_30, m_sunAll E0, oI, Option.elim, neg1_ne]
  · intro n i s hn hi hs
    have hi' : ¬ H ≤ i := by omega
    cases s with
    | none =>
      simp (disch := omega) only [wX9_paleOf_4, s_mweeks, s_mhouses, s_pushOf, s_placeOf, s_placeOf0, hW, hH, hpl, hpl0, hpp, hfo, htu, hsu, hsm, nle, nlt, nI1, cl, inN, s_abs2, not_true_eq_false, not_false_eq_true, false_implies, true_implies, and_true, true_and, and_self, nmM, if_true, if_false, or0, Int32.add_zero, forall_const, Nat.le_refl, Nat.lt_irrefl, Nat.lt_succ_self, pal, wX9_paleOf_30, m_sunAll E0, oI, Option.elim, neg1_ne, hi']
    | some q =>
      have hq : q < H := hs q rfl
      by_cases hc : aSun pl su q W ≤ aSun pl su i W <;> simp (disch := omega) only [wX9_paleOf_4, s_mweeks, s_mhouses, s_pushOf, s_placeOf, s_placeOf0, hW, hH, hpl, hpl0, hpp, hfo, htu, hsu, hsm, nle, nlt, nI1, cl, inN, s_abs2, not_true_eq_false, not_false_eq_true, false_implies, true_implies, and_true, true_and, and_self, nmM, if_true, if_false, or0, Int32.add_zero, forall_const, Nat.le_refl, Nat.lt_irrefl, Nat.lt_succ_self, pal, wX9_paleOf_30, m_sunAll E0, oI, Option.elim, neg1_ne, hi', hc]
  · intro i s hi hs q e
    cases s with
    | none =>
      simp only [pal, wX9_paleOf_30, m_sunAll E0, Option.elim] at e
      try split at e
      all_goals (cases e; try omega)
    | some p =>
      have hp : p < H := hs p rfl
      simp only [pal, wX9_paleOf_30, m_sunAll E0, Option.elim] at e
      split at e
      all_goals (cases e; omega)
theorem xl_noon {n v : Nat} {H W : Nat} {pl : Nat → Nat → Nat} {pp : Nat → Nat → Int32} {fo tu su sm : Nat → Int32} {μ : qa_M} {Q : Int32 → qa_M → Prop} (E : XE μ (μ.2.2 1 2) 33 34 35 36 H W pl pp fo tu su sm) (hv : v ≤ W) (hsp : ∀ p, p < 8 → (su p ≤ -1) = False) (hn : 25 < n) : wX8_noon_18 n (nI v) (-1) (-1) 0 μ Q ↔ Q (oI (itr (bro (fun h => su (pl v h))) 0 H none)) μ := by
  have E0 := E
  obtain ⟨W20, H8, hW, hH, plt, hpl, hpp, hfo, htu, hsu, hsm⟩ := E
  have hpl0 : ∀ h, h < H → μ.1 (33) h = nI (pl 0 h) := fun h hh => by
    have := hpl 0 (Nat.zero_le W) h hh
    rwa [Nat.zero_mul, Nat.zero_add] at this
  refine for_iff 0 (fun n i (s : Option Nat) => wX8_noon_18 n (nI v) (oI s) (s.elim (-1) (fun q => su (pl v q))) i μ Q) (fun s => Q (oI s) μ) H (bro (fun h => su (pl v h))) (fun _ s => ∀ q, s = some q → q < H) ?_ ?_ ?_ H 0 none n (by omega) (by omega) (fun q e => nomatch e)
  · intro n s hn hs
    simp (disch := omega) only [wX8_noon_18, s_effort, s_spot, s_spot0, s_lowBits, hW, hH, hpl, hpl0, hpp, hfo, htu, hsu, hsm, nle, nlt, nI1, cl, inN, s_abs2, not_true_eq_false, not_false_eq_true, false_implies, true_implies, and_true, true_and, and_self, nmM, if_true, if_false, or0, Int32.add_zero, forall_const, Nat.le_refl, Nat.lt_irrefl, Nat.lt_succ_self, bro, hsp, oI, Option.elim, neg1_ne]
  · intro n i s hn hi hs
    have hi' : ¬ H ≤ i := by omega
    have hp := plt v i hi
    cases s with
    | none =>
      simp (disch := omega) only [wX8_noon_18, s_effort, s_spot, s_spot0, s_lowBits, hW, hH, hpl, hpl0, hpp, hfo, htu, hsu, hsm, nle, nlt, nI1, cl, inN, s_abs2, not_true_eq_false, not_false_eq_true, false_implies, true_implies, and_true, true_and, and_self, nmM, if_true, if_false, or0, Int32.add_zero, forall_const, Nat.le_refl, Nat.lt_irrefl, Nat.lt_succ_self, bro, hsp, oI, Option.elim, neg1_ne, hi']
    | some q =>
      have hq : q < H := hs q rfl
      have hp2 := plt v q hq
      by_cases hc : su (pl v i) ≤ su (pl v q) <;> simp (disch := omega) only [wX8_noon_18, s_effort, s_spot, s_spot0, s_lowBits, hW, hH, hpl, hpl0, hpp, hfo, htu, hsu, hsm, nle, nlt, nI1, cl, inN, s_abs2, not_true_eq_false, not_false_eq_true, false_implies, true_implies, and_true, true_and, and_self, nmM, if_true, if_false, or0, Int32.add_zero, forall_const, Nat.le_refl, Nat.lt_irrefl, Nat.lt_succ_self, bro, hsp, oI, Option.elim, neg1_ne, hi', hc]
  · intro i s hi hs q e
    cases s with
    | none =>
      simp only [bro, Option.elim] at e
      try split at e
      all_goals (cases e; try omega)
    | some p =>
      have hp : p < H := hs p rfl
      simp only [bro, Option.elim] at e
      split at e
      all_goals (cases e; omega)
theorem ml_noon {n v : Nat} {H W : Nat} {pl : Nat → Nat → Nat} {pp : Nat → Nat → Int32} {fo tu su sm : Nat → Int32} {μ : qa_M} {Q : Int32 → qa_M → Prop} (E : ME μ H W pl pp fo tu su sm) (hv : v ≤ W) (hn : 25 < n) : wX9_noon_15 n (nI v) (-1) 0 μ Q ↔ Q (oI (itr (bro (fun h => su (pl v h))) 0 H none)) μ := by
  have E0 := E
  obtain ⟨W20, H8, hW, hH, plt, hpl, hpp, hfo, htu, hsu, hsm⟩ := E
  have hpl0 : ∀ h, h < H → μ.1 (101) h = nI (pl 0 h) := fun h hh => by
    have := hpl 0 (Nat.zero_le W) h hh
    rwa [Nat.zero_mul, Nat.zero_add] at this
  refine for_iff 0 (fun n i (s : Option Nat) => wX9_noon_15 n (nI v) (oI s) i μ Q) (fun s => Q (oI s) μ) H (bro (fun h => su (pl v h))) (fun _ s => ∀ q, s = some q → q < H) ?_ ?_ ?_ H 0 none n (by omega) (by omega) (fun q e => nomatch e)
  · intro n s hn hs
    simp (disch := omega) only [wX9_noon_15, s_mweeks, s_mhouses, s_pushOf, s_placeOf, s_placeOf0, hW, hH, hpl, hpl0, hpp, hfo, htu, hsu, hsm, nle, nlt, nI1, cl, inN, s_abs2, not_true_eq_false, not_false_eq_true, false_implies, true_implies, and_true, true_and, and_self, nmM, if_true, if_false, or0, Int32.add_zero, forall_const, Nat.le_refl, Nat.lt_irrefl, Nat.lt_succ_self, bro, wX9_noon_53, oI, Option.elim, neg1_ne]
  · intro n i s hn hi hs
    have hi' : ¬ H ≤ i := by omega
    have hp := plt v i hi
    cases s with
    | none =>
      simp (disch := omega) only [wX9_noon_15, s_mweeks, s_mhouses, s_pushOf, s_placeOf, s_placeOf0, hW, hH, hpl, hpl0, hpp, hfo, htu, hsu, hsm, nle, nlt, nI1, cl, inN, s_abs2, not_true_eq_false, not_false_eq_true, false_implies, true_implies, and_true, true_and, and_self, nmM, if_true, if_false, or0, Int32.add_zero, forall_const, Nat.le_refl, Nat.lt_irrefl, Nat.lt_succ_self, bro, wX9_noon_53, oI, Option.elim, neg1_ne, hi']
    | some q =>
      have hq : q < H := hs q rfl
      have hp2 := plt v q hq
      by_cases hc : su (pl v i) ≤ su (pl v q) <;> simp (disch := omega) only [wX9_noon_15, s_mweeks, s_mhouses, s_pushOf, s_placeOf, s_placeOf0, hW, hH, hpl, hpl0, hpp, hfo, htu, hsu, hsm, nle, nlt, nI1, cl, inN, s_abs2, not_true_eq_false, not_false_eq_true, false_implies, true_implies, and_true, true_and, and_self, nmM, if_true, if_false, or0, Int32.add_zero, forall_const, Nat.le_refl, Nat.lt_irrefl, Nat.lt_succ_self, bro, wX9_noon_53, oI, Option.elim, neg1_ne, hi', hc]
  · intro i s hi hs q e
    cases s with
    | none =>
      simp only [bro, wX9_noon_53, Option.elim] at e
      try split at e
      all_goals (cases e; try omega)
    | some p =>
      have hp : p < H := hs p rfl
      simp only [bro, wX9_noon_53, Option.elim] at e
      split at e
      all_goals (cases e; omega)
