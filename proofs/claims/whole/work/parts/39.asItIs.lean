def leanW (w : Nat → Int32) : Int32 := itr (fun h s => s ||| (w (11 + 2 * h) <<< (nI h &&& 31))) 0 8 0
def snowW (w : Nat → Int32) (k : Nat) : Int32 := itr (fun i s => s ||| ((1 : Int32) <<< (w (56 + i) &&& 31))) 0 k 0
def sunW (w : Nat → Int32) (k p : Nat) : Int32 := itr (fun i s => if w (26 + 3 * i) = nI p then w (27 + 3 * i) else s) 0 k 0
def smellW (w : Nat → Int32) (k p : Nat) : Int32 := itr (fun i s => if w (26 + 3 * i) = nI p then w (28 + 3 * i) else s) 0 k 0
def restW (w : Nat → Int32) (k j : Nat) : Int32 := itr (fun i s => if ¬ w (84 + i) < 10000 ∧ w (84 + i) - w (84 + i) / 100 * 100 = nI j then s ||| ((1 : Int32) <<< (((w (84 + i) - 10000) / 100) &&& 31)) else s) 0 k 0
/-- what m's rows of a town need, so that it can be laid out -/
def WOK (w : Nat → Int32) (np ns na : Nat) : Prop := np ≤ 10 ∧ ns ≤ 4 ∧ na ≤ 30 ∧ w 5 = nI np ∧ w 6 = nI ns ∧ w 8 = nI na ∧ (∀ k, k < np → ∃ p, p < 8 ∧ w (26 + 3 * k) = nI p) ∧ ∀ i, i < na → ¬ w (84 + i) < 10000 → ∃ v, v < 20 ∧ w (84 + i) - w (84 + i) / 100 * 100 = nI v
/-- the town laid out -/
def ASI (np ns na : Nat) (μ μ' : qa_M) : Prop := μ'.2 = μ.2 ∧ (∀ b j, b ≠ 91 → b ≠ 98 → b ≠ 99 → b ≠ 100 → μ'.1 b j = μ.1 b j) ∧ (∀ j, (j < 18 ∨ 25 ≤ j) → μ'.1 91 j = μ.1 91 j) ∧ μ'.1 91 18 = leanW (μ.1 92) ∧ μ'.1 91 19 = snowW (μ.1 92) ns ∧ μ'.1 91 20 = μ.1 92 1 ∧ μ'.1 91 21 = μ.1 92 2 ∧ (μ'.1 91 22 = 0 ∧ μ'.1 91 23 = 0 ∧ μ'.1 91 24 = 0) ∧ (∀ p, p < 8 → μ'.1 98 p = sunW (μ.1 92) np p) ∧ (∀ p, p < 8 → μ'.1 99 p = smellW (μ.1 92) np p) ∧ ∀ j, j < 20 → μ'.1 100 j = restW (μ.1 92) na j
theorem ixL (h : Nat) : ((10 : Int32) + ((2 : Int32) * nI h)) + (1 : Int32) = nI (11 + 2 * h) := by rw [ixP, l1, nI_add]; congr 1; omega
theorem ixA (h : Nat) : (26 : Int32) + ((3 : Int32) * nI h) = nI (26 + 3 * h) := by rw [show (26 : Int32) = nI 26 from rfl, l3, pk_mul, nI_add]
theorem ixB (h : Nat) : nI (26 + 3 * h) + (1 : Int32) = nI (27 + 3 * h) := by rw [l1, nI_add]; congr 1; omega
theorem ixC (h : Nat) : nI (26 + 3 * h) + (2 : Int32) = nI (28 + 3 * h) := by rw [l2, nI_add]; congr 1; omega
theorem m_asItIs {n np ns na : Nat} {μ : qa_M} {Q : qa_M → Prop} (hW : WOK (μ.1 92) np ns na) (hn : 40 < n) (kk : ∀ μ', ASI np ns na μ μ' → Q μ') : wX9_asItIs n μ Q := by
  obtain ⟨n1, n2, n3, w5, w6, w8, hp, ha⟩ := hW
  unfold wX9_asItIs
  simp only [nmM, uI1, show (1 : Int32).toNatClampNeg = 1 from rfl, show (2 : Int32).toNatClampNeg = 2 from rfl]
  generalize hμ1 : qa_uI _ 91 24 (0 : Int32) = μ1
  have b2 : μ1.2 = μ.2 := by rw [← hμ1]; rfl
  have bo : ∀ b j, b ≠ 91 → μ1.1 b j = μ.1 b j := by
    intro b j hb
    rw [← hμ1]
    simp [uI1, hb]
  have bj : ∀ j, (j < 18 ∨ 25 ≤ j) → μ1.1 91 j = μ.1 91 j := by
    intro j hj
    rw [← hμ1]
    simp only [uI1]
    simp [show ¬ j = 24 by omega, show ¬ j = 23 by omega, show ¬ j = 22 by omega, show ¬ j = 21 by omega, show ¬ j = 20 by omega, show ¬ j = 19 by omega, show ¬ j = 18 by omega]
  have b18 : μ1.1 91 18 = 0 := by rw [← hμ1]; simp [uI1]
  have b19 : μ1.1 91 19 = 0 := by rw [← hμ1]; simp [uI1]
  have b20 : μ1.1 91 20 = μ.1 92 1 := by rw [← hμ1]; simp [uI1]
  have b21 : μ1.1 91 21 = μ.1 92 2 := by rw [← hμ1]; simp [uI1]
  have b22 : μ1.1 91 22 = 0 := by rw [← hμ1]; simp [uI1]
  have b23 : μ1.1 91 23 = 0 := by rw [← hμ1]; simp [uI1]
  have b24 : μ1.1 91 24 = 0 := by rw [← hμ1]; simp [uI1]
  clear hμ1
  -- what stays all through
  have base : ∀ {s : qa_M}, (s.2 = μ1.2 ∧ (∀ b j, b ≠ 91 → b ≠ 98 → b ≠ 99 → b ≠ 100 → s.1 b j = μ1.1 b j) ∧ (∀ j, j ≠ 18 → j ≠ 19 → s.1 91 j = μ1.1 91 j)) → ∀ j, s.1 92 j = μ.1 92 j := fun h j => (h.2.1 92 j (by decide) (by decide) (by decide) (by decide)).trans (bo 92 j (by decide))
  rw [l0]
  refine inv_loop (fun n i μ => wX9_asItIs_47 n i μ _ Q) 8 (fun i s => (s.2 = μ1.2 ∧ (∀ b j, b ≠ 91 → b ≠ 98 → b ≠ 99 → b ≠ 100 → s.1 b j = μ1.1 b j) ∧ (∀ j, j ≠ 18 → j ≠ 19 → s.1 91 j = μ1.1 91 j)) ∧ s.1 91 19 = 0 ∧ s.1 91 18 = itr (fun h s => s ||| (μ.1 92 (11 + 2 * h) <<< (nI h &&& 31))) 0 i 0 ∧ (∀ p, p < i → s.1 98 p = 0) ∧ ∀ p, p < i → s.1 99 p = 0) ?_ ?_ 8 0 μ1 n (by omega) (by omega) ⟨⟨rfl, fun _ _ _ _ _ _ => rfl, fun _ _ _ => rfl⟩, b19, b18, fun p h => absurd h (Nat.not_lt_zero p), fun p h => absurd h (Nat.not_lt_zero p)⟩
  · intro n' s ⟨g1, g2, g3, g4, g5⟩
    show wX9_asItIs_47 (n' + 1) _ _ _ _
    rw [wX9_asItIs_47]
    refine ⟨fun _ => ?_, fun h => absurd (show (8 : Int32) ≤ nI 8 by decide) h⟩
    try dsimp only
    rw [← l0]
    rw [show (0 : Int32) = nI 0 from rfl]
    -- places
    refine inv_loop (fun n i μ => wX9_asItIs_99 n i μ _ Q) np (fun i s => (s.2 = μ1.2 ∧ (∀ b j, b ≠ 91 → b ≠ 98 → b ≠ 99 → b ≠ 100 → s.1 b j = μ1.1 b j) ∧ (∀ j, j ≠ 18 → j ≠ 19 → s.1 91 j = μ1.1 91 j)) ∧ s.1 91 19 = 0 ∧ s.1 91 18 = leanW (μ.1 92) ∧ (∀ p, p < 8 → s.1 98 p = sunW (μ.1 92) i p) ∧ ∀ p, p < 8 → s.1 99 p = smellW (μ.1 92) i p) ?_ ?_ np 0 s n (by omega) (by omega) ⟨g1, g2, g3, g4, g5⟩
    · intro n' s ⟨g1, g2, g3, g4, g5⟩
      have e92 := base g1
      show wX9_asItIs_99 (n' + 1) _ _ _ _
      rw [wX9_asItIs_99, show (5 : Int32).toNatClampNeg = 5 from rfl, e92, w5]
      refine ⟨fun _ => ?_, fun h => absurd (nI_le (Nat.le_refl np) (by omega)) h⟩
      try dsimp only
      -- snows
      refine inv_loop (fun n i μ => wX9_asItIs_175 n i μ _ Q) ns (fun i s => (s.2 = μ1.2 ∧ (∀ b j, b ≠ 91 → b ≠ 98 → b ≠ 99 → b ≠ 100 → s.1 b j = μ1.1 b j) ∧ (∀ j, j ≠ 18 → j ≠ 19 → s.1 91 j = μ1.1 91 j)) ∧ s.1 91 19 = snowW (μ.1 92) i ∧ s.1 91 18 = leanW (μ.1 92) ∧ (∀ p, p < 8 → s.1 98 p = sunW (μ.1 92) np p) ∧ ∀ p, p < 8 → s.1 99 p = smellW (μ.1 92) np p) ?_ ?_ ns 0 s n (by omega) (by omega) ⟨g1, g2, g3, g4, g5⟩
      · intro n' s ⟨g1, g2, g3, g4, g5⟩
        have e92 := base g1
        show wX9_asItIs_175 (n' + 1) _ _ _ _
        rw [wX9_asItIs_175, show (6 : Int32).toNatClampNeg = 6 from rfl, e92, w6]
        refine ⟨fun _ => ?_, fun h => absurd (nI_le (Nat.le_refl ns) (by omega)) h⟩
        try dsimp only
        -- the rows of rests, emptied
        refine inv_loop (fun n i μ => wX9_asItIs_214 n i μ _ Q) 20 (fun i s => (s.2 = μ1.2 ∧ (∀ b j, b ≠ 91 → b ≠ 98 → b ≠ 99 → b ≠ 100 → s.1 b j = μ1.1 b j) ∧ (∀ j, j ≠ 18 → j ≠ 19 → s.1 91 j = μ1.1 91 j)) ∧ (s.1 91 19 = snowW (μ.1 92) ns ∧ s.1 91 18 = leanW (μ.1 92) ∧ (∀ p, p < 8 → s.1 98 p = sunW (μ.1 92) np p) ∧ ∀ p, p < 8 → s.1 99 p = smellW (μ.1 92) np p) ∧ ∀ j, j < i → s.1 100 j = 0) ?_ ?_ 20 0 s n (by omega) (by omega) ⟨g1, ⟨g2, g3, g4, g5⟩, fun p h => absurd h (Nat.not_lt_zero p)⟩
        · intro n' s ⟨g1, g2, g3⟩
          show wX9_asItIs_214 (n' + 1) _ _ _ _
          rw [wX9_asItIs_214]
          refine ⟨fun _ => ?_, fun h => absurd (show (20 : Int32) ≤ nI 20 by decide) h⟩
          try dsimp only
          -- the rests
          refine inv_loop (fun n i μ => wX9_asItIs_235 n i μ Q) na (fun i s => (s.2 = μ1.2 ∧ (∀ b j, b ≠ 91 → b ≠ 98 → b ≠ 99 → b ≠ 100 → s.1 b j = μ1.1 b j) ∧ (∀ j, j ≠ 18 → j ≠ 19 → s.1 91 j = μ1.1 91 j)) ∧ (s.1 91 19 = snowW (μ.1 92) ns ∧ s.1 91 18 = leanW (μ.1 92) ∧ (∀ p, p < 8 → s.1 98 p = sunW (μ.1 92) np p) ∧ ∀ p, p < 8 → s.1 99 p = smellW (μ.1 92) np p) ∧ ∀ j, j < 20 → s.1 100 j = restW (μ.1 92) i j) ?_ ?_ na 0 s n (by omega) (by omega) ⟨g1, g2, g3⟩
          · intro n' s ⟨g1, g2, g3⟩
            have e92 := base g1
            show wX9_asItIs_235 (n' + 1) _ _ _
            rw [wX9_asItIs_235, show (8 : Int32).toNatClampNeg = 8 from rfl, e92, w8]
            refine ⟨fun _ => ?_, fun h => absurd (nI_le (Nat.le_refl na) (by omega)) h⟩
            refine kk s ⟨g1.1.trans b2, fun b j h1 h2 h3 h4 => (g1.2.1 b j h1 h2 h3 h4).trans (bo b j h1), fun j hj => (g1.2.2 j (by omega) (by omega)).trans (bj j hj), g2.2.1, g2.1, (g1.2.2 20 (by decide) (by decide)).trans b20, (g1.2.2 21 (by decide) (by decide)).trans b21, ⟨(g1.2.2 22 (by decide) (by decide)).trans b22, (g1.2.2 23 (by decide) (by decide)).trans b23, (g1.2.2 24 (by decide) (by decide)).trans b24⟩, g2.2.2.1, g2.2.2.2, g3⟩
          · intro n' i s hi ⟨g1, g2, g3⟩ ih
            have e92 := base g1
            show wX9_asItIs_235 (n' + 1) _ _ _
            rw [wX9_asItIs_235, show (8 : Int32).toNatClampNeg = 8 from rfl, e92, w8, show (84 : Int32) + nI i = nI (84 + i) from by rw [show (84 : Int32) = nI 84 from rfl, nI_add], cl (show 84 + i < 2 ^ 31 by omega), e92, nmM, show nI i + 1 = nI (i + 1) from nI_1 i]
            refine ⟨fun h => absurd h (nI_ge hi (by omega)), fun _ => ⟨inN (by omega) (by decide), fun h => ?_, fun h => ?_⟩⟩
            · refine ih s ⟨g1, g2, fun j hj => ?_⟩
              unfold restW
              rw [itr_succ, Nat.zero_add, if_neg (fun q => q.1 h)]
              exact g3 j hj
            · obtain ⟨v, hv, ev⟩ := ha i hi h
              rw [ev, cl (show v < 2 ^ 31 by omega)]
              refine ⟨inN hv (by decide), inN hv (by decide), ?_⟩
              rw [nmM]
              refine ih _ ⟨⟨g1.1, fun b j h1 h2 h3 h4 => by rw [uIn _ _ (fun e => h4 e.1)]; exact g1.2.1 b j h1 h2 h3 h4, fun j h1 h2 => by rw [uIn _ _ (fun e => by omega)]; exact g1.2.2 j h1 h2⟩, ⟨by rw [uIn _ _ (fun e => by omega)]; exact g2.1, by rw [uIn _ _ (fun e => by omega)]; exact g2.2.1, fun p hp => by rw [uIn _ _ (fun e => by omega)]; exact g2.2.2.1 p hp, fun p hp => by rw [uIn _ _ (fun e => by omega)]; exact g2.2.2.2 p hp⟩, fun j hj => ?_⟩
              unfold restW
              rw [itr_succ, Nat.zero_add, uI1]
              by_cases e : j = v
              · rw [if_pos ⟨rfl, e⟩, if_pos ⟨h, by rw [ev, e]⟩, g3 v hv, e]
                rfl
              · rw [if_neg (fun q => e q.2), if_neg (fun q => e (by rw [ev, neq _ _ (by omega) (by omega)] at q; exact q.2.symm))]
                exact g3 j hj
        · intro n' i s hi ⟨g1, g2, g3⟩ ih
          show wX9_asItIs_214 (n' + 1) _ _ _ _
          rw [wX9_asItIs_214]
          refine ⟨fun h => absurd h (by rw [l20, nle _ _ (by decide) (by omega)]; omega), fun _ => ⟨inN hi (by decide), ?_⟩⟩
          rw [nmM, cl (show i < 2 ^ 31 by omega), show nI i + 1 = nI (i + 1) from nI_1 i]
          refine ih _ ⟨⟨g1.1, fun b j h1 h2 h3 h4 => by rw [uIn _ _ (fun e => h4 e.1)]; exact g1.2.1 b j h1 h2 h3 h4, fun j h1 h2 => by rw [uIn _ _ (fun e => by omega)]; exact g1.2.2 j h1 h2⟩, ⟨by rw [uIn _ _ (fun e => by omega)]; exact g2.1, by rw [uIn _ _ (fun e => by omega)]; exact g2.2.1, fun p hp => by rw [uIn _ _ (fun e => by omega)]; exact g2.2.2.1 p hp, fun p hp => by rw [uIn _ _ (fun e => by omega)]; exact g2.2.2.2 p hp⟩, fun j hj => ?_⟩
          by_cases e : j = i
          · rw [e, uIs]
          · rw [uIn _ _ (fun q => e q.2)]; exact g3 j (by omega)
      · intro n' i s hi ⟨g1, g2, g3, g4, g5⟩ ih
        have e92 := base g1
        show wX9_asItIs_175 (n' + 1) _ _ _ _
        rw [wX9_asItIs_175, show (6 : Int32).toNatClampNeg = 6 from rfl, e92, w6, show (56 : Int32) + nI i = nI (56 + i) from by rw [show (56 : Int32) = nI 56 from rfl, nI_add], cl (show 56 + i < 2 ^ 31 by omega), e92, nmM, show nI i + 1 = nI (i + 1) from nI_1 i]
        refine ⟨fun h => absurd h (nI_ge hi (by omega)), fun _ => ⟨inN (by omega) (by decide), ?_⟩⟩
        refine ih _ ⟨⟨g1.1, fun b j h1 h2 h3 h4 => by rw [uIn _ _ (fun e => h1 e.1)]; exact g1.2.1 b j h1 h2 h3 h4, fun j h1 h2 => by rw [uIn _ _ (fun e => h2 e.2)]; exact g1.2.2 j h1 h2⟩, ?_, by rw [uIn _ _ (fun e => by omega)]; exact g3, fun p hp => by rw [uIn _ _ (fun e => by omega)]; exact g4 p hp, fun p hp => by rw [uIn _ _ (fun e => by omega)]; exact g5 p hp⟩
        rw [uIs, g2]
        unfold snowW
        rw [itr_succ, Nat.zero_add]
    · intro n' i s hi ⟨g1, g2, g3, g4, g5⟩ ih
      have e92 := base g1
      obtain ⟨p, hp8, hpe⟩ := hp i hi
      show wX9_asItIs_99 (n' + 1) _ _ _ _
      rw [wX9_asItIs_99, show (5 : Int32).toNatClampNeg = 5 from rfl, e92, w5]
      simp only [ixB, ixC, ixA, cl (show 26 + 3 * i < 2 ^ 31 by omega), cl (show 27 + 3 * i < 2 ^ 31 by omega), cl (show 28 + 3 * i < 2 ^ 31 by omega), nmM, uI1, e92, hpe, cl (show p < 2 ^ 31 by omega), show nI i + 1 = nI (i + 1) from nI_1 i]
      refine ⟨fun h => absurd h (nI_ge hi (by omega)), fun _ => ⟨inN (by omega) (by decide), inN (by omega) (by decide), inN hp8 (by decide), inN (by omega) (by decide), inN (by omega) (by decide), by simpa [e92, hpe] using inN hp8 (by decide), ?_⟩⟩
      simp only [show ¬ (92 = 98) by decide, false_and, if_false, e92, hpe, cl (show p < 2 ^ 31 by omega)]
      refine ih _ ⟨⟨g1.1, fun b j h1 h2 h3 h4 => by rw [uIn _ _ (fun e => h3 e.1), uIn _ _ (fun e => h2 e.1)]; exact g1.2.1 b j h1 h2 h3 h4, fun j h1 h2 => by rw [uIn _ _ (fun e => by omega), uIn _ _ (fun e => by omega)]; exact g1.2.2 j h1 h2⟩, by rw [uIn _ _ (fun e => by omega), uIn _ _ (fun e => by omega)]; exact g2, by rw [uIn _ _ (fun e => by omega), uIn _ _ (fun e => by omega)]; exact g3, fun q hq => ?_, fun q hq => ?_⟩
      · unfold sunW
        rw [itr_succ, Nat.zero_add, hpe, uIn _ _ (fun e => by omega), uI1]
        have c : (nI p = nI q) ↔ q = p := by rw [neq _ _ (by omega) (by omega)]; exact eq_comm
        by_cases e : q = p
        · rw [if_pos ⟨rfl, e⟩, if_pos (c.mpr e)]
        · rw [if_neg (fun z => e z.2), if_neg (fun z => e (c.mp z))]; exact g4 q hq
      · unfold smellW
        rw [itr_succ, Nat.zero_add, hpe, uI1]
        have c : (nI p = nI q) ↔ q = p := by rw [neq _ _ (by omega) (by omega)]; exact eq_comm
        by_cases e : q = p
        · rw [if_pos ⟨rfl, e⟩, if_pos (c.mpr e)]
        · rw [if_neg (fun z => e z.2), if_neg (fun z => e (c.mp z)), uIn _ _ (fun e => by omega)]; exact g5 q hq
  · intro n' i s hi ⟨g1, g2, g3, g4, g5⟩ ih
    have e92 := base g1
    show wX9_asItIs_47 (n' + 1) _ _ _ _
    rw [wX9_asItIs_47]
    simp only [ixL, cl (show 11 + 2 * i < 2 ^ 31 by omega), cl (show i < 2 ^ 31 by omega), nmM, e92, show nI i + 1 = nI (i + 1) from nI_1 i]
    refine ⟨fun h => absurd h (by rw [l8, nle _ _ (by decide) (by omega)]; omega), fun _ => ⟨inN (by omega) (by decide), inN hi (by decide), inN hi (by decide), ?_⟩⟩
    refine ih _ ⟨⟨g1.1, fun b j h1 h2 h3 h4 => by rw [uIn _ _ (fun e => h3 e.1), uIn _ _ (fun e => h2 e.1), uIn _ _ (fun e => h1 e.1)]; exact g1.2.1 b j h1 h2 h3 h4, fun j h1 h2 => by rw [uIn _ _ (fun e => by omega), uIn _ _ (fun e => by omega), uIn _ _ (fun e => h1 e.2)]; exact g1.2.2 j h1 h2⟩, by rw [uIn _ _ (fun e => by omega), uIn _ _ (fun e => by omega), uIn _ _ (fun e => by omega)]; exact g2, ?_, fun q hq => ?_, fun q hq => ?_⟩
    · rw [uIn _ _ (fun e => by omega), uIn _ _ (fun e => by omega), uIs, g3, itr_succ, Nat.zero_add]
    · rw [uIn _ _ (fun e => by omega), uI1]
      by_cases e : q = i
      · rw [if_pos ⟨rfl, e⟩]
      · rw [if_neg (fun z => e z.2), uIn _ _ (fun e => by omega)]; exact g4 q (by omega)
    · rw [uI1]
      by_cases e : q = i
      · rw [if_pos ⟨rfl, e⟩]
      · rw [if_neg (fun z => e z.2), uIn _ _ (fun e => by omega), uIn _ _ (fun e => by omega)]; exact g5 q (by omega)
