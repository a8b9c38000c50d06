theorem law_pure (Ln : Nat) (xs : Nat → Int32) (hL : Ln ≤ 3072) : ∃ n, wL Ln xs n 0 qa_mi := sorry
