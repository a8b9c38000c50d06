theorem for_iff {σ : Type} (m : Nat) (lp : Nat → Int32 → σ → Prop) (K : σ → Prop) (B : Nat) (f : Nat → σ → σ) (I : Nat → σ → Prop)
    (h0 : ∀ n s, m ≤ n → I B s → (lp (n + 1) (nI B) s ↔ K s))
    (h1 : ∀ n i s, m ≤ n → i < B → I i s → (lp (n + 1) (nI i) s ↔ lp n (nI (i + 1)) (f i s)))
    (hI : ∀ i s, i < B → I i s → I (i + 1) (f i s)) : ∀ (k i : Nat) (s : σ) (n : Nat), i + k = B → k + m < n → I i s → (lp n (nI i) s ↔ K (itr f i k s))
  | 0, i, s, n, e, hn, hi => by
    obtain ⟨n, rfl⟩ : ∃ m, n = m + 1 := ⟨n - 1, by omega⟩
    obtain rfl : i = B := by omega
    exact h0 n s (by omega) hi
  | k + 1, i, s, n, e, hn, hi => by
    obtain ⟨n, rfl⟩ : ∃ m, n = m + 1 := ⟨n - 1, by omega⟩
    rw [h1 n i s (by omega) (by omega) hi]
    exact for_iff m lp K B f I h0 h1 hI k (i + 1) (f i s) n (by omega) (by omega) (hI i s (by omega) hi)
/-- first, from i on, k of them -/
def fnd (p : Nat → Bool) : Nat → Nat → Int32
  | _, 0 => -1
  | i, k + 1 => if p i = true then nI i else fnd p (i + 1) k
theorem fnd_iff (m : Nat) (lp : Nat → Int32 → Prop) (K : Int32 → Prop) (B : Nat) (p : Nat → Bool)
    (h0 : ∀ n, m ≤ n → (lp (n + 1) (nI B) ↔ K (-1)))
    (h1 : ∀ n i, m ≤ n → i < B → (lp (n + 1) (nI i) ↔ if p i = true then K (nI i) else lp n (nI (i + 1)))) : ∀ (k i : Nat) (n : Nat), i + k = B → k + m < n → (lp n (nI i) ↔ K (fnd p i k))
  | 0, i, n, e, hn => by
    obtain ⟨n, rfl⟩ : ∃ m, n = m + 1 := ⟨n - 1, by omega⟩
    obtain rfl : i = B := by omega
    exact h0 n (by omega)
  | k + 1, i, n, e, hn => by
    obtain ⟨n, rfl⟩ : ∃ m, n = m + 1 := ⟨n - 1, by omega⟩
    rw [h1 n i (by omega) (by omega)]
    unfold fnd
    by_cases c : p i = true
    · rw [if_pos c, if_pos c]
    · rw [if_neg c, if_neg c]
      exact fnd_iff m lp K B p h0 h1 k (i + 1) n (by omega) (by omega)
def oI : Option Nat → Int32
  | none => -1
  | some b => nI b
theorem gN {a : Int32} {H : Nat} (h : 0 ≤ a.toInt ∧ a.toInt < (H : Int)) (hH : H < 2 ^ 31) : ∃ k, k < H ∧ a = nI k := by
  refine toN (by rw [fa_lt, show (0 : Int32).toInt = 0 from rfl]; omega) ?_ hH
  rw [fa_le, nI_toInt hH]
  omega
theorem gN' {a : Int32} {H : Nat} (h : 0 ≤ a.toInt ∧ a.toInt ≤ (H : Int)) (hH : H < 2 ^ 31) : ∃ k, k ≤ H ∧ a = nI k := by
  refine toN' (by rw [fa_lt, show (0 : Int32).toInt = 0 from rfl]; omega) ?_ hH
  rw [fa_lt, nI_toInt hH]
  omega
theorem nI1 (i : Nat) : nI i + 1 = nI (i + 1) := nI_1 i
theorem neg1_ne {k : Nat} (h : k < 2 ^ 31) : (nI k = -1) = False := by
  apply propext
  rw [fa_eq, nI_toInt h, show (-1 : Int32).toInt = -1 from rfl]
  exact ⟨fun e => by omega, fun e => e.elim⟩
theorem or_if {x y : Int32} {c : Prop} [Decidable c] : x ||| (if c then y else 0) = if c then x ||| y else x := by
  by_cases h : c
  · rw [if_pos h, if_pos h]
  · rw [if_neg h, if_neg h, or0]
/-- what x and m keep of a year, in abstract -/
def XE (μ : qa_M) (t a1 a2 a3 a4 H W : Nat) (pl : Nat → Nat → Nat) (pp : Nat → Nat → Int32) (fo tu su sm : Nat → Int32) : Prop :=
  W ≤ 20 ∧ H ≤ 8 ∧ μ.1 t 1 = nI W ∧ μ.1 t 5 = nI H ∧ (∀ v h, h < H → pl v h < H) ∧ (∀ v, v ≤ W → ∀ h, h < H → μ.1 a1 (v * 8 + h) = nI (pl v h)) ∧ (∀ v, v < W → ∀ h, h < H → μ.1 a2 (v * 8 + h) = pp v h) ∧ (∀ v, v < W → μ.1 a3 v = fo v) ∧ (∀ v, v < W → μ.1 a4 v = tu v) ∧ (∀ p, p < 8 → μ.1 (t + 2) p = su p) ∧ ∀ p, p < 8 → μ.1 (t + 3) p = sm p
def ME (μ : qa_M) (H W : Nat) (pl : Nat → Nat → Nat) (pp : Nat → Nat → Int32) (fo tu su sm : Nat → Int32) : Prop :=
  W ≤ 20 ∧ H ≤ 8 ∧ μ.1 92 0 = nI W ∧ μ.1 92 4 = nI H ∧ (∀ v h, h < H → pl v h < H) ∧ (∀ v, v ≤ W → ∀ h, h < H → μ.1 101 (v * 8 + h) = nI (pl v h)) ∧ (∀ v, v < W → ∀ h, h < H → μ.1 102 (v * 8 + h) = pp v h) ∧ (∀ v, v < W → μ.1 103 v = fo v) ∧ (∀ v, v < W → μ.1 104 v = tu v) ∧ (∀ p, p < 8 → μ.1 98 p = su p) ∧ ∀ p, p < 8 → μ.1 99 p = sm p
def aSun (pl : Nat → Nat → Nat) (su : Nat → Int32) (h k : Nat) : Int32 := itr (fun j s => s + su (pl j h)) 0 (k + 1) 0
