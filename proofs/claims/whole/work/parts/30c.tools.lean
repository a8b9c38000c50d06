theorem uI1 (μ : qa_M) (a k : Nat) (v : Int32) (b j : Nat) : (qa_uI μ a k v).1 b j = if b = a ∧ j = k then v else μ.1 b j := rfl
theorem uI2 (μ : qa_M) (a k : Nat) (v : Int32) : (qa_uI μ a k v).2 = μ.2 := rfl
theorem uJ1 (μ : qa_M) (a k : Nat) (v : Int64) : (qa_uJ μ a k v).1 = μ.1 := rfl
theorem uJ21 (μ : qa_M) (a k : Nat) (v : Int64) (b j : Nat) : (qa_uJ μ a k v).2.1 b j = if b = a ∧ j = k then v else μ.2.1 b j := rfl
theorem uJ22 (μ : qa_M) (a k : Nat) (v : Int64) : (qa_uJ μ a k v).2.2 = μ.2.2 := rfl
theorem uP1 (μ : qa_M) (a k v : Nat) : (qa_uP μ a k v).1 = μ.1 := rfl
theorem uP21 (μ : qa_M) (a k v : Nat) : (qa_uP μ a k v).2.1 = μ.2.1 := rfl
theorem uP22 (μ : qa_M) (a k v : Nat) (b j : Nat) : (qa_uP μ a k v).2.2 b j = if b = a ∧ j = k then v else μ.2.2 b j := rfl
theorem uIs (μ : qa_M) (a k : Nat) (v : Int32) : (qa_uI μ a k v).1 a k = v := if_pos ⟨rfl, rfl⟩
theorem uIn (μ : qa_M) {a k : Nat} (v : Int32) {b j : Nat} (h : ¬ (b = a ∧ j = k)) : (qa_uI μ a k v).1 b j = μ.1 b j := if_neg h
/-- a loop that counts up -/
def itr {σ : Type} (f : Nat → σ → σ) : Nat → Nat → σ → σ
  | _, 0, s => s
  | i, k + 1, s => itr f (i + 1) k (f i s)
theorem itr_succ {σ : Type} (f : Nat → σ → σ) : ∀ (k i : Nat) (s : σ), itr f i (k + 1) s = f (i + k) (itr f i k s)
  | 0, i, s => rfl
  | k + 1, i, s => by
    show itr f (i + 1) (k + 1) (f i s) = f (i + (k + 1)) (itr f (i + 1) k (f i s))
    rw [itr_succ f k (i + 1) (f i s), show i + 1 + k = i + (k + 1) by omega]
theorem itr_congr {σ : Type} {f g : Nat → σ → σ} : ∀ (k i : Nat) (s : σ), (∀ j s, i ≤ j → j < i + k → f j s = g j s) → itr f i k s = itr g i k s
  | 0, _, _, _ => rfl
  | k + 1, i, s, h => by
    show itr f (i + 1) k (f i s) = itr g (i + 1) k (g i s)
    rw [h i s (Nat.le_refl i) (by omega)]
    exact itr_congr k (i + 1) (g i s) (fun j s h1 h2 => h j s (by omega) (by omega))
theorem itr_inv {σ : Type} {f : Nat → σ → σ} (I : Nat → σ → Prop) : ∀ (k i : Nat) (s : σ), I i s → (∀ j s, i ≤ j → j < i + k → I j s → I (j + 1) (f j s)) → I (i + k) (itr f i k s)
  | 0, _, _, h, _ => h
  | k + 1, i, s, h, hs => by
    have := itr_inv I k (i + 1) (f i s) (hs i s (Nat.le_refl i) (by omega) h) (fun j s h1 h2 => hs j s (by omega) (by omega))
    rw [show i + (k + 1) = i + 1 + k by omega]
    exact this
theorem for_loop {σ : Type} (lp : Nat → Int32 → σ → Prop) (K : σ → Prop) (B : Nat) (f : Nat → σ → σ) (I : Nat → σ → Prop)
    (h0 : ∀ n s, I B s → K s → lp (n + 1) (nI B) s)
    (h1 : ∀ n i s, i < B → I i s → lp n (nI (i + 1)) (f i s) → lp (n + 1) (nI i) s)
    (hI : ∀ i s, i < B → I i s → I (i + 1) (f i s)) : ∀ (k i : Nat) (s : σ) (n : Nat), i + k = B → k < n → I i s → K (itr f i k s) → lp n (nI i) s
  | 0, i, s, n, e, hn, hi, hk => by
    obtain ⟨n, rfl⟩ : ∃ m, n = m + 1 := ⟨n - 1, by omega⟩
    obtain rfl : i = B := by omega
    exact h0 n s hi hk
  | k + 1, i, s, n, e, hn, hi, hk => by
    obtain ⟨n, rfl⟩ : ∃ m, n = m + 1 := ⟨n - 1, by omega⟩
    exact h1 n i s (by omega) hi (for_loop lp K B f I h0 h1 hI k (i + 1) (f i s) n (by omega) (by omega) (hI i s (by omega) hi) hk)
/-- a loop by invariant alone -/
theorem inv_loop {σ : Type} (lp : Nat → Int32 → σ → Prop) (B : Nat) (I : Nat → σ → Prop)
    (h0 : ∀ n s, I B s → lp (n + 1) (nI B) s)
    (h1 : ∀ n i s, i < B → I i s → (∀ s', I (i + 1) s' → lp n (nI (i + 1)) s') → lp (n + 1) (nI i) s) : ∀ (k i : Nat) (s : σ) (n : Nat), i + k = B → k < n → I i s → lp n (nI i) s
  | 0, i, s, n, e, hn, hi => by
    obtain ⟨n, rfl⟩ : ∃ m, n = m + 1 := ⟨n - 1, by omega⟩
    obtain rfl : i = B := by omega
    exact h0 n s hi
  | k + 1, i, s, n, e, hn, hi => by
    obtain ⟨n, rfl⟩ : ∃ m, n = m + 1 := ⟨n - 1, by omega⟩
    exact h1 n i s (by omega) hi (fun s' hs' => inv_loop lp B I h0 h1 k (i + 1) s' n (by omega) (by omega) hs')
def qb (c : Prop) [Decidable c] : Int32 := if c then 1 else 0
theorem qb_0 {c : Prop} [Decidable c] : qb c = 0 ↔ ¬ c := by unfold qb; split <;> simp [*]
theorem qb_1 {c : Prop} [Decidable c] : qb c = 1 ↔ c := by unfold qb; split <;> simp [*]
theorem qb_iff {c d : Prop} [Decidable c] [Decidable d] (h : c ↔ d) : qb c = qb d := by unfold qb; by_cases hc : c <;> simp [hc, ← h]
/-- a branch whose ends are one function's -/
theorem br_qb {c : Prop} [Decidable c] {F : Int32 → Prop} : ((c → F 1) ∧ (¬ c → F 0)) ↔ F (qb c) := by unfold qb; by_cases h : c <;> simp [h]
theorem nmM {α : Type} {a : α} {F : α → Prop} : (∀ x, x = a → F x) ↔ F a := ⟨fun h => h a rfl, fun h x e => e ▸ h⟩
theorem ndl (v : Int32) : (v.toInt : Int) < 2 ^ 31 ∧ -(2 ^ 31) ≤ (v.toInt : Int) := ⟨Int32.toInt_lt v, Int32.le_toInt v⟩
theorem nle (a b : Nat) (ha : a < 2 ^ 31) (hb : b < 2 ^ 31) : (nI a ≤ nI b) = (a ≤ b) := propext (nI_leI ha hb)
theorem nlt (a b : Nat) (ha : a < 2 ^ 31) (hb : b < 2 ^ 31) : (nI a < nI b) = (a < b) := propext (nI_ltI ha hb)
theorem neq (a b : Nat) (ha : a < 2 ^ 31) (hb : b < 2 ^ 31) : (nI a = nI b) = (a = b) := propext (nI_eq ha hb)
theorem l0 : (0 : Int32) = nI 0 := rfl
theorem l1 : (1 : Int32) = nI 1 := rfl
theorem l2 : (2 : Int32) = nI 2 := rfl
theorem l3 : (3 : Int32) = nI 3 := rfl
theorem l4 : (4 : Int32) = nI 4 := rfl
theorem l5 : (5 : Int32) = nI 5 := rfl
theorem l6 : (6 : Int32) = nI 6 := rfl
theorem l7 : (7 : Int32) = nI 7 := rfl
theorem l8 : (8 : Int32) = nI 8 := rfl
theorem l9 : (9 : Int32) = nI 9 := rfl
theorem l10 : (10 : Int32) = nI 10 := rfl
theorem l20 : (20 : Int32) = nI 20 := rfl
theorem cl {n : Nat} (h : n < 2 ^ 31) : (nI n).toNatClampNeg = n := nI_clamp h
/-- an int that isn't below 0 and is below a bound is a number -/
theorem toN {v : Int32} {H : Nat} (h0 : ¬ v < 0) (h1 : ¬ nI H ≤ v) (hH : H < 2 ^ 31) : ∃ k : Nat, k < H ∧ v = nI k := by
  obtain ⟨k, hk, rfl⟩ := nI_of h0
  refine ⟨k, ?_, rfl⟩
  rw [nle _ _ hH hk] at h1
  omega
theorem toN' {v : Int32} {H : Nat} (h0 : ¬ v < 0) (h1 : ¬ nI H < v) (hH : H < 2 ^ 31) : ∃ k : Nat, k ≤ H ∧ v = nI k := by
  obtain ⟨k, hk, rfl⟩ := nI_of h0
  refine ⟨k, ?_, rfl⟩
  rw [nlt _ _ hH hk] at h1
  omega
