theorem itr_id {σ : Type} {f : Nat → σ → σ} : ∀ (k i : Nat) (s : σ), (∀ j s, i ≤ j → j < i + k → f j s = s) → itr f i k s = s
  | 0, _, _, _ => rfl
  | k + 1, i, s, h => by
    show itr f (i + 1) k (f i s) = s
    rw [h i s (Nat.le_refl i) (by omega)]
    exact itr_id k (i + 1) s (fun j s h1 h2 => h j s (by omega) (by omega))
theorem tw_yr {t v : Nat} (ht : qa_tw t) (hv : qa_yr v) : (∀ j k, j ≤ 11 → k ≤ 4 → t + j ≠ v + k) ∧ (∀ k, k ≤ 4 → v + k ≠ 31) ∧ (∀ j, j ≤ 11 → t + j ≠ 31) := by
  rcases ht with rfl | rfl | rfl | rfl | rfl <;> rcases hv with rfl | rfl <;> exact ⟨fun j k _ _ => by omega, fun k _ => by omega, fun j _ => by omega⟩
/-- the acts of a town, as x keeps them -/
def AX (μ : qa_M) (t H ac : Nat) (ex : Nat → Option (Nat × Nat × Nat)) : Prop := ac ≤ 30 ∧ μ.1 (t + 7) 0 = nI ac ∧
  (∀ i, i < ac → (∀ a b v, ex i = some (a, b, v) → a < H ∧ b < H ∧ v < 20 ∧ μ.1 (t + 8) i = nI a ∧ μ.1 (t + 9) i = nI b ∧ μ.1 (t + 10) i = nI v) ∧ (ex i = none → μ.1 (t + 9) i = -1)) ∧
  ∀ w, w ≤ 20 → bt (μ.1 (t + 7) 5) w = 0 → ∀ i, i < ac → ∀ a b v, ex i = some (a, b, v) → v ≠ w
theorem AX.mono {μ μ' : qa_M} {t H ac : Nat} {ex : Nat → Option (Nat × Nat × Nat)} (h : AX μ t H ac ex) (e : ∀ j k, 7 ≤ j → j ≤ 10 → μ'.1 (t + j) k = μ.1 (t + j) k) : AX μ' t H ac ex := by
  obtain ⟨h1, h2, h3, h4⟩ := h
  refine ⟨h1, by rw [e 7 _ (by omega) (by omega)]; exact h2, fun i hi => ⟨fun a b v he => ?_, fun he => by rw [e 9 _ (by omega) (by omega)]; exact (h3 i hi).2 he⟩, fun w hw hb => h4 w hw (by rw [← e 7 _ (by omega) (by omega)]; exact hb)⟩
  obtain ⟨q1, q2, q3, q4, q5, q6⟩ := (h3 i hi).1 a b v he
  exact ⟨q1, q2, q3, by rw [e 8 _ (by omega) (by omega)]; exact q4, by rw [e 9 _ (by omega) (by omega)]; exact q5, by rw [e 10 _ (by omega) (by omega)]; exact q6⟩
theorem x_exch {n v a b w : Nat} {μ : qa_M} {Q : qa_M → Prop} (ha : a < 8) (hb : b < 8) (hw : w ≤ 20) (h : Q (qa_uI (qa_uI μ (v + 1) (w * 8 + a) (μ.1 (v + 1) (w * 8 + b))) (v + 1) (w * 8 + b) (μ.1 (v + 1) (w * 8 + a)))) : wX7_exchange n v (nI a) (nI b) (nI w) μ Q := by
  unfold wX7_exchange
  rw [s_spot (by omega), s_spot (by omega)]
  simp only [ixX, cl (show w * 8 + a < 2 ^ 31 by omega), cl (show w * 8 + b < 2 ^ 31 by omega), nmM]
  exact ⟨inN (by omega) (by decide), inN (by omega) (by decide), h⟩
theorem x_exAll {n v t w H ac : Nat} {ex : Nat → Option (Nat × Nat × Nat)} {f : Nat → Nat} {μ : qa_M} {Q : qa_M → Prop} (ht : qa_tw t) (hv : qa_yr v) (hA : AX μ t H ac ex) (hH : H ≤ 8) (hw : w ≤ 20) (hn : 31 < n) (hR : ROW μ (v + 1) w H f)
    (k : ∀ μ', onlyR (v + 1) w μ μ' → ROW μ' (v + 1) w H (yEx ac ex w f) → Q μ') : wX7_exchangeAll n v t (nI w) μ Q := by
  obtain ⟨d1, -, -⟩ := tw_yr ht hv
  unfold wX7_exchangeAll
  rw [s_bitOf]
  show (¬ bt (μ.1 (t + 7) 5) w = 0 → _) ∧ (bt (μ.1 (t + 7) 5) w = 0 → _)
  refine ⟨fun _ => ?_, fun hb => ?_⟩
  · refine inv_loop (fun n i μ => wX7_exchangeAll_14 n v t (nI w) i μ Q) ac (fun i μ' => onlyR (v + 1) w μ μ' ∧ ROW μ' (v + 1) w H (itr (yEx1 ex w) 0 i f)) ?_ ?_ ac 0 μ n (by omega) (by have := hA.1; omega) ⟨onlyR.rf _ _ _, hR⟩
    · intro n s ⟨h1, h2⟩
      have hA' : AX s t H ac ex := hA.mono (fun j k h7 h10 => h1.2.1 _ _ (d1 j 1 (by omega) (by omega)))
      show wX7_exchangeAll_14 (n + 1) _ _ _ _ _ _
      rw [wX7_exchangeAll_14, hA'.2.1]
      exact ⟨fun _ => k s h1 h2, fun h => absurd (nI_le (Nat.le_refl ac) (by have := hA.1; omega)) h⟩
    · intro n i s hi ⟨h1, h2⟩ ih
      have hA' : AX s t H ac ex := hA.mono (fun j k h7 h10 => h1.2.1 _ _ (d1 j 1 (by omega) (by omega)))
      obtain ⟨c1, c2, c3, -⟩ := hA'
      show wX7_exchangeAll_14 (n + 1) _ _ _ _ _ _
      rw [wX7_exchangeAll_14, c2, cl (show i < 2 ^ 31 by omega)]
      refine ⟨fun h => absurd h (nI_ge hi (by omega)), fun _ => ⟨inN (by omega) (by decide), ?_⟩⟩
      have e1 : nI i + 1 = nI (i + 1) := nI_1 i
      rw [e1]
      cases hx : ex i with
      | none =>
        have c4 := (c3 i hi).2 hx
        have e2 : itr (yEx1 ex w) 0 (i + 1) f = itr (yEx1 ex w) 0 i f := by
          rw [itr_succ, Nat.zero_add]; unfold yEx1; rw [hx]
        have nx := ih s ⟨h1, by rw [e2]; exact h2⟩
        exact ⟨fun _ => nx, fun _ => ⟨inN (by omega) (by decide), fun _ => nx, fun h => absurd c4 h⟩⟩
      | some q =>
        obtain ⟨a, b, u⟩ := q
        obtain ⟨g1, g2, g3, g4, g5, g6⟩ := (c3 i hi).1 a b u hx
        rw [g4, g5, g6]
        refine ⟨fun h => ?_, fun h => ⟨inN (by omega) (by decide), fun h' => ?_, fun _ => ⟨inN (by omega) (by decide), inN (by omega) (by decide), ?_⟩⟩⟩
        · have hne : u ≠ w := fun e => h (by rw [e])
          refine ih s ⟨h1, ?_⟩
          rw [itr_succ, Nat.zero_add]
          unfold yEx1
          rw [hx]
          dsimp only
          rw [if_neg hne]
          exact h2
        · exact absurd h' (by
            rw [fa_eq, nI_toInt (by omega), show (-1 : Int32).toInt = -1 from rfl]
            omega)
        · have he : u = w := by rw [neq _ _ (by omega) (by omega)] at h; exact h
          refine x_exch (by omega) (by omega) hw (ih _ ⟨h1.tr ((onlyR.put (v + 1) w a (by omega) s _).tr (onlyR.put (v + 1) w b (by omega) _ _)), ?_⟩)
          rw [itr_succ, Nat.zero_add]
          have e3 : yEx1 ex w i (itr (yEx1 ex w) 0 i f) = swp a b (itr (yEx1 ex w) 0 i f) := by
            unfold yEx1
            rw [hx]
            dsimp only
            rw [if_pos he]
          rw [e3]
          exact ROW_swp h2 g1 g2
  · have e : yEx ac ex w f = f := itr_id ac 0 f (fun j s _ hj => by
      unfold yEx1
      cases hx : ex j with
      | none => rfl
      | some q =>
        obtain ⟨a, b, u⟩ := q
        dsimp only
        rw [if_neg (hA.2.2.2 w hw hb j (by omega) a b u hx)])
    exact k μ (onlyR.rf _ _ _) (by rw [e]; exact hR)
