/-- what a town and a plan say of pushing, as x keeps them -/
def PX (μ : qa_M) (t H : Nat) (pu sm : Nat → Int32) (lean snow : Int32) (st : Nat → Int32) : Prop := H ≤ 8 ∧ μ.1 t 5 = nI H ∧ (∀ h, h < H → μ.1 (t + 1) h = pu h) ∧ (∀ p, p < H → μ.1 (t + 3) p = sm p) ∧ μ.1 31 2 = lean ∧ μ.1 31 3 = snow ∧ ∀ w, w < 20 → μ.1 31 4 ||| μ.1 (t + 11) w = st w
theorem PX.mono {μ μ' : qa_M} {t H : Nat} {pu sm : Nat → Int32} {lean snow : Int32} {st : Nat → Int32} (h : PX μ t H pu sm lean snow st) (e : ∀ j k, j ≤ 11 → μ'.1 (t + j) k = μ.1 (t + j) k) (e2 : ∀ k, μ'.1 31 k = μ.1 31 k) : PX μ' t H pu sm lean snow st := by
  obtain ⟨h1, h2, h3, h4, h5, h6, h7⟩ := h
  exact ⟨h1, by rw [show t = t + 0 from rfl, e 0 _ (by omega)]; exact h2, fun h hh => by rw [e 1 _ (by omega)]; exact h3 h hh, fun p hp => by rw [e 3 _ (by omega)]; exact h4 p hp, by rw [e2]; exact h5, by rw [e2]; exact h6, fun w hw => by rw [e2, e 11 _ (by omega)]; exact h7 w hw⟩
theorem x_push125 {n v t w h : Nat} {x1 sn F p lean : Int32} {μ : qa_M} {K : Nat → Nat → Int32 → Int32 → Int32 → Int32 → Int32 → qa_M → Prop} {Q : qa_M → Prop} (hw : w < 20) (hh : h < 8) (hv : qa_yr v) (hl : μ.1 31 2 = lean)
    (k : K v t (nI w) x1 sn (F + (if bt lean h = 1 then -p else p)) (nI (h + 1)) (qa_uI μ (v + 2) (w * 8 + h) p)) : wX7_pushAll_125 n v t (nI w) x1 sn F (nI h) p μ K Q := by
  unfold wX7_pushAll_125
  simp only [ixX, cl (show w * 8 + h < 2 ^ 31 by omega), nmM, s_signed, show nI h + 1 = nI (h + 1) from nI_1 h]
  refine ⟨inN (by omega) (by decide), ?_⟩
  have e : (qa_uI μ (v + 2) (w * 8 + h) p).1 31 2 = lean := by rw [uIn _ _ (fun e => by rcases hv with rfl | rfl <;> omega)]; exact hl
  rw [e]
  exact k
theorem x_push {n v t w H : Nat} {pu sm : Nat → Int32} {lean snow : Int32} {st : Nat → Int32} {f : Nat → Nat} {μ : qa_M} {Q : qa_M → Prop} (ht : qa_tw t) (hv : qa_yr v) (hX : PX μ t H pu sm lean snow st) (hw : w < 20) (hn : 9 < n) (hR : ROW μ (v + 1) w H f) (hf : ∀ h, h < H → f h < H)
    (k : ∀ μ', μ'.2 = μ.2 → (∀ b j, b ≠ v + 2 → b ≠ v + 3 → μ'.1 b j = μ.1 b j) → (∀ j, (j < w * 8 ∨ w * 8 + 8 ≤ j) → μ'.1 (v + 2) j = μ.1 (v + 2) j) → (∀ j, j ≠ w → μ'.1 (v + 3) j = μ.1 (v + 3) j) → (∀ h, h < H → μ'.1 (v + 2) (w * 8 + h) = yPush H pu sm snow st f w h) → μ'.1 (v + 3) w = yForce H pu sm lean snow st f w → Q μ') : wX7_pushAll n v t (nI w) μ Q := by
  obtain ⟨d1, d2, d3⟩ := tw_yr ht hv
  have hX0 := hX
  obtain ⟨h8, hXH, hXp, hXs, hXl, hXn, hXt⟩ := hX0
  unfold wX7_pushAll
  refine ⟨inN (by omega) (by decide), ?_⟩
  rw [cl (show w < 2 ^ 31 by omega), nmM, hXt w hw, hXn, s_bitOf]
  show (¬ bt snow w = 1 → _) ∧ (bt snow w = 1 → _)
  have main : ∀ sn : Int32, sn = qb (bt snow w = 1) → wX7_pushAll_33 n v t (nI w) (st w) sn μ Q := by
    intro sn hsn
    unfold wX7_pushAll_33
    refine inv_loop (fun n i s => wX7_pushAll_41 n v t (nI w) (st w) sn s.1 i s.2 Q) H (fun i (s : Int32 × qa_M) => s.1 = itr (fun h s => s + ySg H pu sm lean snow st f w h) 0 i 0 ∧ onlyR (v + 2) w μ s.2 ∧ ∀ h, h < i → s.2.1 (v + 2) (w * 8 + h) = yPush H pu sm snow st f w h) ?_ ?_ H 0 (0, μ) n (by omega) (by omega) ⟨rfl, onlyR.rf _ _ _, fun h hh => absurd hh (Nat.not_lt_zero h)⟩
    · intro n s ⟨e1, e2, e3⟩
      show wX7_pushAll_41 (n + 1) _ _ _ _ _ _ _ _ _
      rw [wX7_pushAll_41, show s.2.1 t 5 = nI H by rw [e2.2.1 t 5 (fun e => d1 0 2 (by omega) (by omega) (by omega))]; exact hXH]
      refine ⟨fun _ => ⟨inN (by omega) (by decide), ?_⟩, fun h => absurd (nI_le (Nat.le_refl H) (by omega)) h⟩
      rw [nmM, cl (show w < 2 ^ 31 by omega)]
      refine k _ e2.1 (fun b j b1 b2 => ?_) (fun j hj => ?_) (fun j hj => ?_) (fun h hh => ?_) ?_
      · rw [uIn _ _ (fun e => b2 e.1)]; exact e2.2.1 b j b1
      · rw [uIn _ _ (fun e => by omega)]; exact e2.2.2 j hj
      · rw [uIn _ _ (fun e => hj e.2)]; exact e2.2.1 _ j (by omega)
      · rw [uIn _ _ (fun e => by omega)]; exact e3 h hh
      · rw [uIs, e1]; rfl
    · intro n i s hi ⟨e1, e2, e3⟩ ih
      obtain ⟨F, μ1⟩ := s
      dsimp only at e1 e2 e3 ih
      have X1 : PX μ1 t H pu sm lean snow st := hX.mono (fun j k hj => e2.2.1 _ _ (fun e => d1 j 2 hj (by omega) e)) (fun k => e2.2.1 _ _ (fun e => d2 2 (by omega) e.symm))
      obtain ⟨-, g1, g2, g3, g4, g5, g6⟩ := X1
      show wX7_pushAll_41 (n + 1) _ _ _ _ _ _ _ _ _
      rw [wX7_pushAll_41, g1]
      refine ⟨fun h => absurd h (nI_ge hi (by omega)), fun _ => ?_⟩
      rw [s_spot (by omega), s_bitOf]
      have er : μ1.1 (v + 1) (w * 8 + i) = nI (f i) := by rw [e2.2.1 _ _ (by omega)]; exact hR i hi
      have hfi := hf i hi
      rw [er, g1]
      -- the two ends
      have fin : ∀ p : Int32, p = yPush H pu sm snow st f w i → wX7_pushAll_125 n v t (nI w) (st w) sn F (nI i) p μ1 (fun v0 v1 v3 v4 v5 v6 v7 μk => wX7_pushAll_41 n v0 v1 v3 v4 v5 v6 v7 μk Q) Q := by
        intro p hp
        refine x_push125 hw (by omega) hv g4 ?_
        refine ih (F + (if bt lean i = 1 then -p else p), qa_uI μ1 (v + 2) (w * 8 + i) p) ⟨?_, e2.tr (onlyR.put _ _ _ (by omega) _ _), fun h hh => ?_⟩
        · rw [itr_succ, Nat.zero_add, ← e1]
          unfold ySg
          rw [hp]
        · dsimp only
          by_cases e : h = i
          · rw [e, uIs]; exact hp
          · rw [uIn _ _ (fun q => e (by omega))]; exact e3 h (by omega)
      have f0 : (bt (st w) i = 1 ∨ (bt snow w = 1 ∧ ¬ f i = 0 ∧ ¬ f i = H - 1)) → wX7_pushAll_94 n v t (nI w) (st w) sn F (nI i) (nI (f i)) μ1 (fun v0 v1 v3 v4 v5 v6 v7 μk => wX7_pushAll_41 n v0 v1 v3 v4 v5 v6 v7 μk Q) Q := by
        intro hc
        unfold wX7_pushAll_94 wX7_pushAll_95
        refine ⟨fun _ => fin 0 ?_, fun h => absurd rfl h⟩
        unfold yPush
        rw [if_pos hc]
      have f1 : ¬ (bt (st w) i = 1 ∨ (bt snow w = 1 ∧ ¬ f i = 0 ∧ ¬ f i = H - 1)) → wX7_pushAll_90 n v t (nI w) (st w) sn F (nI i) (nI (f i)) μ1 (fun v0 v1 v3 v4 v5 v6 v7 μk => wX7_pushAll_41 n v0 v1 v3 v4 v5 v6 v7 μk Q) Q := by
        intro hc
        unfold wX7_pushAll_90 wX7_pushAll_95
        refine ⟨fun h => absurd h (by decide), fun _ => ⟨inN (by omega) (by decide), inN (by omega) (by decide), ?_⟩⟩
        rw [s_max, cl (show i < 2 ^ 31 by omega), cl (show f i < 2 ^ 31 by omega), g2 i hi, g3 (f i) hfi]
        refine fin _ ?_
        unfold yPush
        rw [if_neg hc]
      have z1 : (nI (f i) = 0) = (f i = 0) := by rw [l0]; exact neq _ _ (by omega) (by decide)
      have z2 : (nI (f i) = nI H - 1) = (f i = H - 1) := by rw [l1, pk_sub (by omega)]; exact neq _ _ (by omega) (by omega)
      show (¬ bt (st w) i = 0 → _) ∧ (bt (st w) i = 0 → _)
      rw [z1, z2]
      refine ⟨fun h => f0 (Or.inl (bt_n0.mp h)), fun h => ⟨fun h2 => f1 ?_, fun h2 => ⟨fun h3 => f1 ?_, fun h3 => ⟨fun h4 => f0 ?_, fun h4 => f1 ?_⟩⟩⟩⟩
      · rw [hsn, qb_0] at h2
        exact fun q => q.elim (fun q => by rw [h] at q; exact absurd q (by decide)) (fun q => h2 q.1)
      · exact fun q => q.elim (fun q => by rw [h] at q; exact absurd q (by decide)) (fun q => q.2.1 h3)
      · rw [hsn, qb_0, Classical.not_not] at h2
        exact Or.inr ⟨h2, h3, h4⟩
      · exact fun q => q.elim (fun q => by rw [h] at q; exact absurd q (by decide)) (fun q => q.2.2 h4)
  refine ⟨fun h => main 0 ?_, fun h => main 1 ?_⟩
  · unfold qb; rw [if_neg h]
  · unfold qb; rw [if_pos h]
