/-- a loop by invariant, with fuel m kept for what its body calls -/
theorem inv_loopF {σ : Type} (m : Nat) (lp : Nat → Int32 → σ → Prop) (B : Nat) (I : Nat → σ → Prop)
    (h0 : ∀ n s, m ≤ n → I B s → lp (n + 1) (nI B) s)
    (h1 : ∀ n i s, m ≤ n → i < B → I i s → (∀ s', I (i + 1) s' → lp n (nI (i + 1)) s') → lp (n + 1) (nI i) s) : ∀ (k i : Nat) (s : σ) (n : Nat), i + k = B → k + m < n → I i s → lp n (nI i) s
  | 0, i, s, n, e, hn, hi => by
    obtain ⟨n, rfl⟩ : ∃ m, n = m + 1 := ⟨n - 1, by omega⟩
    obtain rfl : i = B := by omega
    exact h0 n s (by omega) hi
  | k + 1, i, s, n, e, hn, hi => by
    obtain ⟨n, rfl⟩ : ∃ m, n = m + 1 := ⟨n - 1, by omega⟩
    exact h1 n i s (by omega) (by omega) hi (fun s' hs' => inv_loopF m lp B I h0 h1 k (i + 1) s' n (by omega) (by omega) hs')
section YP
variable (H : Nat) (pu sm : Nat → Int32) (la he lean snow : Int32) (st : Nat → Int32) (ac : Nat) (ex : Nat → Option (Nat × Nat × Nat)) (f0 : Nat → Nat)
def yPre : Nat → (Nat → Nat)
  | 0 => f0
  | w + 1 => yNext H (yPL H pu sm la he lean snow st ac ex f0 w) (yTurn H la he w (yForce H pu sm lean snow st (yPL H pu sm la he lean snow st ac ex f0 w) w))
theorem yPL_eq (w : Nat) : yPL H pu sm la he lean snow st ac ex f0 w = yEx ac ex w (yPre H pu sm la he lean snow st ac ex f0 w) := by
  cases w <;> rfl
end YP
/-- the swaps are of houses that there are -/
def EXok (H ac : Nat) (ex : Nat → Option (Nat × Nat × Nat)) : Prop := ∀ i, i < ac → ∀ a b v, ex i = some (a, b, v) → a < H ∧ b < H ∧ a ≠ b
theorem swp_lt {H a b : Nat} {f : Nat → Nat} (hf : ∀ h, h < H → f h < H) (ha : a < H) (hb : b < H) : ∀ h, h < H → swp a b f h < H := by
  intro h hh
  unfold swp
  split
  · exact hf a ha
  · split
    · exact hf b hb
    · exact hf h hh
theorem yEx_lt {H ac w : Nat} {ex : Nat → Option (Nat × Nat × Nat)} (hx : EXok H ac ex) {f : Nat → Nat} (hf : ∀ h, h < H → f h < H) : ∀ h, h < H → yEx ac ex w f h < H := by
  have := itr_inv (f := yEx1 ex w) (fun i (g : Nat → Nat) => ∀ h, h < H → g h < H) ac 0 f hf (fun j g _ hj hg => by
    unfold yEx1
    cases he : ex j with
    | none => exact hg
    | some q =>
      obtain ⟨a, b, u⟩ := q
      obtain ⟨h1, h2, -⟩ := hx j (by omega) a b u he
      dsimp only
      split
      · exact swp_lt hg h1 h2
      · exact hg)
  exact this
theorem yPre_lt {H : Nat} {pu sm : Nat → Int32} {la he lean snow : Int32} {st : Nat → Int32} {ac : Nat} {ex : Nat → Option (Nat × Nat × Nat)} {f0 : Nat → Nat} (hH : H < 2 ^ 31) (hf : ∀ h, h < H → f0 h < H) : ∀ w h, h < H → yPre H pu sm la he lean snow st ac ex f0 w h < H
  | 0, h, hh => hf h hh
  | w + 1, h, hh => (ov_nat (by omega) hH).1
theorem yPL_lt {H : Nat} {pu sm : Nat → Int32} {la he lean snow : Int32} {st : Nat → Int32} {ac : Nat} {ex : Nat → Option (Nat × Nat × Nat)} {f0 : Nat → Nat} (hH : H < 2 ^ 31) (hx : EXok H ac ex) (hf : ∀ h, h < H → f0 h < H) (w h : Nat) (hh : h < H) : yPL H pu sm la he lean snow st ac ex f0 w h < H := by
  rw [yPL_eq]
  exact yEx_lt hx (yPre_lt hH hf w) h hh
/-- a year in four rows from a on -/
def YA (μ : qa_M) (a1 a2 a3 a4 U H : Nat) (pl : Nat → Nat → Nat) (pp : Nat → Nat → Int32) (fo tu : Nat → Int32) : Prop := (∀ w, w ≤ U → ∀ h, h < H → μ.1 a1 (w * 8 + h) = nI (pl w h)) ∧ (∀ w, w < U → ∀ h, h < H → μ.1 a2 (w * 8 + h) = pp w h) ∧ (∀ w, w < U → μ.1 a3 w = fo w) ∧ ∀ w, w < U → μ.1 a4 w = tu w
theorem x_carry {n v w H : Nat} {f : Nat → Nat} {μ : qa_M} {Q : qa_M → Prop} (hH : H ≤ 8) (hw : w < 20) (hn : 9 < n) (hR : ROW μ (v + 1) w H f)
    (k : ∀ μ', onlyR (v + 1) (w + 1) μ μ' → ROW μ' (v + 1) (w + 1) H (yNext H f (μ.1 (v + 4) w)) → Q μ') : wX7_carryAll n v (nI H) (nI w) μ Q := by
  unfold wX7_carryAll
  refine inv_loop (fun n i μ => wX7_carryAll_2 n v (nI H) (nI w) i μ Q) H (fun i μ' => onlyR (v + 1) (w + 1) μ μ' ∧ ∀ h, h < i → μ'.1 (v + 1) ((w + 1) * 8 + h) = nI (yNext H f (μ.1 (v + 4) w) h)) ?_ ?_ H 0 μ n (by omega) (by omega) ⟨onlyR.rf _ _ _, fun h hh => absurd hh (Nat.not_lt_zero h)⟩
  · intro n s ⟨h1, h2⟩
    show wX7_carryAll_2 (n + 1) _ _ _ _ _ _
    rw [wX7_carryAll_2]
    exact ⟨fun _ => k s h1 h2, fun h => absurd (nI_le (Nat.le_refl H) (by omega)) h⟩
  · intro n i s hi ⟨h1, h2⟩ ih
    show wX7_carryAll_2 (n + 1) _ _ _ _ _ _
    rw [wX7_carryAll_2]
    refine ⟨fun h => absurd h (nI_ge hi (by omega)), fun _ => ?_⟩
    rw [s_spot (by omega), cl (show w < 2 ^ 31 by omega)]
    refine ⟨inN (by omega) (by decide), ?_⟩
    rw [s_round (by omega), if_neg (by omega), show nI w + 1 = nI (w + 1) from nI_1 w, ixX, cl (show (w + 1) * 8 + i < 2 ^ 31 by omega), nmM, show nI i + 1 = nI (i + 1) from nI_1 i]
    refine ⟨inN (by omega) (by decide), ih _ ⟨h1.tr (onlyR.put _ _ _ (by omega) _ _), fun h hh => ?_⟩⟩
    by_cases e : h = i
    · rw [e, uIs]
      have r1 : s.1 (v + 1) (w * 8 + i) = nI (f i) := by rw [h1.2.2 _ (by omega)]; exact hR i hi
      have r2 : s.1 (v + 4) w = μ.1 (v + 4) w := h1.2.1 _ _ (by omega)
      rw [r1, r2]
      unfold yNext
      exact (ov_nat (by omega) (by omega)).2.symm
    · rw [uIn _ _ (fun q => e (by omega))]; exact h2 h (by omega)
/-- nothing has changed but a year's four rows -/
def onlyY (a1 a2 a3 a4 : Nat) (μ μ' : qa_M) : Prop := μ'.2 = μ.2 ∧ ∀ b j, b ≠ a1 → b ≠ a2 → b ≠ a3 → b ≠ a4 → μ'.1 b j = μ.1 b j
theorem x_follow {n v t H U k ac : Nat} {pu sm : Nat → Int32} {la lean snow : Int32} {st : Nat → Int32} {ex : Nat → Option (Nat × Nat × Nat)} {f0 : Nat → Nat} {μ : qa_M} {Q : qa_M → Prop} (ht : qa_tw t) (hv : qa_yr v) (hX : PX μ t H pu sm lean snow st) (hA : AX μ t H ac ex) (hE : EXok H ac ex)
    (hla : μ.1 31 0 = la) (hhe : μ.1 31 1 = nI k) (hU : μ.1 31 7 = nI U) (hU20 : U ≤ 20) (hlaw : 0 < U → (1 ≤ k ∧ k ≤ 30) ∧ (la = 0 ∨ la = 1 ∨ la = 2 ∨ la = 3))
    (hf : (μ.1 31 5 = -1 ∧ f0 = id) ∨ ∃ a b, a < H ∧ b < H ∧ μ.1 31 5 = nI a ∧ μ.1 31 6 = nI b ∧ f0 = swp a b id) (hn : 60 < n)
    (kk : ∀ μ', onlyY (v + 1) (v + 2) (v + 3) (v + 4) μ μ' → YA μ' (v + 1) (v + 2) (v + 3) (v + 4) U H (yPL H pu sm la (nI k) lean snow st ac ex f0) (fun w h => yPush H pu sm snow st (yPL H pu sm la (nI k) lean snow st ac ex f0 w) w h) (fun w => yForce H pu sm lean snow st (yPL H pu sm la (nI k) lean snow st ac ex f0 w) w) (fun w => yTurn H la (nI k) w (yForce H pu sm lean snow st (yPL H pu sm la (nI k) lean snow st ac ex f0 w) w)) → Q μ') : wX7_follow n v t μ Q := by
  obtain ⟨d1, d2, d3⟩ := tw_yr ht hv
  have h8 : H ≤ 8 := hX.1
  have hf0 : ∀ h, h < H → f0 h < H := by
    rcases hf with ⟨-, rfl⟩ | ⟨a, b, ha, hb, -, -, rfl⟩
    · exact fun h hh => hh
    · exact swp_lt (fun h hh => hh) ha hb
  have keepX : ∀ {μ' : qa_M}, onlyY (v + 1) (v + 2) (v + 3) (v + 4) μ μ' → PX μ' t H pu sm lean snow st ∧ AX μ' t H ac ex ∧ (∀ j, μ'.1 31 j = μ.1 31 j) := by
    intro μ' h
    have e1 : ∀ j k, j ≤ 11 → μ'.1 (t + j) k = μ.1 (t + j) k := fun j k hj => h.2 _ _ (d1 j 1 hj (by omega)) (d1 j 2 hj (by omega)) (d1 j 3 hj (by omega)) (d1 j 4 hj (by omega))
    have e2 : ∀ k, μ'.1 31 k = μ.1 31 k := fun k => h.2 _ _ (d2 1 (by omega)).symm (d2 2 (by omega)).symm (d2 3 (by omega)).symm (d2 4 (by omega)).symm
    exact ⟨hX.mono e1 e2, hA.mono (fun j k _ hj => e1 j k (by omega)), e2⟩
  -- the weeks
  have weeks : ∀ μ1, onlyY (v + 1) (v + 2) (v + 3) (v + 4) μ μ1 → ROW μ1 (v + 1) 0 H f0 → wX7_follow_46 n v t (0 : Int32) μ1 Q := by
    intro μ1 h1 hR1
    generalize hPL : yPL H pu sm la (nI k) lean snow st ac ex f0 = PL at kk
    have hpl : ∀ w, PL w = yEx ac ex w (yPre H pu sm la (nI k) lean snow st ac ex f0 w) := fun w => by rw [← hPL]; exact yPL_eq _ _ _ _ _ _ _ _ _ _ _ w
    have hplt : ∀ w h, h < H → PL w h < H := fun w h hh => by rw [← hPL]; exact yPL_lt (by omega) hE hf0 w h hh
    have hpre : ∀ w, yPre H pu sm la (nI k) lean snow st ac ex f0 (w + 1) = yNext H (PL w) (yTurn H la (nI k) w (yForce H pu sm lean snow st (PL w) w)) := fun w => by rw [← hPL]; rfl
    rw [l0]
    refine inv_loopF 35 (fun n i μ => wX7_follow_46 n v t i μ Q) U (fun i s => onlyY (v + 1) (v + 2) (v + 3) (v + 4) μ s ∧ ROW s (v + 1) i H (yPre H pu sm la (nI k) lean snow st ac ex f0 i) ∧ (∀ w, w < i → ∀ h, h < H → s.1 (v + 1) (w * 8 + h) = nI (PL w h)) ∧ (∀ w, w < i → ∀ h, h < H → s.1 (v + 2) (w * 8 + h) = yPush H pu sm snow st (PL w) w h) ∧ (∀ w, w < i → s.1 (v + 3) w = yForce H pu sm lean snow st (PL w) w) ∧ (∀ w, w < i → s.1 (v + 4) w = yTurn H la (nI k) w (yForce H pu sm lean snow st (PL w) w))) ?_ ?_ U 0 μ1 n (by omega) (by omega) ⟨h1, hR1, fun w hw => absurd hw (Nat.not_lt_zero w), fun w hw => absurd hw (Nat.not_lt_zero w), fun w hw => absurd hw (Nat.not_lt_zero w), fun w hw => absurd hw (Nat.not_lt_zero w)⟩
    · intro n s hm ⟨g1, g2, g3, g4, g5, g6⟩
      obtain ⟨X1, A1, P1⟩ := keepX g1
      show wX7_follow_46 (n + 1) _ _ _ _ _
      rw [wX7_follow_46, P1, hU]
      refine ⟨fun _ => ?_, fun h => absurd (nI_le (Nat.le_refl U) (by omega)) h⟩
      refine x_exAll ht hv A1 h8 hU20 (by omega) g2 (fun μ2 o2 r2 => ?_)
      refine kk μ2 ⟨o2.1.trans g1.1, fun b j b1 b2 b3 b4 => (o2.2.1 b j b1).trans (g1.2 b j b1 b2 b3 b4)⟩ ⟨fun w hw h hh => ?_, fun w hw h hh => ?_, fun w hw => ?_, fun w hw => ?_⟩
      · by_cases e : w = U
        · rw [e, r2 h hh, hpl]
        · rw [o2.2.2 _ (by omega)]; exact g3 w (by omega) h hh
      · rw [o2.2.1 _ _ (by omega)]; exact g4 w hw h hh
      · rw [o2.2.1 _ _ (by omega)]; exact g5 w hw
      · rw [o2.2.1 _ _ (by omega)]; exact g6 w hw
    · intro n i s hm hi ⟨g1, g2, g3, g4, g5, g6⟩ ih
      obtain ⟨X1, A1, P1⟩ := keepX g1
      show wX7_follow_46 (n + 1) _ _ _ _ _
      rw [wX7_follow_46, P1, hU]
      refine ⟨fun h => absurd h (nI_ge hi (by omega)), fun _ => ?_⟩
      refine x_exAll ht hv A1 h8 (by omega) (by omega) g2 (fun μ2 o2 r2 => ?_)
      rw [← hpl] at r2
      have y2 : onlyY (v + 1) (v + 2) (v + 3) (v + 4) μ μ2 := ⟨o2.1.trans g1.1, fun b j b1 b2 b3 b4 => (o2.2.1 b j b1).trans (g1.2 b j b1 b2 b3 b4)⟩
      obtain ⟨X2, A2, P2⟩ := keepX y2
      refine x_push ht hv X2 (by omega) (by omega) r2 (hplt i) (fun μ3 p1 p2 p3 p4 p5 p6 => ?_)
      have y3 : onlyY (v + 1) (v + 2) (v + 3) (v + 4) μ μ3 := ⟨p1.trans y2.1, fun b j b1 b2 b3 b4 => (p2 b j b2 b3).trans (y2.2 b j b1 b2 b3 b4)⟩
      obtain ⟨X3, A3, P3⟩ := keepX y3
      refine ⟨inN (by omega) (by decide), ?_⟩
      obtain ⟨l1', l2'⟩ := hlaw (by omega)
      rw [P3, P3, hla, hhe, cl (show i < 2 ^ 31 by omega), X3.2.1, p6]
      rw [s_turnBy l1' l2' (by omega) h8]
      refine ⟨inN (by omega) (by decide), ?_⟩
      rw [nmM]
      generalize hμ4 : qa_uI μ3 (v + 4) i (yTurn H la (nI k) i (yForce H pu sm lean snow st (PL i) i)) = μ4
      have y4 : onlyY (v + 1) (v + 2) (v + 3) (v + 4) μ μ4 := by
        rw [← hμ4]
        exact ⟨y3.1, fun b j b1 b2 b3 b4 => by rw [uIn _ _ (fun e => b4 e.1)]; exact y3.2 b j b1 b2 b3 b4⟩
      obtain ⟨X4, A4, P4⟩ := keepX y4
      rw [X4.2.1]
      have r4 : ROW μ4 (v + 1) i H (PL i) := fun h hh => by
        rw [← hμ4, uIn _ _ (fun e => by omega), p2 _ _ (by omega) (by omega)]; exact r2 h hh
      refine x_carry h8 (by omega) (by omega) r4 (fun μ5 o5 r5 => ?_)
      rw [show nI i + 1 = nI (i + 1) from nI_1 i]
      have t4 : μ4.1 (v + 4) i = yTurn H la (nI k) i (yForce H pu sm lean snow st (PL i) i) := by rw [← hμ4, uIs]
      rw [t4] at r5
      refine ih μ5 ⟨⟨o5.1.trans y4.1, fun b j b1 b2 b3 b4 => (o5.2.1 b j b1).trans (y4.2 b j b1 b2 b3 b4)⟩, by rw [hpre]; exact r5, fun w hw h hh => ?_, fun w hw h hh => ?_, fun w hw => ?_, fun w hw => ?_⟩
      · rw [o5.2.2 _ (by omega)]
        by_cases e : w = i
        · rw [e]; exact r4 h hh
        · rw [← hμ4, uIn _ _ (fun e => by omega), p2 _ _ (by omega) (by omega), o2.2.2 _ (by omega)]; exact g3 w (by omega) h hh
      · rw [o5.2.1 _ _ (by omega), ← hμ4, uIn _ _ (fun e => by omega)]
        by_cases e : w = i
        · rw [e]; exact p5 h hh
        · rw [p3 _ (by omega), o2.2.1 _ _ (by omega)]; exact g4 w (by omega) h hh
      · rw [o5.2.1 _ _ (by omega), ← hμ4, uIn _ _ (fun e => by omega)]
        by_cases e : w = i
        · rw [e]; exact p6
        · rw [p4 _ e, o2.2.1 _ _ (by omega)]; exact g5 w (by omega)
      · rw [o5.2.1 _ _ (by omega)]
        by_cases e : w = i
        · rw [e]; exact t4
        · rw [← hμ4, uIn _ _ (fun q => e q.2), p2 _ _ (by omega) (by omega), o2.2.1 _ _ (by omega)]; exact g6 w (by omega)
  -- the start
  unfold wX7_follow
  rw [l0]
  refine inv_loop (fun n i μ => wX7_follow_2 n v t i μ _ Q) H (fun i s => onlyY (v + 1) (v + 2) (v + 3) (v + 4) μ s ∧ ∀ h, h < i → s.1 (v + 1) h = nI h) ?_ ?_ H 0 μ n (by omega) (by omega) ⟨⟨rfl, fun _ _ _ _ _ _ => rfl⟩, fun h hh => absurd hh (Nat.not_lt_zero h)⟩
  · intro n' s ⟨g1, g2⟩
    obtain ⟨X1, A1, P1⟩ := keepX g1
    show wX7_follow_2 (n' + 1) _ _ _ _ _ _
    rw [wX7_follow_2, X1.2.1]
    refine ⟨fun _ => ?_, fun h => absurd (nI_le (Nat.le_refl H) (by omega)) h⟩
    try dsimp only
    rw [← l0, P1 5, P1 6]
    have r0 : ROW s (v + 1) 0 H id := fun h hh => by rw [Nat.zero_mul, Nat.zero_add]; exact g2 h hh
    rcases hf with ⟨e1, rfl⟩ | ⟨a, b, ha, hb, e1, e2, rfl⟩
    · exact ⟨fun _ => weeks s g1 r0, fun h => absurd e1 h⟩
    · rw [e1, e2]
      refine ⟨fun h => absurd h (by rw [fa_eq, nI_toInt (by omega), show (-1 : Int32).toInt = -1 from rfl]; omega), fun _ => ?_⟩
      rw [l0]
      refine x_exch (by omega) (by omega) (by omega) ?_
      rw [← l0]
      refine weeks _ ⟨g1.1, fun b' j b1 b2 b3 b4 => ?_⟩ (ROW_swp r0 ha hb)
      rw [uIn _ _ (fun e => b1 e.1), uIn _ _ (fun e => b1 e.1)]
      exact g1.2 b' j b1 b2 b3 b4
  · intro n' i s hi ⟨g1, g2⟩ ih
    obtain ⟨X1, A1, P1⟩ := keepX g1
    show wX7_follow_2 (n' + 1) _ _ _ _ _ _
    rw [wX7_follow_2, X1.2.1]
    refine ⟨fun h => absurd h (nI_ge hi (by omega)), fun _ => ⟨inN (by omega) (by decide), ?_⟩⟩
    rw [nmM, cl (show i < 2 ^ 31 by omega), show nI i + 1 = nI (i + 1) from nI_1 i]
    refine ih _ ⟨⟨g1.1, fun b j b1 b2 b3 b4 => by rw [uIn _ _ (fun e => b1 e.1)]; exact g1.2 b j b1 b2 b3 b4⟩, fun h hh => ?_⟩
    by_cases e : h = i
    · rw [e, uIs]
    · rw [uIn _ _ (fun q => e q.2)]; exact g2 h (by omega)
