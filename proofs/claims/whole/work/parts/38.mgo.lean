theorem m_carry {n w H : Nat} {f : Nat → Nat} {μ : qa_M} {K : Int32 → qa_M → Prop} {Q : qa_M → Prop} (hH : H ≤ 8) (hHe : μ.1 92 4 = nI H) (hw : w < 20) (hn : 9 < n) (hR : ROW μ 101 w H f)
    (k : ∀ μ', onlyR 101 (w + 1) μ μ' → ROW μ' 101 (w + 1) H (yNext H f (μ.1 104 w)) → K (nI w) μ') : wX9_goAll_136 n (nI w) (0 : Int32) μ K Q := by
  rw [l0]
  refine inv_loop (fun n i μ => wX9_goAll_136 n (nI w) i μ K Q) H (fun i μ' => onlyR 101 (w + 1) μ μ' ∧ ∀ h, h < i → μ'.1 101 ((w + 1) * 8 + h) = nI (yNext H f (μ.1 104 w) h)) ?_ ?_ H 0 μ n (by omega) (by omega) ⟨onlyR.rf _ _ _, fun h hh => absurd hh (Nat.not_lt_zero h)⟩
  · intro n s ⟨h1, h2⟩
    show wX9_goAll_136 (n + 1) _ _ _ _ _
    rw [wX9_goAll_136, s_mhouses, h1.2.1 92 4 (by decide), hHe]
    exact ⟨fun _ => k s h1 h2, fun h => absurd (nI_le (Nat.le_refl H) (by omega)) h⟩
  · intro n i s hi ⟨h1, h2⟩ ih
    show wX9_goAll_136 (n + 1) _ _ _ _ _
    rw [wX9_goAll_136, s_mhouses, h1.2.1 92 4 (by decide), hHe]
    refine ⟨fun h => absurd h (nI_ge hi (by omega)), fun _ => ?_⟩
    rw [s_placeOf (by omega), cl (show w < 2 ^ 31 by omega)]
    refine ⟨inN (by omega) (by decide), ?_⟩
    rw [s_mhouses, h1.2.1 92 4 (by decide), hHe, s_over (by omega) (by omega), show nI w + 1 = nI (w + 1) from nI_1 w, ixM, cl (show (w + 1) * 8 + i < 2 ^ 31 by omega), nmM, show nI i + 1 = nI (i + 1) from nI_1 i]
    refine ⟨inN (by omega) (by decide), ih _ ⟨h1.tr (onlyR.put _ _ _ (by omega) _ _), fun h hh => ?_⟩⟩
    by_cases e : h = i
    · rw [e, uIs]
      have r1 : s.1 101 (w * 8 + i) = nI (f i) := by rw [h1.2.2 _ (by omega)]; exact hR i hi
      have r2 : s.1 104 w = μ.1 104 w := h1.2.1 _ _ (by decide)
      rw [r1, r2]
      unfold yNext
      exact (ov_nat (by omega) (by omega)).2.symm
    · rw [uIn _ _ (fun q => e (by omega))]; exact h2 h (by omega)
theorem m_goAll {n H U k ac : Nat} {pu sm : Nat → Int32} {la lean snow : Int32} {st : Nat → Int32} {ex : Nat → Option (Nat × Nat × Nat)} {f0 : Nat → Nat} {μ : qa_M} {Q : qa_M → Prop} (hX : MX μ H pu sm lean snow) (hA : AM μ ac ex) (hE : EXok H ac ex)
    (hla : μ.1 91 20 = la) (hhe : μ.1 91 21 = nI k) (hU : μ.1 92 0 = nI U) (hU20 : U ≤ 20) (hlaw : 0 < U → (1 ≤ k ∧ k ≤ 30)) (hst : ∀ w, w < U → μ.1 91 22 ||| μ.1 100 w = st w) (hEU : ∀ i, i < ac → ∀ a b v, ex i = some (a, b, v) → v < U)
    (hf : (μ.1 91 23 = 0 ∧ μ.1 91 24 = 0 ∧ f0 = id) ∨ ∃ a b, a < H ∧ b < H ∧ μ.1 91 23 = nI a ∧ μ.1 91 24 = nI b ∧ f0 = swp a b id) (hn : 60 < n)
    (kk : ∀ μ', onlyY 101 102 103 104 μ μ' → YA μ' 101 102 103 104 U H (yPL H pu sm la (nI k) lean snow st ac ex f0) (fun w h => yPush H pu sm snow st (yPL H pu sm la (nI k) lean snow st ac ex f0 w) w h) (fun w => yForce H pu sm lean snow st (yPL H pu sm la (nI k) lean snow st ac ex f0 w) w) (fun w => yTurn H la (nI k) w (yForce H pu sm lean snow st (yPL H pu sm la (nI k) lean snow st ac ex f0 w) w)) → Q μ') : wX9_goAll n μ Q := by
  have h8 : H ≤ 8 := hX.1
  have hf0 : ∀ h, h < H → f0 h < H := by
    rcases hf with ⟨-, -, rfl⟩ | ⟨a, b, ha, hb, -, -, rfl⟩
    · exact fun h hh => hh
    · exact swp_lt (fun h hh => hh) ha hb
  have keepX : ∀ {μ' : qa_M}, onlyY 101 102 103 104 μ μ' → MX μ' H pu sm lean snow ∧ AM μ' ac ex ∧ (∀ j, μ'.1 91 j = μ.1 91 j) ∧ (∀ j, μ'.1 92 j = μ.1 92 j) ∧ (∀ j, μ'.1 100 j = μ.1 100 j) := by
    intro μ' h
    have e91 : ∀ j, μ'.1 91 j = μ.1 91 j := fun j => h.2 _ _ (by decide) (by decide) (by decide) (by decide)
    have e92 : ∀ j, μ'.1 92 j = μ.1 92 j := fun j => h.2 _ _ (by decide) (by decide) (by decide) (by decide)
    refine ⟨hX.mono e92 (fun j => h.2 _ _ (by decide) (by decide) (by decide) (by decide)) e91, ⟨hA.1, by rw [e92]; exact hA.2.1, fun i hi => ⟨fun a b v he => ?_, fun he => ?_⟩⟩, e91, e92, fun j => h.2 _ _ (by decide) (by decide) (by decide) (by decide)⟩
    · rw [e92]; exact (hA.2.2 i hi).1 a b v he
    · rw [e92]; exact (hA.2.2 i hi).2 he
  have weeks : ∀ μ1, onlyY 101 102 103 104 μ μ1 → ROW μ1 101 0 H f0 → wX9_goAll_36 n (0 : Int32) μ1 Q := by
    intro μ1 h1 hR1
    generalize hPL : yPL H pu sm la (nI k) lean snow st ac ex f0 = PL at kk
    have hpl : ∀ w, PL w = yEx ac ex w (yPre H pu sm la (nI k) lean snow st ac ex f0 w) := fun w => by rw [← hPL]; exact yPL_eq _ _ _ _ _ _ _ _ _ _ _ w
    have hplt : ∀ w h, h < H → PL w h < H := fun w h hh => by rw [← hPL]; exact yPL_lt (by omega) hE hf0 w h hh
    have hpre : ∀ w, yPre H pu sm la (nI k) lean snow st ac ex f0 (w + 1) = yNext H (PL w) (yTurn H la (nI k) w (yForce H pu sm lean snow st (PL w) w)) := fun w => by rw [← hPL]; rfl
    rw [l0]
    refine inv_loopF 35 (fun n i μ => wX9_goAll_36 n i μ Q) U (fun i s => onlyY 101 102 103 104 μ s ∧ ROW s 101 i H (yPre H pu sm la (nI k) lean snow st ac ex f0 i) ∧ (∀ w, w < i → ∀ h, h < H → s.1 101 (w * 8 + h) = nI (PL w h)) ∧ (∀ w, w < i → ∀ h, h < H → s.1 102 (w * 8 + h) = yPush H pu sm snow st (PL w) w h) ∧ (∀ w, w < i → s.1 103 w = yForce H pu sm lean snow st (PL w) w) ∧ (∀ w, w < i → s.1 104 w = yTurn H la (nI k) w (yForce H pu sm lean snow st (PL w) w))) ?_ ?_ U 0 μ1 n (by omega) (by omega) ⟨h1, hR1, fun w hw => absurd hw (Nat.not_lt_zero w), fun w hw => absurd hw (Nat.not_lt_zero w), fun w hw => absurd hw (Nat.not_lt_zero w), fun w hw => absurd hw (Nat.not_lt_zero w)⟩
    · intro n s hm ⟨g1, g2, g3, g4, g5, g6⟩
      obtain ⟨X1, A1, P1, P2, P3⟩ := keepX g1
      show wX9_goAll_36 (n + 1) _ _ _
      rw [wX9_goAll_36, s_mweeks, P2, hU]
      refine ⟨fun _ => ?_, fun h => absurd (nI_le (Nat.le_refl U) (by omega)) h⟩
      refine kk s g1 ⟨fun w hw h hh => ?_, g4, g5, g6⟩
      by_cases e : w = U
      · have e1 : PL U = yPre H pu sm la (nI k) lean snow st ac ex f0 U := by
          rw [hpl]
          exact itr_id ac 0 _ (fun j s _ hj => by
            unfold yEx1
            cases hx : ex j with
            | none => rfl
            | some q =>
              obtain ⟨a, b, u⟩ := q
              dsimp only
              rw [if_neg (by have := hEU j (by omega) a b u hx; omega)])
        rw [e, e1]; exact g2 h hh
      · exact g3 w (by omega) h hh
    · intro n i s hm hi ⟨g1, g2, g3, g4, g5, g6⟩ ih
      obtain ⟨X1, A1, P1, P2, P3⟩ := keepX g1
      show wX9_goAll_36 (n + 1) _ _ _
      rw [wX9_goAll_36, s_mweeks, P2, hU]
      refine ⟨fun h => absurd h (nI_ge hi (by omega)), fun _ => ?_⟩
      refine m_exAll A1 hE h8 (by omega) (by omega) g2 (fun μ2 o2 r2 => ?_)
      rw [← hpl] at r2
      have y2 : onlyY 101 102 103 104 μ μ2 := ⟨o2.1.trans g1.1, fun b j b1 b2 b3 b4 => (o2.2.1 b j b1).trans (g1.2 b j b1 b2 b3 b4)⟩
      obtain ⟨X2, A2, P21, P22, P23⟩ := keepX y2
      refine m_force (st := st) X2 (by rw [or0, P21, P23]; exact hst i hi) (by omega) (by omega) r2 (hplt i) (fun μ3 o3 p5 => ?_)
      have y3 : onlyY 101 102 103 104 μ μ3 := ⟨o3.1.trans y2.1, fun b j b1 b2 b3 b4 => (o3.2.1 b j b2).trans (y2.2 b j b1 b2 b3 b4)⟩
      refine ⟨inN (by omega) (by decide), ?_⟩
      rw [cl (show i < 2 ^ 31 by omega), nmM]
      refine ⟨inN (by omega) (by decide), ?_⟩
      rw [uIs]
      generalize hμ4 : qa_uI μ3 103 i (yForce H pu sm lean snow st (PL i) i) = μ4
      have y4 : onlyY 101 102 103 104 μ μ4 := by
        rw [← hμ4]
        exact ⟨y3.1, fun b j b1 b2 b3 b4 => by rw [uIn _ _ (fun e => b3 e.1)]; exact y3.2 b j b1 b2 b3 b4⟩
      obtain ⟨X4, A4, P41, P42, P43⟩ := keepX y4
      refine m_turnBy (hlaw (by omega)) ((P41 20).trans hla) ((P41 21).trans hhe) h8 X4.2.1 (by omega) ?_
      refine ⟨inN (by omega) (by decide), ?_⟩
      rw [nmM]
      generalize hμ5 : qa_uI μ4 104 i (yTurn H la (nI k) i (yForce H pu sm lean snow st (PL i) i)) = μ5
      have y5 : onlyY 101 102 103 104 μ μ5 := by
        rw [← hμ5]
        exact ⟨y4.1, fun b j b1 b2 b3 b4 => by rw [uIn _ _ (fun e => b4 e.1)]; exact y4.2 b j b1 b2 b3 b4⟩
      obtain ⟨X5, A5, P51, P52, P53⟩ := keepX y5
      have r5 : ROW μ5 101 i H (PL i) := fun h hh => by
        rw [← hμ5, uIn _ _ (fun e => by omega), ← hμ4, uIn _ _ (fun e => by omega), o3.2.1 _ _ (by decide)]; exact r2 h hh
      refine m_carry h8 X5.2.1 (by omega) (by omega) r5 (fun μ6 o6 r6 => ?_)
      rw [show nI i + 1 = nI (i + 1) from nI_1 i]
      have t5 : μ5.1 104 i = yTurn H la (nI k) i (yForce H pu sm lean snow st (PL i) i) := by rw [← hμ5, uIs]
      rw [t5] at r6
      refine ih μ6 ⟨⟨o6.1.trans y5.1, fun b j b1 b2 b3 b4 => (o6.2.1 b j b1).trans (y5.2 b j b1 b2 b3 b4)⟩, by rw [hpre]; exact r6, fun w hw h hh => ?_, fun w hw h hh => ?_, fun w hw => ?_, fun w hw => ?_⟩
      · rw [o6.2.2 _ (by omega)]
        by_cases e : w = i
        · rw [e]; exact r5 h hh
        · rw [← hμ5, uIn _ _ (fun e => by omega), ← hμ4, uIn _ _ (fun e => by omega), o3.2.1 _ _ (by decide), o2.2.2 _ (by omega)]; exact g3 w (by omega) h hh
      · rw [o6.2.1 _ _ (by decide), ← hμ5, uIn _ _ (fun e => by omega), ← hμ4, uIn _ _ (fun e => by omega)]
        by_cases e : w = i
        · rw [e]; exact p5 h hh
        · rw [o3.2.2 _ (by omega), o2.2.1 _ _ (by decide)]; exact g4 w (by omega) h hh
      · rw [o6.2.1 _ _ (by decide), ← hμ5, uIn _ _ (fun e => by omega)]
        by_cases e : w = i
        · rw [e, ← hμ4, uIs]
        · rw [← hμ4, uIn _ _ (fun q => e q.2), o3.2.1 _ _ (by decide), o2.2.1 _ _ (by decide)]; exact g5 w (by omega)
      · rw [o6.2.1 _ _ (by decide)]
        by_cases e : w = i
        · rw [e]; exact t5
        · rw [← hμ5, uIn _ _ (fun q => e q.2), ← hμ4, uIn _ _ (fun q => by omega), o3.2.1 _ _ (by decide), o2.2.1 _ _ (by decide)]; exact g6 w (by omega)
  unfold wX9_goAll
  rw [l0]
  refine inv_loop (fun n i μ => wX9_goAll_2 n i μ _ Q) 8 (fun i s => onlyY 101 102 103 104 μ s ∧ ∀ h, h < i → s.1 101 h = nI h) ?_ ?_ 8 0 μ n (by omega) (by omega) ⟨⟨rfl, fun _ _ _ _ _ _ => rfl⟩, fun h hh => absurd hh (Nat.not_lt_zero h)⟩
  · intro n' s ⟨g1, g2⟩
    obtain ⟨X1, A1, P1, P2, P3⟩ := keepX g1
    show wX9_goAll_2 (n' + 1) _ _ _ _
    rw [wX9_goAll_2]
    refine ⟨fun _ => ?_, fun h => absurd (show (8 : Int32) ≤ nI 8 by decide) h⟩
    try dsimp only
    rw [P1 23, P1 24]
    have r0 : ROW s 101 0 H id := fun h hh => by rw [Nat.zero_mul, Nat.zero_add]; exact g2 h (by omega)
    rcases hf with ⟨e1, e2, rfl⟩ | ⟨a, b, ha, hb, e1, e2, rfl⟩
    · rw [e1, e2]
      refine m_exch (a := 0) (b := 0) (by omega) (by omega) (by omega) (weeks _ ⟨g1.1, fun b' j b1 b2 b3 b4 => ?_⟩ (fun h hh => ?_))
      · rw [uIn _ _ (fun e => b1 e.1), uIn _ _ (fun e => b1 e.1)]
        exact g1.2 b' j b1 b2 b3 b4
      · rw [uI1]
        split
        · next e => have := e.2; rw [r0 0 (by omega)]; congr 1; show 0 = h; omega
        · rw [uI1]
          split
          · next e1 e => exact absurd ⟨rfl, e.2⟩ e1
          · exact r0 h hh
    · rw [e1, e2]
      refine m_exch (by omega) (by omega) (by omega) (weeks _ ⟨g1.1, fun b' j b1 b2 b3 b4 => ?_⟩ (ROW_swp r0 ha hb))
      rw [uIn _ _ (fun e => b1 e.1), uIn _ _ (fun e => b1 e.1)]
      exact g1.2 b' j b1 b2 b3 b4
  · intro n' i s hi ⟨g1, g2⟩ ih
    show wX9_goAll_2 (n' + 1) _ _ _ _
    rw [wX9_goAll_2]
    refine ⟨fun h => absurd h (by rw [l8, nle _ _ (by decide) (by omega)]; omega), fun _ => ⟨inN (by omega) (by decide), ?_⟩⟩
    rw [nmM, cl (show i < 2 ^ 31 by omega), show nI i + 1 = nI (i + 1) from nI_1 i]
    refine ih _ ⟨⟨g1.1, fun b j b1 b2 b3 b4 => by rw [uIn _ _ (fun e => b1 e.1)]; exact g1.2 b j b1 b2 b3 b4⟩, fun h hh => ?_⟩
    by_cases e : h = i
    · rw [e, uIs]
    · rw [uIn _ _ (fun q => e q.2)]; exact g2 h (by omega)
