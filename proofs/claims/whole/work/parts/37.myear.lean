theorem or0 (x : Int32) : x ||| 0 = x := by
  apply Int32.toBitVec_inj.mp
  rw [Int32.toBitVec_or]
  show x.toBitVec ||| 0#32 = x.toBitVec
  simp
/-- what m keeps of pushing -/
def MX (μ : qa_M) (H : Nat) (pu sm : Nat → Int32) (lean snow : Int32) : Prop := H ≤ 8 ∧ μ.1 92 4 = nI H ∧ (∀ h, h < H → μ.1 92 (10 + 2 * h) = pu h) ∧ (∀ p, p < H → μ.1 99 p = sm p) ∧ μ.1 91 18 = lean ∧ μ.1 91 19 = snow
theorem MX.mono {μ μ' : qa_M} {H : Nat} {pu sm : Nat → Int32} {lean snow : Int32} (h : MX μ H pu sm lean snow) (e1 : ∀ k, μ'.1 92 k = μ.1 92 k) (e2 : ∀ k, μ'.1 99 k = μ.1 99 k) (e3 : ∀ k, μ'.1 91 k = μ.1 91 k) : MX μ' H pu sm lean snow := by
  obtain ⟨h1, h2, h3, h4, h5, h6⟩ := h
  exact ⟨h1, by rw [e1]; exact h2, fun h hh => by rw [e1]; exact h3 h hh, fun p hp => by rw [e2]; exact h4 p hp, by rw [e3]; exact h5, by rw [e3]; exact h6⟩
theorem ixP (h : Nat) : (10 : Int32) + ((2 : Int32) * nI h) = nI (10 + 2 * h) := by rw [l10, l2, pk_mul, nI_add]
theorem m_force113 {n w h : Nat} {bs F p lean : Int32} {μ : qa_M} {K : Int32 → Int32 → Int32 → Int32 → qa_M → Prop} {Q : Int32 → qa_M → Prop} (hw : w < 20) (hh : h < 8) (hl : μ.1 91 18 = lean)
    (k : K (nI w) bs (F + (if bt lean h = 1 then -p else p)) (nI (h + 1)) (qa_uI μ 102 (w * 8 + h) p)) : wX9_forceOf_113 n (nI w) bs F (nI h) p μ K Q := by
  unfold wX9_forceOf_113
  simp only [ixM, cl (show w * 8 + h < 2 ^ 31 by omega), nmM, s_mbit]
  refine ⟨inN (by omega) (by decide), ?_⟩
  have e : (qa_uI μ 102 (w * 8 + h) p).1 91 18 = lean := by rw [uIn _ _ (fun e => by omega)]; exact hl
  rw [e]
  show (¬ bt lean h = 1 → _) ∧ (bt lean h = 1 → _)
  unfold wX9_forceOf_151
  simp only [nmM, show nI h + 1 = nI (h + 1) from nI_1 h]
  refine ⟨fun q => ?_, fun q => ?_⟩
  · rw [if_neg q] at k; exact k
  · rw [if_pos q] at k; exact k
theorem m_force {n w H : Nat} {pu sm : Nat → Int32} {lean snow bs : Int32} {st : Nat → Int32} {f : Nat → Nat} {μ : qa_M} {Q : Int32 → qa_M → Prop} (hX : MX μ H pu sm lean snow) (hst : (μ.1 91 22 ||| μ.1 100 w) ||| bs = st w) (hw : w < 20) (hn : 9 < n) (hR : ROW μ 101 w H f) (hf : ∀ h, h < H → f h < H)
    (k : ∀ μ', onlyR 102 w μ μ' → (∀ h, h < H → μ'.1 102 (w * 8 + h) = yPush H pu sm snow st f w h) → Q (yForce H pu sm lean snow st f w) μ') : wX9_forceOf n (nI w) bs μ Q := by
  have h8 := hX.1
  unfold wX9_forceOf
  rw [l0]
  refine inv_loop (fun n i s => wX9_forceOf_5 n (nI w) bs s.1 i s.2 Q) H (fun i (s : Int32 × qa_M) => s.1 = itr (fun h s => s + ySg H pu sm lean snow st f w h) 0 i 0 ∧ onlyR 102 w μ s.2 ∧ ∀ h, h < i → s.2.1 102 (w * 8 + h) = yPush H pu sm snow st f w h) ?_ ?_ H 0 (nI 0, μ) n (by omega) (by omega) ⟨rfl, onlyR.rf _ _ _, fun h hh => absurd hh (Nat.not_lt_zero h)⟩
  · intro n s ⟨e1, e2, e3⟩
    show wX9_forceOf_5 (n + 1) _ _ _ _ _ _
    rw [wX9_forceOf_5, s_mhouses, show s.2.1 92 4 = nI H by rw [e2.2.1 _ _ (by decide)]; exact hX.2.1]
    refine ⟨fun _ => ?_, fun h => absurd (nI_le (Nat.le_refl H) (by omega)) h⟩
    rw [e1]
    exact k s.2 e2 e3
  · intro n i s hi ⟨e1, e2, e3⟩ ih
    obtain ⟨F, μ1⟩ := s
    dsimp only at e1 e2 e3 ih
    have X1 : MX μ1 H pu sm lean snow := hX.mono (fun k => e2.2.1 _ _ (by decide)) (fun k => e2.2.1 _ _ (by decide)) (fun k => e2.2.1 _ _ (by decide))
    obtain ⟨-, g1, g2, g3, g4, g5⟩ := X1
    show wX9_forceOf_5 (n + 1) _ _ _ _ _ _
    rw [wX9_forceOf_5, s_mhouses, g1]
    refine ⟨fun h => absurd h (nI_ge hi (by omega)), fun _ => ?_⟩
    rw [s_placeOf (by omega)]
    have er : μ1.1 101 (w * 8 + i) = nI (f i) := by rw [e2.2.1 _ _ (by decide)]; exact hR i hi
    have hfi := hf i hi
    refine ⟨inN (by omega) (by decide), ?_⟩
    rw [er, s_mbit, cl (show w < 2 ^ 31 by omega), e2.2.1 91 22 (by decide), e2.2.1 100 w (by decide), hst]
    have fin : ∀ p : Int32, p = yPush H pu sm snow st f w i → wX9_forceOf_113 n (nI w) bs F (nI i) p μ1 (fun v1 v2 v3 v4 μk => wX9_forceOf_5 n v1 v2 v3 v4 μk Q) Q := by
      intro p hp
      refine m_force113 hw (by omega) g4 ?_
      refine ih (F + (if bt lean i = 1 then -p else p), qa_uI μ1 102 (w * 8 + i) p) ⟨?_, e2.tr (onlyR.put _ _ _ (by omega) _ _), fun h hh => ?_⟩
      · rw [itr_succ, Nat.zero_add, ← e1]
        unfold ySg
        rw [hp]
      · dsimp only
        by_cases e : h = i
        · rw [e, uIs]; exact hp
        · rw [uIn _ _ (fun q => e (by omega))]; exact e3 h (by omega)
    have f0 : (bt (st w) i = 1 ∨ (bt snow w = 1 ∧ ¬ f i = 0 ∧ ¬ f i = H - 1)) → wX9_forceOf_73 n (nI w) bs F (nI i) (nI (f i)) μ1 (fun v1 v2 v3 v4 μk => wX9_forceOf_5 n v1 v2 v3 v4 μk Q) Q := by
      intro hc
      unfold wX9_forceOf_73 wX9_forceOf_78
      refine ⟨fun h => absurd h (by decide), fun _ => fin 0 ?_⟩
      unfold yPush
      rw [if_pos hc]
    have f1 : ¬ (bt (st w) i = 1 ∨ (bt snow w = 1 ∧ ¬ f i = 0 ∧ ¬ f i = H - 1)) → wX9_forceOf_77 n (nI w) bs F (nI i) (nI (f i)) μ1 (fun v1 v2 v3 v4 μk => wX9_forceOf_5 n v1 v2 v3 v4 μk Q) Q := by
      intro hc
      unfold wX9_forceOf_77 wX9_forceOf_78
      refine ⟨fun _ => ?_, fun h => absurd rfl h⟩
      rw [ixP]
      refine ⟨inN (by omega) (by decide), inN (by omega) (by decide), ?_⟩
      rw [s_max, cl (show 10 + 2 * i < 2 ^ 31 by omega), cl (show f i < 2 ^ 31 by omega), g2 i hi, g3 (f i) hfi]
      refine fin _ ?_
      unfold yPush
      rw [if_neg hc]
    have z1 : (nI (f i) = 0) = (f i = 0) := by rw [l0]; exact neq _ _ (by omega) (by decide)
    have z2 : (nI (f i) = nI H - 1) = (f i = H - 1) := by rw [l1, pk_sub (by omega)]; exact neq _ _ (by omega) (by omega)
    show (bt (st w) i = 1 → _) ∧ (¬ bt (st w) i = 1 → _)
    refine ⟨fun h => f0 (Or.inl h), fun h => ?_⟩
    rw [s_mbit, g5, z1]
    show (¬ bt snow w = 1 → _) ∧ (bt snow w = 1 → _)
    refine ⟨fun h2 => f1 ?_, fun h2 => ⟨fun h3 => f1 ?_, fun h3 => ?_⟩⟩
    · exact fun q => q.elim h (fun q => h2 q.1)
    · exact fun q => q.elim h (fun q => q.2.1 h3)
    · rw [s_mhouses, g1, z2]
      refine ⟨fun h4 => f1 ?_, fun h4 => f0 (Or.inr ⟨h2, h3, h4⟩)⟩
      exact fun q => q.elim h (fun q => q.2.2 h4)
theorem m_exch {n a b w : Nat} {μ : qa_M} {Q : qa_M → Prop} (ha : a < 8) (hb : b < 8) (hw : w ≤ 20) (h : Q (qa_uI (qa_uI μ 101 (w * 8 + a) (μ.1 101 (w * 8 + b))) 101 (w * 8 + b) (μ.1 101 (w * 8 + a)))) : wX9_exchange n (nI a) (nI b) (nI w) μ Q := by
  unfold wX9_exchange
  simp only [ixM, cl (show w * 8 + a < 2 ^ 31 by omega), cl (show w * 8 + b < 2 ^ 31 by omega), nmM]
  exact ⟨inN (by omega) (by decide), inN (by omega) (by decide), inN (by omega) (by decide), inN (by omega) (by decide), h⟩
/-- the acts, as m keeps them -/
def AM (μ : qa_M) (ac : Nat) (ex : Nat → Option (Nat × Nat × Nat)) : Prop := ac ≤ 30 ∧ μ.1 92 8 = nI ac ∧ ∀ i, i < ac → (∀ a b v, ex i = some (a, b, v) → a < 8 ∧ b < 8 ∧ v < 20 ∧ μ.1 92 (84 + i) = nI (1000 * a + 100 * b + v)) ∧ (ex i = none → ∃ c, 10000 ≤ c ∧ c < 2 ^ 31 ∧ μ.1 92 (84 + i) = nI c)
theorem m_exAll {n w H ac : Nat} {ex : Nat → Option (Nat × Nat × Nat)} {f : Nat → Nat} {μ : qa_M} {K : Int32 → qa_M → Prop} {Q : qa_M → Prop} (hA : AM μ ac ex) (hE : EXok H ac ex) (hH : H ≤ 8) (hw : w ≤ 20) (hn : 31 < n) (hR : ROW μ 101 w H f)
    (k : ∀ μ', onlyR 101 w μ μ' → ROW μ' 101 w H (yEx ac ex w f) → K (nI w) μ') : wX9_goAll_46 n (nI w) (0 : Int32) μ K Q := by
  rw [l0]
  have hac := hA.1
  refine inv_loop (fun n i μ => wX9_goAll_46 n (nI w) i μ K Q) ac (fun i μ' => onlyR 101 w μ μ' ∧ ROW μ' 101 w H (itr (yEx1 ex w) 0 i f)) ?_ ?_ ac 0 μ n (by omega) (by omega) ⟨onlyR.rf _ _ _, hR⟩
  · intro n s ⟨h1, h2⟩
    show wX9_goAll_46 (n + 1) _ _ _ _ _
    rw [wX9_goAll_46, show (8 : Int32).toNatClampNeg = 8 from rfl, h1.2.1 92 8 (by decide), hA.2.1]
    exact ⟨fun _ => k s h1 h2, fun h => absurd (nI_le (Nat.le_refl ac) (by omega)) h⟩
  · intro n i s hi ⟨h1, h2⟩ ih
    show wX9_goAll_46 (n + 1) _ _ _ _ _
    rw [wX9_goAll_46, show (8 : Int32).toNatClampNeg = 8 from rfl, h1.2.1 92 8 (by decide), hA.2.1, show (84 : Int32) + nI i = nI (84 + i) from by rw [show (84 : Int32) = nI 84 from rfl, nI_add], cl (show 84 + i < 2 ^ 31 by omega), h1.2.1 92 (84 + i) (by decide), nmM, show nI i + 1 = nI (i + 1) from nI_1 i]
    refine ⟨fun h => absurd h (nI_ge hi (by omega)), fun _ => ⟨inN (by omega) (by decide), ?_⟩⟩
    cases hx : ex i with
    | none =>
      obtain ⟨c, c1, c2, c3⟩ := (hA.2.2 i hi).2 hx
      have e2 : itr (yEx1 ex w) 0 (i + 1) f = itr (yEx1 ex w) 0 i f := by
        rw [itr_succ, Nat.zero_add]; unfold yEx1; rw [hx]
      rw [c3]
      refine ⟨fun _ => ih s ⟨h1, by rw [e2]; exact h2⟩, fun h => absurd (show (10000 : Int32) ≤ nI c from ?_) h⟩
      rw [show (10000 : Int32) = nI 10000 from rfl, nle _ _ (by decide) c2]; exact c1
    | some q =>
      obtain ⟨a, b, u⟩ := q
      obtain ⟨g1, g2, g3, g4⟩ := (hA.2.2 i hi).1 a b u hx
      obtain ⟨b1, b2, -⟩ := hE i hi a b u hx
      rw [g4]
      have r1 : nI (1000 * a + 100 * b + u) - nI (1000 * a + 100 * b + u) / (100 : Int32) * (100 : Int32) = nI u := by
        rw [show (100 : Int32) = nI 100 from rfl, pk_rem (by omega) (by decide) (by decide)]; congr 1; omega
      have r2 : nI (1000 * a + 100 * b + u) / (1000 : Int32) = nI a := by
        rw [show (1000 : Int32) = nI 1000 from rfl, pk_div (by omega) (by decide) (by decide)]; congr 1; omega
      have r3 : nI (1000 * a + 100 * b + u) / (100 : Int32) = nI (10 * a + b) := by
        rw [show (100 : Int32) = nI 100 from rfl, pk_div (by omega) (by decide) (by decide)]; congr 1; omega
      have r4 : nI (10 * a + b) - nI (10 * a + b) / (10 : Int32) * (10 : Int32) = nI b := by
        rw [l10, pk_rem (by omega) (by decide) (by decide)]; congr 1; omega
      rw [r1, r2, r3, r4]
      refine ⟨fun h => absurd h (by rw [show (10000 : Int32) = nI 10000 from rfl, nle _ _ (by decide) (by omega)]; omega), fun _ => ⟨fun h => ?_, fun h => ?_⟩⟩
      · have hne : u ≠ w := fun e => h (by rw [e])
        refine ih s ⟨h1, ?_⟩
        rw [itr_succ, Nat.zero_add]
        unfold yEx1
        rw [hx]
        dsimp only
        rw [if_neg hne]
        exact h2
      · have he : u = w := by rw [neq _ _ (by omega) (by omega)] at h; exact h
        refine m_exch (by omega) (by omega) hw (ih _ ⟨h1.tr ((onlyR.put 101 w a (by omega) s _).tr (onlyR.put 101 w b (by omega) _ _)), ?_⟩)
        rw [itr_succ, Nat.zero_add]
        have e3 : yEx1 ex w i (itr (yEx1 ex w) 0 i f) = swp a b (itr (yEx1 ex w) 0 i f) := by
          unfold yEx1
          rw [hx]
          dsimp only
          rw [if_pos he]
        rw [e3]
        exact ROW_swp h2 b1 b2
theorem m_turnBy {n k w H : Nat} {la F : Int32} {μ : qa_M} {Q : Int32 → qa_M → Prop} (hk : 1 ≤ k ∧ k ≤ 30) (hla : μ.1 91 20 = la) (hhe : μ.1 91 21 = nI k) (hH : H ≤ 8) (hHe : μ.1 92 4 = nI H) (hw : w ≤ 20) (h : Q (yTurn H la (nI k) w F) μ) : wX9_turnBy n F (nI w) μ Q := by
  have hne : ¬ nI k = 0 := by rw [l0, neq _ _ (by omega) (by decide)]; omega
  have hwk : nI w - nI w / (2 : Int32) * (2 : Int32) = nI (w % 2) := by rw [l2, pk_rem (by omega) (by decide) (by decide)]
  have w2 : (nI (w % 2) = 1) = (w % 2 = 1) := by rw [l1]; exact neq _ _ (by omega) (by decide)
  unfold wX9_turnBy
  unfold yTurn at h
  simp only [hla, hhe, hwk, w2, s_mhouses, hHe, hne, not_false_eq_true, true_and]
  by_cases c1 : la = 1
  · rw [if_pos c1] at h
    refine ⟨fun q => absurd c1 q, fun _ => ?_⟩
    by_cases a1 : F < nI k
    · rw [if_pos a1] at h
      refine ⟨fun _ => ?_, fun q => absurd a1 q⟩
      by_cases a2 : -(nI k) < F
      · rw [if_pos a2] at h; exact ⟨fun _ => h, fun q => absurd a2 q⟩
      · rw [if_neg a2] at h; exact ⟨fun q => absurd q a2, fun _ => h⟩
    · rw [if_neg a1] at h
      exact ⟨fun q => absurd q a1, fun _ => h⟩
  · rw [if_neg c1] at h
    refine ⟨fun _ => ?_, fun q => absurd q c1⟩
    by_cases c2 : la = 2
    · rw [if_pos c2] at h
      refine ⟨fun q => absurd c2 q, fun _ => ?_⟩
      by_cases a1 : H = 0
      · rw [if_pos a1] at h
        refine ⟨fun q => absurd (by rw [a1]; rfl) q, fun _ => h⟩
      · rw [if_neg a1] at h
        refine ⟨fun _ => ?_, fun q => absurd q (by rw [l0, neq _ _ (by omega) (by decide)]; exact a1)⟩
        rw [s_over (by omega) (by omega)]
        exact h
    · rw [if_neg c2] at h
      refine ⟨fun _ => ?_, fun q => absurd q c2⟩
      by_cases c3 : la = 3
      · refine ⟨fun q => absurd c3 q, fun _ => ?_⟩
        by_cases a1 : w % 2 = 1
        · rw [if_pos ⟨c3, a1⟩] at h; exact ⟨fun q => absurd a1 q, fun _ => h⟩
        · rw [if_neg (fun q => a1 q.2)] at h; exact ⟨fun _ => h, fun q => absurd q a1⟩
      · rw [if_neg (fun q => c3 q.1)] at h
        exact ⟨fun _ => h, fun q => absurd q c3⟩
