def oF (w : Nat → Int32) (f0 : Nat → Nat) : OV := (w 1, zK w, leanW w, snowW w (zS w), 0, f0)
def gn (w : Nat → Int32) (a b : Nat) : Bool := decide (¬ aSun (yp w (oF w (swp a b id))) (sunW w (zP w)) a (zW w) ≤ aSun (yp w (oT w)) (sunW w (zP w)) a (zW w) ∧ ¬ aSun (yp w (oF w (swp a b id))) (sunW w (zP w)) b (zW w) ≤ aSun (yp w (oT w)) (sunW w (zP w)) b (zW w))
theorem x_both {n a b : Nat} {w : Nat → Int32} {μ0 μ : qa_M} {Q : Int32 → qa_M → Prop} (I : INV μ0) (hw : μ0.1 92 = w) (s : sc μ0 μ) (ha : a < zH w) (hb : b < zH w) (hn : 60 < n) (k : ∀ μ', sc μ0 μ' → Q (if gn w a b = true then 1 else 0) μ') : wX8_bothGain n (nI a) (nI b) μ Q := by
  unfold wX8_bothGain
  refine x_told2 I hw s (fun μ1 s1 _ P1 => ?_)
  rw [nmM, nmM]
  have r := (I.facts hw).1
  refine x_tryE (o := oF w (swp a b id)) I hw ((s1.put 5 (nI a) (Or.inl rfl)).put 6 (nI b) (Or.inl rfl)) (P1.first ha hb) (fun hW => r.law hW) hn (fun μ2 s2 E2 G2 => ?_)
  obtain ⟨-, T, E, -⟩ := (I.sc s2).facts (s2.w.trans hw)
  have k := k μ2 s2
  unfold gn at k
  by_cases c1 : aSun (yp w (oF w (swp a b id))) (sunW w (zP w)) a (zW w) ≤ aSun (yp w (oT w)) (sunW w (zP w)) a (zW w)
  · simp only [c1, not_true_eq_false, false_and, decide_false, Bool.false_eq_true, if_false] at k
    simp (disch := omega) only [wX8_gainsSun, E.2.2.1, x_sunTo (y := 37) E2, x_sunTo (y := 32) E, c1, not_true_eq_false, not_false_eq_true, false_implies, true_implies, and_true, true_and, and_self, nmM, if_true, if_false, or0, Int32.add_zero, forall_const, one_ne, zero_ne1, nz1, nz0, nI_z, cl, inN, Nat.le_refl, Nat.lt_irrefl, Nat.lt_succ_self, Bool.false_eq_true]
    exact k
  · by_cases c2 : aSun (yp w (oF w (swp a b id))) (sunW w (zP w)) b (zW w) ≤ aSun (yp w (oT w)) (sunW w (zP w)) b (zW w)
    · simp only [c1, c2, not_true_eq_false, and_false, decide_false, Bool.false_eq_true, if_false] at k
      simp (disch := omega) only [wX8_gainsSun, E.2.2.1, x_sunTo (y := 37) E2, x_sunTo (y := 32) E, c1, c2, not_true_eq_false, not_false_eq_true, false_implies, true_implies, and_true, true_and, and_self, nmM, if_true, if_false, or0, Int32.add_zero, forall_const, one_ne, zero_ne1, nz1, nz0, nI_z, cl, inN, Nat.le_refl, Nat.lt_irrefl, Nat.lt_succ_self, Bool.false_eq_true]
      exact k
    · simp only [c1, c2, not_false_eq_true, and_self, decide_true, if_true] at k
      simp (disch := omega) only [wX8_gainsSun, E.2.2.1, x_sunTo (y := 37) E2, x_sunTo (y := 32) E, c1, c2, not_true_eq_false, not_false_eq_true, false_implies, true_implies, and_true, true_and, and_self, nmM, if_true, if_false, or0, Int32.add_zero, forall_const, one_ne, zero_ne1, nz1, nz0, nI_z, cl, inN, Nat.le_refl, Nat.lt_irrefl, Nat.lt_succ_self, Bool.false_eq_true]
      exact k
def inT (w : Nat → Int32) (a : Nat) (c : Nat) : Nat := itr (fun b c => if gn w a b = true then c + 1 else c) (a + 1) (zH w - (a + 1)) c
def trN (w : Nat → Int32) : Nat := itr (fun a c => inT w a c) 0 (zH w) 0
def trI (w : Nat → Int32) (a : Nat) : Int32 := fnd (gn w a) (a + 1) (zH w - (a + 1))
def trd (w : Nat → Int32) : Nat → Nat → Int32
  | _, 0 => -1
  | i, k + 1 => if trI w i = -1 then trd w (i + 1) k else 10 * nI i + trI w i
theorem trd_succ (w : Nat → Int32) (i k : Nat) : trd w i (k + 1) = if trI w i = -1 then trd w (i + 1) k else 10 * nI i + trI w i := rfl
theorem xi_trades {n a c : Nat} {w : Nat → Int32} {μ0 μ : qa_M} {K0 : Int32 → Int32 → qa_M → Prop} {Q : Int32 → qa_M → Prop} (I : INV μ0) (hw : μ0.1 92 = w) (s : sc μ0 μ) (ha : a < zH w) (hn : 100 < n) (k : ∀ μ', sc μ0 μ' → K0 (nI (inT w a c)) (nI a) μ') : wX8_trades_29 n (nI c) (nI a) (nI (a + 1)) μ K0 Q := by
  have H8 := (I.facts hw).1.2.1.2.2.2.1
  refine inv_loopF 70 (fun n i (σ : Nat × qa_M) => wX8_trades_29 n (nI σ.1) (nI a) i σ.2 K0 Q) (zH w) (fun i σ => a + 1 ≤ i ∧ σ.1 = itr (fun b c => if gn w a b = true then c + 1 else c) (a + 1) (i - (a + 1)) c ∧ sc μ0 σ.2) ?_ ?_ (zH w - (a + 1)) (a + 1) (c, μ) n (by omega) (by omega) ⟨by omega, by rw [Nat.sub_self]; rfl, s⟩
  · intro n ⟨c1, μ1⟩ hm ⟨hi, e1, s1⟩
    dsimp only at e1 s1 ⊢
    obtain ⟨-, T, E, -⟩ := (I.sc s1).facts (s1.w.trans hw)
    simp (disch := omega) only [wX8_trades_29, E.2.2.2.1, nle, not_true_eq_false, not_false_eq_true, false_implies, true_implies, and_true, true_and, and_self, nmM, if_true, if_false, or0, Int32.add_zero, forall_const, one_ne, zero_ne1, nz1, nz0, nI_z, cl, inN, Nat.le_refl, Nat.lt_irrefl, Nat.lt_succ_self, Bool.false_eq_true]
    rw [e1]
    exact k μ1 s1
  · intro n i ⟨c1, μ1⟩ hm hi ⟨hi2, e1, s1⟩ ih
    dsimp only at e1 s1 ⊢
    obtain ⟨-, T, E, -⟩ := (I.sc s1).facts (s1.w.trans hw)
    have hi' : ¬ zH w ≤ i := by omega
    simp (disch := omega) only [wX8_trades_29, E.2.2.2.1, nle, hi', not_true_eq_false, not_false_eq_true, false_implies, true_implies, and_true, true_and, and_self, nmM, if_true, if_false, or0, Int32.add_zero, forall_const, one_ne, zero_ne1, nz1, nz0, nI_z, cl, inN, Nat.le_refl, Nat.lt_irrefl, Nat.lt_succ_self, Bool.false_eq_true]
    refine x_both I hw s1 ha hi (by omega) (fun μ2 s2 => ?_)
    have stp : itr (fun b c => if gn w a b = true then c + 1 else c) (a + 1) (i + 1 - (a + 1)) c = if gn w a i = true then c1 + 1 else c1 := by
      rw [show i + 1 - (a + 1) = (i - (a + 1)) + 1 by omega, itr_succ, ← e1, show a + 1 + (i - (a + 1)) = i by omega]
    rw [nI1, nI1]
    by_cases g : gn w a i = true
    · simp only [g, if_true] at stp
      simp only [g, not_true_eq_false, not_false_eq_true, false_implies, true_implies, and_true, true_and, and_self, nmM, if_true, if_false, or0, Int32.add_zero, forall_const, one_ne, zero_ne1, nz1, nz0, nI_z, cl, inN, Nat.le_refl, Nat.lt_irrefl, Nat.lt_succ_self, Bool.false_eq_true]
      exact ih (c1 + 1, μ2) ⟨by omega, stp.symm, s2⟩
    · simp only [g, if_false] at stp
      simp only [g, not_true_eq_false, not_false_eq_true, false_implies, true_implies, and_true, true_and, and_self, nmM, if_true, if_false, or0, Int32.add_zero, forall_const, one_ne, zero_ne1, nz1, nz0, nI_z, cl, inN, Nat.le_refl, Nat.lt_irrefl, Nat.lt_succ_self, Bool.false_eq_true]
      exact ih (c1, μ2) ⟨by omega, stp.symm, s2⟩
theorem xs_trades {n : Nat} {w : Nat → Int32} {μ : qa_M} {Q : Int32 → qa_M → Prop} (I : INV μ) (hw : μ.1 92 = w) (hn : 200 < n) (k : ∀ μ', sc μ μ' → Q (nI (trN w)) μ') : wX8_trades_14 n 0 0 μ Q := by
  have H8 := (I.facts hw).1.2.1.2.2.2.1
  refine inv_loopF 110 (fun n i (σ : Nat × qa_M) => wX8_trades_14 n (nI σ.1) i σ.2 Q) (zH w) (fun i σ => σ.1 = itr (fun a c => inT w a c) 0 i 0 ∧ sc μ σ.2) ?_ ?_ (zH w) 0 (0, μ) n (by omega) (by omega) ⟨rfl, sc.rf μ⟩
  · intro n ⟨c1, μ1⟩ hm ⟨e1, s1⟩
    dsimp only at e1 s1 ⊢
    obtain ⟨-, T, E, -⟩ := (I.sc s1).facts (s1.w.trans hw)
    simp (disch := omega) only [wX8_trades_14, E.2.2.2.1, nle, not_true_eq_false, not_false_eq_true, false_implies, true_implies, and_true, true_and, and_self, nmM, if_true, if_false, or0, Int32.add_zero, forall_const, one_ne, zero_ne1, nz1, nz0, nI_z, cl, inN, Nat.le_refl, Nat.lt_irrefl, Nat.lt_succ_self, Bool.false_eq_true]
    rw [e1]
    exact k μ1 s1
  · intro n i ⟨c1, μ1⟩ hm hi ⟨e1, s1⟩ ih
    dsimp only at e1 s1 ⊢
    obtain ⟨-, T, E, -⟩ := (I.sc s1).facts (s1.w.trans hw)
    have hi' : ¬ zH w ≤ i := by omega
    simp (disch := omega) only [wX8_trades_14, E.2.2.2.1, nle, hi', nI1, not_true_eq_false, not_false_eq_true, false_implies, true_implies, and_true, true_and, and_self, nmM, if_true, if_false, or0, Int32.add_zero, forall_const, one_ne, zero_ne1, nz1, nz0, nI_z, cl, inN, Nat.le_refl, Nat.lt_irrefl, Nat.lt_succ_self, Bool.false_eq_true]
    refine xi_trades I hw s1 hi (by omega) (fun μ2 s2 => ?_)
    rw [nI1]
    exact ih (inT w i c1, μ2) ⟨by rw [itr_succ, Nat.zero_add, e1], s2⟩
theorem xi_trade {n a : Nat} {w : Nat → Int32} {μ0 μ : qa_M} {K0 Q : Int32 → qa_M → Prop} (I : INV μ0) (hw : μ0.1 92 = w) (s : sc μ0 μ) (ha : a < zH w) (hn : 100 < n) (k1 : trI w a = -1 → ∀ μ', sc μ0 μ' → K0 (nI a) μ') (k2 : ¬ trI w a = -1 → ∀ μ', sc μ0 μ' → Q (10 * nI a + trI w a) μ') : wX8_trade_27 n (nI a) (nI (a + 1)) μ K0 Q := by
  have H8 := (I.facts hw).1.2.1.2.2.2.1
  refine inv_loopF 70 (fun n i (σ : qa_M) => wX8_trade_27 n (nI a) i σ K0 Q) (zH w) (fun i σ => a + 1 ≤ i ∧ trI w a = fnd (gn w a) i (zH w - i) ∧ sc μ0 σ) ?_ ?_ (zH w - (a + 1)) (a + 1) μ n (by omega) (by omega) ⟨by omega, rfl, s⟩
  · intro n μ1 hm ⟨hi, e1, s1⟩
    obtain ⟨-, T, E, -⟩ := (I.sc s1).facts (s1.w.trans hw)
    simp (disch := omega) only [wX8_trade_27, E.2.2.2.1, nle, not_true_eq_false, not_false_eq_true, false_implies, true_implies, and_true, true_and, and_self, nmM, if_true, if_false, or0, Int32.add_zero, forall_const, one_ne, zero_ne1, nz1, nz0, nI_z, cl, inN, Nat.le_refl, Nat.lt_irrefl, Nat.lt_succ_self, Bool.false_eq_true]
    rw [Nat.sub_self] at e1
    exact k1 e1 μ1 s1
  · intro n i μ1 hm hi ⟨hi2, e1, s1⟩ ih
    obtain ⟨-, T, E, -⟩ := (I.sc s1).facts (s1.w.trans hw)
    have hi' : ¬ zH w ≤ i := by omega
    simp (disch := omega) only [wX8_trade_27, E.2.2.2.1, nle, hi', not_true_eq_false, not_false_eq_true, false_implies, true_implies, and_true, true_and, and_self, nmM, if_true, if_false, or0, Int32.add_zero, forall_const, one_ne, zero_ne1, nz1, nz0, nI_z, cl, inN, Nat.le_refl, Nat.lt_irrefl, Nat.lt_succ_self, Bool.false_eq_true]
    refine x_both I hw s1 ha hi (by omega) (fun μ2 s2 => ?_)
    rw [show zH w - i = (zH w - (i + 1)) + 1 by omega] at e1
    unfold fnd at e1
    rw [nI1]
    by_cases g : gn w a i = true
    · simp only [g, if_true] at e1
      simp only [g, not_true_eq_false, not_false_eq_true, false_implies, true_implies, and_true, true_and, and_self, nmM, if_true, if_false, or0, Int32.add_zero, forall_const, one_ne, zero_ne1, nz1, nz0, nI_z, cl, inN, Nat.le_refl, Nat.lt_irrefl, Nat.lt_succ_self, Bool.false_eq_true]
      rw [← e1]
      refine k2 ?_ μ2 s2
      rw [e1, neg1_ne (by omega)]
      exact fun h => h
    · simp only [g, if_false] at e1
      simp only [g, not_true_eq_false, not_false_eq_true, false_implies, true_implies, and_true, true_and, and_self, nmM, if_true, if_false, or0, Int32.add_zero, forall_const, one_ne, zero_ne1, nz1, nz0, nI_z, cl, inN, Nat.le_refl, Nat.lt_irrefl, Nat.lt_succ_self, Bool.false_eq_true]
      exact ih μ2 ⟨by omega, e1, s2⟩
theorem xs_trade {w : Nat → Int32} {μ : qa_M} {Q : Int32 → qa_M → Prop} (I : INV μ) (hw : μ.1 92 = w) (k : ∀ μ', sc μ μ' → Q (trd w 0 (zH w)) μ') : ∀ (j i n : Nat) (μ1 : qa_M), i + j = zH w → j + 110 < n → trd w i j = trd w 0 (zH w) → sc μ μ1 → wX8_trade_12 n (nI i) μ1 Q
  | 0, i, n, μ1, e, hn, ht, s1 => by
    obtain ⟨n, rfl⟩ : ∃ m, n = m + 1 := ⟨n - 1, by omega⟩
    obtain ⟨r, T, E, -⟩ := (I.sc s1).facts (s1.w.trans hw)
    have H8 := r.2.1.2.2.2.1
    obtain rfl : i = zH w := by omega
    simp (disch := omega) only [wX8_trade_12, E.2.2.2.1, nle, not_true_eq_false, not_false_eq_true, false_implies, true_implies, and_true, true_and, and_self, nmM, if_true, if_false, or0, Int32.add_zero, forall_const, one_ne, zero_ne1, nz1, nz0, nI_z, cl, inN, Nat.le_refl, Nat.lt_irrefl, Nat.lt_succ_self, Bool.false_eq_true]
    have := k μ1 s1
    rw [← ht] at this
    exact this
  | j + 1, i, n, μ1, e, hn, ht, s1 => by
    obtain ⟨n, rfl⟩ : ∃ m, n = m + 1 := ⟨n - 1, by omega⟩
    obtain ⟨r, T, E, -⟩ := (I.sc s1).facts (s1.w.trans hw)
    have H8 := r.2.1.2.2.2.1
    have hi' : ¬ zH w ≤ i := by omega
    simp (disch := omega) only [wX8_trade_12, E.2.2.2.1, nle, hi', nI1, not_true_eq_false, not_false_eq_true, false_implies, true_implies, and_true, true_and, and_self, nmM, if_true, if_false, or0, Int32.add_zero, forall_const, one_ne, zero_ne1, nz1, nz0, nI_z, cl, inN, Nat.le_refl, Nat.lt_irrefl, Nat.lt_succ_self, Bool.false_eq_true]
    rw [trd_succ] at ht
    refine xi_trade I hw s1 (by omega) (by omega) (fun h μ2 s2 => ?_) (fun h μ2 s2 => ?_)
    · rw [if_pos h] at ht
      rw [nI1]
      exact xs_trade I hw k j (i + 1) n μ2 (by omega) (by omega) ht s2
    · rw [if_neg h] at ht
      have := k μ2 s2
      rw [← ht] at this
      exact this
/-- m's sums as they are -/
theorem ms_sunNow {n : Nat} {w : Nat → Int32} {μ : qa_M} {K0 : qa_M → Prop} {Q : Int32 → qa_M → Prop} (E : ME μ (zH w) (zW w) (yp w (oT w)) (ypp w (oT w)) (yfo w (oT w)) (ytu w (oT w)) (sunW w (zP w)) (smellW w (zP w))) (hn : 60 < n) (k : ∀ μ', onlyA 106 μ μ' → (∀ h, h < zH w → μ'.1 106 h = aSun (yp w (oT w)) (sunW w (zP w)) h (zW w)) → K0 μ') : wX9_asksTrades_11 n 0 μ K0 Q := by
  obtain ⟨W20, H8, hW, hH, plt, hpl, hpp, hfo, htu, hsu, hsm⟩ := id E
  refine inv_loopF 30 (fun n i (σ : qa_M) => wX9_asksTrades_11 n i σ K0 Q) (zH w) (fun i σ => onlyA 106 μ σ ∧ ∀ h, h < i → σ.1 106 h = aSun (yp w (oT w)) (sunW w (zP w)) h (zW w)) ?_ ?_ (zH w) 0 μ n (by omega) (by omega) ⟨onlyA.rf _ μ, fun h hh => absurd hh (Nat.not_lt_zero h)⟩
  · intro n μ1 hm ⟨o1, t1⟩
    have h4 : μ1.1 92 4 = nI (zH w) := by rw [o1.2 _ _ (by omega)]; exact hH
    simp (disch := omega) only [wX9_asksTrades_11, s_mhouses, h4, nle, not_true_eq_false, not_false_eq_true, false_implies, true_implies, and_true, true_and, and_self, nmM, if_true, if_false, or0, Int32.add_zero, forall_const, one_ne, zero_ne1, nz1, nz0, nI_z, cl, inN, Nat.le_refl, Nat.lt_irrefl, Nat.lt_succ_self, Bool.false_eq_true]
    exact k μ1 o1 t1
  · intro n i μ1 hm hi ⟨o1, t1⟩ ih
    have h4 : μ1.1 92 4 = nI (zH w) := by rw [o1.2 _ _ (by omega)]; exact hH
    have E1 : ME μ1 (zH w) (zW w) (yp w (oT w)) (ypp w (oT w)) (yfo w (oT w)) (ytu w (oT w)) (sunW w (zP w)) (smellW w (zP w)) := ⟨W20, H8, by rw [o1.2 _ _ (by omega)]; exact hW, h4, plt, fun v hv h hh => by rw [o1.2 _ _ (by omega)]; exact hpl v hv h hh, fun v hv h hh => by rw [o1.2 _ _ (by omega)]; exact hpp v hv h hh, fun v hv => by rw [o1.2 _ _ (by omega)]; exact hfo v hv, fun v hv => by rw [o1.2 _ _ (by omega)]; exact htu v hv, fun p hp => by rw [o1.2 _ _ (by omega)]; exact hsu p hp, fun p hp => by rw [o1.2 _ _ (by omega)]; exact hsm p hp⟩
    have hi' : ¬ zH w ≤ i := by omega
    simp (disch := omega) only [wX9_asksTrades_11, s_mhouses, h4, nle, hi', m_sunAll E1, nI1, not_true_eq_false, not_false_eq_true, false_implies, true_implies, and_true, true_and, and_self, nmM, if_true, if_false, or0, Int32.add_zero, forall_const, one_ne, zero_ne1, nz1, nz0, nI_z, cl, inN, Nat.le_refl, Nat.lt_irrefl, Nat.lt_succ_self, Bool.false_eq_true]
    refine ih _ ⟨o1.put i _, fun h hh => ?_⟩
    by_cases e : h = i
    · rw [e, uIs]
    · rw [uIn _ _ (fun q => e q.2)]; exact t1 h (by omega)
def TJ (w : Nat → Int32) (μ0 μ : qa_M) (f : Int32) (c : Nat) : Prop := sc μ0 μ ∧ (∃ f0, MS μ w (oF w f0)) ∧ (∀ h, h < zH w → μ.1 106 h = aSun (yp w (oT w)) (sunW w (zP w)) h (zW w)) ∧ μ.1 91 31 = nI c ∧ μ.1 91 32 = f
theorem fnd_first {p : Nat → Bool} : ∀ (k i b : Nat), i ≤ b → b < i + k → p b = true → (∀ j, i ≤ j → j < b → p j = false) → fnd p i k = nI b
  | 0, i, b, h1, h2, _, _ => by omega
  | k + 1, i, b, h1, h2, h3, h4 => by
    unfold fnd
    by_cases e : i = b
    · subst e; rw [if_pos h3]
    · rw [if_neg (by rw [h4 i (Nat.le_refl i) (by omega)]; decide)]
      exact fnd_first k (i + 1) b (by omega) (by omega) h3 (fun j g1 g2 => h4 j (by omega) g2)
theorem mi_trade {n a c0 : Nat} {f0 : Int32} {w : Nat → Int32} {μ0 μ : qa_M} {K0 Q : Int32 → qa_M → Prop} (r : RZ w) (hw : μ0.1 92 = w) (J : TJ w μ0 μ f0 c0) (hc : c0 ≤ 8 * a) (ha : a < zH w) (hn : 100 < n) (k : ∀ μ' f, TJ w μ0 μ' f (inT w a c0) → inT w a c0 ≤ 8 * (a + 1) → (c0 ≠ 0 → f = f0 ∧ inT w a c0 ≠ 0) → (c0 = 0 → inT w a c0 = 0 → f = f0 ∧ trI w a = -1) → (c0 = 0 → inT w a c0 ≠ 0 → f = 10 * nI a + trI w a ∧ trI w a ≠ -1) → K0 (nI a) μ') : wX9_asksTrades_60 n (nI a) (nI (a + 1)) μ K0 Q := by
  have H8 := r.2.1.2.2.2.1
  refine inv_loopF 70 (fun n i (σ : Int32 × Nat × qa_M) => wX9_asksTrades_60 n (nI a) i σ.2.2 K0 Q) (zH w) (fun i σ => a + 1 ≤ i ∧ σ.2.1 = itr (fun b c => if gn w a b = true then c + 1 else c) (a + 1) (i - (a + 1)) c0 ∧ TJ w μ0 σ.2.2 σ.1 σ.2.1 ∧ σ.2.1 ≤ 8 * a + (i - (a + 1)) ∧ (c0 ≠ 0 → σ.1 = f0 ∧ σ.2.1 ≠ 0) ∧ (c0 = 0 → σ.2.1 = 0 → σ.1 = f0 ∧ ∀ j, a + 1 ≤ j → j < i → gn w a j = false) ∧ (c0 = 0 → σ.2.1 ≠ 0 → ∃ b, a + 1 ≤ b ∧ b < i ∧ gn w a b = true ∧ (∀ j, a + 1 ≤ j → j < b → gn w a j = false) ∧ σ.1 = 10 * nI a + nI b)) ?_ ?_ (zH w - (a + 1)) (a + 1) (f0, c0, μ) n (by omega) (by omega) ⟨by omega, by rw [Nat.sub_self]; rfl, J, by show c0 ≤ _; omega, fun h => ⟨rfl, h⟩, fun _ _ => ⟨rfl, fun j h1 h2 => by omega⟩, fun h1 h2 => absurd h1 h2⟩
  · intro n ⟨f, c, μ1⟩ hm ⟨hi, e1, J1, b1, q1, q2, q3⟩
    dsimp only at e1 J1 b1 q1 q2 q3 ⊢
    have h4 : μ1.1 92 4 = nI (zH w) := by rw [J1.1.w.trans hw]; exact r.1.2.2.2.1
    simp (disch := omega) only [wX9_asksTrades_60, s_mhouses, h4, nle, not_true_eq_false, not_false_eq_true, false_implies, true_implies, and_true, true_and, and_self, nmM, if_true, if_false, or0, Int32.add_zero, forall_const, one_ne, zero_ne1, nz1, nz0, nI_z, cl, inN, Nat.le_refl, Nat.lt_irrefl, Nat.lt_succ_self, Bool.false_eq_true]
    have ec : c = inT w a c0 := e1
    subst ec
    refine k μ1 f J1 (by omega) q1 (fun h1 h2 => ?_) (fun h1 h2 => ?_)
    · obtain ⟨g1, g2⟩ := q2 h1 h2
      exact ⟨g1, fnd_none _ _ (fun j h3 h4 => g2 j h3 (by omega))⟩
    · obtain ⟨b, b1, b2, b3, b4, b5⟩ := q3 h1 h2
      have e : trI w a = nI b := fnd_first _ _ b b1 (by omega) b3 b4
      rw [e]
      refine ⟨b5, ?_⟩
      intro z
      rw [neg1_ne (by omega)] at z
      exact z
  · intro n i ⟨f, c, μ1⟩ hm hi ⟨hi2, e1, J1, b1, q1, q2, q3⟩ ih
    dsimp only at e1 J1 b1 q1 q2 q3 ⊢
    have h4 : μ1.1 92 4 = nI (zH w) := by rw [J1.1.w.trans hw]; exact r.1.2.2.2.1
    have hi' : ¬ zH w ≤ i := by omega
    obtain ⟨s1, ⟨g0, M1⟩, t1, n1, p1⟩ := J1
    simp (disch := omega) only [wX9_asksTrades_60, s_mhouses, h4, nle, hi', not_true_eq_false, not_false_eq_true, false_implies, true_implies, and_true, true_and, and_self, nmM, if_true, if_false, or0, Int32.add_zero, forall_const, one_ne, zero_ne1, nz1, nz0, nI_z, cl, inN, Nat.le_refl, Nat.lt_irrefl, Nat.lt_succ_self, Bool.false_eq_true]
    refine m_try (o := oF w (swp a i id)) r hw ((s1.put91 23 _ (by omega)).put91 24 _ (by omega)) (M1.first ha hi) (fun hW => (r.law hW).1) (by omega) (fun μ2 s2 h2 M2 o2 E2 => ?_)
    have t2 : ∀ h, h < zH w → μ2.1 106 h = aSun (yp w (oT w)) (sunW w (zP w)) h (zW w) := fun h hh => by
      rw [o2.2 _ _ (by omega) (by omega) (by omega) (by omega)]; exact t1 h hh
    have n2 : μ2.1 91 31 = nI c := by
      rw [o2.2 _ _ (by omega) (by omega) (by omega) (by omega)]; exact n1
    have p2 : μ2.1 91 32 = f := by
      rw [o2.2 _ _ (by omega) (by omega) (by omega) (by omega)]; exact p1
    have stp : itr (fun b c => if gn w a b = true then c + 1 else c) (a + 1) (i + 1 - (a + 1)) c0 = if gn w a i = true then c + 1 else c := by
      rw [show i + 1 - (a + 1) = (i - (a + 1)) + 1 by clear q1 q2 q3 k ih; omega, itr_succ, ← e1, show a + 1 + (i - (a + 1)) = i by clear q1 q2 q3 k ih; omega]
    have skip : ¬ gn w a i = true → wX9_asksTrades_60 n (nI a) (nI (i + 1)) μ2 K0 Q := by
      intro g
      refine ih (f, c, μ2) ⟨by omega, by rw [stp, if_neg g], ⟨s2, ⟨_, M2⟩, t2, n2, p2⟩, by show c ≤ _; clear q1 q2 q3; omega, q1, fun h1 h2 => ?_, fun h1 h2 => ?_⟩
      · obtain ⟨z1, z2⟩ := q2 h1 h2
        refine ⟨z1, fun j h3 h4 => ?_⟩
        by_cases e : j = i
        · rw [e]; exact Bool.eq_false_iff.mpr g
        · exact z2 j h3 (by omega)
      · obtain ⟨b, y1, y2, y3, y4, y5⟩ := q3 h1 h2
        exact ⟨b, y1, by omega, y3, y4, y5⟩
    have take : gn w a i = true → ∀ x, (¬ c = 0 → x = f) → (c = 0 → x = 10 * nI a + nI i) → wX9_asksTrades_134 n (nI a) (nI i) x μ2 (fun v1 v2 μk => wX9_asksTrades_60 n v1 v2 μk K0 Q) Q := by
      intro g x x1 x2
      unfold wX9_asksTrades_134
      rw [nmM, nmM, uIn _ _ (fun e => by omega), n2, nI1, nI1]
      refine ih (x, c + 1, _) ⟨by omega, by rw [stp, if_pos g], ⟨(s2.put91 32 _ (by omega)).put91 31 _ (by omega), ⟨_, (M2.other 32 _ (by omega)).other 31 _ (by omega)⟩, t2, rfl, rfl⟩, by show c + 1 ≤ _; clear q1 q2 q3; omega, fun h => ?_, fun h1 h2 => absurd h2 (by show c + 1 ≠ 0; omega), fun h1 _ => ?_⟩
      · obtain ⟨z1, z2⟩ := q1 h
        exact ⟨by rw [← z1]; exact x1 z2, by show c + 1 ≠ 0; omega⟩
      · by_cases hc0 : c = 0
        · obtain ⟨z1, z2⟩ := q2 h1 hc0
          exact ⟨i, hi2, by omega, g, fun j h3 h4 => z2 j h3 h4, x2 hc0⟩
        · obtain ⟨b, y1, y2, y3, y4, y5⟩ := q3 h1 hc0
          exact ⟨b, y1, by omega, y3, y4, by show x = _; rw [x1 hc0]; exact y5⟩
    by_cases c1 : aSun (yp w (oF w (swp a i id))) (sunW w (zP w)) a (zW w) ≤ aSun (yp w (oT w)) (sunW w (zP w)) a (zW w)
    · have g : ¬ gn w a i = true := by unfold gn; rw [decide_eq_true_eq]; exact fun h => h.1 c1
      simp (disch := omega) only [m_sunAll E2, t2, c1, nI1, not_true_eq_false, not_false_eq_true, false_implies, true_implies, and_true, true_and, and_self, nmM, if_true, if_false, or0, Int32.add_zero, forall_const, one_ne, zero_ne1, nz1, nz0, nI_z, cl, inN, Nat.le_refl, Nat.lt_irrefl, Nat.lt_succ_self, Bool.false_eq_true]
      exact skip g
    · by_cases c2 : aSun (yp w (oF w (swp a i id))) (sunW w (zP w)) i (zW w) ≤ aSun (yp w (oT w)) (sunW w (zP w)) i (zW w)
      · have g : ¬ gn w a i = true := by unfold gn; rw [decide_eq_true_eq]; exact fun h => h.2 c2
        have c2' : ¬ aSun (yp w (oT w)) (sunW w (zP w)) i (zW w) < aSun (yp w (oF w (swp a i id))) (sunW w (zP w)) i (zW w) := by rw [fa_lt]; rw [fa_le] at c2; omega
        simp (disch := omega) only [m_sunAll E2, t2, c1, c2', nI1, not_true_eq_false, not_false_eq_true, false_implies, true_implies, and_true, true_and, and_self, nmM, if_true, if_false, or0, Int32.add_zero, forall_const, one_ne, zero_ne1, nz1, nz0, nI_z, cl, inN, Nat.le_refl, Nat.lt_irrefl, Nat.lt_succ_self, Bool.false_eq_true]
        exact skip g
      · have g : gn w a i = true := by unfold gn; rw [decide_eq_true_eq]; exact ⟨c1, c2⟩
        have c2' : aSun (yp w (oT w)) (sunW w (zP w)) i (zW w) < aSun (yp w (oF w (swp a i id))) (sunW w (zP w)) i (zW w) := fa_of_nle c2
        simp (disch := omega) only [m_sunAll E2, t2, c1, c2', n2, p2, not_true_eq_false, not_false_eq_true, false_implies, true_implies, and_true, true_and, and_self, nmM, if_true, if_false, or0, Int32.add_zero, forall_const, one_ne, zero_ne1, nz1, nz0, nI_z, cl, inN, Nat.le_refl, Nat.lt_irrefl, Nat.lt_succ_self, Bool.false_eq_true]
        refine ⟨fun h => take g f (fun _ => rfl) (fun h' => absurd h' h), fun h => take g _ (fun h' => absurd h h') (fun _ => rfl)⟩
theorem trd_skip {w : Nat → Int32} : ∀ (p i k : Nat), i ≤ p → p < i + k → (∀ j, i ≤ j → j < p → trI w j = -1) → trI w p ≠ -1 → trd w i k = 10 * nI p + trI w p
  | p, i, 0, h1, h2, _, _ => by omega
  | p, i, k + 1, h1, h2, h3, h4 => by
    unfold trd
    by_cases e : i = p
    · subst e; rw [if_neg h4]
    · rw [if_pos (h3 i (Nat.le_refl i) (by omega))]
      exact trd_skip p (i + 1) k (by omega) (by omega) (fun j g1 g2 => h3 j (by omega) g2) h4
theorem trd_none {w : Nat → Int32} : ∀ (k i : Nat), (∀ j, i ≤ j → j < i + k → trI w j = -1) → trd w i k = -1
  | 0, _, _ => rfl
  | k + 1, i, h => by
    unfold trd
    rw [if_pos (h i (Nat.le_refl i) (by omega))]
    exact trd_none k (i + 1) (fun j g1 g2 => h j (by omega) (by omega))
theorem ms_trade {n : Nat} {w : Nat → Int32} {μ0 μ : qa_M} {Q : Int32 → qa_M → Prop} (r : RZ w) (hw : μ0.1 92 = w) (J : TJ w μ0 μ (-1) 0) (hn : 200 < n) (k : ∀ μ', TJ w μ0 μ' (trd w 0 (zH w)) (trN w) → Q 1 μ') : wX9_asksTrades_48 n 0 μ Q := by
  have H8 := r.2.1.2.2.2.1
  refine inv_loopF 110 (fun n i (σ : Int32 × Nat × qa_M) => wX9_asksTrades_48 n i σ.2.2 Q) (zH w) (fun i σ => σ.2.1 = itr (fun a c => inT w a c) 0 i 0 ∧ TJ w μ0 σ.2.2 σ.1 σ.2.1 ∧ σ.2.1 ≤ 8 * i ∧ (σ.2.1 = 0 → σ.1 = -1 ∧ ∀ j, j < i → trI w j = -1) ∧ (σ.2.1 ≠ 0 → ∃ p, p < i ∧ (∀ j, j < p → trI w j = -1) ∧ trI w p ≠ -1 ∧ σ.1 = 10 * nI p + trI w p)) ?_ ?_ (zH w) 0 (-1, 0, μ) n (by omega) (by omega) ⟨rfl, J, Nat.zero_le _, fun _ => ⟨rfl, fun j hj => absurd hj (Nat.not_lt_zero j)⟩, fun h => absurd rfl h⟩
  · intro n ⟨f, c, μ1⟩ hm ⟨e1, J1, b1, q1, q2⟩
    dsimp only at e1 J1 b1 q1 q2 ⊢
    have h4 : μ1.1 92 4 = nI (zH w) := by rw [J1.1.w.trans hw]; exact r.1.2.2.2.1
    simp (disch := omega) only [wX9_asksTrades_48, s_mhouses, h4, nle, not_true_eq_false, not_false_eq_true, false_implies, true_implies, and_true, true_and, and_self, nmM, if_true, if_false, or0, Int32.add_zero, forall_const, one_ne, zero_ne1, nz1, nz0, nI_z, cl, inN, Nat.le_refl, Nat.lt_irrefl, Nat.lt_succ_self, Bool.false_eq_true]
    have ef : f = trd w 0 (zH w) := by
      by_cases h : c = 0
      · obtain ⟨z1, z2⟩ := q1 h
        rw [z1, trd_none (zH w) 0 (fun j _ h2 => z2 j (by omega))]
      · obtain ⟨p, p1, p2, p3, p4⟩ := q2 h
        rw [p4, trd_skip p 0 (zH w) (by omega) (by omega) (fun j _ h2 => p2 j h2) p3]
    have ec : c = trN w := e1
    rw [ef, ec] at J1
    exact k μ1 J1
  · intro n i ⟨f, c, μ1⟩ hm hi ⟨e1, J1, b1, q1, q2⟩ ih
    dsimp only at e1 J1 b1 q1 q2 ⊢
    have h4 : μ1.1 92 4 = nI (zH w) := by rw [J1.1.w.trans hw]; exact r.1.2.2.2.1
    have hi' : ¬ zH w ≤ i := by omega
    simp (disch := omega) only [wX9_asksTrades_48, s_mhouses, h4, nle, hi', nI1, not_true_eq_false, not_false_eq_true, false_implies, true_implies, and_true, true_and, and_self, nmM, if_true, if_false, or0, Int32.add_zero, forall_const, one_ne, zero_ne1, nz1, nz0, nI_z, cl, inN, Nat.le_refl, Nat.lt_irrefl, Nat.lt_succ_self, Bool.false_eq_true]
    refine mi_trade r hw J1 b1 hi (by omega) (fun μ2 f2 J2 b2 x1 x2 x3 => ?_)
    rw [nI1]
    refine ih (f2, inT w i c, μ2) ⟨by rw [itr_succ, Nat.zero_add, e1], J2, b2, fun h => ?_, fun h => ?_⟩
    · have hc : c = 0 := Classical.not_not.mp (fun z => (x1 z).2 h)
      obtain ⟨z1, z2⟩ := x2 hc h
      obtain ⟨y1, y2⟩ := q1 hc
      refine ⟨z1.trans y1, fun j hj => ?_⟩
      by_cases e : j = i
      · rw [e]; exact z2
      · exact y2 j (by omega)
    · by_cases hc : c = 0
      · obtain ⟨z1, z2⟩ := x3 hc h
        obtain ⟨y1, y2⟩ := q1 hc
        exact ⟨i, by omega, y2, z2, z1⟩
      · obtain ⟨z1, z2⟩ := x1 hc
        obtain ⟨p, p1, p2, p3, p4⟩ := q2 hc
        exact ⟨p, by omega, p2, p3, by show f2 = _; rw [z1]; exact p4⟩
theorem m_trades {n : Nat} {w : Nat → Int32} {μ : qa_M} {Q : Int32 → qa_M → Prop} (r : RZ w) (hw : μ.1 92 = w) (hN : 0 < zN w) (hn : 300 < n) (k : ∀ μ', sc μ μ' → μ'.1 91 32 = trd w 0 (zH w) → μ'.1 91 31 = nI (trN w) → Q 1 μ') : wX9_asksTrades n μ Q := by
  unfold wX9_asksTrades
  refine m_asks2 hw r (by omega) (fun μ1 s1 h1 M1 E1 => ?_)
  simp (disch := omega) only [qb_p hN, not_true_eq_false, not_false_eq_true, false_implies, true_implies, and_true, true_and, and_self, nmM, if_true, if_false, or0, Int32.add_zero, forall_const, one_ne, zero_ne1, nz1, nz0, nI_z, cl, inN, Nat.le_refl, Nat.lt_irrefl, Nat.lt_succ_self, Bool.false_eq_true]
  refine ms_sunNow E1 (by omega) (fun μ2 o2 t2 => ?_)
  have s2 := s1.onl o2 (by omega)
  have e91 : ∀ j, μ2.1 91 j = μ1.1 91 j := fun j => o2.2 _ _ (by omega)
  obtain ⟨m1, m2, m3, m4, m5, m6, m7, m8, m9⟩ := M1
  have M2 : MS μ2 w (oF w id) := ⟨by rw [e91]; exact m1, by rw [e91]; exact m2, by rw [e91]; exact m3, by rw [e91]; exact m4, by rw [e91]; exact m5, by rw [e91, e91]; exact m6, fun p hp => by rw [o2.2 _ _ (by omega)]; exact m7 p hp, fun p hp => by rw [o2.2 _ _ (by omega)]; exact m8 p hp, fun p hp => by rw [o2.2 _ _ (by omega)]; exact m9 p hp⟩
  refine ms_trade r hw ⟨(s2.put91 31 _ (by omega)).put91 32 _ (by omega), ⟨id, (M2.other 31 _ (by omega)).other 32 _ (by omega)⟩, t2, rfl, rfl⟩ (by omega) (fun μ3 J => k μ3 J.1 J.2.2.2.2 J.2.2.2.1)
theorem c_52 {Ln n : Nat} {xs : Nat → Int32} {K : Int32 → qa_M → Prop} {i : Int32} {μ : qa_M} (I : INV μ) (hn : 2000 ≤ n) (k : ∀ μ', INV μ' → K (i + 6) μ') (v1 : vp_in (i + 1) Ln) (v2 : vp_in (i + 2) Ln) (v3 : vp_in (i + 3) Ln) (v4 : vp_in (i + 4) Ln) (v5 : vp_in (i + 5) Ln) : wLc_52 Ln xs n K i μ := by
  unfold wLc_52
  obtain ⟨w, hw⟩ : ∃ w, μ.1 92 = w := ⟨_, rfl⟩
  obtain ⟨r, T, E, G⟩ := I.facts hw
  obtain ⟨r1, r2, r3, r4⟩ := r.n0
  have L8 := G.1
  have N1 := r.2.1.1
  obtain ⟨W20, H8, hW, hH, plt, hpl, hpp, hfo, htu, hsu, hsm⟩ := id E
  by_cases gT : 0 < zN w
  · simp (disch := omega) only [wX8_trade, xT1 T r, not_true_eq_false, not_false_eq_true, false_implies, true_implies, and_true, true_and, and_self, nmM, if_true, if_false, or0, Int32.add_zero, forall_const, one_ne, zero_ne1, nz1, nz0, nI_z, cl, inN]
    refine xs_trade I hw (fun μ1 s1 => ?_) (zH w) 0 n μ (by omega) (by omega) rfl (sc.rf μ)
    have hw1 := s1.w.trans hw
    simp only [wX9_trade]
    refine m_trades r hw1 gT (by omega) (fun μ2 s2 e32 e31 => ?_)
    simp (disch := omega) only [e32, not_true_eq_false, not_false_eq_true, false_implies, true_implies, and_true, true_and, and_self, nmM, if_true, if_false, or0, Int32.add_zero, forall_const, one_ne, zero_ne1, nz1, nz0, nI_z, cl, inN]
    exact k μ2 ((I.sc s1).sc s2)
  · simp (disch := omega) only [wX8_trade, xT0 T r gT, not_true_eq_false, not_false_eq_true, false_implies, true_implies, and_true, true_and, and_self, nmM, if_true, if_false, or0, Int32.add_zero, forall_const, one_ne, zero_ne1, nz1, nz0, nI_z, cl, inN]
    simp only [wX9_trade, wX9_asksTrades]
    refine m_asks2 hw r (by omega) (fun μ' s h' M E' => ?_)
    simp (disch := omega) only [qb_n gT, not_true_eq_false, not_false_eq_true, false_implies, true_implies, and_true, true_and, and_self, nmM, if_true, if_false, or0, Int32.add_zero, forall_const, one_ne, zero_ne1, nz1, nz0, nI_z, cl, inN]
    exact k μ' (I.sc s)
theorem c_53 {Ln n : Nat} {xs : Nat → Int32} {K : Int32 → qa_M → Prop} {i : Int32} {μ : qa_M} (I : INV μ) (hn : 2000 ≤ n) (k : ∀ μ', INV μ' → K (i + 6) μ') (v1 : vp_in (i + 1) Ln) (v2 : vp_in (i + 2) Ln) (v3 : vp_in (i + 3) Ln) (v4 : vp_in (i + 4) Ln) (v5 : vp_in (i + 5) Ln) : wLc_53 Ln xs n K i μ := by
  unfold wLc_53
  obtain ⟨w, hw⟩ : ∃ w, μ.1 92 = w := ⟨_, rfl⟩
  obtain ⟨r, T, E, G⟩ := I.facts hw
  obtain ⟨r1, r2, r3, r4⟩ := r.n0
  have L8 := G.1
  have N1 := r.2.1.1
  obtain ⟨W20, H8, hW, hH, plt, hpl, hpp, hfo, htu, hsu, hsm⟩ := id E
  by_cases gT : 0 < zN w
  · simp (disch := omega) only [wX8_trades, xT1 T r, not_true_eq_false, not_false_eq_true, false_implies, true_implies, and_true, true_and, and_self, nmM, if_true, if_false, or0, Int32.add_zero, forall_const, one_ne, zero_ne1, nz1, nz0, nI_z, cl, inN]
    refine xs_trades I hw (by omega) (fun μ1 s1 => ?_)
    have hw1 := s1.w.trans hw
    simp only [wX9_trades]
    refine m_trades r hw1 gT (by omega) (fun μ2 s2 e32 e31 => ?_)
    simp (disch := omega) only [e31, not_true_eq_false, not_false_eq_true, false_implies, true_implies, and_true, true_and, and_self, nmM, if_true, if_false, or0, Int32.add_zero, forall_const, one_ne, zero_ne1, nz1, nz0, nI_z, cl, inN]
    exact k μ2 ((I.sc s1).sc s2)
  · simp (disch := omega) only [wX8_trades, xT0 T r gT, not_true_eq_false, not_false_eq_true, false_implies, true_implies, and_true, true_and, and_self, nmM, if_true, if_false, or0, Int32.add_zero, forall_const, one_ne, zero_ne1, nz1, nz0, nI_z, cl, inN]
    simp only [wX9_trades, wX9_asksTrades]
    refine m_asks2 hw r (by omega) (fun μ' s h' M E' => ?_)
    simp (disch := omega) only [qb_n gT, not_true_eq_false, not_false_eq_true, false_implies, true_implies, and_true, true_and, and_self, nmM, if_true, if_false, or0, Int32.add_zero, forall_const, one_ne, zero_ne1, nz1, nz0, nI_z, cl, inN]
    exact k μ' (I.sc s)
