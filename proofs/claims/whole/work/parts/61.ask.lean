theorem z_le : ((0 : Int32) ≤ 0) = True := eq_true (by decide)
def kth (ft : Nat → Bool) (k : Nat) : Nat := fa_first (fun j => ft j && decide (fb_ct ft j = k)) 256
theorem kth_eq {ft : Nat → Bool} {j : Nat} (hj : j < 256) (h : ft j = true) : kth ft (fb_ct ft j) = j := by
  unfold kth
  have h1 := fa_first_no (fun i => ft i && decide (fb_ct ft i = fb_ct ft j)) 256
  have h2 := fa_first_yes (fun i => ft i && decide (fb_ct ft i = fb_ct ft j)) 256
  generalize fa_first (fun i => ft i && decide (fb_ct ft i = fb_ct ft j)) 256 = q at h1 h2
  by_cases c : j < q
  · have := h1 j c
    simp only [h, decide_true, Bool.true_and, reduceCtorEq] at this
  · have := h2 (by omega)
    rw [Bool.and_eq_true, decide_eq_true_eq] at this
    exact fb_ct_kth_one this.1 h this.2
def TK (w : Nat → Int32) (f : Nat → Int64) (p v k : Nat) : Int32 := ytu w (oS w (nI (kth (fit w f p) k))) v
theorem XS.tk {μ : qa_M} {w : Nat → Int32} {f : Nat → Int64} {p B : Nat} (hB : B ≤ 256) (J : XS μ w (fit w f p) B) {v : Nat} (hv : v < zW w) (k : Nat) (hk : k < fb_ct (fit w f p) B) : μ.1 43 (k * 20 + v) = TK w f p v k := by
  obtain ⟨j, j1, j2, rfl⟩ := fb_ct_kth hk
  unfold TK
  rw [kth_eq (by omega) j2]
  exact J.2.2.2 j j1 j2 v hv
theorem MT.tk {μ : qa_M} {w : Nat → Int32} {f : Nat → Int64} {p B : Nat} (hB : B ≤ 256) (J : MT μ w (fit w f p) B) {v : Nat} (hv : v < zW w) (k : Nat) (hk : k < fb_ct (fit w f p) B) : μ.1 108 (20 * k + v) = TK w f p v k := by
  obtain ⟨j, j1, j2, rfl⟩ := fb_ct_kth hk
  unfold TK
  rw [kth_eq (by omega) j2]
  exact J.2.2 j j1 j2 v hv
def mxF (c : Nat → Nat) (M : Nat) : Nat := itr (fun i s => if s < c i then c i else s) 0 M 0
theorem mx_succ (c : Nat → Nat) (M : Nat) : mxF c (M + 1) = if mxF c M < c M then c M else mxF c M := by unfold mxF; rw [itr_succ, Nat.zero_add]
theorem mx_le {c : Nat → Nat} {b : Nat} : ∀ M, mxF c M ≤ b ↔ ∀ i, i < M → c i ≤ b
  | 0 => ⟨fun _ i hi => absurd hi (Nat.not_lt_zero i), fun _ => Nat.zero_le b⟩
  | M + 1 => by
    have ih := mx_le (c := c) (b := b) M
    rw [mx_succ]
    constructor
    · intro h i hi
      by_cases q : i = M
      · rw [q]; split at h <;> omega
      · exact ih.mp (by split at h <;> omega) i (by omega)
    · intro h
      have h1 := ih.mpr (fun i hi => h i (by omega))
      have h2 := h M (by omega)
      split <;> omega
def cnt (t : Nat → Int32) (a M : Nat) : Nat := fb_ct (fun b => decide (t a = t b)) M
theorem cnt_le (t : Nat → Int32) (a M : Nat) : cnt t a M ≤ M := fb_ct_le _ M
def WRf (t : Nat → Int32) (M : Nat) : Nat := mxF (fun a => cnt t a M) M
theorem wr_le (t : Nat → Int32) (M : Nat) : WRf t M ≤ M := (mx_le M).mpr (fun i _ => cnt_le t i M)
theorem wr_eq (t : Nat → Int32) (M : Nat) : mxF (fun i => cnt t i (i + 1)) M = WRf t M := by
  apply Nat.le_antisymm
  · rw [mx_le]
    intro i hi
    exact Nat.le_trans (fb_ct_mono _ (by omega)) ((mx_le (c := fun a => cnt t a M) M).mp (Nat.le_refl _) i hi)
  · unfold WRf
    rw [mx_le]
    intro a ha
    obtain ⟨i, hi, e, hl⟩ := fb_last (p := fun i => t a = t i) (n := M) ⟨a, ha, rfl⟩
    have q : cnt t a M = cnt t i (i + 1) := by
      unfold cnt
      have e1 : (fun b => decide (t a = t b)) = (fun b => decide (t i = t b)) := by rw [e]
      have sp := fb_ct_split (fun b => decide (t i = t b)) (i + 1) (M - (i + 1))
      rw [show i + 1 + (M - (i + 1)) = M by omega] at sp
      rw [e1, sp, fb_ct_zero.mpr (fun k hk => decide_eq_false (fun z => hl (i + 1 + k) (by omega) (by omega) (e.trans z))), Nat.add_zero]
    rw [q]
    exact (mx_le (c := fun i => cnt t i (i + 1)) M).mp (Nat.le_refl _) i hi
theorem ixT_inj {x y : Int32} (h1 : -320 ≤ x.toInt ∧ x.toInt ≤ 320) (h2 : -320 ≤ y.toInt ∧ y.toInt ≤ 320) (e : ixT x = ixT y) : x = y := by
  obtain ⟨-, a1, -, -⟩ := ixT_rng h1.1 h1.2
  obtain ⟨-, a2, -, -⟩ := ixT_rng h2.1 h2.2
  have z : (400 : Int32).toInt = 400 := rfl
  have b1 : (x + 400).toInt = x.toInt + 400 := by rw [fb_addI (by omega) (by omega), z]
  have b2 : (y + 400).toInt = y.toInt + 400 := by rw [fb_addI (by omega) (by omega), z]
  rw [a1, e, ← a2, b2] at b1
  rw [fa_eq]
  omega
theorem cT_cnt {t : Nat → Int32} {i : Nat} (hr : ∀ k, k ≤ i → -320 ≤ (t k).toInt ∧ (t k).toInt ≤ 320) : cT t i (ixT (t i)) + 1 = cnt t i (i + 1) := by
  unfold cnt cT
  rw [ct_t (decide_eq_true rfl)]
  congr 1
  refine fb_ct_cong (fun k hk => ?_)
  by_cases e : t i = t k
  · rw [decide_eq_true e, e, decide_eq_true rfl]
  · rw [decide_eq_false e, decide_eq_false (fun q => e (ixT_inj (hr i (Nat.le_refl i)) (hr k (by omega)) q.symm))]
theorem x_worst {n v M : Nat} {t : Nat → Int32} {μ : qa_M} {Q : Int32 → qa_M → Prop} (h42 : μ.1 42 0 = nI M) (hM : M ≤ 256) (hv : v < 20) (ht : ∀ k, k < M → μ.1 43 (k * 20 + v) = t k) (hr : ∀ k, k < M → -320 ≤ (t k).toInt ∧ (t k).toInt ≤ 320) (hn : 900 < n) (kk : ∀ μ', onlyA 45 μ μ' → Q (nI (WRf t M)) μ') : wX4_worst n (nI v) μ Q := by
  unfold wX4_worst wX5_clear
  refine s_fill (by omega) (by omega) (fun μ0 o0 z0 => ?_)
  rw [← wr_eq] at kk
  refine inv_loopF 60 (fun n i (σ : Nat × qa_M) => wX4_worst_9 n (nI v) (nI σ.1) i σ.2 Q) M (fun i σ => σ.1 = mxF (fun i => cnt t i (i + 1)) i ∧ σ.1 ≤ i ∧ onlyA 45 μ σ.2 ∧ ∀ p, p < 801 → σ.2.1 45 p = nI (cT t i p)) ?_ ?_ M 0 (0, μ0) n (by omega) (by omega) ⟨rfl, Nat.le_refl 0, o0, fun p hp => z0 p hp⟩
  · intro n ⟨s, μ1⟩ hm ⟨e1, e0, o1, t1⟩
    dsimp only at e1 e0 o1 t1 ⊢
    have a1 : μ1.1 42 0 = nI M := by rw [o1.2 _ _ (by omega)]; exact h42
    simp (disch := omega) only [wX4_worst_9, a1, nle, not_true_eq_false, not_false_eq_true, false_implies, true_implies, and_true, true_and, and_self, nmM, if_true, if_false, or0, Int32.add_zero, forall_const, one_ne, zero_ne1, nz1, nz0, nI_z, cl, inN, Nat.le_refl, Nat.lt_irrefl, Nat.lt_succ_self, Bool.false_eq_true]
    rw [e1]
    exact kk μ1 o1
  · intro n i ⟨s, μ1⟩ hm hi ⟨e1, e0, o1, t1⟩ ih
    dsimp only at e1 e0 o1 t1 ⊢
    have a1 : μ1.1 42 0 = nI M := by rw [o1.2 _ _ (by omega)]; exact h42
    have a2 : μ1.1 43 (i * 20 + v) = t i := by rw [o1.2 _ _ (by omega)]; exact ht i hi
    have ix : nI i * 20 + nI v = nI (i * 20 + v) := by rw [l20, pk_mul, nI_add]
    have hi' : ¬ M ≤ i := by omega
    obtain ⟨g1, g2⟩ := hr i hi
    obtain ⟨x1, x2, x3, x4⟩ := ixT_rng g1 g2
    have c1 := cT_le t i (ixT (t i))
    have c2 := cT_cnt (t := t) (i := i) (fun k hk => hr k (by omega))
    simp (disch := omega) only [wX4_worst_9, a1, a2, ix, nle, hi', wX5_add, x2, x3, x4, t1, uIs, nI1, s_max, nlt, not_true_eq_false, not_false_eq_true, false_implies, true_implies, and_true, true_and, and_self, nmM, if_true, if_false, or0, Int32.add_zero, forall_const, one_ne, zero_ne1, nz1, nz0, nI_z, cl, inN, Nat.le_refl, Nat.lt_irrefl, Nat.lt_succ_self, Bool.false_eq_true]
    rw [c2, ← apply_ite nI]
    have stp := mx_succ (fun i => cnt t i (i + 1)) i
    rw [← e1] at stp
    refine ih ((if s < cnt t i (i + 1) then cnt t i (i + 1) else s), qa_uI μ1 45 (ixT (t i)) (nI (cnt t i (i + 1)))) ⟨stp.symm, ?_, o1.put _ _, fun p hp => ?_⟩
    · have := cnt_le t i (i + 1)
      show (if s < cnt t i (i + 1) then cnt t i (i + 1) else s) ≤ i + 1
      split <;> omega
    · show (qa_uI μ1 45 (ixT (t i)) (nI (cnt t i (i + 1)))).1 45 p = _
      rw [uI1, cT_succ]
      by_cases e : ixT (t i) = p
      · rw [if_pos ⟨rfl, e.symm⟩, if_pos e, ← c2, e]
      · rw [if_neg (fun q => e q.2.symm), if_neg e, Nat.add_zero]; exact t1 p hp
theorem itr_cnt (p : Nat → Bool) : ∀ M, itr (fun b s => s + (if p b then 1 else 0)) 0 M 0 = fb_ct p M
  | 0 => rfl
  | M + 1 => by rw [itr_succ, Nat.zero_add, itr_cnt p M, fb_ct_succ]
theorem ml_cnt {n v a M : Nat} {x y : Int32} {t : Nat → Int32} {μ : qa_M} {K0 : Int32 → Int32 → Int32 → Int32 → Int32 → qa_M → Prop} {Q : Int32 → qa_M → Prop} (h35 : μ.1 91 35 = nI M) (hM : M ≤ 256) (hv : v < 20) (ha : a < M) (ht : ∀ k, k < M → μ.1 108 (20 * k + v) = t k) (hn : 300 < n) : wX9_askOf_40 n x (nI v) y (nI a) 0 0 μ K0 Q ↔ K0 x (nI v) y (nI a) (nI (cnt t a M)) μ := by
  unfold cnt
  rw [← itr_cnt]
  refine for_iff 0 (fun n i (s : Nat) => wX9_askOf_40 n x (nI v) y (nI a) (nI s) i μ K0 Q) (fun s => K0 x (nI v) y (nI a) (nI s) μ) M (fun b s => s + (if decide (t a = t b) then 1 else 0)) (fun i s => s ≤ i) ?_ ?_ (fun i s hi hs => by split <;> omega) M 0 0 n (by omega) (by omega) (Nat.le_refl 0)
  · intro n s _ hs
    show wX9_askOf_40 (n + 1) _ _ _ _ _ _ _ _ _ ↔ _
    simp (disch := omega) only [wX9_askOf_40, h35, nle, not_true_eq_false, not_false_eq_true, false_implies, true_implies, and_true, true_and, and_self, nmM, if_true, if_false, or0, Int32.add_zero, forall_const, one_ne, zero_ne1, nz1, nz0, nI_z, cl, inN, Nat.le_refl, Nat.lt_irrefl, Nat.lt_succ_self, Bool.false_eq_true]
  · intro n i s _ hi hs
    show wX9_askOf_40 (n + 1) _ _ _ _ _ _ _ _ _ ↔ _
    have ix : ∀ k, 20 * nI k + nI v = nI (20 * k + v) := fun k => by rw [l20, pk_mul, nI_add]
    have hi' : ¬ M ≤ i := by omega
    have e1 := ht a ha
    have e2 := ht i hi
    simp (disch := omega) only [wX9_askOf_40, wX9_askOf_83, h35, nle, hi', ix, e1, e2, nI1, not_true_eq_false, not_false_eq_true, false_implies, true_implies, and_true, true_and, and_self, nmM, if_true, if_false, or0, Int32.add_zero, forall_const, one_ne, zero_ne1, nz1, nz0, nI_z, cl, inN, Nat.le_refl, Nat.lt_irrefl, Nat.lt_succ_self, Bool.false_eq_true]
    by_cases c : t a = t i
    · simp only [c, decide_true, nI1, not_true_eq_false, not_false_eq_true, false_implies, true_implies, and_true, true_and, and_self, nmM, if_true, if_false, or0, Int32.add_zero, forall_const, one_ne, zero_ne1, nz1, nz0, nI_z, cl, inN, Nat.le_refl, Nat.lt_irrefl, Nat.lt_succ_self, Bool.false_eq_true]
    · simp only [c, decide_false, nI1, Nat.add_zero, not_true_eq_false, not_false_eq_true, false_implies, true_implies, and_true, true_and, and_self, nmM, if_true, if_false, or0, Int32.add_zero, forall_const, one_ne, zero_ne1, nz1, nz0, nI_z, cl, inN, Nat.le_refl, Nat.lt_irrefl, Nat.lt_succ_self, Bool.false_eq_true]
theorem ml_worst {n v M : Nat} {x : Int32} {t : Nat → Int32} {μ : qa_M} {K0 : Int32 → Int32 → Int32 → qa_M → Prop} {Q : Int32 → qa_M → Prop} (h35 : μ.1 91 35 = nI M) (hM : M ≤ 256) (hv : v < 20) (ht : ∀ k, k < M → μ.1 108 (20 * k + v) = t k) (hn : 700 < n) : wX9_askOf_25 n x (nI v) 0 0 μ K0 Q ↔ K0 x (nI v) (nI (WRf t M)) μ := by
  unfold WRf mxF
  refine for_iff 310 (fun n i (s : Nat) => wX9_askOf_25 n x (nI v) (nI s) i μ K0 Q) (fun s => K0 x (nI v) (nI s) μ) M (fun i s => if s < cnt t i M then cnt t i M else s) (fun i s => s ≤ M) ?_ ?_ (fun i s hi hs => by have := cnt_le t i M; split <;> omega) M 0 0 n (by omega) (by omega) (Nat.zero_le M)
  · intro n s _ hs
    show wX9_askOf_25 (n + 1) _ _ _ _ _ _ _ ↔ _
    simp (disch := omega) only [wX9_askOf_25, h35, nle, not_true_eq_false, not_false_eq_true, false_implies, true_implies, and_true, true_and, and_self, nmM, if_true, if_false, or0, Int32.add_zero, forall_const, one_ne, zero_ne1, nz1, nz0, nI_z, cl, inN, Nat.le_refl, Nat.lt_irrefl, Nat.lt_succ_self, Bool.false_eq_true]
  · intro n i s hm hi hs
    show wX9_askOf_25 (n + 1) _ _ _ _ _ _ _ ↔ _
    have hi' : ¬ M ≤ i := by omega
    have c1 := cnt_le t i M
    simp (disch := omega) only [wX9_askOf_25, h35, nle, hi', ml_cnt h35 hM hv hi ht, s_max, nlt, nI1, not_true_eq_false, not_false_eq_true, false_implies, true_implies, and_true, true_and, and_self, nmM, if_true, if_false, or0, Int32.add_zero, forall_const, one_ne, zero_ne1, nz1, nz0, nI_z, cl, inN, Nat.le_refl, Nat.lt_irrefl, Nat.lt_succ_self, Bool.false_eq_true]
    by_cases c : s < cnt t i M <;> simp only [c, not_true_eq_false, not_false_eq_true, false_implies, true_implies, and_true, true_and, and_self, nmM, if_true, if_false, or0, Int32.add_zero, forall_const, one_ne, zero_ne1, nz1, nz0, nI_z, cl, inN, Nat.le_refl, Nat.lt_irrefl, Nat.lt_succ_self, Bool.false_eq_true]
def askF (WR : Nat → Nat) (M i : Nat) (s : Option Nat) : Option Nat := if s.elim M WR ≤ WR i then s else some i
def askS (WR : Nat → Nat) (M W : Nat) : Option Nat := itr (askF WR M) 0 W none
theorem elim_le {WR : Nat → Nat} {M : Nat} (h : ∀ v, WR v ≤ M) (s : Option Nat) : s.elim M WR ≤ M := by
  cases s with
  | none => exact Nat.le_refl M
  | some q => exact h q
theorem askF_lt {WR : Nat → Nat} {M i W : Nat} {s : Option Nat} (hi : i < W) (h : ∀ q, s = some q → q < W) : ∀ q, askF WR M i s = some q → q < W := by
  intro q e
  unfold askF at e
  split at e
  · exact h q e
  · cases e; exact hi
theorem xs_ask {n M W : Nat} {tk : Nat → Nat → Int32} {μ : qa_M} {Q : Int32 → qa_M → Prop} (h1 : μ.1 (μ.2.2 1 2) 1 = nI W) (hne : μ.2.2 1 2 ≠ 45) (hW : W ≤ 20) (h42 : μ.1 42 0 = nI M) (hM : M ≤ 256) (ht : ∀ v, v < W → ∀ k, k < M → μ.1 43 (k * 20 + v) = tk v k) (hr : ∀ v k, -320 ≤ (tk v k).toInt ∧ (tk v k).toInt ≤ 320) (hn : 1000 < n) (kk : ∀ μ', onlyA 45 μ μ' → Q (oI (askS (fun v => WRf (tk v) M) M W)) μ') : wX8_weekToAsk n μ Q := by
  unfold wX8_weekToAsk
  rw [nmM, h42]
  have wl : ∀ v, WRf (tk v) M ≤ M := fun v => wr_le _ M
  refine inv_loopF 950 (fun n i (σ : Option Nat × qa_M) => wX8_weekToAsk_12 n (oI σ.1) (nI (σ.1.elim M (fun v => WRf (tk v) M))) i σ.2 Q) W (fun i σ => σ.1 = itr (askF (fun v => WRf (tk v) M) M) 0 i none ∧ onlyA 45 μ σ.2) ?_ ?_ W 0 (none, μ) n (by omega) (by omega) ⟨rfl, onlyA.rf _ _⟩
  · intro n ⟨s, μ1⟩ hm ⟨e1, o1⟩
    dsimp only at e1 o1 ⊢
    have a1 : μ1.1 (μ1.2.2 1 2) 1 = nI W := by rw [o1.1, o1.2 _ _ hne]; exact h1
    simp (disch := omega) only [wX8_weekToAsk_12, a1, nle, not_true_eq_false, not_false_eq_true, false_implies, true_implies, and_true, true_and, and_self, nmM, if_true, if_false, or0, Int32.add_zero, forall_const, one_ne, zero_ne1, nz1, nz0, nI_z, cl, inN, Nat.le_refl, Nat.lt_irrefl, Nat.lt_succ_self, Bool.false_eq_true]
    rw [e1]
    exact kk μ1 o1
  · intro n i ⟨s, μ1⟩ hm hi ⟨e1, o1⟩ ih
    dsimp only at e1 o1 ⊢
    have a1 : μ1.1 (μ1.2.2 1 2) 1 = nI W := by rw [o1.1, o1.2 _ _ hne]; exact h1
    have a2 : μ1.1 42 0 = nI M := by rw [o1.2 _ _ (by omega)]; exact h42
    have hi' : ¬ W ≤ i := by omega
    have el := elim_le wl s
    have wi := wl i
    simp (disch := omega) only [wX8_weekToAsk_12, a1, nle, hi', not_true_eq_false, not_false_eq_true, false_implies, true_implies, and_true, true_and, and_self, nmM, if_true, if_false, or0, Int32.add_zero, forall_const, one_ne, zero_ne1, nz1, nz0, nI_z, cl, inN, Nat.le_refl, Nat.lt_irrefl, Nat.lt_succ_self, Bool.false_eq_true]
    refine x_worst (t := tk i) a2 hM (by omega) (fun k hk => by rw [o1.2 _ _ (by omega)]; exact ht i hi k hk) (fun k _ => hr i k) (by omega) (fun μ2 o2 => ?_)
    have stp : itr (askF (fun v => WRf (tk v) M) M) 0 (i + 1) none = askF (fun v => WRf (tk v) M) M i s := by rw [itr_succ, Nat.zero_add, e1]
    rw [nle _ _ (by omega) (by omega), nI1]
    refine ⟨fun h => ih (s, μ2) ⟨by rw [stp]; unfold askF; rw [if_pos h], o1.tr o2⟩, fun h => ih (some i, μ2) ⟨by rw [stp]; unfold askF; rw [if_neg h], o1.tr o2⟩⟩
theorem ms_ask {n M W : Nat} {tk : Nat → Nat → Int32} {μ : qa_M} {Q : Int32 → qa_M → Prop} (h0 : μ.1 92 0 = nI W) (hW : W ≤ 20) (h35 : μ.1 91 35 = nI M) (hM : M ≤ 256) (ht : ∀ v, v < W → ∀ k, k < M → μ.1 108 (20 * k + v) = tk v k) (hn : 1000 < n) (kk : ∀ μ', sc μ μ' → μ'.1 91 36 = nI ((askS (fun v => WRf (tk v) M) M W).elim M (fun v => WRf (tk v) M)) → Q (oI (askS (fun v => WRf (tk v) M) M W)) μ') : wX9_askOf n μ Q := by
  unfold wX9_askOf
  rw [nmM, h35]
  have wl : ∀ v, WRf (tk v) M ≤ M := fun v => wr_le _ M
  refine inv_loopF 800 (fun n i (σ : Option Nat × qa_M) => wX9_askOf_12 n (oI σ.1) i σ.2 Q) W (fun i σ => σ.1 = itr (askF (fun v => WRf (tk v) M) M) 0 i none ∧ sc μ σ.2 ∧ (∀ b j, b ≠ 91 → σ.2.1 b j = μ.1 b j) ∧ σ.2.1 91 35 = nI M ∧ σ.2.1 91 36 = nI (σ.1.elim M (fun v => WRf (tk v) M))) ?_ ?_ W 0 (none, qa_uI μ 91 36 (nI M)) n (by omega) (by omega) ⟨rfl, (sc.rf μ).put91 36 _ (by omega), fun b j hb => uIn _ _ (fun e => hb e.1), (uIn _ _ (fun e => by omega)).trans h35, uIs _ _ _ _⟩
  · intro n ⟨s, μ1⟩ hm ⟨e1, s1, o1, e35, e36⟩
    dsimp only at e1 s1 o1 e35 e36 ⊢
    have a0 : μ1.1 92 0 = nI W := by rw [o1 _ _ (by omega)]; exact h0
    simp (disch := omega) only [wX9_askOf_12, s_mweeks, a0, nle, not_true_eq_false, not_false_eq_true, false_implies, true_implies, and_true, true_and, and_self, nmM, if_true, if_false, or0, Int32.add_zero, forall_const, one_ne, zero_ne1, nz1, nz0, nI_z, cl, inN, Nat.le_refl, Nat.lt_irrefl, Nat.lt_succ_self, Bool.false_eq_true]
    have kk := kk μ1 s1
    rw [show askS (fun v => WRf (tk v) M) M W = s from e1.symm] at kk
    exact kk e36
  · intro n i ⟨s, μ1⟩ hm hi ⟨e1, s1, o1, e35, e36⟩ ih
    dsimp only at e1 s1 o1 e35 e36 ⊢
    have a0 : μ1.1 92 0 = nI W := by rw [o1 _ _ (by omega)]; exact h0
    have hi' : ¬ W ≤ i := by omega
    have el := elim_le wl s
    have wi := wl i
    simp (disch := omega) only [wX9_askOf_12, s_mweeks, a0, nle, hi', ml_worst (t := tk i) e35 hM (show i < 20 by omega) (fun k hk => by rw [o1 _ _ (by omega)]; exact ht i hi k hk), e36, nlt, nI1, not_true_eq_false, not_false_eq_true, false_implies, true_implies, and_true, true_and, and_self, nmM, if_true, if_false, or0, Int32.add_zero, forall_const, one_ne, zero_ne1, nz1, nz0, nI_z, cl, inN, Nat.le_refl, Nat.lt_irrefl, Nat.lt_succ_self, Bool.false_eq_true]
    have stp : itr (askF (fun v => WRf (tk v) M) M) 0 (i + 1) none = askF (fun v => WRf (tk v) M) M i s := by rw [itr_succ, Nat.zero_add, e1]
    refine ⟨fun h => ih (some i, qa_uI μ1 91 36 (nI (WRf (tk i) M))) ⟨by rw [stp]; unfold askF; dsimp only; rw [if_neg (by omega)], s1.put91 36 _ (by omega), fun b j hb => (uIn _ _ (fun e => hb e.1)).trans (o1 b j hb), (uIn _ _ (fun e => by omega)).trans e35, uIs _ _ _ _⟩, fun h => ih (s, μ1) ⟨by rw [stp]; unfold askF; dsimp only; rw [if_pos (by omega)], s1, o1, e35, e36⟩⟩
theorem ml_and {n M : Nat} {a : Int32} {μ : qa_M} {K0 Q : Int32 → qa_M → Prop} (h35 : μ.1 91 35 = nI M) (hM : M ≤ 256) (hn : 300 < n) : wX9_surely_24 n a 0 μ K0 Q ↔ K0 (itr (fun k a => a &&& μ.1 107 k) 0 M a) μ := by
  refine for_iff 0 (fun n i (s : Int32) => wX9_surely_24 n s i μ K0 Q) (fun s => K0 s μ) M (fun k a => a &&& μ.1 107 k) (fun _ _ => True) ?_ ?_ (fun _ _ _ _ => trivial) M 0 a n (by omega) (by omega) trivial
  · intro n s _ _
    show wX9_surely_24 (n + 1) _ _ _ _ _ ↔ _
    simp (disch := omega) only [wX9_surely_24, h35, nle, not_true_eq_false, not_false_eq_true, false_implies, true_implies, and_true, true_and, and_self, nmM, if_true, if_false, or0, Int32.add_zero, forall_const, one_ne, zero_ne1, nz1, nz0, nI_z, cl, inN, Nat.le_refl, Nat.lt_irrefl, Nat.lt_succ_self, Bool.false_eq_true]
  · intro n i s _ hi _
    show wX9_surely_24 (n + 1) _ _ _ _ _ ↔ _
    have hi' : ¬ M ≤ i := by omega
    simp (disch := omega) only [wX9_surely_24, h35, nle, hi', nI1, not_true_eq_false, not_false_eq_true, false_implies, true_implies, and_true, true_and, and_self, nmM, if_true, if_false, or0, Int32.add_zero, forall_const, one_ne, zero_ne1, nz1, nz0, nI_z, cl, inN, Nat.le_refl, Nat.lt_irrefl, Nat.lt_succ_self, Bool.false_eq_true]
theorem ml_or {n M : Nat} {a : Int32} {μ : qa_M} {K0 Q : Int32 → qa_M → Prop} (h35 : μ.1 91 35 = nI M) (hM : M ≤ 256) (hn : 300 < n) : wX9_never_17 n a 0 μ K0 Q ↔ K0 (itr (fun k a => a ||| μ.1 107 k) 0 M a) μ := by
  refine for_iff 0 (fun n i (s : Int32) => wX9_never_17 n s i μ K0 Q) (fun s => K0 s μ) M (fun k a => a ||| μ.1 107 k) (fun _ _ => True) ?_ ?_ (fun _ _ _ _ => trivial) M 0 a n (by omega) (by omega) trivial
  · intro n s _ _
    show wX9_never_17 (n + 1) _ _ _ _ _ ↔ _
    simp (disch := omega) only [wX9_never_17, h35, nle, not_true_eq_false, not_false_eq_true, false_implies, true_implies, and_true, true_and, and_self, nmM, if_true, if_false, or0, Int32.add_zero, forall_const, one_ne, zero_ne1, nz1, nz0, nI_z, cl, inN, Nat.le_refl, Nat.lt_irrefl, Nat.lt_succ_self, Bool.false_eq_true]
  · intro n i s _ hi _
    show wX9_never_17 (n + 1) _ _ _ _ _ ↔ _
    have hi' : ¬ M ≤ i := by omega
    simp (disch := omega) only [wX9_never_17, h35, nle, hi', nI1, not_true_eq_false, not_false_eq_true, false_implies, true_implies, and_true, true_and, and_self, nmM, if_true, if_false, or0, Int32.add_zero, forall_const, one_ne, zero_ne1, nz1, nz0, nI_z, cl, inN, Nat.le_refl, Nat.lt_irrefl, Nat.lt_succ_self, Bool.false_eq_true]
theorem GOOD.x {μ : qa_M} {w : Nat → Int32} {v : Int32} {s p : Nat} {f : Nat → Int64} (r : RZ w) (D : GOOD μ w v ((zW w : Int) - 1) (-400) 400 s p f) : GOOD μ w v (nI (zW w) - 1).toInt (-400 : Int32).toInt (400 : Int32).toInt s p f := by rw [Wm1 r]; exact D
theorem BAD.x {μ : qa_M} {w : Nat → Int32} {v c : Int32} (r : RZ w) (D : BAD μ w v ((zW w : Int) - 1) (-400) 400 c) : BAD μ w v (nI (zW w) - 1).toInt (-400 : Int32).toInt (400 : Int32).toInt c := by rw [Wm1 r]; exact D
theorem tw45 {t : Nat} (h : qa_tw t) : t ≠ 45 := by rcases h with rfl | rfl | rfl | rfl | rfl <;> decide
theorem c_54 {Ln n : Nat} {xs : Nat → Int32} {K : Int32 → qa_M → Prop} {i : Int32} {μ : qa_M} (I : INV μ) (hn : 2000 ≤ n) (k : ∀ μ', INV μ' → K (i + 6) μ') (v1 : vp_in (i + 1) Ln) (v2 : vp_in (i + 2) Ln) (v3 : vp_in (i + 3) Ln) (v4 : vp_in (i + 4) Ln) (v5 : vp_in (i + 5) Ln) : wLc_54 Ln xs n K i μ := by
  unfold wLc_54
  simp only [v1, v2, v3, v4, v5, true_and]
  generalize xs (i + 1).toNatClampNeg = a
  obtain ⟨w, hw⟩ : ∃ w, μ.1 92 = w := ⟨_, rfl⟩
  obtain ⟨r, T, E, G⟩ := I.facts hw
  obtain ⟨r1, r2, r3, r4⟩ := r.n0
  have L8 := G.1
  have N1 := r.2.1.1
  obtain ⟨W20, H8, hW, hH, plt, hpl, hpp, hfo, htu, hsu, hsm⟩ := id E
  rcases slot_dec I w a ((zW w : Int) - 1) (-400) 400 with ⟨c, D⟩ | ⟨s, p, f, D⟩
  · obtain ⟨c0, c1⟩ := bad_neg D
    simp only [wX8_leans, refT r T, x_bad r T (show 50 < n by omega) (D.x r), c0, not_true_eq_false, not_false_eq_true, false_implies, true_implies, and_true, true_and, and_self, nmM, if_true, if_false, or0, Int32.add_zero, forall_const, one_ne, zero_ne1, nz1, nz0, nI_z, cl, inN, Nat.le_refl, Nat.lt_irrefl, Nat.lt_succ_self, Bool.false_eq_true]
    simp only [wX9_leans, m_badL r hw (show 50 < n by omega) D, c1, not_true_eq_false, not_false_eq_true, false_implies, true_implies, and_true, true_and, and_self, nmM, if_true, if_false, or0, Int32.add_zero, forall_const, one_ne, zero_ne1, nz1, nz0, nI_z, cl, inN, Nat.le_refl, Nat.lt_irrefl, Nat.lt_succ_self, Bool.false_eq_true]
    exact k μ I
  · obtain ⟨rfl, gT, S, gd⟩ := id D
    have hs := S.1.1
    simp (disch := omega) only [wX8_leans, refT r T, x_good r T (show 50 < n by omega) (D.x r), not_true_eq_false, not_false_eq_true, false_implies, true_implies, and_true, true_and, and_self, nmM, if_true, if_false, or0, Int32.add_zero, forall_const, one_ne, zero_ne1, nz1, nz0, nI_z, cl, inN, Nat.le_refl, Nat.lt_irrefl, Nat.lt_succ_self, Bool.false_eq_true]
    refine x_seek I hw S gd gT rfl (by omega) (fun μ1 s1 J1 => ?_)
    simp only [J1.1, wX9_leans]
    refine m_goodL r (s1.w.trans hw) ⟨rfl, gT, S.sc s1, gd⟩ rfl (by omega) (fun μ2 s2 J2 => ?_)
    simp only [J2.1, z_le, not_true_eq_false, not_false_eq_true, false_implies, true_implies, and_true, true_and, and_self, nmM, if_true, if_false, or0, Int32.add_zero, forall_const, one_ne, zero_ne1, nz1, nz0, nI_z, cl, inN, Nat.le_refl, Nat.lt_irrefl, Nat.lt_succ_self, Bool.false_eq_true]
    exact k μ2 ((I.sc s1).sc s2)
theorem c_55 {Ln n : Nat} {xs : Nat → Int32} {K : Int32 → qa_M → Prop} {i : Int32} {μ : qa_M} (I : INV μ) (hn : 2000 ≤ n) (k : ∀ μ', INV μ' → K (i + 6) μ') (v1 : vp_in (i + 1) Ln) (v2 : vp_in (i + 2) Ln) (v3 : vp_in (i + 3) Ln) (v4 : vp_in (i + 4) Ln) (v5 : vp_in (i + 5) Ln) : wLc_55 Ln xs n K i μ := by
  unfold wLc_55
  simp only [v1, v2, v3, v4, v5, true_and]
  generalize xs (i + 1).toNatClampNeg = a
  obtain ⟨w, hw⟩ : ∃ w, μ.1 92 = w := ⟨_, rfl⟩
  obtain ⟨r, T, E, G⟩ := I.facts hw
  obtain ⟨r1, r2, r3, r4⟩ := r.n0
  have L8 := G.1
  have N1 := r.2.1.1
  obtain ⟨W20, H8, hW, hH, plt, hpl, hpp, hfo, htu, hsu, hsm⟩ := id E
  rcases slot_dec I w a ((zW w : Int) - 1) (-400) 400 with ⟨c, D⟩ | ⟨s, p, f, D⟩
  · obtain ⟨c0, c1⟩ := bad_neg D
    simp only [wX8_surely, refT r T, x_bad r T (show 50 < n by omega) (D.x r), c0, not_true_eq_false, not_false_eq_true, false_implies, true_implies, and_true, true_and, and_self, nmM, if_true, if_false, or0, Int32.add_zero, forall_const, one_ne, zero_ne1, nz1, nz0, nI_z, cl, inN, Nat.le_refl, Nat.lt_irrefl, Nat.lt_succ_self, Bool.false_eq_true]
    simp only [wX9_surely, m_badL r hw (show 50 < n by omega) D, c1, not_true_eq_false, not_false_eq_true, false_implies, true_implies, and_true, true_and, and_self, nmM, if_true, if_false, or0, Int32.add_zero, forall_const, one_ne, zero_ne1, nz1, nz0, nI_z, cl, inN, Nat.le_refl, Nat.lt_irrefl, Nat.lt_succ_self, Bool.false_eq_true]
    exact k μ I
  · obtain ⟨rfl, gT, S, gd⟩ := id D
    have hs := S.1.1
    have hB := (pw1 H8).2
    have hM := fb_ct_le (fit w f p) (2 ^ zH w)
    simp (disch := omega) only [wX8_surely, refT r T, x_good r T (show 50 < n by omega) (D.x r), not_true_eq_false, not_false_eq_true, false_implies, true_implies, and_true, true_and, and_self, nmM, if_true, if_false, or0, Int32.add_zero, forall_const, one_ne, zero_ne1, nz1, nz0, nI_z, cl, inN, Nat.le_refl, Nat.lt_irrefl, Nat.lt_succ_self, Bool.false_eq_true]
    refine x_seek I hw S gd gT rfl (by omega) (fun μ1 s1 J1 => ?_)
    have m0 : ∀ x, x = (if fb_ct (fit w f p) (2 ^ zH w) = 0 then -1 else andF (fit w f p) (2 ^ zH w) (lowB (zH w))) → wX9_surely n (nI s) μ1 (fun r2 μ2 => (x = r2 → K (i + 6) μ2) ∧ (¬ x = r2 → False)) := by
      intro x ex
      simp only [wX9_surely]
      refine m_goodL r (s1.w.trans hw) ⟨rfl, gT, S.sc s1, gd⟩ rfl (by omega) (fun μ2 s2 J2 => ?_)
      have h4 : μ2.1 92 4 = nI (zH w) := by rw [s2.w.trans (s1.w.trans hw)]; exact r.1.2.2.2.1
      have e : itr (fun k a => a &&& μ2.1 107 k) 0 (fb_ct (fit w f p) (2 ^ zH w)) (lowB (zH w)) = andF (fit w f p) (2 ^ zH w) (lowB (zH w)) := itr_ct (op := fun a b => a &&& b) (g := μ2.1 107) (h := nI) _ J2.2.1
      simp (disch := omega) only [z_le, s_mhouses, h4, ml_and J2.1, J2.1, show ((1 : Int32) <<< (nI (zH w) &&& 31)) - 1 = lowB (zH w) from rfl, e, not_true_eq_false, not_false_eq_true, false_implies, true_implies, and_true, true_and, and_self, nmM, if_true, if_false, or0, Int32.add_zero, forall_const, one_ne, zero_ne1, nz1, nz0, nI_z, cl, inN, Nat.le_refl, Nat.lt_irrefl, Nat.lt_succ_self, Bool.false_eq_true]
      by_cases c : fb_ct (fit w f p) (2 ^ zH w) = 0
      · rw [if_pos c] at ex
        simp only [c, ex, not_true_eq_false, not_false_eq_true, false_implies, true_implies, and_true, true_and, and_self, nmM, if_true, if_false, or0, Int32.add_zero, forall_const, one_ne, zero_ne1, nz1, nz0, nI_z, cl, inN, Nat.le_refl, Nat.lt_irrefl, Nat.lt_succ_self, Bool.false_eq_true]
        exact k μ2 ((I.sc s1).sc s2)
      · rw [if_neg c] at ex
        simp only [c, ex, not_true_eq_false, not_false_eq_true, false_implies, true_implies, and_true, true_and, and_self, nmM, if_true, if_false, or0, Int32.add_zero, forall_const, one_ne, zero_ne1, nz1, nz0, nI_z, cl, inN, Nat.le_refl, Nat.lt_irrefl, Nat.lt_succ_self, Bool.false_eq_true]
        exact k μ2 ((I.sc s1).sc s2)
    simp (disch := omega) only [J1.1, J1.2.1, not_true_eq_false, not_false_eq_true, false_implies, true_implies, and_true, true_and, and_self, nmM, if_true, if_false, or0, Int32.add_zero, forall_const, one_ne, zero_ne1, nz1, nz0, nI_z, cl, inN, Nat.le_refl, Nat.lt_irrefl, Nat.lt_succ_self, Bool.false_eq_true]
    exact ⟨fun h => m0 _ (by rw [if_neg h]), fun h => m0 _ (by rw [if_pos h])⟩
theorem c_56 {Ln n : Nat} {xs : Nat → Int32} {K : Int32 → qa_M → Prop} {i : Int32} {μ : qa_M} (I : INV μ) (hn : 2000 ≤ n) (k : ∀ μ', INV μ' → K (i + 6) μ') (v1 : vp_in (i + 1) Ln) (v2 : vp_in (i + 2) Ln) (v3 : vp_in (i + 3) Ln) (v4 : vp_in (i + 4) Ln) (v5 : vp_in (i + 5) Ln) : wLc_56 Ln xs n K i μ := by
  unfold wLc_56
  simp only [v1, v2, v3, v4, v5, true_and]
  generalize xs (i + 1).toNatClampNeg = a
  obtain ⟨w, hw⟩ : ∃ w, μ.1 92 = w := ⟨_, rfl⟩
  obtain ⟨r, T, E, G⟩ := I.facts hw
  obtain ⟨r1, r2, r3, r4⟩ := r.n0
  have L8 := G.1
  have N1 := r.2.1.1
  obtain ⟨W20, H8, hW, hH, plt, hpl, hpp, hfo, htu, hsu, hsm⟩ := id E
  rcases slot_dec I w a ((zW w : Int) - 1) (-400) 400 with ⟨c, D⟩ | ⟨s, p, f, D⟩
  · obtain ⟨c0, c1⟩ := bad_neg D
    simp only [wX8_never, refT r T, x_bad r T (show 50 < n by omega) (D.x r), c0, not_true_eq_false, not_false_eq_true, false_implies, true_implies, and_true, true_and, and_self, nmM, if_true, if_false, or0, Int32.add_zero, forall_const, one_ne, zero_ne1, nz1, nz0, nI_z, cl, inN, Nat.le_refl, Nat.lt_irrefl, Nat.lt_succ_self, Bool.false_eq_true]
    simp only [wX9_never, m_badL r hw (show 50 < n by omega) D, c1, not_true_eq_false, not_false_eq_true, false_implies, true_implies, and_true, true_and, and_self, nmM, if_true, if_false, or0, Int32.add_zero, forall_const, one_ne, zero_ne1, nz1, nz0, nI_z, cl, inN, Nat.le_refl, Nat.lt_irrefl, Nat.lt_succ_self, Bool.false_eq_true]
    exact k μ I
  · obtain ⟨rfl, gT, S, gd⟩ := id D
    have hs := S.1.1
    have hB := (pw1 H8).2
    have hM := fb_ct_le (fit w f p) (2 ^ zH w)
    simp (disch := omega) only [wX8_never, refT r T, x_good r T (show 50 < n by omega) (D.x r), not_true_eq_false, not_false_eq_true, false_implies, true_implies, and_true, true_and, and_self, nmM, if_true, if_false, or0, Int32.add_zero, forall_const, one_ne, zero_ne1, nz1, nz0, nI_z, cl, inN, Nat.le_refl, Nat.lt_irrefl, Nat.lt_succ_self, Bool.false_eq_true]
    refine x_seek I hw S gd gT rfl (by omega) (fun μ1 s1 J1 => ?_)
    obtain ⟨-, T1, E1, -⟩ := (I.sc s1).facts (s1.w.trans hw)
    have m0 : ∀ x, x = (if fb_ct (fit w f p) (2 ^ zH w) = 0 then -1 else lowB (zH w) &&& (orF (fit w f p) (2 ^ zH w) ^^^ -1)) → wX9_never n (nI s) μ1 (fun r2 μ2 => (x = r2 → K (i + 6) μ2) ∧ (¬ x = r2 → False)) := by
      intro x ex
      simp only [wX9_never]
      refine m_goodL r (s1.w.trans hw) ⟨rfl, gT, S.sc s1, gd⟩ rfl (by omega) (fun μ2 s2 J2 => ?_)
      have h4 : μ2.1 92 4 = nI (zH w) := by rw [s2.w.trans (s1.w.trans hw)]; exact r.1.2.2.2.1
      have e : itr (fun k a => a ||| μ2.1 107 k) 0 (fb_ct (fit w f p) (2 ^ zH w)) 0 = orF (fit w f p) (2 ^ zH w) := itr_ct (op := fun a b => a ||| b) (g := μ2.1 107) (h := nI) _ J2.2.1
      simp (disch := omega) only [z_le, s_mhouses, h4, ml_or J2.1, J2.1, show ((1 : Int32) <<< (nI (zH w) &&& 31)) - 1 = lowB (zH w) from rfl, e, not_true_eq_false, not_false_eq_true, false_implies, true_implies, and_true, true_and, and_self, nmM, if_true, if_false, or0, Int32.add_zero, forall_const, one_ne, zero_ne1, nz1, nz0, nI_z, cl, inN, Nat.le_refl, Nat.lt_irrefl, Nat.lt_succ_self, Bool.false_eq_true]
      by_cases c : fb_ct (fit w f p) (2 ^ zH w) = 0
      · rw [if_pos c] at ex
        simp only [c, ex, not_true_eq_false, not_false_eq_true, false_implies, true_implies, and_true, true_and, and_self, nmM, if_true, if_false, or0, Int32.add_zero, forall_const, one_ne, zero_ne1, nz1, nz0, nI_z, cl, inN, Nat.le_refl, Nat.lt_irrefl, Nat.lt_succ_self, Bool.false_eq_true]
        exact k μ2 ((I.sc s1).sc s2)
      · rw [if_neg c] at ex
        simp only [c, ex, not_true_eq_false, not_false_eq_true, false_implies, true_implies, and_true, true_and, and_self, nmM, if_true, if_false, or0, Int32.add_zero, forall_const, one_ne, zero_ne1, nz1, nz0, nI_z, cl, inN, Nat.le_refl, Nat.lt_irrefl, Nat.lt_succ_self, Bool.false_eq_true]
        exact k μ2 ((I.sc s1).sc s2)
    simp (disch := omega) only [J1.1, J1.2.2.1, E1.2.2.2.1, lowB_x, not_true_eq_false, not_false_eq_true, false_implies, true_implies, and_true, true_and, and_self, nmM, if_true, if_false, or0, Int32.add_zero, forall_const, one_ne, zero_ne1, nz1, nz0, nI_z, cl, inN, Nat.le_refl, Nat.lt_irrefl, Nat.lt_succ_self, Bool.false_eq_true]
    exact ⟨fun h => m0 _ (by rw [if_neg h]), fun h => m0 _ (by rw [if_pos h])⟩
theorem c_57 {Ln n : Nat} {xs : Nat → Int32} {K : Int32 → qa_M → Prop} {i : Int32} {μ : qa_M} (I : INV μ) (hn : 2000 ≤ n) (k : ∀ μ', INV μ' → K (i + 6) μ') (v1 : vp_in (i + 1) Ln) (v2 : vp_in (i + 2) Ln) (v3 : vp_in (i + 3) Ln) (v4 : vp_in (i + 4) Ln) (v5 : vp_in (i + 5) Ln) : wLc_57 Ln xs n K i μ := by
  unfold wLc_57
  simp only [v1, v2, v3, v4, v5, true_and]
  generalize xs (i + 1).toNatClampNeg = a
  obtain ⟨w, hw⟩ : ∃ w, μ.1 92 = w := ⟨_, rfl⟩
  obtain ⟨r, T, E, G⟩ := I.facts hw
  obtain ⟨r1, r2, r3, r4⟩ := r.n0
  have L8 := G.1
  have N1 := r.2.1.1
  obtain ⟨W20, H8, hW, hH, plt, hpl, hpp, hfo, htu, hsu, hsm⟩ := id E
  rcases slot_dec I w a ((zW w : Int) - 1) (-400) 400 with ⟨c, D⟩ | ⟨s, p, f, D⟩
  · obtain ⟨c0, c1⟩ := bad_neg D
    simp only [wX8_ask, refT r T, x_bad r T (show 50 < n by omega) (D.x r), c0, not_true_eq_false, not_false_eq_true, false_implies, true_implies, and_true, true_and, and_self, nmM, if_true, if_false, or0, Int32.add_zero, forall_const, one_ne, zero_ne1, nz1, nz0, nI_z, cl, inN, Nat.le_refl, Nat.lt_irrefl, Nat.lt_succ_self, Bool.false_eq_true]
    simp only [wX9_ask, m_badL r hw (show 50 < n by omega) D, c1, not_true_eq_false, not_false_eq_true, false_implies, true_implies, and_true, true_and, and_self, nmM, if_true, if_false, or0, Int32.add_zero, forall_const, one_ne, zero_ne1, nz1, nz0, nI_z, cl, inN, Nat.le_refl, Nat.lt_irrefl, Nat.lt_succ_self, Bool.false_eq_true]
    exact k μ I
  · obtain ⟨rfl, gT, S, gd⟩ := id D
    have hs := S.1.1
    have hB := (pw1 H8).2
    have hM := fb_ct_le (fit w f p) (2 ^ zH w)
    have lawo := r.law (by have := r4 gT; omega)
    simp (disch := omega) only [wX8_ask, refT r T, x_good r T (show 50 < n by omega) (D.x r), not_true_eq_false, not_false_eq_true, false_implies, true_implies, and_true, true_and, and_self, nmM, if_true, if_false, or0, Int32.add_zero, forall_const, one_ne, zero_ne1, nz1, nz0, nI_z, cl, inN, Nat.le_refl, Nat.lt_irrefl, Nat.lt_succ_self, Bool.false_eq_true]
    refine x_seek I hw S gd gT rfl (by omega) (fun μ1 s1 J1 => ?_)
    obtain ⟨-, T1, E1, -⟩ := (I.sc s1).facts (s1.w.trans hw)
    refine xs_ask (tk := TK w f p) E1.2.2.1 (tw45 (I.sc s1).tw) W20 J1.1 (by omega) (fun v hv k hk => J1.tk hB hv k hk) (fun v k => ytu_rng r v lawo.1) (by omega) (fun μ2 o2 => ?_)
    have s2 : sc μ μ2 := s1.onl o2 (by omega)
    simp only [wX9_ask]
    refine m_goodL r (s2.w.trans hw) ⟨rfl, gT, S.sc s2, gd⟩ rfl (by omega) (fun μ3 s3 J3 => ?_)
    have h0 : μ3.1 92 0 = nI (zW w) := by rw [s3.w.trans (s2.w.trans hw)]; exact r.1.2.1
    simp only [z_le, not_true_eq_false, not_false_eq_true, false_implies, true_implies, and_true, true_and, and_self, nmM, if_true, if_false, or0, Int32.add_zero, forall_const, one_ne, zero_ne1, nz1, nz0, nI_z, cl, inN, Nat.le_refl, Nat.lt_irrefl, Nat.lt_succ_self, Bool.false_eq_true]
    refine ms_ask (tk := TK w f p) h0 W20 J3.1 (by omega) (fun v hv k hk => J3.tk hB hv k hk) (by omega) (fun μ4 s4 e4 => ?_)
    simp only [not_true_eq_false, not_false_eq_true, false_implies, true_implies, and_true, true_and, and_self, nmM, if_true, if_false, or0, Int32.add_zero, forall_const, one_ne, zero_ne1, nz1, nz0, nI_z, cl, inN, Nat.le_refl, Nat.lt_irrefl, Nat.lt_succ_self, Bool.false_eq_true]
    exact k μ4 (((I.sc s2).sc s3).sc s4)
theorem c_58 {Ln n : Nat} {xs : Nat → Int32} {K : Int32 → qa_M → Prop} {i : Int32} {μ : qa_M} (I : INV μ) (hn : 2000 ≤ n) (k : ∀ μ', INV μ' → K (i + 6) μ') (v1 : vp_in (i + 1) Ln) (v2 : vp_in (i + 2) Ln) (v3 : vp_in (i + 3) Ln) (v4 : vp_in (i + 4) Ln) (v5 : vp_in (i + 5) Ln) : wLc_58 Ln xs n K i μ := by
  unfold wLc_58
  simp only [v1, v2, v3, v4, v5, true_and]
  generalize xs (i + 1).toNatClampNeg = a
  obtain ⟨w, hw⟩ : ∃ w, μ.1 92 = w := ⟨_, rfl⟩
  obtain ⟨r, T, E, G⟩ := I.facts hw
  obtain ⟨r1, r2, r3, r4⟩ := r.n0
  have L8 := G.1
  have N1 := r.2.1.1
  obtain ⟨W20, H8, hW, hH, plt, hpl, hpp, hfo, htu, hsu, hsm⟩ := id E
  rcases slot_dec I w a ((zW w : Int) - 1) (-400) 400 with ⟨c, D⟩ | ⟨s, p, f, D⟩
  · obtain ⟨c0, c1⟩ := bad_neg D
    simp only [wX8_leaves, refT r T, x_bad r T (show 50 < n by omega) (D.x r), c0, not_true_eq_false, not_false_eq_true, false_implies, true_implies, and_true, true_and, and_self, nmM, if_true, if_false, or0, Int32.add_zero, forall_const, one_ne, zero_ne1, nz1, nz0, nI_z, cl, inN, Nat.le_refl, Nat.lt_irrefl, Nat.lt_succ_self, Bool.false_eq_true]
    simp only [wX9_leaves, m_badL r hw (show 50 < n by omega) D, c1, not_true_eq_false, not_false_eq_true, false_implies, true_implies, and_true, true_and, and_self, nmM, if_true, if_false, or0, Int32.add_zero, forall_const, one_ne, zero_ne1, nz1, nz0, nI_z, cl, inN, Nat.le_refl, Nat.lt_irrefl, Nat.lt_succ_self, Bool.false_eq_true]
    exact k μ I
  · obtain ⟨rfl, gT, S, gd⟩ := id D
    have hs := S.1.1
    have hB := (pw1 H8).2
    have hM := fb_ct_le (fit w f p) (2 ^ zH w)
    have lawo := r.law (by have := r4 gT; omega)
    simp (disch := omega) only [wX8_leaves, refT r T, x_good r T (show 50 < n by omega) (D.x r), not_true_eq_false, not_false_eq_true, false_implies, true_implies, and_true, true_and, and_self, nmM, if_true, if_false, or0, Int32.add_zero, forall_const, one_ne, zero_ne1, nz1, nz0, nI_z, cl, inN, Nat.le_refl, Nat.lt_irrefl, Nat.lt_succ_self, Bool.false_eq_true]
    refine x_seek I hw S gd gT rfl (by omega) (fun μ1 s1 J1 => ?_)
    obtain ⟨-, T1, E1, -⟩ := (I.sc s1).facts (s1.w.trans hw)
    refine xs_ask (tk := TK w f p) E1.2.2.1 (tw45 (I.sc s1).tw) W20 J1.1 (by omega) (fun v hv k hk => J1.tk hB hv k hk) (fun v k => ytu_rng r v lawo.1) (by omega) (fun μ2 o2 => ?_)
    have s2 : sc μ μ2 := s1.onl o2 (by omega)
    have m0 : ∀ (x : Int32) (μ5 : qa_M), sc μ μ5 → x = nI ((askS (fun v => WRf (TK w f p v) (fb_ct (fit w f p) (2 ^ zH w))) (fb_ct (fit w f p) (2 ^ zH w)) (zW w)).elim (fb_ct (fit w f p) (2 ^ zH w)) (fun v => WRf (TK w f p v) (fb_ct (fit w f p) (2 ^ zH w)))) → wX9_leaves n (nI s) μ5 (fun r2 μ2 => (x = r2 → K (i + 6) μ2) ∧ (¬ x = r2 → False)) := by
      intro x μ5 s5 ex
      simp only [wX9_leaves]
      refine m_goodL r (s5.w.trans hw) ⟨rfl, gT, S.sc s5, gd⟩ rfl (by omega) (fun μ3 s3 J3 => ?_)
      have h0 : μ3.1 92 0 = nI (zW w) := by rw [s3.w.trans (s5.w.trans hw)]; exact r.1.2.1
      simp only [z_le, not_true_eq_false, not_false_eq_true, false_implies, true_implies, and_true, true_and, and_self, nmM, if_true, if_false, or0, Int32.add_zero, forall_const, one_ne, zero_ne1, nz1, nz0, nI_z, cl, inN, Nat.le_refl, Nat.lt_irrefl, Nat.lt_succ_self, Bool.false_eq_true]
      refine ms_ask (tk := TK w f p) h0 W20 J3.1 (by omega) (fun v hv k hk => J3.tk hB hv k hk) (by omega) (fun μ4 s4 e4 => ?_)
      rw [e4, ← ex]
      simp only [not_true_eq_false, not_false_eq_true, false_implies, true_implies, and_true, true_and, and_self, nmM, if_true, if_false, or0, Int32.add_zero, forall_const, one_ne, zero_ne1, nz1, nz0, nI_z, cl, inN, Nat.le_refl, Nat.lt_irrefl, Nat.lt_succ_self, Bool.false_eq_true]
      exact k μ4 (((I.sc s5).sc s3).sc s4)
    have ql : ∀ q, askS (fun v => WRf (TK w f p v) (fb_ct (fit w f p) (2 ^ zH w))) (fb_ct (fit w f p) (2 ^ zH w)) (zW w) = some q → q < zW w := itr_inv (fun _ (s : Option Nat) => ∀ q, s = some q → q < zW w) (zW w) 0 none (fun q e => nomatch e) (fun j s _ hj h => askF_lt (by omega) h)
    cases q : askS (fun v => WRf (TK w f p v) (fb_ct (fit w f p) (2 ^ zH w))) (fb_ct (fit w f p) (2 ^ zH w)) (zW w) with
    | none =>
      have e42 : μ2.1 42 0 = nI (fb_ct (fit w f p) (2 ^ zH w)) := by rw [o2.2 _ _ (by omega)]; exact J1.1
      simp only [oI, e42, not_true_eq_false, not_false_eq_true, false_implies, true_implies, and_true, true_and, and_self, nmM, if_true, if_false, or0, Int32.add_zero, forall_const, one_ne, zero_ne1, nz1, nz0, nI_z, cl, inN, Nat.le_refl, Nat.lt_irrefl, Nat.lt_succ_self, Bool.false_eq_true]
      exact m0 _ μ2 s2 (by rw [q]; rfl)
    | some v =>
      have hv := ql v q
      have e42 : μ2.1 42 0 = nI (fb_ct (fit w f p) (2 ^ zH w)) := by rw [o2.2 _ _ (by omega)]; exact J1.1
      simp (disch := omega) only [oI, neg1_ne, not_true_eq_false, not_false_eq_true, false_implies, true_implies, and_true, true_and, and_self, nmM, if_true, if_false, or0, Int32.add_zero, forall_const, one_ne, zero_ne1, nz1, nz0, nI_z, cl, inN, Nat.le_refl, Nat.lt_irrefl, Nat.lt_succ_self, Bool.false_eq_true]
      refine x_worst (t := TK w f p v) e42 (by omega) (by omega) (fun k hk => by rw [o2.2 _ _ (by omega)]; exact J1.tk hB hv k hk) (fun k _ => ytu_rng r v lawo.1) (by omega) (fun μ5 o5 => ?_)
      exact m0 _ μ5 (s2.onl o5 (by omega)) (by rw [q]; rfl)
