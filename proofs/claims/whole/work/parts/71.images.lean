theorem c0n : (0 : Int32).toNatClampNeg = 0 := rfl
theorem c30n : (30 : Int32).toNatClampNeg = 30 := rfl
theorem cpn (μ : qa_M) {a0 a sp dp n b j : Nat} (h : b ≠ a) : (qa_cpI μ a0 a sp dp n).1 b j = μ.1 b j := if_neg h
theorem cps (μ : qa_M) {a0 a n j : Nat} (h : j < n) : (qa_cpI μ a0 a 0 0 n).1 a j = μ.1 a0 j := by
  show (if a = a then va_cpy (μ.1 a0) (μ.1 a) 0 0 n j else μ.1 a j) = _
  rw [if_pos rfl, pk_cpy_in (by omega) (by omega), Nat.zero_add, Nat.sub_zero]
theorem cpI2 (μ : qa_M) (a0 a sp dp n : Nat) : (qa_cpI μ a0 a sp dp n).2 = μ.2 := rfl
theorem le114 {i : Nat} (h : i < 2 ^ 31) : ((114 : Int32) ≤ nI i) = (114 ≤ i) := nle 114 i (by decide) h
theorem eq_fin {x y : Int32} {P : Prop} (h : x = y) (k : P) : (x = y → P) ∧ (¬ x = y → False) := ⟨fun _ => k, fun n => n h⟩
theorem RZ.lt {w w' : Nat → Int32} (r : RZ w) (h : ∀ j, j < 114 → w' j = w j) : RZ w' ∧ zA w' = zA w := by
  have A30 := r.2.1.2.2.2.2.2.2.2
  refine r.acts (c := zA w) (fun j h1 _ => h j (by omega)) (by rw [h 8 (by omega)]; exact r.1.2.2.2.2.2.2.2) A30 (fun i hi => ?_)
  unfold actM
  rw [h (84 + i) (by omega)]
  exact r.2.2.2.2.2.2.2 i hi
theorem TZ.lt {μ : qa_M} {t : Nat} {w w' : Nat → Int32} (T : TZ μ t w) (r : RZ w) (h : ∀ j, j < 114 → w' j = w j) : TZ μ t w' := by
  have A30 := r.2.1.2.2.2.2.2.2.2
  obtain ⟨-, z8⟩ := r.lt h
  have T0 := T
  obtain ⟨-, -, -, ⟨d1, d2, d3⟩, f⟩ := T0
  refine T.acts r (fun j h1 _ => h j (by omega)) z8 (fun _ _ _ => rfl) d1 ?_ (fun j hj => ?_) (fun i hi => ?_)
  · rw [swapW_c (fun j hj => h _ (by omega))]; exact d2
  · rw [restW_c (fun j hj => h _ (by omega))]; exact d3 j hj
  · have q : actX μ t w (zH w) (zW w) i := f i hi
    exact q.mono rfl rfl rfl (h _ (by omega))
def cpM (μ : qa_M) (v0 v1 : Nat) : qa_M := qa_cpI (qa_cpI (qa_cpI (qa_uI (qa_cpI (qa_cpI (qa_cpI (qa_cpI (qa_cpI (qa_cpI (qa_uI (qa_uI (qa_uI (qa_uI (qa_uI (qa_uI (qa_uI (qa_uI (qa_uI (qa_uI (qa_uI μ v0 0 (μ.1 v1 0)) v0 1 (μ.1 v1 1)) v0 2 (μ.1 v1 2)) v0 3 (μ.1 v1 3)) v0 4 (μ.1 v1 4)) v0 5 (μ.1 v1 5)) v0 6 (μ.1 v1 6)) v0 7 (μ.1 v1 7)) v0 8 (μ.1 v1 8)) v0 9 (μ.1 v1 9)) v0 10 (μ.1 v1 10)) (v1 + 1) (v0 + 1) 0 0 8) (v1 + 2) (v0 + 2) 0 0 8) (v1 + 3) (v0 + 3) 0 0 8) (v1 + 4) (v0 + 4) 0 0 8) (v1 + 5) (v0 + 5) 0 0 8) (v1 + 6) (v0 + 6) 0 0 8) (v0 + 7) 0 (μ.1 (v1 + 7) 0)) (v1 + 8) (v0 + 8) 0 0 30) (v1 + 9) (v0 + 9) 0 0 30) (v1 + 10) (v0 + 10) 0 0 30
section CP
variable {n v0 v1 : Nat} {μ : qa_M} {Q : qa_M → Prop}
theorem cp_eq (dj : v0 + 12 ≤ v1 ∨ v1 + 12 ≤ v0) : wX6_copyFrom n v0 v1 μ Q ↔ wX0_noteAll n v0 (cpM μ v0 v1) Q := by
  unfold wX6_copyFrom wX0_repeat
  simp (disch := omega) only [nmM, uIn, cpn, c0n, c8n, c30n]
  exact Iff.rfl
theorem cp_out {b : Nat} (j : Nat) (hb : b < v0 ∨ v0 + 11 ≤ b) : (cpM μ v0 v1).1 b j = μ.1 b j := by
  unfold cpM
  simp (disch := omega) only [uIn, cpn]
theorem cp_2 : (cpM μ v0 v1).2 = μ.2 := by
  unfold cpM
  simp only [uI2, cpI2]
theorem cp_f0 : (cpM μ v0 v1).1 v0 0 = μ.1 v1 0 := by
  unfold cpM
  simp (disch := omega) only [uIn, uIs, cpn]
theorem cp_f1 : (cpM μ v0 v1).1 v0 1 = μ.1 v1 1 := by
  unfold cpM
  simp (disch := omega) only [uIn, uIs, cpn]
theorem cp_f2 : (cpM μ v0 v1).1 v0 2 = μ.1 v1 2 := by
  unfold cpM
  simp (disch := omega) only [uIn, uIs, cpn]
theorem cp_f3 : (cpM μ v0 v1).1 v0 3 = μ.1 v1 3 := by
  unfold cpM
  simp (disch := omega) only [uIn, uIs, cpn]
theorem cp_f4 : (cpM μ v0 v1).1 v0 4 = μ.1 v1 4 := by
  unfold cpM
  simp (disch := omega) only [uIn, uIs, cpn]
theorem cp_f5 : (cpM μ v0 v1).1 v0 5 = μ.1 v1 5 := by
  unfold cpM
  simp (disch := omega) only [uIn, uIs, cpn]
theorem cp_f6 : (cpM μ v0 v1).1 v0 6 = μ.1 v1 6 := by
  unfold cpM
  simp (disch := omega) only [uIn, uIs, cpn]
theorem cp_f7 : (cpM μ v0 v1).1 v0 7 = μ.1 v1 7 := by
  unfold cpM
  simp (disch := omega) only [uIn, uIs, cpn]
theorem cp_f8 : (cpM μ v0 v1).1 v0 8 = μ.1 v1 8 := by
  unfold cpM
  simp (disch := omega) only [uIn, uIs, cpn]
theorem cp_f9 : (cpM μ v0 v1).1 v0 9 = μ.1 v1 9 := by
  unfold cpM
  simp (disch := omega) only [uIn, uIs, cpn]
theorem cp_f10 : (cpM μ v0 v1).1 v0 10 = μ.1 v1 10 := by
  unfold cpM
  simp (disch := omega) only [uIn, uIs, cpn]
theorem cp_a1 (dj : v0 + 12 ≤ v1 ∨ v1 + 12 ≤ v0) {j : Nat} (hj : j < 8) : (cpM μ v0 v1).1 (v0 + 1) j = μ.1 (v1 + 1) j := by
  unfold cpM
  simp (disch := omega) only [uIn, cpn, cps]
theorem cp_a2 (dj : v0 + 12 ≤ v1 ∨ v1 + 12 ≤ v0) {j : Nat} (hj : j < 8) : (cpM μ v0 v1).1 (v0 + 2) j = μ.1 (v1 + 2) j := by
  unfold cpM
  simp (disch := omega) only [uIn, cpn, cps]
theorem cp_a3 (dj : v0 + 12 ≤ v1 ∨ v1 + 12 ≤ v0) {j : Nat} (hj : j < 8) : (cpM μ v0 v1).1 (v0 + 3) j = μ.1 (v1 + 3) j := by
  unfold cpM
  simp (disch := omega) only [uIn, cpn, cps]
theorem cp_a4 (dj : v0 + 12 ≤ v1 ∨ v1 + 12 ≤ v0) {j : Nat} (hj : j < 8) : (cpM μ v0 v1).1 (v0 + 4) j = μ.1 (v1 + 4) j := by
  unfold cpM
  simp (disch := omega) only [uIn, cpn, cps]
theorem cp_a5 (dj : v0 + 12 ≤ v1 ∨ v1 + 12 ≤ v0) {j : Nat} (hj : j < 8) : (cpM μ v0 v1).1 (v0 + 5) j = μ.1 (v1 + 5) j := by
  unfold cpM
  simp (disch := omega) only [uIn, cpn, cps]
theorem cp_a6 (dj : v0 + 12 ≤ v1 ∨ v1 + 12 ≤ v0) {j : Nat} (hj : j < 8) : (cpM μ v0 v1).1 (v0 + 6) j = μ.1 (v1 + 6) j := by
  unfold cpM
  simp (disch := omega) only [uIn, cpn, cps]
theorem cp_a8 (dj : v0 + 12 ≤ v1 ∨ v1 + 12 ≤ v0) {j : Nat} (hj : j < 30) : (cpM μ v0 v1).1 (v0 + 8) j = μ.1 (v1 + 8) j := by
  unfold cpM
  simp (disch := omega) only [uIn, cpn, cps]
theorem cp_a9 (dj : v0 + 12 ≤ v1 ∨ v1 + 12 ≤ v0) {j : Nat} (hj : j < 30) : (cpM μ v0 v1).1 (v0 + 9) j = μ.1 (v1 + 9) j := by
  unfold cpM
  simp (disch := omega) only [uIn, cpn, cps]
theorem cp_a10 (dj : v0 + 12 ≤ v1 ∨ v1 + 12 ≤ v0) {j : Nat} (hj : j < 30) : (cpM μ v0 v1).1 (v0 + 10) j = μ.1 (v1 + 10) j := by
  unfold cpM
  simp (disch := omega) only [uIn, cpn, cps]
theorem cp_a7 : (cpM μ v0 v1).1 (v0 + 7) 0 = μ.1 (v1 + 7) 0 := by
  unfold cpM
  simp (disch := omega) only [uIn, uIs, cpn]
theorem x_copy {w : Nat → Int32} (dj : v0 + 12 ≤ v1 ∨ v1 + 12 ≤ v0) (r : RZ w) (T : TZ μ v1 w) (hn : 60 < n) (kk : ∀ μ', μ'.2 = μ.2 → (∀ b j, (b < v0 ∨ v0 + 11 < b) → μ'.1 b j = μ.1 b j) → TZ μ' v0 w → Q μ') : wX6_copyFrom n v0 v1 μ Q := by
  have H8 := r.2.1.2.2.2.1
  have W20 := r.2.1.2.1
  have L8 := r.2.1.2.2.2.2.2.2.1
  have A30 := r.2.1.2.2.2.2.2.2.2
  obtain ⟨⟨a0, a1, a2, a3, a4, a5, a6, a7, a8, a9, a10⟩, ⟨q1, q2, q3⟩, cc, ⟨d1, d2, d3⟩, f0⟩ := T
  have f : ∀ i, i < zA w → actX μ v1 w (zH w) (zW w) i := f0
  rw [cp_eq dj]
  have fa : ∀ i, i < zA w → actX (cpM μ v0 v1) v0 w (zH w) (zW w) i := by
    intro i hi
    have q := f i hi
    unfold actX at q ⊢
    rw [cp_a8 dj (by omega), cp_a9 dj (by omega), cp_a10 dj (by omega)]
    exact q
  refine x_noteAll (c := zA w) (w := w) H8 W20 (by rw [cp_a7]; exact d1) A30 fa (by omega) (fun μ' g1 g2 g3 g4 => ?_)
  have e : ∀ j x, j ≤ 10 → j ≠ 7 → μ'.1 (v0 + j) x = (cpM μ v0 v1).1 (v0 + j) x := fun j x h1 h2 => g2 _ _ (by omega) (by omega)
  have e0 : ∀ x, μ'.1 v0 x = (cpM μ v0 v1).1 v0 x := fun x => g2 _ _ (by omega) (by omega)
  have e7 : μ'.1 (v0 + 7) 0 = nI (zA w) := by rw [g2 _ _ (by omega) (by omega), cp_a7]; exact d1
  refine kk μ' (g1.trans cp_2) (fun b j hb => (g2 b j (by omega) (by omega)).trans (cp_out j (by omega))) ⟨⟨by rw [e0, cp_f0]; exact a0, by rw [e0, cp_f1]; exact a1, by rw [e0, cp_f2]; exact a2, by rw [e0, cp_f3]; exact a3, by rw [e0, cp_f4]; exact a4, by rw [e0, cp_f5]; exact a5, by rw [e0, cp_f6]; exact a6, by rw [e0, cp_f7]; exact a7, by rw [e0, cp_f8]; exact a8, by rw [e0, cp_f9]; exact a9, by rw [e0, cp_f10]; exact a10⟩, ⟨fun k hk => ?_, fun p hp => ?_, fun p hp => ?_⟩, fun k hk => ⟨?_, ?_, ?_⟩, ⟨e7, g3, g4⟩, fun i hi => ?_⟩
  · rw [e 1 _ (by omega) (by omega), cp_a1 dj (by omega)]; exact q1 k hk
  · rw [e 2 _ (by omega) (by omega), cp_a2 dj (by omega)]; exact q2 p hp
  · rw [e 3 _ (by omega) (by omega), cp_a3 dj (by omega)]; exact q3 p hp
  · rw [e 4 _ (by omega) (by omega), cp_a4 dj (by omega)]; exact (cc k hk).1
  · rw [e 5 _ (by omega) (by omega), cp_a5 dj (by omega)]; exact (cc k hk).2.1
  · rw [e 6 _ (by omega) (by omega), cp_a6 dj (by omega)]; exact (cc k hk).2.2
  · exact (fa i hi).mono (e 8 _ (by omega) (by omega)) (e 9 _ (by omega) (by omega)) (e 10 _ (by omega) (by omega)) rfl
end CP
theorem ix114 (k j : Nat) : ((114 : Int32) * nI k) + nI j = nI (114 * k + j) := by rw [show (114 : Int32) = nI 114 from rfl, pk_mul, nI_add]
theorem m_image {n k : Nat} {w : Nat → Int32} {μ : qa_M} {Q : Int32 → qa_M → Prop} (hk : k < 3) (hw : μ.1 92 = w) (hn : 130 < n) (kk : ∀ μ', μ'.2 = μ.2 → (∀ b j, b ≠ 93 → ¬ (b = 94 ∧ j = k) → μ'.1 b j = μ.1 b j) → (∀ j, (j < 114 * k ∨ 114 * k + 114 ≤ j) → μ'.1 93 j = μ.1 93 j) → (∀ j, j < 114 → μ'.1 93 (114 * k + j) = w j) → μ'.1 94 k = 1 → Q 0 μ') : wX9_image_17 n (nI k) 0 μ Q := by
  refine inv_loop (fun n i (σ : qa_M) => wX9_image_17 n (nI k) i σ Q) 114 (fun i σ => onlyA 93 μ σ ∧ (∀ j, (j < 114 * k ∨ 114 * k + 114 ≤ j) → σ.1 93 j = μ.1 93 j) ∧ ∀ j, j < i → σ.1 93 (114 * k + j) = w j) ?_ ?_ 114 0 μ n (by omega) (by omega) ⟨onlyA.rf _ _, fun _ _ => rfl, fun j hj => absurd hj (Nat.not_lt_zero j)⟩
  · intro n μ1 ⟨o1, e1, e2⟩
    show wX9_image_17 (n + 1) _ _ _ _
    simp (disch := omega) only [wX9_image_17, le114, not_true_eq_false, not_false_eq_true, false_implies, true_implies, and_true, true_and, and_self, nmM, if_true, if_false, or0, Int32.add_zero, forall_const, one_ne, zero_ne1, nz1, nz0, nI_z, cl, inN, Nat.le_refl, Nat.lt_irrefl, Nat.lt_succ_self, Bool.false_eq_true]
    refine kk _ o1.1 (fun b j h1 h2 => (uIn _ _ h2).trans (o1.2 b j h1)) (fun j hj => (uIn _ _ (by omega)).trans (e1 j hj)) (fun j hj => (uIn _ _ (by omega)).trans (e2 j hj)) (uIs _ _ _ _)
  · intro n i μ1 hi ⟨o1, e1, e2⟩ ih
    show wX9_image_17 (n + 1) _ _ _ _
    have hi' : ¬ 114 ≤ i := by omega
    have hw1 : μ1.1 92 i = w i := by rw [o1.2 _ _ (by omega), hw]
    simp (disch := omega) only [wX9_image_17, le114, hi', ix114, hw1, nI1, not_true_eq_false, not_false_eq_true, false_implies, true_implies, and_true, true_and, and_self, nmM, if_true, if_false, or0, Int32.add_zero, forall_const, one_ne, zero_ne1, nz1, nz0, nI_z, cl, inN, Nat.le_refl, Nat.lt_irrefl, Nat.lt_succ_self, Bool.false_eq_true]
    refine ih _ ⟨o1.put _ _, fun j hj => (uIn _ _ (by omega)).trans (e1 j hj), fun j hj => ?_⟩
    by_cases c : j = i
    · rw [c, uIs]
    · rw [uIn _ _ (by omega)]; exact e2 j (by omega)
theorem m_back {n k : Nat} {μ : qa_M} {Q : Int32 → qa_M → Prop} (hk : k < 3) (hn : 130 < n) (kk : ∀ μ', onlyA 92 μ μ' → (∀ j, 114 ≤ j → μ'.1 92 j = μ.1 92 j) → (∀ j, j < 114 → μ'.1 92 j = μ.1 93 (114 * k + j)) → Q 0 μ') : wX9_back_29 n (nI k) 0 μ Q := by
  refine inv_loop (fun n i (σ : qa_M) => wX9_back_29 n (nI k) i σ Q) 114 (fun i σ => onlyA 92 μ σ ∧ (∀ j, 114 ≤ j → σ.1 92 j = μ.1 92 j) ∧ ∀ j, j < i → σ.1 92 j = μ.1 93 (114 * k + j)) ?_ ?_ 114 0 μ n (by omega) (by omega) ⟨onlyA.rf _ _, fun _ _ => rfl, fun j hj => absurd hj (Nat.not_lt_zero j)⟩
  · intro n μ1 ⟨o1, e0, e1⟩
    show wX9_back_29 (n + 1) _ _ _ _
    simp (disch := omega) only [wX9_back_29, le114, not_true_eq_false, not_false_eq_true, false_implies, true_implies, and_true, true_and, and_self, nmM, if_true, if_false, or0, Int32.add_zero, forall_const, one_ne, zero_ne1, nz1, nz0, nI_z, cl, inN, Nat.le_refl, Nat.lt_irrefl, Nat.lt_succ_self, Bool.false_eq_true]
    exact kk μ1 o1 e0 e1
  · intro n i μ1 hi ⟨o1, e0, e1⟩ ih
    show wX9_back_29 (n + 1) _ _ _ _
    have hi' : ¬ 114 ≤ i := by omega
    have hw1 : μ1.1 93 (114 * k + i) = μ.1 93 (114 * k + i) := o1.2 _ _ (by omega)
    simp (disch := omega) only [wX9_back_29, le114, hi', ix114, hw1, nI1, not_true_eq_false, not_false_eq_true, false_implies, true_implies, and_true, true_and, and_self, nmM, if_true, if_false, or0, Int32.add_zero, forall_const, one_ne, zero_ne1, nz1, nz0, nI_z, cl, inN, Nat.le_refl, Nat.lt_irrefl, Nat.lt_succ_self, Bool.false_eq_true]
    refine ih _ ⟨o1.put _ _, fun j hj => (uIn _ _ (by omega)).trans (e0 j hj), fun j hj => ?_⟩
    by_cases c : j = i
    · rw [c, uIs]
    · rw [uIn _ _ (by omega)]; exact e1 j (by omega)
theorem INV.image {μ μ' : qa_M} {w : Nat → Int32} {k : Nat} (h : INV μ) (hk : k < 3) (r : RZ w) (s1 : μ'.2 = μ.2) (s2 : ∀ b j, (b < 47 + 12 * k ∨ 58 + 12 * k < b) → b ≠ 29 → b ≠ 93 → b ≠ 94 → μ'.1 b j = μ.1 b j) (e29 : ∀ j, j ≠ k → μ'.1 29 j = μ.1 29 j) (e94 : ∀ j, j ≠ k → μ'.1 94 j = μ.1 94 j) (e93 : ∀ j, (j < 114 * k ∨ 114 * k + 114 ≤ j) → μ'.1 93 j = μ.1 93 j) (z29 : μ'.1 29 k = 1) (z94 : μ'.1 94 k = 1) (c93 : ∀ j, j < 114 → μ'.1 93 (114 * k + j) = w j) (T : TZ μ' (47 + 12 * k) w) : INV μ' := by
  have e92 : μ'.1 92 = μ.1 92 := funext (fun j => s2 92 j (by omega) (by omega) (by omega) (by omega))
  obtain ⟨i1, i2, i3, i4, i5, i6, i7, i8, i9, i10⟩ := h
  refine ⟨by rw [s1]; exact i1, by rw [s1]; exact i2, by rw [e92]; exact i3, ?_, ?_, ?_, ?_, ?_, ?_, ?_⟩
  · rw [s1, e92]
    rcases i2 with ⟨q, -⟩ | ⟨q, -⟩ <;> rw [q] at i4 ⊢
    · exact i4.mono (fun j x hj => s2 _ _ (by omega) (by omega) (by omega) (by omega)) rfl
    · exact i4.mono (fun j x hj => s2 _ _ (by omega) (by omega) (by omega) (by omega)) rfl
  · rw [e92]
    exact i5.mono (fun b j hb => s2 _ _ (by omega) (by omega) (by omega) (by omega))
  · obtain ⟨T, t1, t2, t3, t4⟩ := i6
    refine ⟨T, t1, by rw [s2 _ _ (by omega) (by omega) (by omega) (by omega)]; exact t2, by rw [s2 _ _ (by omega) (by omega) (by omega) (by omega)]; exact t3, fun j hj => ?_⟩
    rw [s2 _ _ (by omega) (by omega) (by omega) (by omega), s2 _ _ (by omega) (by omega) (by omega) (by omega)]
    exact t4 j hj
  · rw [s2 _ _ (by omega) (by omega) (by omega) (by omega), s2 _ _ (by omega) (by omega) (by omega) (by omega), s2 _ _ (by omega) (by omega) (by omega) (by omega), s2 _ _ (by omega) (by omega) (by omega) (by omega)]
    exact i7
  · intro k' hk'
    by_cases c : k' = k
    · subst c
      rw [z29, z94]
      exact ⟨rfl, Or.inr ⟨rfl, (r.lt c93).1, T.lt r c93⟩⟩
    · rw [e29 k' c, e94 k' c]
      obtain ⟨g1, g2⟩ := i8 k' hk'
      refine ⟨g1, ?_⟩
      rcases g2 with g2 | ⟨g2, g3, g4⟩
      · exact Or.inl g2
      · have h93 : ∀ j, j < 114 → μ'.1 93 (114 * k' + j) = μ.1 93 (114 * k' + j) := fun j hj => e93 _ (by omega)
        have T4 : TZ μ' (47 + 12 * k') (fun j => μ.1 93 (114 * k' + j)) := g4.mono (fun j x hj => s2 _ _ (by omega) (by omega) (by omega) (by omega)) rfl
        exact Or.inr ⟨g2, (g3.lt h93).1, T4.lt g3 h93⟩
  · intro k hk
    obtain ⟨g1, g2⟩ := i9 k hk
    rw [s2 (83 + 2 * k) _ (by omega) (by omega) (by omega) (by omega), s2 110 _ (by omega) (by omega) (by omega) (by omega)]
    refine ⟨g1, ?_⟩
    rcases g2 with g2 | ⟨m, g2, g3, g4, g5, g6⟩
    · exact Or.inl g2
    · refine Or.inr ⟨m, g2, g3, ?_, ?_, fun j hj => ?_⟩
      · rw [s2 (83 + 2 * k) _ (by omega) (by omega) (by omega) (by omega), s2 111 _ (by omega) (by omega) (by omega) (by omega)]; exact g4
      · rw [s2 111 _ (by omega) (by omega) (by omega) (by omega)]; exact g5
      · rw [s1]; exact g6 j hj
  · unfold WRT
    rw [e92, s2 1 _ (by omega) (by omega) (by omega) (by omega)]
    rcases i10 with g | ⟨g, g'⟩
    · exact Or.inl g
    · exact Or.inr ⟨g, fun k hk => by rw [s2 46 _ (by omega) (by omega) (by omega) (by omega)]; exact g' k hk⟩
theorem s_in2 {n : Nat} {v : Int32} {μ : qa_M} {Q : Int32 → qa_M → Prop} : wX9_in n v.toInt64 0 2 μ Q ↔ Q (qb (0 ≤ v.toInt ∧ v.toInt ≤ 2)) μ := by
  rw [s_in, Int32.toInt_toInt64]
  exact Iff.rfl
theorem lt3 {k : Nat} (hk : k < 3) : (nI k < 3) = True := eq_true (by rw [l3, nlt _ _ (by omega) (by omega)]; exact hk)
theorem no3 {v : Int32} (h : ¬ (0 ≤ v.toInt ∧ v.toInt ≤ 2)) : v < 0 ∨ (¬ v < 0 ∧ ¬ v < 3) := by
  rw [fa_lt, fa_lt, show (0 : Int32).toInt = 0 from rfl, show (3 : Int32).toInt = 3 from rfl]
  omega
theorem c_75 {Ln n : Nat} {xs : Nat → Int32} {K : Int32 → qa_M → Prop} {i : Int32} {μ : qa_M} (I : INV μ) (hn : 2000 ≤ n) (k : ∀ μ', INV μ' → K (i + 6) μ') (v1 : vp_in (i + 1) Ln) (v2 : vp_in (i + 2) Ln) (v3 : vp_in (i + 3) Ln) (v4 : vp_in (i + 4) Ln) (v5 : vp_in (i + 5) Ln) : wLc_75 Ln xs n K i μ := by
  unfold wLc_75
  simp only [v1, v2, v3, v4, v5, true_and]
  generalize xs (i + 1).toNatClampNeg = a
  obtain ⟨w, hw⟩ : ∃ w, μ.1 92 = w := ⟨_, rfl⟩
  obtain ⟨r, T, E, G⟩ := I.facts hw
  obtain ⟨r1, r2, r3, r4⟩ := r.n0
  have L8 := G.1
  have N1 := r.2.1.1
  obtain ⟨W20, H8, hW, hH, plt, hpl, hpp, hfo, htu, hsu, hsm⟩ := id E
  have t2 := I.t2
  by_cases ga : 0 ≤ a.toInt ∧ a.toInt ≤ 2
  · obtain ⟨a, ha, rfl⟩ := gN' (H := 2) ga (by omega)
    simp (disch := omega) only [wX8_image, n_neg, lt3, not_true_eq_false, not_false_eq_true, false_implies, true_implies, and_true, true_and, and_self, nmM, if_true, if_false, or0, Int32.add_zero, forall_const, one_ne, zero_ne1, nz1, nz0, nI_z, cl, inN, Nat.le_refl, Nat.lt_irrefl, Nat.lt_succ_self, Bool.false_eq_true]
    refine x_copy (by omega) r T (by omega) (fun μ1 e1 e2 T1 => ?_)
    simp (disch := omega) only [wX9_image, s_in2, qb_p ga, not_true_eq_false, not_false_eq_true, false_implies, true_implies, and_true, true_and, and_self, nmM, if_true, if_false, or0, Int32.add_zero, forall_const, one_ne, zero_ne1, nz1, nz0, nI_z, cl, inN, Nat.le_refl, Nat.lt_irrefl, Nat.lt_succ_self, Bool.false_eq_true]
    have hw1 : (qa_uI μ1 29 a 1).1 92 = w := by rw [← hw]; exact funext (fun j => (uIn _ _ (by omega)).trans (e2 92 j (by omega)))
    refine m_image (by omega) hw1 (by omega) (fun μ2 g1 g2 g3 g4 g5 => ?_)
    simp only [not_true_eq_false, not_false_eq_true, false_implies, true_implies, and_true, true_and, and_self, nmM, if_true, if_false, or0, Int32.add_zero, forall_const, one_ne, zero_ne1, nz1, nz0, nI_z, cl, inN, Nat.le_refl, Nat.lt_irrefl, Nat.lt_succ_self, Bool.false_eq_true]
    refine k μ2 (I.image (k := a) (w := w) (by omega) r (g1.trans e1) (fun b j h1 h2 h3 h4 => ?_) (fun j hj => ?_) (fun j hj => ?_) (fun j hj => ?_) ?_ g5 g4 ?_)
    · rw [g2 b j h3 (by omega), uIn _ _ (by omega), e2 b j (by omega)]
    · rw [g2 _ _ (by omega) (by omega), uIn _ _ (by omega), e2 _ _ (by omega)]
    · rw [g2 _ _ (by omega) (by omega), uIn _ _ (by omega), e2 _ _ (by omega)]
    · rw [g3 j hj, uIn _ _ (by omega), e2 _ _ (by omega)]
    · rw [g2 _ _ (by omega) (by omega), uIs]
    · exact T1.mono (fun j x hj => by rw [g2 _ _ (by omega) (by omega), uIn _ _ (by omega)]) rfl
  · rcases no3 ga with c | ⟨c, d⟩
    · simp (disch := omega) only [wX8_image, c, not_true_eq_false, not_false_eq_true, false_implies, true_implies, and_true, true_and, and_self, nmM, if_true, if_false, or0, Int32.add_zero, forall_const, one_ne, zero_ne1, nz1, nz0, nI_z, cl, inN, Nat.le_refl, Nat.lt_irrefl, Nat.lt_succ_self, Bool.false_eq_true]
      simp (disch := omega) only [wX9_image, s_in2, qb_n ga, not_true_eq_false, not_false_eq_true, false_implies, true_implies, and_true, true_and, and_self, nmM, if_true, if_false, or0, Int32.add_zero, forall_const, one_ne, zero_ne1, nz1, nz0, nI_z, cl, inN, Nat.le_refl, Nat.lt_irrefl, Nat.lt_succ_self, Bool.false_eq_true]
      exact k μ I
    · simp (disch := omega) only [wX8_image, c, d, not_true_eq_false, not_false_eq_true, false_implies, true_implies, and_true, true_and, and_self, nmM, if_true, if_false, or0, Int32.add_zero, forall_const, one_ne, zero_ne1, nz1, nz0, nI_z, cl, inN, Nat.le_refl, Nat.lt_irrefl, Nat.lt_succ_self, Bool.false_eq_true]
      simp (disch := omega) only [wX9_image, s_in2, qb_n ga, not_true_eq_false, not_false_eq_true, false_implies, true_implies, and_true, true_and, and_self, nmM, if_true, if_false, or0, Int32.add_zero, forall_const, one_ne, zero_ne1, nz1, nz0, nI_z, cl, inN, Nat.le_refl, Nat.lt_irrefl, Nat.lt_succ_self, Bool.false_eq_true]
      exact k μ I
theorem c_76 {Ln n : Nat} {xs : Nat → Int32} {K : Int32 → qa_M → Prop} {i : Int32} {μ : qa_M} (I : INV μ) (hn : 2000 ≤ n) (k : ∀ μ', INV μ' → K (i + 6) μ') (v1 : vp_in (i + 1) Ln) (v2 : vp_in (i + 2) Ln) (v3 : vp_in (i + 3) Ln) (v4 : vp_in (i + 4) Ln) (v5 : vp_in (i + 5) Ln) : wLc_76 Ln xs n K i μ := by
  unfold wLc_76
  simp only [v1, v2, v3, v4, v5, true_and]
  generalize xs (i + 1).toNatClampNeg = a
  obtain ⟨w, hw⟩ : ∃ w, μ.1 92 = w := ⟨_, rfl⟩
  obtain ⟨r, T, E, G⟩ := I.facts hw
  obtain ⟨r1, r2, r3, r4⟩ := r.n0
  have L8 := G.1
  have N1 := r.2.1.1
  obtain ⟨W20, H8, hW, hH, plt, hpl, hpp, hfo, htu, hsu, hsm⟩ := id E
  have t2 := I.t2
  by_cases ga : 0 ≤ a.toInt ∧ a.toInt ≤ 2
  · obtain ⟨a, ha, rfl⟩ := gN' (H := 2) ga (by omega)
    obtain ⟨g1, g2⟩ := I.2.2.2.2.2.2.2.1 a (by omega)
    rcases g2 with g2 | ⟨g2, r3, T3⟩
    · rw [g2] at g1
      simp (disch := omega) only [wX8_back, n_neg, lt3, g2, not_true_eq_false, not_false_eq_true, false_implies, true_implies, and_true, true_and, and_self, nmM, if_true, if_false, or0, Int32.add_zero, forall_const, one_ne, zero_ne1, nz1, nz0, nI_z, cl, inN, Nat.le_refl, Nat.lt_irrefl, Nat.lt_succ_self, Bool.false_eq_true]
      simp (disch := omega) only [wX9_back, s_in2, qb_p ga, ← g1, not_true_eq_false, not_false_eq_true, false_implies, true_implies, and_true, true_and, and_self, nmM, if_true, if_false, or0, Int32.add_zero, forall_const, one_ne, zero_ne1, nz1, nz0, nI_z, cl, inN, Nat.le_refl, Nat.lt_irrefl, Nat.lt_succ_self, Bool.false_eq_true]
      exact k μ I
    · rw [g2] at g1
      obtain ⟨w', hw'⟩ : ∃ w' : Nat → Int32, w' = fun j => if j < 114 then μ.1 93 (114 * a + j) else w j := ⟨_, rfl⟩
      have wl : ∀ j, j < 114 → w' j = μ.1 93 (114 * a + j) := fun j hj => by rw [hw']; exact if_pos hj
      have r' := (r3.lt wl).1
      have T' := T3.lt r3 wl
      simp (disch := omega) only [wX8_back, n_neg, lt3, g2, not_true_eq_false, not_false_eq_true, false_implies, true_implies, and_true, true_and, and_self, nmM, if_true, if_false, or0, Int32.add_zero, forall_const, one_ne, zero_ne1, nz1, nz0, nI_z, cl, inN, Nat.le_refl, Nat.lt_irrefl, Nat.lt_succ_self, Bool.false_eq_true]
      refine x_copy (by omega) r' T' (by omega) (fun μ1 e1 e2 T1 => ?_)
      refine x_new (n := n) I (kp_town t2 e1 (fun b j hb => e2 b j hb)) r' (by rw [e1]; exact T1) (by omega) (fun μ2 N f1 f2 => ?_)
      have m94 : μ2.1 94 a = 1 := by rw [f2 _ _ (by omega) (by omega) (by omega) (by omega) (by omega) (by omega), e2 _ _ (by omega)]; exact g1.symm
      simp (disch := omega) only [wX9_back, s_in2, qb_p ga, m94, not_true_eq_false, not_false_eq_true, false_implies, true_implies, and_true, true_and, and_self, nmM, if_true, if_false, or0, Int32.add_zero, forall_const, one_ne, zero_ne1, nz1, nz0, nI_z, cl, inN, Nat.le_refl, Nat.lt_irrefl, Nat.lt_succ_self, Bool.false_eq_true]
      refine m_back (by omega) (by omega) (fun μ3 o3 e0 e3 => ?_)
      simp only [not_true_eq_false, not_false_eq_true, false_implies, true_implies, and_true, true_and, and_self, nmM, if_true, if_false, or0, Int32.add_zero, forall_const, one_ne, zero_ne1, nz1, nz0, nI_z, cl, inN, Nat.le_refl, Nat.lt_irrefl, Nat.lt_succ_self, Bool.false_eq_true]
      refine k μ3 (N.inv I r' o3 ?_ (sc.rf _))
      funext j
      rw [hw']
      by_cases c : j < 114
      · show μ3.1 92 j = if j < 114 then μ.1 93 (114 * a + j) else w j
        rw [if_pos c, e3 j c, f2 _ _ (by omega) (by omega) (by omega) (by omega) (by omega) (by omega), e2 _ _ (by omega)]
      · show μ3.1 92 j = if j < 114 then μ.1 93 (114 * a + j) else w j
        rw [if_neg c, e0 j (by omega), f2 _ _ (by omega) (by omega) (by omega) (by omega) (by omega) (by omega), e2 _ _ (by omega), hw]
  · rcases no3 ga with c | ⟨c, d⟩
    · simp (disch := omega) only [wX8_back, c, not_true_eq_false, not_false_eq_true, false_implies, true_implies, and_true, true_and, and_self, nmM, if_true, if_false, or0, Int32.add_zero, forall_const, one_ne, zero_ne1, nz1, nz0, nI_z, cl, inN, Nat.le_refl, Nat.lt_irrefl, Nat.lt_succ_self, Bool.false_eq_true]
      simp (disch := omega) only [wX9_back, s_in2, qb_n ga, not_true_eq_false, not_false_eq_true, false_implies, true_implies, and_true, true_and, and_self, nmM, if_true, if_false, or0, Int32.add_zero, forall_const, one_ne, zero_ne1, nz1, nz0, nI_z, cl, inN, Nat.le_refl, Nat.lt_irrefl, Nat.lt_succ_self, Bool.false_eq_true]
      exact k μ I
    · simp (disch := omega) only [wX8_back, c, d, not_true_eq_false, not_false_eq_true, false_implies, true_implies, and_true, true_and, and_self, nmM, if_true, if_false, or0, Int32.add_zero, forall_const, one_ne, zero_ne1, nz1, nz0, nI_z, cl, inN, Nat.le_refl, Nat.lt_irrefl, Nat.lt_succ_self, Bool.false_eq_true]
      simp (disch := omega) only [wX9_back, s_in2, qb_n ga, not_true_eq_false, not_false_eq_true, false_implies, true_implies, and_true, true_and, and_self, nmM, if_true, if_false, or0, Int32.add_zero, forall_const, one_ne, zero_ne1, nz1, nz0, nI_z, cl, inN, Nat.le_refl, Nat.lt_irrefl, Nat.lt_succ_self, Bool.false_eq_true]
      exact k μ I
theorem x_rows {n : Nat} {μ : qa_M} {Q : Int32 → qa_M → Prop} (S : ∀ s, s < 4 → μ.1 (83 + 2 * s) 2 = μ.1 110 s) (hn : 10 < n) : wX8_rowsThere n μ Q ↔ Q (itr (fun i s => if μ.1 110 i = -1 then s else s + 1) 0 4 0) μ := by
  unfold wX8_rowsThere
  refine for_iff 0 (fun n i (s : Int32) => wX8_rowsThere_4 n s i μ Q) (fun s => Q s μ) 4 (fun i s => if μ.1 110 i = -1 then s else s + 1) (fun _ _ => True) ?_ ?_ (fun _ _ _ _ => trivial) 4 0 0 n (by omega) (by omega) trivial
  · intro n s _ _
    show wX8_rowsThere_4 (n + 1) _ _ _ _ ↔ _
    simp (disch := omega) only [wX8_rowsThere_4, l4, nle, not_true_eq_false, not_false_eq_true, false_implies, true_implies, and_true, true_and, and_self, nmM, if_true, if_false, or0, Int32.add_zero, forall_const, one_ne, zero_ne1, nz1, nz0, nI_z, cl, inN, Nat.le_refl, Nat.lt_irrefl, Nat.lt_succ_self, Bool.false_eq_true]
  · intro n i s _ hi _
    show wX8_rowsThere_4 (n + 1) _ _ _ _ ↔ _
    have hi' : ¬ 4 ≤ i := by omega
    have e := S i hi
    simp (disch := omega) only [wX8_rowsThere_4, l4, nle, hi', wX3_isThere, e, nI1, not_true_eq_false, not_false_eq_true, false_implies, true_implies, and_true, true_and, and_self, nmM, if_true, if_false, or0, Int32.add_zero, forall_const, one_ne, zero_ne1, nz1, nz0, nI_z, cl, inN, Nat.le_refl, Nat.lt_irrefl, Nat.lt_succ_self, Bool.false_eq_true]
    by_cases c : μ.1 110 i = -1 <;> simp only [c, not_true_eq_false, not_false_eq_true, false_implies, true_implies, and_true, true_and, and_self, nmM, if_true, if_false, or0, Int32.add_zero, forall_const, one_ne, zero_ne1, nz1, nz0, nI_z, cl, inN, Nat.le_refl, Nat.lt_irrefl, Nat.lt_succ_self, Bool.false_eq_true]
theorem m_rows {n : Nat} {μ : qa_M} {Q : Int32 → qa_M → Prop} (hn : 10 < n) : wX9_count_42 n 0 0 μ Q ↔ Q (itr (fun i s => if μ.1 110 i = -1 then s else s + 1) 0 4 0) μ := by
  refine for_iff 0 (fun n i (s : Int32) => wX9_count_42 n s i μ Q) (fun s => Q s μ) 4 (fun i s => if μ.1 110 i = -1 then s else s + 1) (fun _ _ => True) ?_ ?_ (fun _ _ _ _ => trivial) 4 0 0 n (by omega) (by omega) trivial
  · intro n s _ _
    show wX9_count_42 (n + 1) _ _ _ _ ↔ _
    simp (disch := omega) only [wX9_count_42, l4, nle, not_true_eq_false, not_false_eq_true, false_implies, true_implies, and_true, true_and, and_self, nmM, if_true, if_false, or0, Int32.add_zero, forall_const, one_ne, zero_ne1, nz1, nz0, nI_z, cl, inN, Nat.le_refl, Nat.lt_irrefl, Nat.lt_succ_self, Bool.false_eq_true]
  · intro n i s _ hi _
    show wX9_count_42 (n + 1) _ _ _ _ ↔ _
    have hi' : ¬ 4 ≤ i := by omega
    simp (disch := omega) only [wX9_count_42, wX9_count_63, l4, nle, hi', nI1, not_true_eq_false, not_false_eq_true, false_implies, true_implies, and_true, true_and, and_self, nmM, if_true, if_false, or0, Int32.add_zero, forall_const, one_ne, zero_ne1, nz1, nz0, nI_z, cl, inN, Nat.le_refl, Nat.lt_irrefl, Nat.lt_succ_self, Bool.false_eq_true]
    by_cases c : μ.1 110 i = -1 <;> simp only [c, not_true_eq_false, not_false_eq_true, false_implies, true_implies, and_true, true_and, and_self, nmM, if_true, if_false, or0, Int32.add_zero, forall_const, one_ne, zero_ne1, nz1, nz0, nI_z, cl, inN, Nat.le_refl, Nat.lt_irrefl, Nat.lt_succ_self, Bool.false_eq_true]
theorem s_in9 {n : Nat} {v : Int32} {μ : qa_M} {Q : Int32 → qa_M → Prop} : wX9_in n v.toInt64 0 9 μ Q ↔ Q (qb (0 ≤ v.toInt ∧ v.toInt ≤ 9)) μ := by
  rw [s_in, Int32.toInt_toInt64]
  exact Iff.rfl
theorem c_74 {Ln n : Nat} {xs : Nat → Int32} {K : Int32 → qa_M → Prop} {i : Int32} {μ : qa_M} (I : INV μ) (hn : 2000 ≤ n) (k : ∀ μ', INV μ' → K (i + 6) μ') (v1 : vp_in (i + 1) Ln) (v2 : vp_in (i + 2) Ln) (v3 : vp_in (i + 3) Ln) (v4 : vp_in (i + 4) Ln) (v5 : vp_in (i + 5) Ln) : wLc_74 Ln xs n K i μ := by
  unfold wLc_74
  simp only [v1, v2, v3, v4, v5, true_and]
  generalize xs (i + 1).toNatClampNeg = a
  obtain ⟨w, hw⟩ : ∃ w, μ.1 92 = w := ⟨_, rfl⟩
  obtain ⟨r, T, E, G⟩ := I.facts hw
  obtain ⟨r1, r2, r3, r4⟩ := r.n0
  have L8 := G.1
  have N1 := r.2.1.1
  obtain ⟨W20, H8, hW, hH, plt, hpl, hpp, hfo, htu, hsu, hsm⟩ := id E
  subst hw
  by_cases ga : 0 ≤ a.toInt ∧ a.toInt ≤ 9
  · obtain ⟨a, ha, rfl⟩ := gN' (H := 9) ga (by omega)
    have mm : ∀ x, x = μ.1 92 a → wX9_count n (nI a) μ (fun r2 μ2 => (x = r2 → K (i + 6) μ2) ∧ (¬ x = r2 → False)) := by
      intro x ex
      simp (disch := omega) only [wX9_count, s_in9, qb_p ga, not_true_eq_false, not_false_eq_true, false_implies, true_implies, and_true, true_and, and_self, nmM, if_true, if_false, or0, Int32.add_zero, forall_const, one_ne, zero_ne1, nz1, nz0, nI_z, cl, inN, Nat.le_refl, Nat.lt_irrefl, Nat.lt_succ_self, Bool.false_eq_true]
      exact eq_fin ex (k μ I)
    have cs : a = 0 ∨ a = 1 ∨ a = 2 ∨ a = 3 ∨ a = 4 ∨ a = 5 ∨ a = 6 ∨ a = 7 ∨ a = 8 ∨ a = 9 := by omega
    unfold wX8_count
    rcases cs with rfl | rfl | rfl | rfl | rfl | rfl | rfl | rfl | rfl | rfl
    · exact ⟨fun _ => mm _ (T.1.2.1.trans r.1.2.1.symm), fun h => absurd rfl h⟩
    · refine ⟨fun h => absurd h (by decide), fun _ => ?_⟩
      exact ⟨fun _ => mm _ (T.1.2.2.1), fun h => absurd rfl h⟩
    · refine ⟨fun h => absurd h (by decide), fun _ => ?_⟩
      refine ⟨fun h => absurd h (by decide), fun _ => ?_⟩
      exact ⟨fun _ => mm _ (T.1.2.2.2.1.trans r.1.2.2.1.symm), fun h => absurd rfl h⟩
    · refine ⟨fun h => absurd h (by decide), fun _ => ?_⟩
      refine ⟨fun h => absurd h (by decide), fun _ => ?_⟩
      refine ⟨fun h => absurd h (by decide), fun _ => ?_⟩
      exact ⟨fun _ => mm _ (T.1.2.2.2.2.1), fun h => absurd rfl h⟩
    · refine ⟨fun h => absurd h (by decide), fun _ => ?_⟩
      refine ⟨fun h => absurd h (by decide), fun _ => ?_⟩
      refine ⟨fun h => absurd h (by decide), fun _ => ?_⟩
      refine ⟨fun h => absurd h (by decide), fun _ => ?_⟩
      exact ⟨fun _ => mm _ (T.1.2.2.2.2.2.1.trans r.1.2.2.2.1.symm), fun h => absurd rfl h⟩
    · refine ⟨fun h => absurd h (by decide), fun _ => ?_⟩
      refine ⟨fun h => absurd h (by decide), fun _ => ?_⟩
      refine ⟨fun h => absurd h (by decide), fun _ => ?_⟩
      refine ⟨fun h => absurd h (by decide), fun _ => ?_⟩
      refine ⟨fun h => absurd h (by decide), fun _ => ?_⟩
      exact ⟨fun _ => mm _ (T.1.2.2.2.2.2.2.1.trans r.1.2.2.2.2.1.symm), fun h => absurd rfl h⟩
    · refine ⟨fun h => absurd h (by decide), fun _ => ?_⟩
      refine ⟨fun h => absurd h (by decide), fun _ => ?_⟩
      refine ⟨fun h => absurd h (by decide), fun _ => ?_⟩
      refine ⟨fun h => absurd h (by decide), fun _ => ?_⟩
      refine ⟨fun h => absurd h (by decide), fun _ => ?_⟩
      refine ⟨fun h => absurd h (by decide), fun _ => ?_⟩
      exact ⟨fun _ => mm _ (T.1.2.2.2.2.2.2.2.1.trans r.1.2.2.2.2.2.1.symm), fun h => absurd rfl h⟩
    · refine ⟨fun h => absurd h (by decide), fun _ => ?_⟩
      refine ⟨fun h => absurd h (by decide), fun _ => ?_⟩
      refine ⟨fun h => absurd h (by decide), fun _ => ?_⟩
      refine ⟨fun h => absurd h (by decide), fun _ => ?_⟩
      refine ⟨fun h => absurd h (by decide), fun _ => ?_⟩
      refine ⟨fun h => absurd h (by decide), fun _ => ?_⟩
      refine ⟨fun h => absurd h (by decide), fun _ => ?_⟩
      exact ⟨fun _ => mm _ (T.1.2.2.2.2.2.2.2.2.1.trans r.1.2.2.2.2.2.2.1.symm), fun h => absurd rfl h⟩
    · refine ⟨fun h => absurd h (by decide), fun _ => ?_⟩
      refine ⟨fun h => absurd h (by decide), fun _ => ?_⟩
      refine ⟨fun h => absurd h (by decide), fun _ => ?_⟩
      refine ⟨fun h => absurd h (by decide), fun _ => ?_⟩
      refine ⟨fun h => absurd h (by decide), fun _ => ?_⟩
      refine ⟨fun h => absurd h (by decide), fun _ => ?_⟩
      refine ⟨fun h => absurd h (by decide), fun _ => ?_⟩
      refine ⟨fun h => absurd h (by decide), fun _ => ?_⟩
      exact ⟨fun _ => mm _ (T.2.2.2.1.1.trans r.1.2.2.2.2.2.2.2.symm), fun h => absurd rfl h⟩
    · refine ⟨fun h => absurd h (by decide), fun _ => ?_⟩
      refine ⟨fun h => absurd h (by decide), fun _ => ?_⟩
      refine ⟨fun h => absurd h (by decide), fun _ => ?_⟩
      refine ⟨fun h => absurd h (by decide), fun _ => ?_⟩
      refine ⟨fun h => absurd h (by decide), fun _ => ?_⟩
      refine ⟨fun h => absurd h (by decide), fun _ => ?_⟩
      refine ⟨fun h => absurd h (by decide), fun _ => ?_⟩
      refine ⟨fun h => absurd h (by decide), fun _ => ?_⟩
      refine ⟨fun h => absurd h (by decide), fun _ => ?_⟩
      exact ⟨fun _ => mm _ (T.1.1.trans r.1.1.symm), fun h => absurd rfl h⟩
  · have ne : ∀ q, q ≤ 9 → ¬ a = nI q := fun q hq e => ga (by rw [e, nI_toInt (by omega)]; omega)
    have h0 : ¬ a = 0 := ne 0 (by omega)
    have h1 : ¬ a = 1 := ne 1 (by omega)
    have h2 : ¬ a = 2 := ne 2 (by omega)
    have h3 : ¬ a = 3 := ne 3 (by omega)
    have h4 : ¬ a = 4 := ne 4 (by omega)
    have h5 : ¬ a = 5 := ne 5 (by omega)
    have h6 : ¬ a = 6 := ne 6 (by omega)
    have h7 : ¬ a = 7 := ne 7 (by omega)
    have h8 : ¬ a = 8 := ne 8 (by omega)
    have h9 : ¬ a = 9 := ne 9 (by omega)
    by_cases c10 : a = 10
    · subst c10
      obtain ⟨T, t1, t2, t3, -⟩ := I.2.2.2.2.2.1
      have q : ¬ ((0 : Int) ≤ (10 : Int32).toInt ∧ (10 : Int32).toInt ≤ 9) := ga
      simp (disch := omega) only [wX8_count, h0, h1, h2, h3, h4, h5, h6, h7, h8, h9, t2, not_true_eq_false, not_false_eq_true, false_implies, true_implies, and_true, true_and, and_self, nmM, if_true, if_false, or0, Int32.add_zero, forall_const, one_ne, zero_ne1, nz1, nz0, nI_z, cl, inN, Nat.le_refl, Nat.lt_irrefl, Nat.lt_succ_self, Bool.false_eq_true]
      simp (disch := omega) only [wX9_count, s_in9, qb_n q, t3, not_true_eq_false, not_false_eq_true, false_implies, true_implies, and_true, true_and, and_self, nmM, if_true, if_false, or0, Int32.add_zero, forall_const, one_ne, zero_ne1, nz1, nz0, nI_z, cl, inN, Nat.le_refl, Nat.lt_irrefl, Nat.lt_succ_self, Bool.false_eq_true]
      exact k μ I
    · by_cases c11 : a = 11
      · subst c11
        have q : ¬ ((0 : Int) ≤ (11 : Int32).toInt ∧ (11 : Int32).toInt ≤ 9) := ga
        simp (disch := omega) only [wX8_count, h0, h1, h2, h3, h4, h5, h6, h7, h8, h9, c10, x_rows (fun s hs => (I.2.2.2.2.2.2.2.2.1 s hs).1), not_true_eq_false, not_false_eq_true, false_implies, true_implies, and_true, true_and, and_self, nmM, if_true, if_false, or0, Int32.add_zero, forall_const, one_ne, zero_ne1, nz1, nz0, nI_z, cl, inN, Nat.le_refl, Nat.lt_irrefl, Nat.lt_succ_self, Bool.false_eq_true]
        simp (disch := omega) only [wX9_count, s_in9, qb_n q, c10, m_rows, not_true_eq_false, not_false_eq_true, false_implies, true_implies, and_true, true_and, and_self, nmM, if_true, if_false, or0, Int32.add_zero, forall_const, one_ne, zero_ne1, nz1, nz0, nI_z, cl, inN, Nat.le_refl, Nat.lt_irrefl, Nat.lt_succ_self, Bool.false_eq_true]
        exact k μ I
      · simp (disch := omega) only [wX8_count, h0, h1, h2, h3, h4, h5, h6, h7, h8, h9, c10, c11, not_true_eq_false, not_false_eq_true, false_implies, true_implies, and_true, true_and, and_self, nmM, if_true, if_false, or0, Int32.add_zero, forall_const, one_ne, zero_ne1, nz1, nz0, nI_z, cl, inN, Nat.le_refl, Nat.lt_irrefl, Nat.lt_succ_self, Bool.false_eq_true]
        simp (disch := omega) only [wX9_count, s_in9, qb_n ga, c10, c11, not_true_eq_false, not_false_eq_true, false_implies, true_implies, and_true, true_and, and_self, nmM, if_true, if_false, or0, Int32.add_zero, forall_const, one_ne, zero_ne1, nz1, nz0, nI_z, cl, inN, Nat.le_refl, Nat.lt_irrefl, Nat.lt_succ_self, Bool.false_eq_true]
        exact k μ I
