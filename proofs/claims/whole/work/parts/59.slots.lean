theorem ifd_p {α : Sort _} {c : Prop} [Decidable c] {A B : α} (h : c) : (if decide c = true then A else B) = A := if_pos (decide_eq_true h)
theorem ifd_n {α : Sort _} {c : Prop} [Decidable c] {A B : α} (h : ¬ c) : (if decide c = true then A else B) = B := if_neg (fun q => h (of_decide_eq_true q))
theorem cmp_le (x y : Int64) : lg_cmp x y ≤ 0 ↔ x.toInt ≤ y.toInt := by rw [lg_cmp_le, fa_le64]
theorem nI2 (i : Nat) : nI (2 * i) + 2 = nI (2 * (i + 1)) := by
  rw [l2, nI_add]
  congr 1
theorem ixN60 (s j : Nat) : ((60 : Int32) * nI s) + nI j = nI (60 * s + j) := by rw [show (60 : Int32) = nI 60 from rfl, pk_mul, nI_add]
/-- a slot with numbers, both sides -/
def SN (μ : qa_M) (s m : Nat) (f : Nat → Int64) : Prop := (s < 4 ∧ m ≤ 60) ∧ μ.1 (83 + 2 * s) 2 = nI m ∧ μ.1 110 s = nI m ∧ (∀ j, j < m → μ.2.1 (83 + 2 * s + 1) j = f j) ∧ ∀ j, j < m → μ.2.1 112 (60 * s + j) = f j
theorem SN.sc {μ μ' : qa_M} {s m : Nat} {f : Nat → Int64} (h : SN μ s m f) (c : sc μ μ') : SN μ' s m f := by
  obtain ⟨⟨h0, h1⟩, h2, h3, h4, h5⟩ := h
  obtain ⟨c1, c2, c3, c4⟩ := c
  exact ⟨⟨h0, h1⟩, by rw [c2 _ _ (by omega) (by omega) (by omega) (by omega)]; exact h2, by rw [c2 _ _ (by omega) (by omega) (by omega) (by omega)]; exact h3, fun j hj => by rw [c4 _ _ (by omega) (by omega)]; exact h4 j hj, fun j hj => by rw [c4 _ _ (by omega) (by omega)]; exact h5 j hj⟩
theorem INV.slot {μ : qa_M} (I : INV μ) {s : Nat} (hs : s < 4) : (μ.1 (83 + 2 * s) 2 = -1 ∧ μ.1 110 s = -1) ∨ ∃ m f, SN μ s m f := by
  obtain ⟨-, -, -, -, -, -, -, -, i9, -⟩ := I
  obtain ⟨g1, g2⟩ := i9 s hs
  rcases g2 with g2 | ⟨m, g2, g3, g4, g5, g6⟩
  · exact Or.inl ⟨g1.trans g2, g2⟩
  · refine Or.inr ⟨m, fun j => μ.2.1 112 (60 * s + j), ⟨hs, g2⟩, g1.trans g3, g3, fun j hj => ?_, fun j hj => rfl⟩
    rw [show 83 + 2 * s + 1 = 84 + 2 * s by omega]
    exact g6 j hj
def alls (P : Nat → Bool) : Nat → Nat → Bool
  | _, 0 => true
  | i, k + 1 => P i && alls P (i + 1) k
theorem alls_mem {P : Nat → Bool} : ∀ (k i : Nat), alls P i k = true → ∀ j, i ≤ j → j < i + k → P j = true
  | 0, i, _, j, h1, h2 => by omega
  | k + 1, i, h, j, h1, h2 => by
    unfold alls at h
    rw [Bool.and_eq_true] at h
    by_cases e : j = i
    · rw [e]; exact h.1
    · exact alls_mem k (i + 1) h.2 j (by omega) (by omega)
theorem alls_iff (m : Nat) (lp : Nat → Int32 → Prop) (K1 K0 : Prop) (B : Nat) (P : Nat → Bool)
    (h0 : ∀ n, m ≤ n → (lp (n + 1) (nI (2 * B)) ↔ K1))
    (h1 : ∀ n i, m ≤ n → i < B → (lp (n + 1) (nI (2 * i)) ↔ if P i = true then lp n (nI (2 * (i + 1))) else K0)) : ∀ (k i n : Nat), i + k = B → k + m < n → (lp n (nI (2 * i)) ↔ if alls P i k = true then K1 else K0)
  | 0, i, n, e, hn => by
    obtain ⟨n, rfl⟩ : ∃ m, n = m + 1 := ⟨n - 1, by omega⟩
    obtain rfl : i = B := by omega
    rw [h0 n (by omega)]
    unfold alls
    rw [if_pos rfl]
  | k + 1, i, n, e, hn => by
    obtain ⟨n, rfl⟩ : ∃ m, n = m + 1 := ⟨n - 1, by omega⟩
    rw [h1 n i (by omega) (by omega)]
    unfold alls
    cases P i
    · rw [Bool.false_and]
      exact Iff.rfl
    · rw [Bool.true_and, if_pos rfl]
      exact alls_iff m lp K1 K0 B P h0 h1 k (i + 1) n (by omega) (by omega)
theorem flag_iff (m : Nat) (lp : Nat → Int32 → Int32 → Prop) (K : Int32 → Prop) (B : Nat) (P : Nat → Bool)
    (h0 : ∀ n b, m ≤ n → (lp (n + 1) b (nI (2 * B)) ↔ K b))
    (h1 : ∀ n i, m ≤ n → i < B → (lp (n + 1) 1 (nI (2 * i)) ↔ lp n (if P i = true then 1 else 0) (nI (2 * (i + 1)))))
    (h2 : ∀ n i, m ≤ n → i < B → (lp (n + 1) 0 (nI (2 * i)) ↔ lp n 0 (nI (2 * (i + 1))))) : ∀ (k i n : Nat), i + k = B → k + m < n → (lp n 1 (nI (2 * i)) ↔ K (if alls P i k = true then 1 else 0)) ∧ (lp n 0 (nI (2 * i)) ↔ K 0)
  | 0, i, n, e, hn => by
    obtain ⟨n, rfl⟩ : ∃ m, n = m + 1 := ⟨n - 1, by omega⟩
    obtain rfl : i = B := by omega
    rw [h0 n _ (by omega), h0 n _ (by omega)]
    exact ⟨Iff.rfl, Iff.rfl⟩
  | k + 1, i, n, e, hn => by
    obtain ⟨n, rfl⟩ : ∃ m, n = m + 1 := ⟨n - 1, by omega⟩
    rw [h1 n i (by omega) (by omega), h2 n i (by omega) (by omega)]
    have ih := flag_iff m lp K B P h0 h1 h2 k (i + 1) n (by omega) (by omega)
    refine ⟨?_, ih.2⟩
    unfold alls
    cases P i
    · rw [Bool.false_and]
      exact ih.2
    · rw [Bool.true_and, if_pos rfl]
      exact ih.1
def prP (f : Nat → Int64) (A B C : Int) (i : Nat) : Bool := decide ((0 ≤ (f (2 * i)).toInt ∧ (f (2 * i)).toInt ≤ A) ∧ B ≤ (f (2 * i + 1)).toInt ∧ (f (2 * i + 1)).toInt ≤ C)
theorem z64 : (0 : Int64).toInt = 0 := rfl
theorem ev2 {m : Nat} (h : m ≤ 60) : nI m - nI m / 2 * 2 = nI (m % 2) := by rw [l2, pk_rem (by omega) (by omega) (by omega)]
theorem x_pairs {n s p : Nat} {f : Nat → Int64} {v1 v2 v3 : Int32} {μ : qa_M} {Q : Int32 → qa_M → Prop} (S : SN μ s (2 * p) f) (hn : 40 < n) : wX3_hasPairs n (83 + 2 * s) v1 v2 v3 μ Q ↔ if alls (prP f v1.toInt v2.toInt v3.toInt) 0 p = true then Q 1 μ else Q 0 μ := by
  obtain ⟨⟨h0, h1⟩, h2, h3, h4, h5⟩ := S
  have ev : nI (2 * p) - nI (2 * p) / 2 * 2 = 0 := by rw [ev2 h1, show 2 * p % 2 = 0 by omega]; rfl
  unfold wX3_hasPairs
  simp only [h2, ev, not_true_eq_false, false_implies, true_implies, and_true]
  refine alls_iff 0 (fun n i => wX3_hasPairs_14 n (83 + 2 * s) v1 v2 v3 i μ Q) (Q 1 μ) (Q 0 μ) p _ ?_ ?_ p 0 n (by omega) (by omega)
  · intro n _
    show wX3_hasPairs_14 (n + 1) _ _ _ _ _ _ _ ↔ _
    rw [wX3_hasPairs_14, h2, nI1, nle _ _ (by omega) (by omega)]
    simp only [show 2 * p ≤ 2 * p + 1 by omega, not_true_eq_false, not_false_eq_true, false_implies, true_implies, and_true, true_and, and_self, nmM, if_true, if_false, or0, Int32.add_zero, forall_const, one_ne, zero_ne1, nz1, nz0, nI_z, cl, inN, Nat.le_refl, Nat.lt_irrefl, Nat.lt_succ_self, Bool.false_eq_true]
  · intro n i _ hi
    show wX3_hasPairs_14 (n + 1) _ _ _ _ _ _ _ ↔ _
    have e1 : μ.2.1 (83 + 2 * s + 1) (2 * i) = f (2 * i) := h4 _ (by omega)
    have e2 : μ.2.1 (83 + 2 * s + 1) (2 * i + 1) = f (2 * i + 1) := h4 _ (by omega)
    have q1 : ¬ 2 * p ≤ 2 * i + 1 := by omega
    rw [wX3_hasPairs_14, h2, nI1, nle _ _ (by omega) (by omega)]
    simp (disch := omega) only [q1, e1, e2, wX3_hasPairs_54, wX3_hasPairs_55, nI1, nI2, cmp_lt, cmp_gt, cmp_le, z64, Int32.toInt_toInt64, not_true_eq_false, not_false_eq_true, false_implies, true_implies, and_true, true_and, and_self, nmM, if_true, if_false, or0, Int32.add_zero, forall_const, one_ne, zero_ne1, nz1, nz0, nI_z, cl, inN, Nat.le_refl, Nat.lt_irrefl, Nat.lt_succ_self, Bool.false_eq_true]
    unfold prP
    by_cases c1 : (f (2 * i)).toInt < 0
    · rw [ifd_n (by omega)]; simp only [c1, not_true_eq_false, not_false_eq_true, false_implies, true_implies, and_true, true_and, and_self, nmM, if_true, if_false, or0, Int32.add_zero, forall_const, one_ne, zero_ne1, nz1, nz0, nI_z, cl, inN, Nat.le_refl, Nat.lt_irrefl, Nat.lt_succ_self, Bool.false_eq_true]
    · by_cases c2 : v1.toInt < (f (2 * i)).toInt
      · rw [ifd_n (by omega)]; simp only [c1, c2, not_true_eq_false, not_false_eq_true, false_implies, true_implies, and_true, true_and, and_self, nmM, if_true, if_false, or0, Int32.add_zero, forall_const, one_ne, zero_ne1, nz1, nz0, nI_z, cl, inN, Nat.le_refl, Nat.lt_irrefl, Nat.lt_succ_self, Bool.false_eq_true]
      · by_cases c3 : (f (2 * i + 1)).toInt < v2.toInt
        · rw [ifd_n (by omega)]; simp only [c1, c2, c3, not_true_eq_false, not_false_eq_true, false_implies, true_implies, and_true, true_and, and_self, nmM, if_true, if_false, or0, Int32.add_zero, forall_const, one_ne, zero_ne1, nz1, nz0, nI_z, cl, inN, Nat.le_refl, Nat.lt_irrefl, Nat.lt_succ_self, Bool.false_eq_true]
        · by_cases c4 : (f (2 * i + 1)).toInt ≤ v3.toInt
          · rw [ifd_p (by omega)]; simp only [c1, c2, c3, c4, not_true_eq_false, not_false_eq_true, false_implies, true_implies, and_true, true_and, and_self, nmM, if_true, if_false, or0, Int32.add_zero, forall_const, one_ne, zero_ne1, nz1, nz0, nI_z, cl, inN, Nat.le_refl, Nat.lt_irrefl, Nat.lt_succ_self, Bool.false_eq_true]
          · rw [ifd_n (by omega)]; simp only [c1, c2, c3, c4, not_true_eq_false, not_false_eq_true, false_implies, true_implies, and_true, true_and, and_self, nmM, if_true, if_false, or0, Int32.add_zero, forall_const, one_ne, zero_ne1, nz1, nz0, nI_z, cl, inN, Nat.le_refl, Nat.lt_irrefl, Nat.lt_succ_self, Bool.false_eq_true]
def BAD (μ : qa_M) (w : Nat → Int32) (v : Int32) (A B C : Int) (c : Int32) : Prop := (¬ (0 ≤ v.toInt ∧ v.toInt < 4) ∧ c = -2) ∨ ∃ s, s < 4 ∧ v = nI s ∧ ((¬ 0 < zN w ∧ c = -2) ∨ (0 < zN w ∧ ((μ.1 (83 + 2 * s) 2 = -1 ∧ μ.1 110 s = -1 ∧ c = -6) ∨ ∃ m f, SN μ s m f ∧ c = -2 ∧ (m % 2 = 1 ∨ ∃ p, m = 2 * p ∧ alls (prP f A B C) 0 p = false))))
def GOOD (μ : qa_M) (w : Nat → Int32) (v : Int32) (A B C : Int) (s p : Nat) (f : Nat → Int64) : Prop := v = nI s ∧ 0 < zN w ∧ SN μ s (2 * p) f ∧ alls (prP f A B C) 0 p = true
theorem slot_dec {μ : qa_M} (I : INV μ) (w : Nat → Int32) (v : Int32) (A B C : Int) : (∃ c, BAD μ w v A B C c) ∨ ∃ s p f, GOOD μ w v A B C s p f := by
  by_cases g : 0 ≤ v.toInt ∧ v.toInt < 4
  · obtain ⟨s, hs, rfl⟩ := gN (H := 4) g (by omega)
    by_cases gT : 0 < zN w
    · rcases I.slot hs with ⟨h1, h2⟩ | ⟨m, f, S⟩
      · exact Or.inl ⟨-6, Or.inr ⟨s, hs, rfl, Or.inr ⟨gT, Or.inl ⟨h1, h2, rfl⟩⟩⟩⟩
      · by_cases e : m % 2 = 1
        · exact Or.inl ⟨-2, Or.inr ⟨s, hs, rfl, Or.inr ⟨gT, Or.inr ⟨m, f, S, rfl, Or.inl e⟩⟩⟩⟩
        · obtain ⟨p, rfl⟩ : ∃ p, m = 2 * p := ⟨m / 2, by omega⟩
          cases q : alls (prP f A B C) 0 p
          · exact Or.inl ⟨-2, Or.inr ⟨s, hs, rfl, Or.inr ⟨gT, Or.inr ⟨2 * p, f, S, rfl, Or.inr ⟨p, rfl, q⟩⟩⟩⟩⟩
          · exact Or.inr ⟨s, p, f, rfl, gT, S, q⟩
    · exact Or.inl ⟨-2, Or.inr ⟨s, hs, rfl, Or.inl ⟨gT, rfl⟩⟩⟩
  · exact Or.inl ⟨-2, Or.inl ⟨g, rfl⟩⟩
section SL
variable {n : Nat} {v : Int32} {w : Nat → Int32} {μ : qa_M} {Q : Int32 → qa_M → Prop}
theorem xS1 {s : Nat} (h : s < 4) : wX8_isSlot n (nI s) μ Q ↔ Q 1 μ := by
  rw [s_isSlot, nI_toInt (by omega), show (4 : Int32).toInt = 4 from rfl, qb_p (by omega)]
theorem xS0 (h : ¬ (0 ≤ v.toInt ∧ v.toInt < 4)) : wX8_isSlot n v μ Q ↔ Q 0 μ := by
  rw [s_isSlot, show (4 : Int32).toInt = 4 from rfl, qb_n h]
theorem mS1 {s : Nat} (h : s < 4) : wX9_isSlot n (nI s) μ Q ↔ Q 1 μ := by
  rw [s_misSlot, nI_toInt (by omega), show (4 : Int32).toInt = 4 from rfl, qb_p (by omega)]
theorem mS0 (h : ¬ (0 ≤ v.toInt ∧ v.toInt < 4)) : wX9_isSlot n v μ Q ↔ Q 0 μ := by
  rw [s_misSlot, show (4 : Int32).toInt = 4 from rfl, qb_n h]
theorem nI_n1 {m : Nat} (h : m ≤ 60) : (nI m = -1) = False := neg1_ne (by omega)
theorem x_bad {v2 v3 v4 c : Int32} (r : RZ w) (T : TZ μ (μ.2.2 1 2) w) (hn : 50 < n) (B : BAD μ w v v2.toInt v3.toInt v4.toInt c) : wX8_refusePairs n v v2 v3 v4 μ Q ↔ Q c μ := by
  unfold wX8_refusePairs
  rcases B with ⟨g, rfl⟩ | ⟨s, hs, rfl, B⟩
  · simp only [xS0 g, not_true_eq_false, not_false_eq_true, false_implies, true_implies, and_true, true_and, and_self, nmM, if_true, if_false, or0, Int32.add_zero, forall_const, one_ne, zero_ne1, nz1, nz0, nI_z, cl, inN, Nat.le_refl, Nat.lt_irrefl, Nat.lt_succ_self, Bool.false_eq_true]
  · rcases B with ⟨gT, rfl⟩ | ⟨gT, ⟨h1, h2, rfl⟩ | ⟨m, f, S, rfl, B⟩⟩
    · simp only [xS1 hs, xT0 T r gT, not_true_eq_false, not_false_eq_true, false_implies, true_implies, and_true, true_and, and_self, nmM, if_true, if_false, or0, Int32.add_zero, forall_const, one_ne, zero_ne1, nz1, nz0, nI_z, cl, inN, Nat.le_refl, Nat.lt_irrefl, Nat.lt_succ_self, Bool.false_eq_true]
    · simp (disch := omega) only [xS1 hs, xT1 T r gT, wX3_isThere, h1, not_true_eq_false, not_false_eq_true, false_implies, true_implies, and_true, true_and, and_self, nmM, if_true, if_false, or0, Int32.add_zero, forall_const, one_ne, zero_ne1, nz1, nz0, nI_z, cl, inN, Nat.le_refl, Nat.lt_irrefl, Nat.lt_succ_self, Bool.false_eq_true]
    · have m60 := S.1.2
      have h2 := S.2.1
      rcases B with e | ⟨p, rfl, q⟩
      · have ev : ¬ nI m - nI m / 2 * 2 = 0 := by rw [ev2 m60, e]; decide
        simp (disch := omega) only [xS1 hs, xT1 T r gT, wX3_isThere, h2, nI_n1, wX3_hasPairs, ev, not_true_eq_false, not_false_eq_true, false_implies, true_implies, and_true, true_and, and_self, nmM, if_true, if_false, or0, Int32.add_zero, forall_const, one_ne, zero_ne1, nz1, nz0, nI_z, cl, inN, Nat.le_refl, Nat.lt_irrefl, Nat.lt_succ_self, Bool.false_eq_true]
      · simp (disch := omega) only [xS1 hs, xT1 T r gT, wX3_isThere, h2, nI_n1, x_pairs S, q, not_true_eq_false, not_false_eq_true, false_implies, true_implies, and_true, true_and, and_self, nmM, if_true, if_false, or0, Int32.add_zero, forall_const, one_ne, zero_ne1, nz1, nz0, nI_z, cl, inN, Nat.le_refl, Nat.lt_irrefl, Nat.lt_succ_self, Bool.false_eq_true]
theorem x_good {v2 v3 v4 : Int32} {s p : Nat} {f : Nat → Int64} (r : RZ w) (T : TZ μ (μ.2.2 1 2) w) (hn : 50 < n) (B : GOOD μ w v v2.toInt v3.toInt v4.toInt s p f) : wX8_refusePairs n v v2 v3 v4 μ Q ↔ Q 0 μ := by
  unfold wX8_refusePairs
  obtain ⟨rfl, gT, S, q⟩ := B
  have m60 := S.1.2
  have hs := S.1.1
  have h2 := S.2.1
  simp (disch := omega) only [xS1 hs, xT1 T r gT, wX3_isThere, h2, nI_n1, x_pairs S, q, not_true_eq_false, not_false_eq_true, false_implies, true_implies, and_true, true_and, and_self, nmM, if_true, if_false, or0, Int32.add_zero, forall_const, one_ne, zero_ne1, nz1, nz0, nI_z, cl, inN, Nat.le_refl, Nat.lt_irrefl, Nat.lt_succ_self, Bool.false_eq_true]
theorem m_number {s j m : Nat} {f : Nat → Int64} {Q : Int64 → qa_M → Prop} (S : SN μ s m f) (hj : j < m) : wX9_numberAt n (nI s) (nI j) μ Q ↔ Q (f j) μ := by
  have m60 := S.1.2
  have hs := S.1.1
  unfold wX9_numberAt
  rw [ixN60, cl (by omega), S.2.2.2.2 j hj]
  exact ⟨fun h => h.2, fun h => ⟨inN (by omega) (by decide), h⟩⟩
theorem ml_pairs {s p : Nat} {f : Nat → Int64} {K0 : Int32 → qa_M → Prop} (r : RZ w) (hw : μ.1 92 = w) (gT : 0 < zN w) (S : SN μ s (2 * p) f) (hn : 40 < n) : wX9_layLeans_46 n (nI s) 0 μ K0 Q ↔ if alls (prP f ((zW w : Int) - 1) (-400) 400) 0 p = true then K0 (nI s) μ else Q (-2) μ := by
  have m60 := S.1.2
  have hs := S.1.1
  have h3 := S.2.2.1
  have hT := r.town hw gT
  have s4 : s < 4 := hs
  refine alls_iff 0 (fun n i => wX9_layLeans_46 n (nI s) i μ K0 Q) (K0 (nI s) μ) (Q (-2) μ) p _ ?_ ?_ p 0 n (by omega) (by omega)
  · intro n _
    show wX9_layLeans_46 (n + 1) _ _ _ _ _ ↔ _
    rw [wX9_layLeans_46, cl (by omega), h3, nle _ _ (by omega) (by omega)]
    simp (disch := omega) only [not_true_eq_false, not_false_eq_true, false_implies, true_implies, and_true, true_and, and_self, nmM, if_true, if_false, or0, Int32.add_zero, forall_const, one_ne, zero_ne1, nz1, nz0, nI_z, cl, inN, Nat.le_refl, Nat.lt_irrefl, Nat.lt_succ_self, Bool.false_eq_true]
  · intro n i _ hi
    show wX9_layLeans_46 (n + 1) _ _ _ _ _ ↔ _
    have q1 : ¬ 2 * p ≤ 2 * i := by omega
    rw [wX9_layLeans_46, cl (by omega), h3, nle _ _ (by omega) (by omega)]
    simp (disch := omega) only [q1, nI1, nI2, m_number S, s_misAhead (show μ.1 92 0 = nI (zW w) by rw [hw]; exact r.1.2.1) r.2.1.2.1, s_in, show (-400 : Int64).toInt = -400 from rfl, show (400 : Int64).toInt = 400 from rfl, not_true_eq_false, not_false_eq_true, false_implies, true_implies, and_true, true_and, and_self, nmM, if_true, if_false, or0, Int32.add_zero, forall_const, one_ne, zero_ne1, nz1, nz0, nI_z, cl, inN, Nat.le_refl, Nat.lt_irrefl, Nat.lt_succ_self, Bool.false_eq_true]
    unfold prP
    by_cases c1 : 0 < (μ.1 92 9).toInt ∧ 0 ≤ (f (2 * i)).toInt ∧ (f (2 * i)).toInt < (zW w : Int)
    · by_cases c2 : -400 ≤ (f (2 * i + 1)).toInt ∧ (f (2 * i + 1)).toInt ≤ 400
      · rw [ifd_p (by omega)]; simp only [qb_p c1, qb_p c2, not_true_eq_false, not_false_eq_true, false_implies, true_implies, and_true, true_and, and_self, nmM, if_true, if_false, or0, Int32.add_zero, forall_const, one_ne, zero_ne1, nz1, nz0, nI_z, cl, inN, Nat.le_refl, Nat.lt_irrefl, Nat.lt_succ_self, Bool.false_eq_true]
      · rw [ifd_n (by omega)]; simp only [qb_p c1, qb_n c2, not_true_eq_false, not_false_eq_true, false_implies, true_implies, and_true, true_and, and_self, nmM, if_true, if_false, or0, Int32.add_zero, forall_const, one_ne, zero_ne1, nz1, nz0, nI_z, cl, inN, Nat.le_refl, Nat.lt_irrefl, Nat.lt_succ_self, Bool.false_eq_true]
    · rw [ifd_n (by omega)]; simp only [qb_n c1, not_true_eq_false, not_false_eq_true, false_implies, true_implies, and_true, true_and, and_self, nmM, if_true, if_false, or0, Int32.add_zero, forall_const, one_ne, zero_ne1, nz1, nz0, nI_z, cl, inN, Nat.le_refl, Nat.lt_irrefl, Nat.lt_succ_self, Bool.false_eq_true]
theorem ml_pairsG {s p : Nat} {f : Nat → Int64} (r : RZ w) (hw : μ.1 92 = w) (gT : 0 < zN w) (S : SN μ s (2 * p) f) (hn : 100 < n) (kb : alls (prP f (zW w) 0 ((zH w : Int) - 1)) 0 p = false → Q (-2) μ) (kg : alls (prP f (zW w) 0 ((zH w : Int) - 1)) 0 p = true → ∀ m, 50 < m → wX9_asItIs m μ (fun μ8 => Q (0 : Int32) μ8)) : wX9_askGate_46 n (nI s) 0 μ Q := by
  have m60 := S.1.2
  have hs := S.1.1
  have h3 := S.2.2.1
  have hT := r.town hw gT
  have key : ∀ (k i n : Nat), i + k = p → k + 60 < n → (alls (prP f (zW w) 0 ((zH w : Int) - 1)) i k = false → Q (-2) μ) → (alls (prP f (zW w) 0 ((zH w : Int) - 1)) i k = true → ∀ m, 50 < m → wX9_asItIs m μ (fun μ8 => Q (0 : Int32) μ8)) → wX9_askGate_46 n (nI s) (nI (2 * i)) μ Q := by
    intro k
    induction k with
    | zero =>
      intro i n e hn k0 k1
      obtain ⟨n, rfl⟩ : ∃ m, n = m + 1 := ⟨n - 1, by omega⟩
      obtain rfl : i = p := by omega
      rw [wX9_askGate_46, cl (by omega), h3, nle _ _ (by omega) (by omega)]
      simp (disch := omega) only [not_true_eq_false, not_false_eq_true, false_implies, true_implies, and_true, true_and, and_self, nmM, if_true, if_false, or0, Int32.add_zero, forall_const, one_ne, zero_ne1, nz1, nz0, nI_z, cl, inN, Nat.le_refl, Nat.lt_irrefl, Nat.lt_succ_self, Bool.false_eq_true]
      exact k1 rfl n (by omega)
    | succ k ih =>
      intro i n e hn k0 k1
      obtain ⟨n, rfl⟩ : ∃ m, n = m + 1 := ⟨n - 1, by omega⟩
      have q1 : ¬ 2 * p ≤ 2 * i := by omega
      have ih := ih (i + 1) n (by omega) (by omega)
      rw [wX9_askGate_46, cl (by omega), h3, nle _ _ (by omega) (by omega)]
      simp (disch := omega) only [q1, nI1, nI2, m_number S, s_misWeek (show μ.1 92 0 = nI (zW w) by rw [hw]; exact r.1.2.1) r.2.1.2.1, s_misPlace (show μ.1 92 4 = nI (zH w) by rw [hw]; exact r.1.2.2.2.1) r.2.1.2.2.2.1, not_true_eq_false, not_false_eq_true, false_implies, true_implies, and_true, true_and, and_self, nmM, if_true, if_false, or0, Int32.add_zero, forall_const, one_ne, zero_ne1, nz1, nz0, nI_z, cl, inN, Nat.le_refl, Nat.lt_irrefl, Nat.lt_succ_self, Bool.false_eq_true]
      unfold alls at k0 k1
      by_cases c1 : 0 < (μ.1 92 9).toInt ∧ 0 ≤ (f (2 * i)).toInt ∧ (f (2 * i)).toInt ≤ (zW w : Int)
      · by_cases c2 : 0 ≤ (f (2 * i + 1)).toInt ∧ (f (2 * i + 1)).toInt < (zH w : Int)
        · have e : prP f (zW w) 0 ((zH w : Int) - 1) i = true := by unfold prP; rw [decide_eq_true_eq]; omega
          rw [e, Bool.true_and] at k0 k1
          simp only [qb_p c1, qb_p c2, not_true_eq_false, not_false_eq_true, false_implies, true_implies, and_true, true_and, and_self, nmM, if_true, if_false, or0, Int32.add_zero, forall_const, one_ne, zero_ne1, nz1, nz0, nI_z, cl, inN, Nat.le_refl, Nat.lt_irrefl, Nat.lt_succ_self, Bool.false_eq_true]
          exact ih k0 k1
        · have e : prP f (zW w) 0 ((zH w : Int) - 1) i = false := by unfold prP; rw [decide_eq_false_iff_not]; omega
          rw [e, Bool.false_and] at k0
          simp only [qb_p c1, qb_n c2, not_true_eq_false, not_false_eq_true, false_implies, true_implies, and_true, true_and, and_self, nmM, if_true, if_false, or0, Int32.add_zero, forall_const, one_ne, zero_ne1, nz1, nz0, nI_z, cl, inN, Nat.le_refl, Nat.lt_irrefl, Nat.lt_succ_self, Bool.false_eq_true]
          exact k0 rfl
      · have e : prP f (zW w) 0 ((zH w : Int) - 1) i = false := by unfold prP; rw [decide_eq_false_iff_not]; omega
        rw [e, Bool.false_and] at k0
        simp only [qb_n c1, not_true_eq_false, not_false_eq_true, false_implies, true_implies, and_true, true_and, and_self, nmM, if_true, if_false, or0, Int32.add_zero, forall_const, one_ne, zero_ne1, nz1, nz0, nI_z, cl, inN, Nat.le_refl, Nat.lt_irrefl, Nat.lt_succ_self, Bool.false_eq_true]
        exact k0 rfl
  exact key p 0 n (by omega) (by omega) kb kg
theorem m_badL {c : Int32} (r : RZ w) (hw : μ.1 92 = w) (hn : 50 < n) (B : BAD μ w v ((zW w : Int) - 1) (-400) 400 c) : wX9_layLeans n v μ Q ↔ Q c μ := by
  unfold wX9_layLeans
  rcases B with ⟨g, rfl⟩ | ⟨s, hs, rfl, B⟩
  · simp only [mS0 g, not_true_eq_false, not_false_eq_true, false_implies, true_implies, and_true, true_and, and_self, nmM, if_true, if_false, or0, Int32.add_zero, forall_const, one_ne, zero_ne1, nz1, nz0, nI_z, cl, inN, Nat.le_refl, Nat.lt_irrefl, Nat.lt_succ_self, Bool.false_eq_true]
  · rcases B with ⟨gT, rfl⟩ | ⟨gT, ⟨h1, h2, rfl⟩ | ⟨m, f, S, rfl, B⟩⟩
    · simp only [mS1 hs, mT0 hw r gT, not_true_eq_false, not_false_eq_true, false_implies, true_implies, and_true, true_and, and_self, nmM, if_true, if_false, or0, Int32.add_zero, forall_const, one_ne, zero_ne1, nz1, nz0, nI_z, cl, inN, Nat.le_refl, Nat.lt_irrefl, Nat.lt_succ_self, Bool.false_eq_true]
    · simp (disch := omega) only [mS1 hs, mT1 hw r gT, h2, not_true_eq_false, not_false_eq_true, false_implies, true_implies, and_true, true_and, and_self, nmM, if_true, if_false, or0, Int32.add_zero, forall_const, one_ne, zero_ne1, nz1, nz0, nI_z, cl, inN, Nat.le_refl, Nat.lt_irrefl, Nat.lt_succ_self, Bool.false_eq_true]
    · have m60 := S.1.2
      have h3 := S.2.2.1
      rcases B with e | ⟨p, rfl, q⟩
      · have ev : ¬ nI m - nI m / 2 * 2 = 0 := by rw [ev2 m60, e]; decide
        simp (disch := omega) only [mS1 hs, mT1 hw r gT, h3, nI_n1, ev, not_true_eq_false, not_false_eq_true, false_implies, true_implies, and_true, true_and, and_self, nmM, if_true, if_false, or0, Int32.add_zero, forall_const, one_ne, zero_ne1, nz1, nz0, nI_z, cl, inN, Nat.le_refl, Nat.lt_irrefl, Nat.lt_succ_self, Bool.false_eq_true]
      · have ev : nI (2 * p) - nI (2 * p) / 2 * 2 = 0 := by rw [ev2 m60, show 2 * p % 2 = 0 by omega]; rfl
        simp (disch := omega) only [mS1 hs, mT1 hw r gT, h3, nI_n1, ev, ml_pairs r hw gT S, q, not_true_eq_false, not_false_eq_true, false_implies, true_implies, and_true, true_and, and_self, nmM, if_true, if_false, or0, Int32.add_zero, forall_const, one_ne, zero_ne1, nz1, nz0, nI_z, cl, inN, Nat.le_refl, Nat.lt_irrefl, Nat.lt_succ_self, Bool.false_eq_true]
theorem m_badG {c : Int32} (r : RZ w) (hw : μ.1 92 = w) (hn : 100 < n) (B : BAD μ w v (zW w) 0 ((zH w : Int) - 1) c) (k : Q c μ) : wX9_askGate n v μ Q := by
  unfold wX9_askGate
  rcases B with ⟨g, rfl⟩ | ⟨s, hs, rfl, B⟩
  · simp only [mS0 g, not_true_eq_false, not_false_eq_true, false_implies, true_implies, and_true, true_and, and_self, nmM, if_true, if_false, or0, Int32.add_zero, forall_const, one_ne, zero_ne1, nz1, nz0, nI_z, cl, inN, Nat.le_refl, Nat.lt_irrefl, Nat.lt_succ_self, Bool.false_eq_true]; exact k
  · rcases B with ⟨gT, rfl⟩ | ⟨gT, ⟨h1, h2, rfl⟩ | ⟨m, f, S, rfl, B⟩⟩
    · simp only [mS1 hs, mT0 hw r gT, not_true_eq_false, not_false_eq_true, false_implies, true_implies, and_true, true_and, and_self, nmM, if_true, if_false, or0, Int32.add_zero, forall_const, one_ne, zero_ne1, nz1, nz0, nI_z, cl, inN, Nat.le_refl, Nat.lt_irrefl, Nat.lt_succ_self, Bool.false_eq_true]; exact k
    · simp (disch := omega) only [mS1 hs, mT1 hw r gT, h2, not_true_eq_false, not_false_eq_true, false_implies, true_implies, and_true, true_and, and_self, nmM, if_true, if_false, or0, Int32.add_zero, forall_const, one_ne, zero_ne1, nz1, nz0, nI_z, cl, inN, Nat.le_refl, Nat.lt_irrefl, Nat.lt_succ_self, Bool.false_eq_true]; exact k
    · have m60 := S.1.2
      have h3 := S.2.2.1
      rcases B with e | ⟨p, rfl, q⟩
      · have ev : ¬ nI m - nI m / 2 * 2 = 0 := by rw [ev2 m60, e]; decide
        simp (disch := omega) only [mS1 hs, mT1 hw r gT, h3, nI_n1, ev, not_true_eq_false, not_false_eq_true, false_implies, true_implies, and_true, true_and, and_self, nmM, if_true, if_false, or0, Int32.add_zero, forall_const, one_ne, zero_ne1, nz1, nz0, nI_z, cl, inN, Nat.le_refl, Nat.lt_irrefl, Nat.lt_succ_self, Bool.false_eq_true]; exact k
      · have ev : nI (2 * p) - nI (2 * p) / 2 * 2 = 0 := by rw [ev2 m60, show 2 * p % 2 = 0 by omega]; rfl
        simp (disch := omega) only [mS1 hs, mT1 hw r gT, h3, nI_n1, ev, not_true_eq_false, not_false_eq_true, false_implies, true_implies, and_true, true_and, and_self, nmM, if_true, if_false, or0, Int32.add_zero, forall_const, one_ne, zero_ne1, nz1, nz0, nI_z, cl, inN, Nat.le_refl, Nat.lt_irrefl, Nat.lt_succ_self, Bool.false_eq_true]
        exact ml_pairsG r hw gT S hn (fun _ => k) (fun h => by rw [q] at h; cases h)
theorem m_goodG {s p : Nat} {f : Nat → Int64} (r : RZ w) (hw : μ.1 92 = w) (hn : 100 < n) (B : GOOD μ w v (zW w) 0 ((zH w : Int) - 1) s p f) (k : ∀ m, 50 < m → wX9_asItIs m μ (fun μ8 => Q (0 : Int32) μ8)) : wX9_askGate n v μ Q := by
  unfold wX9_askGate
  obtain ⟨rfl, gT, S, q⟩ := B
  have m60 := S.1.2
  have hs := S.1.1
  have h3 := S.2.2.1
  have ev : nI (2 * p) - nI (2 * p) / 2 * 2 = 0 := by rw [ev2 m60, show 2 * p % 2 = 0 by omega]; rfl
  simp (disch := omega) only [mS1 hs, mT1 hw r gT, h3, nI_n1, ev, not_true_eq_false, not_false_eq_true, false_implies, true_implies, and_true, true_and, and_self, nmM, if_true, if_false, or0, Int32.add_zero, forall_const, one_ne, zero_ne1, nz1, nz0, nI_z, cl, inN, Nat.le_refl, Nat.lt_irrefl, Nat.lt_succ_self, Bool.false_eq_true]
  exact ml_pairsG r hw gT S hn (fun h => by rw [q] at h; cases h) (fun _ => k)
end SL
/-- what a tried year leaves alone -/
def XK (μ μ' : qa_M) : Prop := μ'.2 = μ.2 ∧ ∀ b j, b ≠ 31 → b ≠ 38 → b ≠ 39 → b ≠ 40 → b ≠ 41 → μ'.1 b j = μ.1 b j
theorem x_trial {n U : Nat} {w : Nat → Int32} {o : OV} {μ0 μ : qa_M} (up : qa_M → qa_M) {Q : qa_M → Prop} (I : INV μ0) (hw : μ0.1 92 = w) (s : sc μ0 μ) (hup : ∀ μ1, PLN μ1 w (zW w) (oT w) → PLN (up μ1) w U o) (hon : ∀ μ1, onlyP μ1 (up μ1)) (hU : U ≤ zW w) (hlaw : 0 < U → (1 ≤ o.2.1 ∧ o.2.1 ≤ 30) ∧ (o.1 = 0 ∨ o.1 = 1 ∨ o.1 = 2 ∨ o.1 = 3)) (hn : 60 < n)
    (kk : ∀ μ', sc μ0 μ' → XK μ μ' → YR μ' 38 39 40 41 U w o → TZ μ' (μ'.2.2 1 2) w → Q μ') : wX1_asTold n (μ.2.2 1 2) μ (fun μ5 => wX7_follow n 37 ((up μ5).2.2 1 2) (up μ5) Q) := by
  have I' := I.sc s
  obtain ⟨r, T, -, -⟩ := I'.facts (s.w.trans hw)
  refine x_asTold I'.tw T (fun μ1 o1 P1 => ?_)
  have o2 := hon μ1
  have s2 : sc μ0 (up μ1) := (s.pln o1).pln o2
  have I2 := I.sc s2
  obtain ⟨-, T2, -, -⟩ := I2.facts (s2.w.trans hw)
  refine x_year I2.tw (Or.inr rfl) r T2 (hup μ1 P1) hU hlaw hn (fun μ' o' Y => ?_)
  have s3 : sc μ0 μ' := s2.tr' o'
  obtain ⟨-, T3, -, -⟩ := (I.sc s3).facts (s3.w.trans hw)
  exact kk μ' s3 ⟨by rw [o'.1, o2.1, o1.1], fun b j h1 h2 h3 h4 h5 => by rw [o'.2 b j h2 h3 h4 h5, o2.2 b j h1, o1.2 b j h1]⟩ Y T3
theorem onlyP1 (k : Nat) (x : Int32) (μ : qa_M) : onlyP μ (qa_uI μ 31 k x) := ⟨rfl, fun b j hb => uIn _ _ (fun e => hb e.1)⟩
/-- whose leaning is told otherwise -/
def oS (w : Nat → Int32) (x : Int32) : OV := (w 1, zK w, x, snowW w (zS w), 0, id)
def ftb (tu : Nat → Int32) (f : Nat → Int64) (j : Nat) : Bool := decide ((tu (f (2 * j)).toInt32.toNatClampNeg).toInt64 = f (2 * j + 1))
def fit (w : Nat → Int32) (f : Nat → Int64) (p i : Nat) : Bool := alls (ftb (ytu w (oS w (nI i))) f) 0 p
theorem q64 {x : Int64} {A : Nat} (h0 : 0 ≤ x.toInt) (h1 : x.toInt ≤ A) (hA : A < 1000) : ∃ q, q ≤ A ∧ x.toInt32 = nI q := by
  obtain ⟨k, hk, rfl⟩ := pk_lOf (x := x) (by rw [fa_lt64, z64]; omega)
  rw [pk_lT hk] at h1
  exact ⟨k, by omega, lN_i k⟩
theorem x_fitsTurns {n s p W : Nat} {f : Nat → Int64} {tu : Nat → Int32} {μ : qa_M} {Q : Int32 → qa_M → Prop} (S : SN μ s (2 * p) f) (hW : W ≤ 20) (gd : alls (prP f ((W : Int) - 1) (-400) 400) 0 p = true) (ht : ∀ v, v < W → μ.1 41 v = tu v) (hn : 40 < n) : wX3_fitsTurns n (83 + 2 * s) 37 μ Q ↔ if alls (ftb tu f) 0 p = true then Q 1 μ else Q 0 μ := by
  obtain ⟨⟨h0, h1⟩, h2, h3, h4, h5⟩ := S
  unfold wX3_fitsTurns
  refine alls_iff 0 (fun n i => wX3_fitsTurns_2 n (83 + 2 * s) 37 i μ Q) (Q 1 μ) (Q 0 μ) p _ ?_ ?_ p 0 n (by omega) (by omega)
  · intro n _
    show wX3_fitsTurns_2 (n + 1) _ _ _ _ _ ↔ _
    rw [wX3_fitsTurns_2, h2, nI1, nle _ _ (by omega) (by omega)]
    simp only [show 2 * p ≤ 2 * p + 1 by omega, not_true_eq_false, not_false_eq_true, false_implies, true_implies, and_true, true_and, and_self, nmM, if_true, if_false, or0, Int32.add_zero, forall_const, one_ne, zero_ne1, nz1, nz0, nI_z, cl, inN, Nat.le_refl, Nat.lt_irrefl, Nat.lt_succ_self, Bool.false_eq_true]
  · intro n i _ hi
    show wX3_fitsTurns_2 (n + 1) _ _ _ _ _ ↔ _
    have e1 : μ.2.1 (83 + 2 * s + 1) (2 * i) = f (2 * i) := h4 _ (by omega)
    have e2 : μ.2.1 (83 + 2 * s + 1) (2 * i + 1) = f (2 * i + 1) := h4 _ (by omega)
    have g := alls_mem p 0 gd i (by omega) (by omega)
    unfold prP at g
    rw [decide_eq_true_eq] at g
    obtain ⟨q, q1, q2⟩ := q64 (A := 19) g.1.1 (by omega) (by omega)
    have q3 : (q : Int) ≤ (W : Int) - 1 := by
      obtain ⟨k, hk, e⟩ := pk_lOf (x := f (2 * i)) (by rw [fa_lt64, z64]; omega)
      have g1 := g.1
      rw [e, pk_lT hk] at g1
      rw [e, lN_i, neq _ _ (by omega) (by omega)] at q2
      omega
    have e3 := ht q (by omega)
    have q0 : ¬ 2 * p ≤ 2 * i + 1 := by omega
    rw [wX3_fitsTurns_2, h2, nI1, nle _ _ (by omega) (by omega)]
    have eb : ftb tu f i = decide ((tu q).toInt64 = f (2 * i + 1)) := by unfold ftb; rw [q2, cl (by omega)]
    rw [eb]
    simp (disch := omega) only [q0, e1, e2, q2, e3, nI1, nI2, lg_cmp_eq, not_true_eq_false, not_false_eq_true, false_implies, true_implies, and_true, true_and, and_self, nmM, if_true, if_false, or0, Int32.add_zero, forall_const, one_ne, zero_ne1, nz1, nz0, nI_z, cl, inN, Nat.le_refl, Nat.lt_irrefl, Nat.lt_succ_self, Bool.false_eq_true]
    by_cases c1 : (tu q).toInt64 = f (2 * i + 1)
    · rw [ifd_p c1]; simp only [c1, not_true_eq_false, not_false_eq_true, false_implies, true_implies, and_true, true_and, and_self, nmM, if_true, if_false, or0, Int32.add_zero, forall_const, one_ne, zero_ne1, nz1, nz0, nI_z, cl, inN, Nat.le_refl, Nat.lt_irrefl, Nat.lt_succ_self, Bool.false_eq_true]
    · rw [ifd_n c1]; simp only [c1, not_true_eq_false, not_false_eq_true, false_implies, true_implies, and_true, true_and, and_self, nmM, if_true, if_false, or0, Int32.add_zero, forall_const, one_ne, zero_ne1, nz1, nz0, nI_z, cl, inN, Nat.le_refl, Nat.lt_irrefl, Nat.lt_succ_self, Bool.false_eq_true]
theorem ml_fits {n s p W : Nat} {f : Nat → Int64} {tu : Nat → Int32} {μ : qa_M} {K : Int32 → Int32 → qa_M → Prop} {Q : Int32 → qa_M → Prop} (S : SN μ s (2 * p) f) (hW : W ≤ 20) (gd : alls (prP f ((W : Int) - 1) (-400) 400) 0 p = true) (ht : ∀ v, v < W → μ.1 104 v = tu v) (hn : 40 < n) : wX9_layLeans_133 n (nI s) 1 0 μ K Q ↔ K (nI s) (if alls (ftb tu f) 0 p = true then 1 else 0) μ := by
  have m60 := S.1.2
  have hs := S.1.1
  have h3 := S.2.2.1
  refine (flag_iff 0 (fun n b i => wX9_layLeans_133 n (nI s) b i μ K Q) (fun b => K (nI s) b μ) p (ftb tu f) ?_ ?_ ?_ p 0 n (by omega) (by omega)).1
  · intro n b _
    show wX9_layLeans_133 (n + 1) _ _ _ _ _ _ ↔ _
    rw [wX9_layLeans_133, cl (by omega), h3, nle _ _ (by omega) (by omega)]
    simp (disch := omega) only [not_true_eq_false, not_false_eq_true, false_implies, true_implies, and_true, true_and, and_self, nmM, if_true, if_false, or0, Int32.add_zero, forall_const, one_ne, zero_ne1, nz1, nz0, nI_z, cl, inN, Nat.le_refl, Nat.lt_irrefl, Nat.lt_succ_self, Bool.false_eq_true]
  · intro n i _ hi
    show wX9_layLeans_133 (n + 1) _ _ _ _ _ _ ↔ _
    have g := alls_mem p 0 gd i (by omega) (by omega)
    unfold prP at g
    rw [decide_eq_true_eq] at g
    obtain ⟨q, q1, q2⟩ := q64 (A := 19) g.1.1 (by omega) (by omega)
    have q3 : (q : Int) ≤ (W : Int) - 1 := by
      obtain ⟨k, hk, e⟩ := pk_lOf (x := f (2 * i)) (by rw [fa_lt64, z64]; omega)
      have g1 := g.1
      rw [e, pk_lT hk] at g1
      rw [e, lN_i, neq _ _ (by omega) (by omega)] at q2
      omega
    have e3 := ht q (by omega)
    have q0 : ¬ 2 * p ≤ 2 * i := by omega
    rw [wX9_layLeans_133, cl (by omega), h3, nle _ _ (by omega) (by omega)]
    have eb : ftb tu f i = decide ((tu q).toInt64 = f (2 * i + 1)) := by unfold ftb; rw [q2, cl (by omega)]
    rw [eb]
    simp (disch := omega) only [q0, m_number S, q2, e3, nI1, nI2, lg_cmp_eq, wX9_layLeans_176, wX9_layLeans_177, not_true_eq_false, not_false_eq_true, false_implies, true_implies, and_true, true_and, and_self, nmM, if_true, if_false, or0, Int32.add_zero, forall_const, one_ne, zero_ne1, nz1, nz0, nI_z, cl, inN, Nat.le_refl, Nat.lt_irrefl, Nat.lt_succ_self, Bool.false_eq_true]
    by_cases c1 : (tu q).toInt64 = f (2 * i + 1)
    · rw [ifd_p c1]; simp only [c1, not_true_eq_false, not_false_eq_true, false_implies, true_implies, and_true, true_and, and_self, nmM, if_true, if_false, or0, Int32.add_zero, forall_const, one_ne, zero_ne1, nz1, nz0, nI_z, cl, inN, Nat.le_refl, Nat.lt_irrefl, Nat.lt_succ_self, Bool.false_eq_true]
    · rw [ifd_n c1]; simp only [c1, not_true_eq_false, not_false_eq_true, false_implies, true_implies, and_true, true_and, and_self, nmM, if_true, if_false, or0, Int32.add_zero, forall_const, one_ne, zero_ne1, nz1, nz0, nI_z, cl, inN, Nat.le_refl, Nat.lt_irrefl, Nat.lt_succ_self, Bool.false_eq_true]
  · intro n i _ hi
    show wX9_layLeans_133 (n + 1) _ _ _ _ _ _ ↔ _
    have q0 : ¬ 2 * p ≤ 2 * i := by omega
    rw [wX9_layLeans_133, cl (by omega), h3, nle _ _ (by omega) (by omega)]
    simp (disch := omega) only [q0, nI2, wX9_layLeans_176, wX9_layLeans_177, not_true_eq_false, not_false_eq_true, false_implies, true_implies, and_true, true_and, and_self, nmM, if_true, if_false, or0, Int32.add_zero, forall_const, one_ne, zero_ne1, nz1, nz0, nI_z, cl, inN, Nat.le_refl, Nat.lt_irrefl, Nat.lt_succ_self, Bool.false_eq_true]
