/-- what an act, an image or a new town leaves alone -/
def kp (μ μ' : qa_M) : Prop := μ'.2.2 = μ.2.2 ∧ (∀ b j, (b = 2 ∨ b = 15 ∨ b = 29 ∨ (47 ≤ b ∧ b ≤ 90) ∨ (93 ≤ b ∧ b ≤ 95) ∨ (110 ≤ b ∧ b ≤ 111)) → μ'.1 b j = μ.1 b j) ∧ (μ'.1 91 5 = μ.1 91 5 ∧ μ'.1 91 12 = μ.1 91 12 ∧ μ'.1 91 13 = μ.1 91 13) ∧ ∀ b j, b ≠ 91 → b ≠ 113 → μ'.2.1 b j = μ.2.1 b j
theorem kp.rf (μ : qa_M) : kp μ μ := ⟨rfl, fun _ _ _ => rfl, ⟨rfl, rfl, rfl⟩, fun _ _ _ _ => rfl⟩
theorem kp.tr {μ μ1 μ2 : qa_M} (h : kp μ μ1) (h' : kp μ1 μ2) : kp μ μ2 := ⟨h'.1.trans h.1, fun b j hb => (h'.2.1 b j hb).trans (h.2.1 b j hb), ⟨h'.2.2.1.1.trans h.2.2.1.1, h'.2.2.1.2.1.trans h.2.2.1.2.1, h'.2.2.1.2.2.trans h.2.2.1.2.2⟩, fun b j h1 h2 => (h'.2.2.2 b j h1 h2).trans (h.2.2.2 b j h1 h2)⟩
theorem sc.kp {μ μ' : qa_M} (h : sc μ μ') : kp μ μ' := ⟨h.1, fun b j hb => h.2.1 b j (by omega) (by omega) (by omega) (by omega), h.2.2.1, h.2.2.2⟩
theorem INV.new {μ μ' : qa_M} (h : INV μ) (c : kp μ μ') (r : RZ (μ'.1 92)) (T : TZ μ' (μ'.2.2 1 2) (μ'.1 92)) (Y : YR μ' 33 34 35 36 (zW (μ'.1 92)) (μ'.1 92) (oT (μ'.1 92))) (z : μ'.1 1 4 = 0) : INV μ' := by
  obtain ⟨i1, i2, i3, i4, i5, i6, i7, i8, i9, i10⟩ := h
  obtain ⟨s1, s2, ⟨s3, s4, s5⟩, s6⟩ := c
  refine ⟨by rw [s1]; exact i1, by rw [s1]; exact i2, r, T, Y, ?_, ?_, ?_, ?_, Or.inl z⟩
  · obtain ⟨T, t1, t2, t3, t4⟩ := i6
    refine ⟨T, t1, by rw [s2 _ _ (by omega)]; exact t2, by rw [s3]; exact t3, fun j hj => ?_⟩
    rw [s2 _ _ (by omega), s2 _ _ (by omega)]
    exact t4 j hj
  · rw [s4, s5, s2 _ _ (by omega), s2 _ _ (by omega)]
    exact i7
  · intro k hk
    have e93 : (fun j => μ'.1 93 (114 * k + j)) = (fun j => μ.1 93 (114 * k + j)) := funext (fun j => s2 _ _ (by omega))
    rw [s2 29 _ (by omega), s2 94 _ (by omega), e93]
    obtain ⟨g1, g2⟩ := i8 k hk
    refine ⟨g1, ?_⟩
    rcases g2 with g2 | ⟨g2, g3, g4⟩
    · exact Or.inl g2
    · exact Or.inr ⟨g2, g3, g4.mono (fun j x hj => s2 _ _ (by omega)) rfl⟩
  · intro k hk
    obtain ⟨g1, g2⟩ := i9 k hk
    rw [s2 (83 + 2 * k) _ (by omega), s2 110 _ (by omega)]
    refine ⟨g1, ?_⟩
    rcases g2 with g2 | ⟨m, g2, g3, g4, g5, g6⟩
    · exact Or.inl g2
    · refine Or.inr ⟨m, g2, g3, ?_, ?_, fun j hj => ?_⟩
      · rw [s2 (83 + 2 * k) _ (by omega), s2 111 _ (by omega)]; exact g4
      · rw [s2 111 _ (by omega)]; exact g5
      · rw [s6 _ _ (by omega) (by omega), s6 _ _ (by omega) (by omega)]; exact g6 j hj
/-- the year told anew -/
theorem x_renew {n : Nat} {w : Nat → Int32} {μ : qa_M} {Q : qa_M → Prop} (ht : μ.2.2 1 2 = 3 ∨ μ.2.2 1 2 = 16) (r : RZ w) (T : TZ μ (μ.2.2 1 2) w) (hn : 60 < n) (kk : ∀ μ', μ'.2 = μ.2 → (∀ b j, b ≠ 31 → b ≠ 33 → b ≠ 34 → b ≠ 35 → b ≠ 36 → (b = 1 → j ≠ 4) → μ'.1 b j = μ.1 b j) → μ'.1 1 4 = 0 → YR μ' 33 34 35 36 (zW w) w (oT w) → Q μ') : wX8_renew n μ Q := by
  have tw : qa_tw (μ.2.2 1 2) := ht.elim Or.inl (fun e => Or.inr (Or.inl e))
  unfold wX8_renew
  refine x_asTold tw T (fun μ1 o1 P1 => ?_)
  have T1 : TZ μ1 (μ1.2.2 1 2) w := by
    rw [o1.1]
    exact T.mono (fun j x hj => o1.2 _ _ (by rcases ht with e | e <;> rw [e] <;> omega)) rfl
  refine x_year (by rw [o1.1]; exact tw) (Or.inl rfl) r T1 P1 (Nat.le_refl _) (fun h => r.law (by omega)) hn (fun μ2 o2 Y2 => ?_)
  rw [nmM]
  refine kk _ (o2.1.trans o1.1) (fun b j h1 h2 h3 h4 h5 h6 => ?_) (uIs _ _ _ _) (Y2.mono (fun b j hb => uIn _ _ (fun e => by omega)))
  rw [uIn _ _ (fun e => h6 e.1 e.2), o2.2 b j h2 h3 h4 h5, o1.2 b j h1]
theorem z_c {w w' : Nat → Int32} (h : ∀ j, j < 10 → j ≠ 8 → w' j = w j) : zN w' = zN w ∧ zW w' = zW w ∧ zK w' = zK w ∧ zH w' = zH w ∧ zP w' = zP w ∧ zS w' = zS w ∧ zL w' = zL w := by
  unfold zN zW zK zH zP zS zL
  rw [h 9 (by omega) (by omega), h 0 (by omega) (by omega), h 2 (by omega) (by omega), h 4 (by omega) (by omega), h 5 (by omega) (by omega), h 6 (by omega) (by omega), h 7 (by omega) (by omega)]
  exact ⟨rfl, rfl, rfl, rfl, rfl, rfl, rfl⟩
theorem leanW_c {w w' : Nat → Int32} (h : ∀ j, j < 8 → w' (11 + 2 * j) = w (11 + 2 * j)) : leanW w' = leanW w := itr_congr 8 0 0 (fun j s _ hj => by rw [h j (by omega)])
theorem snowW_c {w w' : Nat → Int32} {k : Nat} (h : ∀ j, j < k → w' (56 + j) = w (56 + j)) : snowW w' k = snowW w k := itr_congr k 0 0 (fun j s _ hj => by rw [h j (by omega)])
theorem sunW_c {w w' : Nat → Int32} {k p : Nat} (h : ∀ j, 26 ≤ j → j < 26 + 3 * k → w' j = w j) : sunW w' k p = sunW w k p := itr_congr k 0 0 (fun j s _ hj => by rw [h (26 + 3 * j) (by omega) (by omega), h (27 + 3 * j) (by omega) (by omega)])
theorem smellW_c {w w' : Nat → Int32} {k p : Nat} (h : ∀ j, 26 ≤ j → j < 26 + 3 * k → w' j = w j) : smellW w' k p = smellW w k p := itr_congr k 0 0 (fun j s _ hj => by rw [h (26 + 3 * j) (by omega) (by omega), h (28 + 3 * j) (by omega) (by omega)])
theorem restW_c {w w' : Nat → Int32} {k p : Nat} (h : ∀ j, j < k → w' (84 + j) = w (84 + j)) : restW w' k p = restW w k p := itr_congr k 0 0 (fun j s _ hj => by rw [h j (by omega)])
theorem swapW_c {w w' : Nat → Int32} {k : Nat} (h : ∀ j, j < k → w' (84 + j) = w (84 + j)) : swapW w' k = swapW w k := itr_congr k 0 0 (fun j s _ hj => by unfold exW; rw [h j (by omega)])
/-- an act, as m writes it -/
def actM (w : Nat → Int32) (H W i : Nat) : Prop := (∃ h v, h < H ∧ v < W ∧ w (84 + i) = nI (10000 + 100 * h + v)) ∨ ∃ a b v, a < H ∧ b < H ∧ a ≠ b ∧ v < W ∧ w (84 + i) = nI (1000 * a + 100 * b + v)
/-- an act, on both sides -/
def actX (μ : qa_M) (t : Nat) (w : Nat → Int32) (H W i : Nat) : Prop := (∃ h v, h < H ∧ v < W ∧ w (84 + i) = nI (10000 + 100 * h + v) ∧ μ.1 (t + 8) i = nI h ∧ μ.1 (t + 9) i = -1 ∧ μ.1 (t + 10) i = nI v) ∨ ∃ a b v, a < H ∧ b < H ∧ a ≠ b ∧ v < W ∧ w (84 + i) = nI (1000 * a + 100 * b + v) ∧ μ.1 (t + 8) i = nI a ∧ μ.1 (t + 9) i = nI b ∧ μ.1 (t + 10) i = nI v
theorem actX.m {μ : qa_M} {t : Nat} {w : Nat → Int32} {H W i : Nat} (h : actX μ t w H W i) : actM w H W i := by
  rcases h with ⟨h, v, h1, h2, h3, -⟩ | ⟨a, b, v, h1, h2, h3, h4, h5, -⟩
  · exact Or.inl ⟨h, v, h1, h2, h3⟩
  · exact Or.inr ⟨a, b, v, h1, h2, h3, h4, h5⟩
theorem RZ.acts {w w' : Nat → Int32} {c : Nat} (r : RZ w) (h : ∀ j, j < 84 → j ≠ 8 → w' j = w j) (h8 : w' 8 = nI c) (hc : c ≤ 30) (ha : ∀ i, i < c → actM w' (zH w) (zW w) i) : RZ w' ∧ zA w' = c := by
  obtain ⟨z1, z2, z3, z4, z5, z6, z7⟩ := z_c (w := w) (w' := w') (fun j hj h8 => h j (by omega) h8)
  have z8 : zA w' = c := by unfold zA; rw [h8, cl (by omega)]
  refine ⟨?_, z8⟩
  obtain ⟨⟨a1, a2, a3, a4, a5, a6, a7, a8⟩, ⟨b1, b2, b3, b4, b5, b6, b7, b8⟩, ⟨⟨o, o1, o2⟩, c2, c3, c4⟩, ⟨d1, d2⟩, e, f, g, -⟩ := r
  unfold RZ
  rw [z1, z2, z3, z4, z5, z6, z7, z8]
  refine ⟨⟨by rw [h 9 (by omega) (by omega)]; exact a1, by rw [h 0 (by omega) (by omega)]; exact a2, by rw [h 2 (by omega) (by omega)]; exact a3, by rw [h 4 (by omega) (by omega)]; exact a4, by rw [h 5 (by omega) (by omega)]; exact a5, by rw [h 6 (by omega) (by omega)]; exact a6, by rw [h 7 (by omega) (by omega)]; exact a7, h8⟩, ⟨b1, b2, b3, b4, b5, b6, b7, hc⟩, ⟨⟨o, o1, by rw [h 3 (by omega) (by omega)]; exact o2⟩, by rw [h 1 (by omega) (by omega)]; exact c2, c3, c4⟩, ⟨fun k hk => ?_, fun k h1 h2 => ?_⟩, fun k hk => ?_, fun k hk => ?_, fun k hk => ?_, ha⟩
  · rw [h (10 + 2 * k) (by omega) (by omega), h (11 + 2 * k) (by omega) (by omega)]; exact d1 k hk
  · rw [h (11 + 2 * k) (by omega) (by omega)]; exact d2 k h1 h2
  · rw [h (26 + 3 * k) (by omega) (by omega), h (27 + 3 * k) (by omega) (by omega), h (28 + 3 * k) (by omega) (by omega)]; exact e k hk
  · rw [h (56 + k) (by omega) (by omega)]; exact f k hk
  · rw [h (60 + 3 * k) (by omega) (by omega), h (61 + 3 * k) (by omega) (by omega), h (62 + 3 * k) (by omega) (by omega)]; exact g k hk
theorem TZ.acts {μ μ' : qa_M} {t : Nat} {w w' : Nat → Int32} {c : Nat} (T : TZ μ t w) (r : RZ w) (h : ∀ j, j < 84 → j ≠ 8 → w' j = w j) (z8 : zA w' = c) (e : ∀ j x, j ≤ 6 → μ'.1 (t + j) x = μ.1 (t + j) x) (d1 : μ'.1 (t + 7) 0 = nI c) (d2 : μ'.1 (t + 7) 5 = swapW w' c) (d3 : ∀ j, j < 20 → μ'.1 (t + 11) j = restW w' c j) (f : ∀ i, i < c → actX μ' t w' (zH w) (zW w) i) : TZ μ' t w' := by
  obtain ⟨z1, z2, z3, z4, z5, z6, z7⟩ := z_c (w := w) (w' := w') (fun j hj h8 => h j (by omega) h8)
  obtain ⟨-, ⟨b1, b2, b3, b4, b5, b6, b7, b8⟩, -⟩ := r
  obtain ⟨⟨a0, a1, a2, a3, a4, a5, a6, a7, a8, a9, a10⟩, ⟨q1, q2, q3⟩, cc, -, -⟩ := T
  have e0 : ∀ x, μ'.1 t x = μ.1 t x := fun x => e 0 x (by omega)
  unfold TZ
  rw [z1, z2, z3, z4, z5, z6, z7, z8]
  refine ⟨⟨by rw [e0]; exact a0, by rw [e0]; exact a1, by rw [e0, h 1 (by omega) (by omega)]; exact a2, by rw [e0]; exact a3, by rw [e0, h 3 (by omega) (by omega)]; exact a4, by rw [e0]; exact a5, by rw [e0]; exact a6, by rw [e0]; exact a7, by rw [e0]; exact a8, ?_, ?_⟩, ⟨fun k hk => ?_, fun p hp => ?_, fun p hp => ?_⟩, fun k hk => ?_, ⟨d1, d2, d3⟩, f⟩
  · rw [e0, leanW_c (fun j hj => h _ (by omega) (by omega))]; exact a9
  · rw [e0, snowW_c (fun j hj => h _ (by omega) (by omega))]; exact a10
  · rw [e 1 _ (by omega), h _ (by omega) (by omega)]; exact q1 k hk
  · rw [e 2 _ (by omega), sunW_c (fun j h1 h2 => h _ (by omega) (by omega))]; exact q2 p hp
  · rw [e 3 _ (by omega), smellW_c (fun j h1 h2 => h _ (by omega) (by omega))]; exact q3 p hp
  · rw [e 4 _ (by omega), e 5 _ (by omega), e 6 _ (by omega), h (60 + 3 * k) (by omega) (by omega), h (61 + 3 * k) (by omega) (by omega), h (62 + 3 * k) (by omega) (by omega)]; exact cc k hk
section ST
variable {w : Nat → Int32} {i h v a b j : Nat}
theorem act_div (hh : h < 8) (hv : v < 20) : (nI (10000 + 100 * h + v) - 10000) / 100 = nI h := by
  rw [show (10000 : Int32) = nI 10000 from rfl, pk_sub (by omega), show (100 : Int32) = nI 100 from rfl, pk_div (by omega) (by omega) (by omega)]
  congr 1
  omega
theorem restW_r (e : w (84 + i) = nI (10000 + 100 * h + v)) (hh : h < 8) (hv : v < 20) (hj : j < 20) : restW w (i + 1) j = if j = v then restW w i j ||| ((1 : Int32) <<< (nI h &&& 31)) else restW w i j := by
  unfold restW
  rw [itr_succ, Nat.zero_add, e, act_mod hh hv, act_div hh hv]
  have c1 : ¬ nI (10000 + 100 * h + v) < 10000 := by rw [show (10000 : Int32) = nI 10000 from rfl, nlt _ _ (by omega) (by omega)]; omega
  by_cases c : j = v
  · rw [if_pos ⟨c1, by rw [c]⟩, if_pos c]
  · rw [if_neg (fun q => c ?_), if_neg c]
    have := q.2
    rw [neq _ _ (by omega) (by omega)] at this
    exact this.symm
theorem restW_s (e : w (84 + i) = nI (1000 * a + 100 * b + v)) (ha : a < 8) (hb : b < 8) (hv : v < 20) : restW w (i + 1) j = restW w i j := by
  unfold restW
  rw [itr_succ, Nat.zero_add, e]
  have c1 : nI (1000 * a + 100 * b + v) < 10000 := by rw [show (10000 : Int32) = nI 10000 from rfl, nlt _ _ (by omega) (by omega)]; omega
  rw [if_neg (fun q => q.1 c1)]
theorem swapW_r (e : w (84 + i) = nI (10000 + 100 * h + v)) (hh : h < 8) (hv : v < 20) : swapW w (i + 1) = swapW w i := by
  unfold swapW
  rw [itr_succ, Nat.zero_add, exW_rest hh hv e]
theorem swapW_s (e : w (84 + i) = nI (1000 * a + 100 * b + v)) (ha : a < 8) (hb : b < 8) (hv : v < 20) : swapW w (i + 1) = swapW w i ||| ((1 : Int32) <<< (nI v &&& 31)) := by
  unfold swapW
  rw [itr_succ, Nat.zero_add, exW_swap ha hb hv e]
end ST
/-- one note -/
theorem x_note {n t i c H W : Nat} {w : Nat → Int32} {μ : qa_M} {Q : qa_M → Prop} (hH : H ≤ 8) (hW : W ≤ 20) (hi : i < 30) (A : actX μ t w H W i) (e5 : μ.1 (t + 7) 5 = swapW w i) (e11 : ∀ j, j < 20 → μ.1 (t + 11) j = restW w i j) (kk : ∀ μ', μ'.2 = μ.2 → (∀ b j, b ≠ t + 11 → ¬ (b = t + 7 ∧ j = 5) → μ'.1 b j = μ.1 b j) → μ'.1 (t + 7) 5 = swapW w (i + 1) → (∀ j, j < 20 → μ'.1 (t + 11) j = restW w (i + 1) j) → Q μ') : wX0_note n t (nI i) μ Q := by
  unfold wX0_note
  rcases A with ⟨h, v, h1, h2, h3, h4, h5, h6⟩ | ⟨a, b, v, h1, h2, h3, h4, h5, h6, h7, h8⟩
  · simp (disch := omega) only [h4, h5, h6, e11, not_true_eq_false, not_false_eq_true, false_implies, true_implies, and_true, true_and, and_self, nmM, if_true, if_false, or0, Int32.add_zero, forall_const, one_ne, zero_ne1, nz1, nz0, nI_z, cl, inN, Nat.le_refl, Nat.lt_irrefl, Nat.lt_succ_self, Bool.false_eq_true]
    refine kk _ rfl (fun b j hb _ => uIn _ _ (fun e => hb e.1)) ?_ (fun j hj => ?_)
    · rw [uIn _ _ (fun e => by omega), swapW_r h3 (by omega) (by omega)]; exact e5
    · rw [uI1, restW_r h3 (by omega) (by omega) hj]
      by_cases c : j = v
      · rw [if_pos ⟨rfl, c⟩, if_pos c, c]
      · rw [if_neg (fun q => c q.2), if_neg c]; exact e11 j hj
  · simp (disch := omega) only [h6, h7, h8, e5, neg1_ne, not_true_eq_false, not_false_eq_true, false_implies, true_implies, and_true, true_and, and_self, nmM, if_true, if_false, or0, Int32.add_zero, forall_const, one_ne, zero_ne1, nz1, nz0, nI_z, cl, inN, Nat.le_refl, Nat.lt_irrefl, Nat.lt_succ_self, Bool.false_eq_true]
    refine kk _ rfl (fun b j _ hb => uIn _ _ hb) ?_ (fun j hj => ?_)
    · rw [uIs, swapW_s h5 (by omega) (by omega) (by omega)]
    · rw [uIn _ _ (fun e => by omega), restW_s h5 (by omega) (by omega) (by omega)]; exact e11 j hj
theorem actX.mono {μ μ' : qa_M} {t : Nat} {w w' : Nat → Int32} {H W i : Nat} (h : actX μ t w H W i) (e8 : μ'.1 (t + 8) i = μ.1 (t + 8) i) (e9 : μ'.1 (t + 9) i = μ.1 (t + 9) i) (e10 : μ'.1 (t + 10) i = μ.1 (t + 10) i) (ew : w' (84 + i) = w (84 + i)) : actX μ' t w' H W i := by
  unfold actX
  rw [e8, e9, e10, ew]
  exact h
theorem x_noteAll {n t c H W : Nat} {w : Nat → Int32} {μ : qa_M} {Q : qa_M → Prop} (hH : H ≤ 8) (hW : W ≤ 20) (h0 : μ.1 (t + 7) 0 = nI c) (hc : c ≤ 30) (A : ∀ i, i < c → actX μ t w H W i) (hn : 50 < n) (kk : ∀ μ', μ'.2 = μ.2 → (∀ b j, b ≠ t + 11 → ¬ (b = t + 7 ∧ j = 5) → μ'.1 b j = μ.1 b j) → μ'.1 (t + 7) 5 = swapW w c → (∀ j, j < 20 → μ'.1 (t + 11) j = restW w c j) → Q μ') : wX0_noteAll n t μ Q := by
  unfold wX0_noteAll
  refine s_fill (by omega) (by omega) (fun μ1 o1 z1 => ?_)
  rw [nmM]
  refine inv_loop (fun n i (σ : qa_M) => wX0_noteAll_15 n t i σ Q) c (fun i σ => σ.2 = μ.2 ∧ (∀ b j, b ≠ t + 11 → ¬ (b = t + 7 ∧ j = 5) → σ.1 b j = μ.1 b j) ∧ σ.1 (t + 7) 5 = swapW w i ∧ ∀ j, j < 20 → σ.1 (t + 11) j = restW w i j) ?_ ?_ c 0 _ n (by omega) (by omega) ⟨o1.1, fun b j h1 h2 => (uIn _ _ h2).trans (o1.2 b j h1), uIs _ _ _ _, fun j hj => (uIn _ _ (fun e => by omega)).trans (z1 j hj)⟩
  · intro n μ2 ⟨g1, g2, g3, g4⟩
    show wX0_noteAll_15 (n + 1) _ _ _ _
    have e0 : μ2.1 (t + 7) 0 = nI c := by rw [g2 _ _ (by omega) (by omega)]; exact h0
    simp (disch := omega) only [wX0_noteAll_15, e0, nle, not_true_eq_false, not_false_eq_true, false_implies, true_implies, and_true, true_and, and_self, nmM, if_true, if_false, or0, Int32.add_zero, forall_const, one_ne, zero_ne1, nz1, nz0, nI_z, cl, inN, Nat.le_refl, Nat.lt_irrefl, Nat.lt_succ_self, Bool.false_eq_true]
    exact kk μ2 g1 g2 g3 g4
  · intro n i μ2 hi ⟨g1, g2, g3, g4⟩ ih
    show wX0_noteAll_15 (n + 1) _ _ _ _
    have e0 : μ2.1 (t + 7) 0 = nI c := by rw [g2 _ _ (by omega) (by omega)]; exact h0
    have hi' : ¬ c ≤ i := by omega
    simp (disch := omega) only [wX0_noteAll_15, e0, nle, hi', nI1, not_true_eq_false, not_false_eq_true, false_implies, true_implies, and_true, true_and, and_self, nmM, if_true, if_false, or0, Int32.add_zero, forall_const, one_ne, zero_ne1, nz1, nz0, nI_z, cl, inN, Nat.le_refl, Nat.lt_irrefl, Nat.lt_succ_self, Bool.false_eq_true]
    refine x_note (c := c) hH hW (by omega) ((A i hi).mono (g2 _ _ (by omega) (by omega)) (g2 _ _ (by omega) (by omega)) (g2 _ _ (by omega) (by omega)) rfl) g3 g4 (fun μ3 k1 k2 k3 k4 => ?_)
    exact ih μ3 ⟨k1.trans g1, fun b j h1 h2 => (k2 b j h1 h2).trans (g2 b j h1 h2), k3, k4⟩
