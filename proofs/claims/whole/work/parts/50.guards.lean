def lhW (w : Nat → Int32) (i : Nat) : Nat := (w (60 + 3 * i)).toNatClampNeg
def lpW (w : Nat → Int32) (i : Nat) : Nat := (w (61 + 3 * i)).toNatClampNeg
def lwW (w : Nat → Int32) (i : Nat) : Nat := (w (62 + 3 * i)).toNatClampNeg
def XEZ (μ : qa_M) (t a1 a2 a3 a4 : Nat) (w : Nat → Int32) (o : OV) : Prop := XE μ t a1 a2 a3 a4 (zH w) (zW w) (yp w o) (ypp w o) (yfo w o) (ytu w o) (sunW w (zP w)) (smellW w (zP w))
def MEZ (μ : qa_M) (w : Nat → Int32) (o : OV) : Prop := ME μ (zH w) (zW w) (yp w o) (ypp w o) (yfo w o) (ytu w o) (sunW w (zP w)) (smellW w (zP w))
theorem XEZ.of {μ : qa_M} {t a1 a2 a3 a4 : Nat} {w : Nat → Int32} {o : OV} (r : RZ w) (T : TZ μ t w) (Y : YR μ a1 a2 a3 a4 (zW w) w o) (hf : o.2.2.2.2.2 = id ∨ ∃ a b, a < zH w ∧ b < zH w ∧ o.2.2.2.2.2 = swp a b id) : XE μ t a1 a2 a3 a4 (zH w) (zW w) (yp w o) (ypp w o) (yfo w o) (ytu w o) (sunW w (zP w)) (smellW w (zP w)) := by
  obtain ⟨y1, y2, y3, y4⟩ := Y
  obtain ⟨⟨a0, b1, b2, b3, b4, b5, -⟩, ⟨c1, c2, c3⟩, -⟩ := T
  exact ⟨r.2.1.2.1, r.2.1.2.2.2.1, b1, b5, fun v h hh => yp_lt r hf v h hh, y1, y2, y3, y4, c2, c3⟩
theorem MEZ.of {μ : qa_M} {w : Nat → Int32} {o : OV} (r : RZ w) (hw : μ.1 92 = w) (M : MS μ w o) (Y : YR μ 101 102 103 104 (zW w) w o) (hf : o.2.2.2.2.2 = id ∨ ∃ a b, a < zH w ∧ b < zH w ∧ o.2.2.2.2.2 = swp a b id) : ME μ (zH w) (zW w) (yp w o) (ypp w o) (yfo w o) (ytu w o) (sunW w (zP w)) (smellW w (zP w)) := by
  obtain ⟨y1, y2, y3, y4⟩ := Y
  obtain ⟨-, -, -, -, -, -, m1, m2, -⟩ := M
  exact ⟨r.2.1.2.1, r.2.1.2.2.2.1, by rw [hw]; exact r.1.2.1, by rw [hw]; exact r.1.2.2.2.1, fun v h hh => yp_lt r hf v h hh, y1, y2, y3, y4, m1, m2⟩
theorem RZ.let {w : Nat → Int32} (r : RZ w) (i : Nat) (hi : i < zL w) : (lhW w i < zH w ∧ lpW w i < 8 ∧ lwW w i < 20) ∧ w (60 + 3 * i) = nI (lhW w i) ∧ w (61 + 3 * i) = nI (lpW w i) ∧ w (62 + 3 * i) = nI (lwW w i) := by
  obtain ⟨-, ⟨-, -, -, h8, -⟩, -, -, -, -, g, -⟩ := r
  obtain ⟨⟨h, h1, h2⟩, ⟨p, p1, p2⟩, v, v1, v2⟩ := g i hi
  unfold lhW lpW lwW
  rw [h2, p2, v2, cl (by omega), cl (by omega), cl (by omega)]
  exact ⟨⟨h1, p1, v1⟩, rfl, rfl, rfl⟩
theorem XLZ.of {μ : qa_M} {t : Nat} {w : Nat → Int32} (r : RZ w) (T : TZ μ t w) : XL μ t (zH w) (zL w) (lhW w) (lpW w) (lwW w) := by
  obtain ⟨⟨a0, b1, b2, b3, b4, b5, b6, b7, b8, -⟩, -, c, -⟩ := T
  refine ⟨r.2.1.2.2.2.2.2.2.1, b8, fun i hi => ?_⟩
  obtain ⟨g1, g2, g3, g4⟩ := r.let i hi
  obtain ⟨c1, c2, c3⟩ := c i hi
  exact ⟨g1, by rw [c1, g2], by rw [c2, g3], by rw [c3, g4]⟩
theorem MLZ.of {μ : qa_M} {w : Nat → Int32} (r : RZ w) (hw : μ.1 92 = w) : ML μ (zH w) (zL w) (lhW w) (lpW w) (lwW w) := by
  refine ⟨r.2.1.2.2.2.2.2.2.1, by rw [hw]; exact r.1.2.2.2.2.2.2.1, fun i hi => ?_⟩
  rw [hw]
  exact r.let i hi
theorem nz1 : (narrow .boolean (.int 1) = Value.int 1) = True := eq_true rfl
theorem nz0 : (narrow .boolean (.int 0) = Value.int 0) = True := eq_true rfl
section G
variable {n a b : Nat} {v u : Int32} {μ : qa_M} {Q : Int32 → qa_M → Prop} {w : Nat → Int32}
theorem xT1 (T : TZ μ (μ.2.2 1 2) w) (r : RZ w) (h : 0 < zN w) : wX8_hasTown n μ Q ↔ Q 1 μ := by
  have := r.2.1.1
  rw [s_hasTown, T.1.1, nI_toInt (by omega), qb_p (by omega)]
theorem xT0 (T : TZ μ (μ.2.2 1 2) w) (r : RZ w) (h : ¬ 0 < zN w) : wX8_hasTown n μ Q ↔ Q 0 μ := by
  have := r.2.1.1
  rw [s_hasTown, T.1.1, nI_toInt (by omega), qb_n (by omega)]
theorem xH1 (T : TZ μ (μ.2.2 1 2) w) (r : RZ w) (h : a < zH w) : wX8_isHouse n (nI a) μ Q ↔ Q 1 μ := by
  have := r.2.1.2.2.2.1
  rw [s_isHouse, T.1.2.2.2.2.2.1, nI_toInt (by omega), nI_toInt (by omega), qb_p (by omega)]
theorem xH0 (T : TZ μ (μ.2.2 1 2) w) (r : RZ w) (h : ¬ (0 ≤ v.toInt ∧ v.toInt < (zH w : Int))) : wX8_isHouse n v μ Q ↔ Q 0 μ := by
  have := r.2.1.2.2.2.1
  rw [s_isHouse, T.1.2.2.2.2.2.1, nI_toInt (by omega), qb_n h]
theorem xP1 (T : TZ μ (μ.2.2 1 2) w) (r : RZ w) (h : a < zH w) : wX8_isPlace n (nI a) μ Q ↔ Q 1 μ := by
  have := r.2.1.2.2.2.1
  rw [s_isPlace, T.1.2.2.2.2.2.1, nI_toInt (by omega), nI_toInt (by omega), qb_p (by omega)]
theorem xP0 (T : TZ μ (μ.2.2 1 2) w) (r : RZ w) (h : ¬ (0 ≤ v.toInt ∧ v.toInt < (zH w : Int))) : wX8_isPlace n v μ Q ↔ Q 0 μ := by
  have := r.2.1.2.2.2.1
  rw [s_isPlace, T.1.2.2.2.2.2.1, nI_toInt (by omega), qb_n h]
theorem xL1 (T : TZ μ (μ.2.2 1 2) w) (r : RZ w) (h : a < zL w) : wX8_isLetter n (nI a) μ Q ↔ Q 1 μ := by
  have := r.2.1.2.2.2.2.2.2.1
  rw [s_isLetter, T.1.2.2.2.2.2.2.2.2.1, nI_toInt (by omega), nI_toInt (by omega), qb_p (by omega)]
theorem xL0 (T : TZ μ (μ.2.2 1 2) w) (r : RZ w) (h : ¬ (0 ≤ v.toInt ∧ v.toInt < (zL w : Int))) : wX8_isLetter n v μ Q ↔ Q 0 μ := by
  have := r.2.1.2.2.2.2.2.2.1
  rw [s_isLetter, T.1.2.2.2.2.2.2.2.2.1, nI_toInt (by omega), qb_n h]
theorem xW1 (T : TZ μ (μ.2.2 1 2) w) (r : RZ w) (h : 0 < zN w) (hb : b ≤ zW w) : wX8_isWeek n (nI b) μ Q ↔ Q 1 μ := by
  have := r.2.1.1
  have := r.2.1.2.1
  rw [s_isWeek, T.1.1, T.1.2.1, nI_toInt (by omega), nI_toInt (by omega), nI_toInt (by omega), qb_p (by omega)]
theorem xW0 (T : TZ μ (μ.2.2 1 2) w) (r : RZ w) (h : ¬ (0 < zN w ∧ 0 ≤ v.toInt ∧ v.toInt ≤ (zW w : Int))) : wX8_isWeek n v μ Q ↔ Q 0 μ := by
  have := r.2.1.1
  have := r.2.1.2.1
  rw [s_isWeek, T.1.1, T.1.2.1, nI_toInt (by omega), nI_toInt (by omega), qb_n (by omega)]
theorem xA1 (T : TZ μ (μ.2.2 1 2) w) (r : RZ w) (h : 0 < zN w) (hb : b < zW w) : wX8_isTurningWeek n (nI b) μ Q ↔ Q 1 μ := by
  have := r.2.1.1
  have := r.2.1.2.1
  rw [s_isTurningWeek, T.1.1, T.1.2.1, nI_toInt (by omega), nI_toInt (by omega), nI_toInt (by omega), qb_p (by omega)]
theorem xA0 (T : TZ μ (μ.2.2 1 2) w) (r : RZ w) (h : ¬ (0 < zN w ∧ 0 ≤ v.toInt ∧ v.toInt < (zW w : Int))) : wX8_isTurningWeek n v μ Q ↔ Q 0 μ := by
  have := r.2.1.1
  have := r.2.1.2.1
  rw [s_isTurningWeek, T.1.1, T.1.2.1, nI_toInt (by omega), nI_toInt (by omega), qb_n (by omega)]
theorem mT1 (hw : μ.1 92 = w) (r : RZ w) (h : 0 < zN w) : wX9_isTown n μ Q ↔ Q 1 μ := by
  have := r.2.1.1
  rw [s_isTown, hw, r.1.1, nI_toInt (by omega), qb_p (by omega)]
theorem mT0 (hw : μ.1 92 = w) (r : RZ w) (h : ¬ 0 < zN w) : wX9_isTown n μ Q ↔ Q 0 μ := by
  have := r.2.1.1
  rw [s_isTown, hw, r.1.1, nI_toInt (by omega), qb_n (by omega)]
theorem mH1 (hw : μ.1 92 = w) (r : RZ w) (h : a < zH w) : wX9_isHouse n (nI a) μ Q ↔ Q 1 μ := by
  have := r.2.1.2.2.2.1
  rw [s_misHouse (by rw [hw]; exact r.1.2.2.2.1) this, nI_toInt (by omega), qb_p (by omega)]
theorem mH0 (hw : μ.1 92 = w) (r : RZ w) (h : ¬ (0 ≤ v.toInt ∧ v.toInt < (zH w : Int))) : wX9_isHouse n v μ Q ↔ Q 0 μ := by
  rw [s_misHouse (by rw [hw]; exact r.1.2.2.2.1) r.2.1.2.2.2.1, qb_n h]
theorem mP1 (hw : μ.1 92 = w) (r : RZ w) (h : a < zH w) : wX9_isPlace n (nI a).toInt64 μ Q ↔ Q 1 μ := by
  have := r.2.1.2.2.2.1
  rw [s_misPlace (by rw [hw]; exact r.1.2.2.2.1) this, Int32.toInt_toInt64, nI_toInt (by omega), qb_p (by omega)]
theorem mP0 (hw : μ.1 92 = w) (r : RZ w) (h : ¬ (0 ≤ v.toInt ∧ v.toInt < (zH w : Int))) : wX9_isPlace n v.toInt64 μ Q ↔ Q 0 μ := by
  rw [s_misPlace (by rw [hw]; exact r.1.2.2.2.1) r.2.1.2.2.2.1, Int32.toInt_toInt64, qb_n h]
theorem mL1 (hw : μ.1 92 = w) (r : RZ w) (h : a < zL w) : wX9_isLetter n (nI a) μ Q ↔ Q 1 μ := by
  have := r.2.1.2.2.2.2.2.2.1
  rw [s_misLetter (by rw [hw]; exact r.1.2.2.2.2.2.2.1) this, nI_toInt (by omega), qb_p (by omega)]
theorem mL0 (hw : μ.1 92 = w) (r : RZ w) (h : ¬ (0 ≤ v.toInt ∧ v.toInt < (zL w : Int))) : wX9_isLetter n v μ Q ↔ Q 0 μ := by
  rw [s_misLetter (by rw [hw]; exact r.1.2.2.2.2.2.2.1) r.2.1.2.2.2.2.2.2.1, qb_n h]
theorem mW1 (hw : μ.1 92 = w) (r : RZ w) (h : 0 < zN w) (hb : b ≤ zW w) : wX9_isWeek n (nI b).toInt64 μ Q ↔ Q 1 μ := by
  have := r.2.1.1
  have := r.2.1.2.1
  rw [s_misWeek (by rw [hw]; exact r.1.2.1) this, Int32.toInt_toInt64, nI_toInt (by omega), hw, r.1.1, nI_toInt (by omega), qb_p (by omega)]
theorem mW0 (hw : μ.1 92 = w) (r : RZ w) (h : ¬ (0 < zN w ∧ 0 ≤ v.toInt ∧ v.toInt ≤ (zW w : Int))) : wX9_isWeek n v.toInt64 μ Q ↔ Q 0 μ := by
  have := r.2.1.1
  rw [s_misWeek (by rw [hw]; exact r.1.2.1) r.2.1.2.1, Int32.toInt_toInt64, hw, r.1.1, nI_toInt (by omega), qb_n (by omega)]
theorem mA1 (hw : μ.1 92 = w) (r : RZ w) (h : 0 < zN w) (hb : b < zW w) : wX9_isAhead n (nI b).toInt64 μ Q ↔ Q 1 μ := by
  have := r.2.1.1
  have := r.2.1.2.1
  rw [s_misAhead (by rw [hw]; exact r.1.2.1) this, Int32.toInt_toInt64, nI_toInt (by omega), hw, r.1.1, nI_toInt (by omega), qb_p (by omega)]
theorem mA0 (hw : μ.1 92 = w) (r : RZ w) (h : ¬ (0 < zN w ∧ 0 ≤ v.toInt ∧ v.toInt < (zW w : Int))) : wX9_isAhead n v.toInt64 μ Q ↔ Q 0 μ := by
  have := r.2.1.1
  rw [s_misAhead (by rw [hw]; exact r.1.2.1) r.2.1.2.1, Int32.toInt_toInt64, hw, r.1.1, nI_toInt (by omega), qb_n (by omega)]
end G
/-- m asks; what it then keeps -/
theorem m_asks2 {n : Nat} {w : Nat → Int32} {μ : qa_M} {Q : Int32 → qa_M → Prop} (hw : μ.1 92 = w) (r : RZ w) (hn : 60 < n)
    (kk : ∀ μ', sc μ μ' → μ'.1 92 = w → MS μ' w (oT w) → ME μ' (zH w) (zW w) (yp w (oT w)) (ypp w (oT w)) (yfo w (oT w)) (ytu w (oT w)) (sunW w (zP w)) (smellW w (zP w)) → Q (qb (0 < zN w)) μ') : wX9_asksTown n μ Q := by
  refine m_asks hw r hn (fun μ' s M Y => ?_)
  have h1 : μ'.1 92 = w := s.w.trans hw
  have := r.2.1.1
  rw [r.1.1, nI_toInt (by omega), qb_iff (d := 0 < zN w) (by omega)]
  exact kk μ' s h1 M (MEZ.of r h1 M Y (Or.inl rfl))
