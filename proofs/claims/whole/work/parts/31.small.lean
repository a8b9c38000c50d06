theorem cmp_ge (x y : Int64) : 0 ≤ lg_cmp x y ↔ y.toInt ≤ x.toInt := by rw [lg_cmp_ge, fa_le64]
theorem cmp_lt (x y : Int64) : lg_cmp x y < 0 ↔ x.toInt < y.toInt := by
  have h := cmp_ge x y
  rw [fa_le] at h
  rw [fa_lt]
  have : (0 : Int32).toInt = 0 := rfl
  omega
theorem cmp_gt (x y : Int64) : 0 < lg_cmp x y ↔ y.toInt < x.toInt := by
  unfold lg_cmp
  simp only [gt_iff_lt, fa_lt64, fa_eq64]
  split
  · next h => exact ⟨fun _ => h, fun _ => by decide⟩
  · next h =>
    split
    · next e => exact ⟨fun q => absurd q (by decide), fun q => by omega⟩
    · next e => exact ⟨fun q => absurd q (by decide), fun q => by omega⟩
theorem nzb (c : Prop) [Decidable c] : narrow .boolean (.int (qb c)) = .int (qb c) := by unfold qb; split <;> rfl
theorem rng_lt {v B : Int32} {F : Int32 → Prop} : ((v < 0 → F 0) ∧ (¬ v < 0 → ((B ≤ v → F 0) ∧ (¬ B ≤ v → F 1)))) ↔ F (qb (0 ≤ v.toInt ∧ v.toInt < B.toInt)) := by
  rw [fa_lt, fa_le, show (0 : Int32).toInt = 0 from rfl]
  unfold qb
  by_cases h1 : v.toInt < 0
  · have : ¬ (0 ≤ v.toInt ∧ v.toInt < B.toInt) := by omega
    simp [h1, this]
  · by_cases h2 : B.toInt ≤ v.toInt
    · have : ¬ (0 ≤ v.toInt ∧ v.toInt < B.toInt) := by omega
      simp [h1, h2, this]
    · have : (0 ≤ v.toInt ∧ v.toInt < B.toInt) := by omega
      simp [h1, h2, this]
theorem rng_le {v A B : Int32} {F : Int32 → Prop} : ((v < A → F 0) ∧ (¬ v < A → ((B < v → F 0) ∧ (¬ B < v → F 1)))) ↔ F (qb (A.toInt ≤ v.toInt ∧ v.toInt ≤ B.toInt)) := by
  rw [fa_lt, fa_lt]
  unfold qb
  by_cases h1 : v.toInt < A.toInt
  · have : ¬ (A.toInt ≤ v.toInt ∧ v.toInt ≤ B.toInt) := by omega
    simp [h1, this]
  · by_cases h2 : B.toInt < v.toInt
    · have : ¬ (A.toInt ≤ v.toInt ∧ v.toInt ≤ B.toInt) := by omega
      simp [h1, h2, this]
    · have : (A.toInt ≤ v.toInt ∧ v.toInt ≤ B.toInt) := by omega
      simp [h1, h2, this]
section SM
variable {n : Nat} {μ : qa_M} {Q : Int32 → qa_M → Prop}
theorem s_hasTown : wX8_hasTown n μ Q ↔ Q (qb (0 < (μ.1 (μ.2.2 1 2) 0).toInt)) μ := by
  unfold wX8_hasTown
  rw [fa_le, show (0 : Int32).toInt = 0 from rfl, ← br_qb (F := fun x => Q x μ)]
  constructor
  · intro h; exact ⟨fun q => h.2 (by omega), fun q => h.1 (by omega)⟩
  · intro h; exact ⟨fun q => h.2 (by omega), fun q => h.1 (by omega)⟩
theorem s_isHouse {v : Int32} : wX8_isHouse n v μ Q ↔ Q (qb (0 ≤ v.toInt ∧ v.toInt < (μ.1 (μ.2.2 1 2) 5).toInt)) μ := rng_lt (F := fun x => Q x μ)
theorem s_isPlace {v : Int32} : wX8_isPlace n v μ Q ↔ Q (qb (0 ≤ v.toInt ∧ v.toInt < (μ.1 (μ.2.2 1 2) 5).toInt)) μ := rng_lt (F := fun x => Q x μ)
theorem s_isLetter {v : Int32} : wX8_isLetter n v μ Q ↔ Q (qb (0 ≤ v.toInt ∧ v.toInt < (μ.1 (μ.2.2 1 2) 8).toInt)) μ := rng_lt (F := fun x => Q x μ)
theorem s_isSlot {v : Int32} : wX8_isSlot n v μ Q ↔ Q (qb (0 ≤ v.toInt ∧ v.toInt < (4 : Int32).toInt)) μ := rng_lt (F := fun x => Q x μ)
theorem s_isSeed {v : Int32} : wX8_isSeed n v μ Q ↔ Q (qb ((0 : Int32).toInt ≤ v.toInt ∧ v.toInt ≤ (2000000000 : Int32).toInt)) μ := rng_le (F := fun x => Q x μ)
theorem s_isTurn {v : Int32} : wX8_isTurn n v μ Q ↔ Q (qb ((-400 : Int32).toInt ≤ v.toInt ∧ v.toInt ≤ (400 : Int32).toInt)) μ := rng_le (F := fun x => Q x μ)
theorem s_isPart {v : Int32} : wX8_isPart n v μ Q ↔ Q (qb (v = 0 ∨ v = 1)) μ := by
  unfold wX8_isPart qb
  by_cases h : v = 0
  · simp [h]
  · by_cases h1 : v = 1 <;> simp [h1]
    simp [h, h1]
theorem s_isPair {v u : Int32} : wX8_isPair n v u μ Q ↔ Q (qb ((0 ≤ v.toInt ∧ v.toInt < (μ.1 (μ.2.2 1 2) 5).toInt) ∧ (0 ≤ u.toInt ∧ u.toInt < (μ.1 (μ.2.2 1 2) 5).toInt) ∧ ¬ v = u)) μ := by
  unfold wX8_isPair
  simp only [s_isHouse, qb_0]
  by_cases h1 : (0 ≤ v.toInt ∧ v.toInt < (μ.1 (μ.2.2 1 2) 5).toInt)
  · by_cases h2 : (0 ≤ u.toInt ∧ u.toInt < (μ.1 (μ.2.2 1 2) 5).toInt)
    · by_cases h3 : v = u <;> simp [qb, h1, h2, h3]
    · simp [qb, h1, h2]
  · simp [qb, h1]
theorem s_isWeek {v : Int32} : wX8_isWeek n v μ Q ↔ Q (qb (0 < (μ.1 (μ.2.2 1 2) 0).toInt ∧ 0 ≤ v.toInt ∧ v.toInt ≤ (μ.1 (μ.2.2 1 2) 1).toInt)) μ := by
  unfold wX8_isWeek
  simp only [s_hasTown, qb_0]
  rw [rng_le (F := fun x => Q x μ), show (0 : Int32).toInt = 0 from rfl]
  by_cases h1 : 0 < (μ.1 (μ.2.2 1 2) 0).toInt <;> simp [qb, h1]
theorem s_isTurningWeek {v : Int32} : wX8_isTurningWeek n v μ Q ↔ Q (qb (0 < (μ.1 (μ.2.2 1 2) 0).toInt ∧ 0 ≤ v.toInt ∧ v.toInt < (μ.1 (μ.2.2 1 2) 1).toInt)) μ := by
  unfold wX8_isTurningWeek
  simp only [s_hasTown, qb_0]
  rw [rng_lt (F := fun x => Q x μ)]
  by_cases h1 : 0 < (μ.1 (μ.2.2 1 2) 0).toInt <;> simp [qb, h1]
theorem s_isChanceWeek {v : Int32} : wX8_isChanceWeek n v μ Q ↔ Q (qb ((0 < (μ.1 (μ.2.2 1 2) 0).toInt ∧ 0 ≤ v.toInt ∧ v.toInt < (μ.1 (μ.2.2 1 2) 1).toInt) ∧ v.toInt ≤ 7)) μ := by
  unfold wX8_isChanceWeek
  simp only [s_isTurningWeek, qb_0, fa_lt, show (7 : Int32).toInt = 7 from rfl]
  by_cases h1 : (0 < (μ.1 (μ.2.2 1 2) 0).toInt ∧ 0 ≤ v.toInt ∧ v.toInt < (μ.1 (μ.2.2 1 2) 1).toInt)
  · by_cases h2 : 7 < v.toInt
    · simp [qb, h1, h2, show ¬ v.toInt ≤ 7 by omega]
    · simp [qb, h1, h2, show v.toInt ≤ 7 by omega]
  · simp [qb, h1]
theorem s_lowBits {v : Int32} : wX8_lowBits n v μ Q ↔ Q (((1 : Int32) <<< (v &&& 31)) - 1) μ := Iff.rfl
theorem s_bitOf {v u : Int32} : wX8_bitOf n v u μ Q ↔ Q ((v >>> (u &&& 31)) &&& 1) μ := Iff.rfl
theorem s_signed {v u w : Int32} : wX8_signed n v u w μ Q ↔ Q (if (u >>> (w &&& 31)) &&& 1 = 1 then -v else v) μ := by
  unfold wX8_signed
  simp only [s_bitOf]
  by_cases h : (u >>> (w &&& 31)) &&& 1 = 1 <;> simp [h]
theorem s_max {v u : Int32} : wJ9_max_7cf53 n v u μ Q ↔ Q (if v < u then u else v) μ := by
  unfold wJ9_max_7cf53
  by_cases h : v < u <;> simp [h]
theorem s_min {v u : Int32} : wJ9_min_7cf53 n v u μ Q ↔ Q (if u < v then u else v) μ := by
  unfold wJ9_min_7cf53
  by_cases h : u < v <;> simp [h]
theorem s_abs {v : Int32} : wJ9_abs_0f7a4 n v μ Q ↔ Q (if 0 ≤ v then v else -v) μ := by
  unfold wJ9_abs_0f7a4
  by_cases h : 0 ≤ v <;> simp [h]
theorem s_in {a b c : Int64} : wX9_in n a b c μ Q ↔ Q (qb (b.toInt ≤ a.toInt ∧ a.toInt ≤ c.toInt)) μ := by
  unfold wX9_in
  simp only [cmp_lt, cmp_gt]
  by_cases h1 : a.toInt < b.toInt
  · simp [qb, h1, show ¬ (b.toInt ≤ a.toInt) by omega]
  · by_cases h2 : c.toInt < a.toInt
    · simp [qb, h1, h2, show ¬ (a.toInt ≤ c.toInt) by omega]
    · simp [qb, h1, h2, show b.toInt ≤ a.toInt by omega, show a.toInt ≤ c.toInt by omega]
theorem s_mweeks : wX9_weeks n μ Q ↔ Q (μ.1 92 0) μ := Iff.rfl
theorem s_mhouses : wX9_houses n μ Q ↔ Q (μ.1 92 4) μ := Iff.rfl
theorem s_mbit {v u : Int32} : wX9_bit n v u μ Q ↔ Q ((v >>> (u &&& 31)) &&& 1) μ := Iff.rfl
theorem s_isTown : wX9_isTown n μ Q ↔ Q (qb (0 < (μ.1 92 9).toInt)) μ := by
  show ((μ.1 92 9 ≤ 0 → Q 0 μ) ∧ (¬ μ.1 92 9 ≤ 0 → Q 1 μ)) ↔ _
  rw [fa_le, show (0 : Int32).toInt = 0 from rfl, ← br_qb (F := fun x => Q x μ)]
  constructor
  · intro h; exact ⟨fun q => h.2 (by omega), fun q => h.1 (by omega)⟩
  · intro h; exact ⟨fun q => h.2 (by omega), fun q => h.1 (by omega)⟩
theorem s_misHouse {v : Int32} {H : Nat} (hH : μ.1 92 4 = nI H) (h8 : H ≤ 8) : wX9_isHouse n v μ Q ↔ Q (qb (0 ≤ v.toInt ∧ v.toInt < H)) μ := by
  unfold wX9_isHouse
  simp only [s_mhouses, s_in, nzb, true_and, hH, Int32.toInt_toInt64]
  have e : (nI H - 1).toInt = (H : Int) - 1 := pk_sub_toInt (b := 1) (by omega) (by decide)
  rw [e, show (0 : Int64).toInt = 0 from rfl, qb_iff (d := (0 ≤ v.toInt ∧ v.toInt < H))]
  omega
theorem s_misPlace {v : Int64} {H : Nat} (hH : μ.1 92 4 = nI H) (h8 : H ≤ 8) : wX9_isPlace n v μ Q ↔ Q (qb (0 ≤ v.toInt ∧ v.toInt < H)) μ := by
  unfold wX9_isPlace
  simp only [s_mhouses, s_in, nzb, true_and, hH, Int32.toInt_toInt64]
  have e : (nI H - 1).toInt = (H : Int) - 1 := pk_sub_toInt (b := 1) (by omega) (by decide)
  rw [e, show (0 : Int64).toInt = 0 from rfl, qb_iff (d := (0 ≤ v.toInt ∧ v.toInt < H))]
  omega
theorem s_misLetter {v : Int32} {L : Nat} (hL : μ.1 92 7 = nI L) (h8 : L ≤ 8) : wX9_isLetter n v μ Q ↔ Q (qb (0 ≤ v.toInt ∧ v.toInt < L)) μ := by
  unfold wX9_isLetter
  simp only [show (7 : Int32).toNatClampNeg = 7 from rfl, s_in, nzb, true_and, hL, Int32.toInt_toInt64]
  have e : (nI L - 1).toInt = (L : Int) - 1 := pk_sub_toInt (b := 1) (by omega) (by decide)
  rw [e, show (0 : Int64).toInt = 0 from rfl, qb_iff (d := (0 ≤ v.toInt ∧ v.toInt < L))]
  omega
theorem s_misWeek {v : Int64} {W : Nat} (hW : μ.1 92 0 = nI W) (h8 : W ≤ 20) : wX9_isWeek n v μ Q ↔ Q (qb (0 < (μ.1 92 9).toInt ∧ 0 ≤ v.toInt ∧ v.toInt ≤ W)) μ := by
  unfold wX9_isWeek
  simp only [s_isTown, s_mweeks, s_in, qb_0, hW, Int32.toInt_toInt64, nI_toInt (show W < 2 ^ 31 by omega), show (0 : Int64).toInt = 0 from rfl]
  by_cases h1 : 0 < (μ.1 92 9).toInt
  · by_cases h2 : (0 ≤ v.toInt ∧ v.toInt ≤ W) <;> simp [qb, h1, h2]
  · simp [qb, h1]
theorem s_misAhead {v : Int64} {W : Nat} (hW : μ.1 92 0 = nI W) (h8 : W ≤ 20) : wX9_isAhead n v μ Q ↔ Q (qb (0 < (μ.1 92 9).toInt ∧ 0 ≤ v.toInt ∧ v.toInt < W)) μ := by
  unfold wX9_isAhead
  have e : (nI W - 1).toInt = (W : Int) - 1 := pk_sub_toInt (b := 1) (by omega) (by decide)
  simp only [s_isTown, s_mweeks, s_in, qb_0, hW, Int32.toInt_toInt64, e, show (0 : Int64).toInt = 0 from rfl]
  by_cases h1 : 0 < (μ.1 92 9).toInt
  · by_cases h2 : (0 ≤ v.toInt ∧ v.toInt < W)
    · simp [qb, h1, h2, show v.toInt ≤ (W : Int) - 1 by omega]
    · simp only [qb, h1, h2, true_and]
      simp [show ¬ (0 ≤ v.toInt ∧ v.toInt ≤ (W : Int) - 1) by omega]
  · simp [qb, h1]
theorem s_areTwo {v u : Int32} {H : Nat} (hH : μ.1 92 4 = nI H) (h8 : H ≤ 8) : wX9_areTwo n v u μ Q ↔ Q (qb ((0 ≤ v.toInt ∧ v.toInt < H) ∧ (0 ≤ u.toInt ∧ u.toInt < H) ∧ ¬ v = u)) μ := by
  unfold wX9_areTwo
  simp only [s_misHouse hH h8, qb_0]
  by_cases h1 : (0 ≤ v.toInt ∧ v.toInt < H)
  · by_cases h2 : (0 ≤ u.toInt ∧ u.toInt < H)
    · by_cases h3 : v = u <;> simp [qb, h1, h2, h3]
    · simp [qb, h1, h2]
  · simp [qb, h1]
theorem s_misSlot {v : Int32} : wX9_isSlot n v μ Q ↔ Q (qb (0 ≤ v.toInt ∧ v.toInt < (4 : Int32).toInt)) μ := by
  unfold wX9_isSlot
  simp only [s_in, nzb, true_and, Int32.toInt_toInt64]
  rw [show (0 : Int64).toInt = 0 from rfl, show (3 : Int64).toInt = 3 from rfl, show (4 : Int32).toInt = 4 from rfl, qb_iff (d := (0 ≤ v.toInt ∧ v.toInt < 4))]
  omega
theorem s_misSeed {v : Int32} : wX9_isSeed n v μ Q ↔ Q (qb ((0 : Int32).toInt ≤ v.toInt ∧ v.toInt ≤ (2000000000 : Int32).toInt)) μ := by
  unfold wX9_isSeed
  simp only [s_in, nzb, true_and, Int32.toInt_toInt64]
  exact Iff.rfl
end SM
