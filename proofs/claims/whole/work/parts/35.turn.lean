theorem nneg (x : Int32) : 0 ≤ x ↔ 0 ≤ x.toInt := by rw [fa_le]; exact Iff.rfl
theorem emod_tmod (a b : Int) : (a.tmod b) % b = a % b := by rw [Int.tmod_def, Int.sub_mul_emod_self_left]
theorem ov_toInt {v : Int32} {H : Nat} (h1 : 1 ≤ H) (hH : H < 2 ^ 31) : (ov v H).toInt = v.toInt % (H : Int) := by
  have hm : (nI H).toInt = (H : Int) := nI_toInt hH
  have e := rem_toInt v (nI H)
  rw [hm] at e
  have t := tmod_bounds (a := v.toInt) (M := (H : Int)) (by omega)
  have q := emod_tmod v.toInt H
  unfold ov
  by_cases h : 0 ≤ v - v / nI H * nI H
  · rw [if_pos h, e, ← q]
    rw [nneg, e] at h
    exact (Int.emod_eq_of_lt h t.2).symm
  · rw [if_neg h]
    rw [nneg, e] at h
    rw [Jvm.Kit.i32_add (by rw [e, hm]; omega) (by rw [e, hm]; omega), e, hm, ← q, ← Int.add_emod_right (v.toInt.tmod H) H]
    exact (Int.emod_eq_of_lt (by omega) (by omega)).symm
theorem ov_nat {v : Int32} {H : Nat} (h1 : 1 ≤ H) (hH : H < 2 ^ 31) : (ov v H).toNatClampNeg < H ∧ nI (ov v H).toNatClampNeg = ov v H := by
  have e := ov_toInt (v := v) h1 hH
  have a1 := Int.emod_nonneg v.toInt (b := (H : Int)) (by omega)
  have a2 := Int.emod_lt_of_pos v.toInt (b := (H : Int)) (by omega)
  have e2 : (ov v H).toNatClampNeg = (v.toInt % (H : Int)).toNat := by
    show (ov v H).toInt.toNat = _
    rw [e]
  rw [e2]
  refine ⟨by omega, ?_⟩
  rw [fa_eq, e, nI_toInt (by omega)]
  omega
theorem xor_nneg {a m : Int32} (hm : 0 ≤ m.toInt) : 0 ≤ (a ^^^ m) ↔ 0 ≤ a := by
  have msb : ∀ x : Int32, 0 ≤ x ↔ x.toBitVec.msb = false := by
    intro x
    rw [nneg, BitVec.msb_eq_toInt]
    show 0 ≤ x.toBitVec.toInt ↔ _
    simp
  have hm' : m.toBitVec.msb = false := (msb m).mp ((nneg m).mpr hm)
  rw [msb, msb, Int32.toBitVec_xor, BitVec.msb_xor, hm', Bool.xor_false]
section ST
variable {n : Nat} {μ : qa_M} {Q : Int32 → qa_M → Prop}
theorem s_floorMod {v : Int32} {H : Nat} (h1 : 1 ≤ H) (hH : H < 2 ^ 31) : wJ9_floorMod_7cf53 n v (nI H) μ Q ↔ Q (ov v H) μ := by
  unfold wJ9_floorMod_7cf53
  rw [nmM, xor_nneg (by rw [nI_toInt hH]; omega)]
  have hm : (nI H).toInt = (H : Int) := nI_toInt hH
  have e := rem_toInt v (nI H)
  rw [hm] at e
  have hne : ¬ nI H = 0 := by rw [fa_eq, hm]; show ¬ (H : Int) = 0; omega
  have sg : 0 ≤ v → 0 ≤ v - v / nI H * nI H := by
    intro h
    rw [nneg] at h ⊢
    rw [e]
    exact Int.tmod_nonneg _ h
  have sg2 : ¬ 0 ≤ v → (0 ≤ v - v / nI H * nI H ↔ v - v / nI H * nI H = 0) := by
    intro h
    rw [nneg] at h ⊢
    rw [fa_eq, e, show (0 : Int32).toInt = 0 from rfl]
    have : v.toInt.tmod H ≤ 0 := by
      have := Int.tmod_nonneg (H : Int) (a := -v.toInt) (by omega)
      rw [Int.neg_tmod] at this
      omega
    omega
  unfold ov
  by_cases h : 0 ≤ v
  · rw [if_pos (sg h)]
    simp [hne, h]
  · by_cases h2 : v - v / nI H * nI H = 0
    · rw [if_pos ((sg2 h).mpr h2)]
      simp [hne, h, h2]
    · rw [if_neg (fun q => h2 ((sg2 h).mp q))]
      simp [hne, h, h2]
theorem s_round {v : Int32} {H : Nat} (hH : H < 2 ^ 31) : wX8_round n v (nI H) μ Q ↔ Q (if H = 0 then 0 else ov v H) μ := by
  unfold wX8_round
  rw [l1, nle _ _ (by decide) hH]
  by_cases h : H = 0
  · subst h; simp [l0]
  · rw [if_neg h, s_floorMod (by omega) hH]
    simp [show 1 ≤ H by omega]
theorem s_over {v : Int32} {H : Nat} (h1 : 1 ≤ H) (hH : H < 2 ^ 31) : wX9_over n v (nI H) μ Q ↔ Q (ov v H) μ := by
  unfold wX9_over ov
  rw [nmM]
  have hne : ¬ nI H = 0 := by rw [l0, neq _ _ hH (by decide)]; omega
  by_cases h : 0 ≤ v - v / nI H * nI H <;> simp [hne, h]
/-- the laws -/
theorem s_turnBy {la F : Int32} {k w H : Nat} (hk : 1 ≤ k ∧ k ≤ 30) (hl : la = 0 ∨ la = 1 ∨ la = 2 ∨ la = 3) (hw : w ≤ 20) (hH : H ≤ 8) : wX8_turnBy n la (nI k) F (nI w) (nI H) μ Q ↔ Q (yTurn H la (nI k) w F) μ := by
  have hk31 : k < 2 ^ 31 := by omega
  have hkI : (nI k).toInt = (k : Int) := nI_toInt hk31
  have hne : ¬ nI k = 0 := by rw [l0, neq _ _ hk31 (by decide)]; omega
  have hd : (F / nI k).toInt = F.toInt.tdiv k := by
    rw [Int32.toInt_div_of_ne_right _ _ (by rw [ne_eq, fa_eq, hkI]; show ¬ (k : Int) = -1; omega), hkI]
  have hwk : nI w - nI w / (2 : Int32) * (2 : Int32) = nI (w % 2) := by rw [l2, pk_rem (by omega) (by decide) (by decide)]
  unfold wX8_turnBy
  rw [l1, nle _ _ (by decide) hk31]
  have one : (1 ≤ k) = True := eq_true hk.1
  simp only [one, true_implies, not_true_eq_false, false_implies, and_true]
  unfold wX8_turnBy_12 yTurn
  rw [s_round (show H < 2 ^ 31 by omega), hwk]
  have w2 : (nI (w % 2) = 0) = (w % 2 = 0) := by rw [l0]; exact neq _ _ (by omega) (by decide)
  simp only [w2, hne, not_false_eq_true, true_and]
  rcases hl with rfl | rfl | rfl | rfl
  · simp
  · have c1 : wJ6_compare_7cf53 n (F / nI k) 0 μ (fun r4 μ4 => Q r4 μ4) ↔ Q (if F < nI k then (if -(nI k) < F then 0 else -1) else 1) μ := by
      unfold wJ6_compare_7cf53
      rw [nneg, fa_eq, hd, show (0 : Int32).toInt = 0 from rfl]
      have hng : (-(nI k)).toInt = -(k : Int) := by
        rw [Int32.toInt_neg, hkI, Int.bmod_eq_of_le (by omega) (by omega)]
      have b1 : (F < nI k) ↔ F.toInt < k := by rw [fa_lt, hkI]
      have b2 : (-(nI k) < F) ↔ -(k : Int) < F.toInt := by rw [fa_lt, hng]
      have kp : (0 : Int) < k := by omega
      have dm := Int.mul_tdiv_add_tmod F.toInt k
      have tb := tmod_bounds (a := F.toInt) kp
      by_cases a1 : F.toInt < k
      · by_cases a2 : -(k : Int) < F.toInt
        · have : F.toInt.tdiv k = 0 := by
            rcases Int.lt_trichotomy (F.toInt.tdiv k) 0 with h | h | h
            · have : (k : Int) * F.toInt.tdiv k ≤ (k : Int) * (-1) := Int.mul_le_mul_of_nonneg_left (by omega) (by omega)
              have sgn : F.toInt.tmod k ≤ 0 := by
                by_cases hF : 0 ≤ F.toInt
                · have := Int.tdiv_nonneg hF (Int.le_of_lt kp); omega
                · have := Int.tmod_nonneg (k : Int) (a := -F.toInt) (by omega)
                  rw [Int.neg_tmod] at this; omega
              omega
            · exact h
            · have : (k : Int) * 1 ≤ (k : Int) * F.toInt.tdiv k := Int.mul_le_mul_of_nonneg_left (by omega) (by omega)
              have sgn : 0 ≤ F.toInt.tmod k := by
                by_cases hF : 0 ≤ F.toInt
                · exact Int.tmod_nonneg _ hF
                · have := Int.tdiv_nonneg (a := -F.toInt) (b := k) (by omega) (Int.le_of_lt kp)
                  rw [Int.neg_tdiv] at this; omega
              omega
          simp [b1, b2, a1, a2, this]
        · have hF : F.toInt ≤ -(k : Int) := by omega
          have : F.toInt.tdiv k < 0 := by
            rcases (show F.toInt.tdiv k < 0 ∨ 0 ≤ F.toInt.tdiv k by omega) with h | h
            · exact h
            · have : 0 ≤ (k : Int) * F.toInt.tdiv k := Int.mul_nonneg (by omega) h
              omega
          simp [b1, b2, a1, a2, show ¬ 0 ≤ F.toInt.tdiv k by omega]
      · have : 0 < F.toInt.tdiv k := by
          rcases (show 0 < F.toInt.tdiv k ∨ F.toInt.tdiv k ≤ 0 by omega) with h | h
          · exact h
          · have : (k : Int) * F.toInt.tdiv k ≤ 0 := Int.mul_nonpos_of_nonneg_of_nonpos (by omega) h
            omega
        simp [b1, b2, a1, show 0 ≤ F.toInt.tdiv k by omega, show ¬ F.toInt.tdiv k = 0 by omega]
    simp [c1]
  · simp
  · by_cases h : w % 2 = 0
    · simp [h]
    · simp [h, show w % 2 = 1 by omega]
end ST
