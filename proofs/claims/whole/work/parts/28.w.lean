def wX9_stands_15 : Nat → Int32 → Int32 → Int32 → qa_M → (Int32 → qa_M → Prop) → (Int32 → qa_M → Prop) → Prop
  | 0, _, _, _, _, _, _ => False
  | n + 1, v1, v2, v3, μ0, K0, Q => ((v1 ≤ v3 → K0 v2 μ0) ∧ (¬ v1 ≤ v3 → vp_in v3 20 ∧ ∀ x4, x4 = (v2 + (μ0.1 104 v3.toNatClampNeg)) → wX9_stands_15 n v1 x4 (v3 + (1 : Int32)) μ0 K0 Q))
def wX9_stands (n : Nat) (v1 : Int32) (μ0 : qa_M) (Q : Int32 → qa_M → Prop) : Prop := wX9_asksWeek n v1 μ0 (fun r1 μ1 => ((¬ r1 = 0 → wX9_stands_15 n v1 (0 : Int32) (0 : Int32) μ1 (fun v2_6 μ5 => wX9_houses n  μ5 (fun r7 μ7 => ((¬ r7 = 0 → wX9_houses n  μ7 (fun r9 μ9 => wX9_over n v2_6 r9 μ9 (fun r10 μ10 => Q r10 μ10))) ∧ (r7 = 0 → Q (0 : Int32) μ7)))) Q) ∧ (r1 = 0 → Q (-2 : Int32) μ1)))
theorem tX9_stands_15 (l : Launch) {K0 : Int32 → qa_M → Prop} {Q : Int32 → qa_M → Prop} (hK0 : ∀ (v2 : Int32) (μ : qa_M), qa_PP μ.2.2 → K0 v2 μ → qa_G l yX9_stands cX9_stands 4 (some .int) 5 0 0 (qa_pI Q) 0 0 35 [some (.ref 91), none, some (.int v2), none] [] 113 μ) : ∀ (n : Nat) (v1 : Int32) (v2 : Int32) (v3 : Int32) (μ0 : qa_M), qa_PP μ0.2.2 → wX9_stands_15 n v1 v2 v3 μ0 K0 Q → qa_G l yX9_stands cX9_stands 4 (some .int) 5 0 0 (qa_pI Q) 0 0 15 [some (.ref 91), some (.int v1), some (.int v2), some (.int v3)] [] 113 μ0 := by
  intro n
  induction n with
  | zero =>
    intro v1 v2 v3 μ0 hp0  h
    rw [wX9_stands_15] at h
    exact h.elim
  | succ n ih =>
    intro v1 v2 v3 μ0 hp0  h
    rw [wX9_stands_15] at h
    refine qa_ild3 dX9_stands_15 ?_
    refine qa_ild1 dX9_stands_16 ?_
    refine qa_icmp_ge (tgt := 35) dX9_stands_17 (by decide) (fun c3 => ?_) (fun c3 => ?_)
    · have h := h.1 c3
      refine qa_fgt (L' := [some (.ref 91), none, some (.int v2), none]) (⟨rfl, ⟨rfl, trivial⟩⟩) ?_
      exact hK0 v2 μ0 hp0  h
    · have h := h.2 c3
      refine qa_ild2 dX9_stands_20 ?_
      refine qa_ald0 dX9_stands_21 ?_
      refine qa_getR dX9_stands_22 lf_X9_52 rfl sh_91 (by decide) (pp_91_28 hp0) (by decide) ?_
      refine qa_ild3 dX9_stands_25 ?_
      refine qa_iald dX9_stands_26 sh_104 (by decide) h.1 ?_
      have h := h.2
      refine qa_iadd dX9_stands_27 ?_
      refine qa_nmI (fun x4 e4 => ?_)
      have h := h x4 e4
      refine qa_ist2 dX9_stands_28 ?_
      refine qa_inc3 dX9_stands_29 (qa_io1 _) ?_
      refine qa_goto (tgt := 15) dX9_stands_32 (by decide) ?_
      refine qa_fgt (L' := [some (.ref 91), some (.int v1), some (.int x4), some (.int (v3 + (1 : Int32)))]) (⟨rfl, ⟨rfl, ⟨rfl, ⟨rfl, trivial⟩⟩⟩⟩) ?_
      exact ih v1 x4 (v3 + (1 : Int32)) μ0 hp0  h
theorem tX9_stands (l : Launch) {n : Nat} {v1 : Int32} {μ0 : qa_M} {Q : Int32 → qa_M → Prop} (hp0 : qa_PP μ0.2.2)  (h : wX9_stands n v1 μ0 Q) : qa_Met l yX9_stands cX9_stands 4 (some .int) 5 0 0 [.ref 91, .int v1] 113 μ0 (qa_pI Q) := by
  refine qa_ofG (by decide) (Nat.le_of_ble_eq_true rfl) ?_
  unfold wX9_stands at h
  change qa_G l yX9_stands cX9_stands 4 (some .int) 5 0 0 (qa_pI Q) 0 0 0 [some (.ref 91), some (.int v1), none, none] [] 113 μ0
  refine qa_ald0 dX9_stands_0 ?_
  refine qa_ild1 dX9_stands_1 ?_
  refine qa_V1I dX9_stands_2 lm_X9_292 sh_91 rfl (by decide) (by decide) (Nat.le_of_ble_eq_true rfl) (tX9_asksWeek l hp0  h) (fun r1 μ1 hp1 h => ?_)
  refine qa_if_ne (tgt := 11) dX9_stands_5 (by decide) (fun c2 => ?_) (fun c2 => ?_)
  · have h := h.1 c2
    refine qa_iconst (v := 0) dX9_stands_11 (by decide) ?_
    refine qa_ist2 dX9_stands_12 ?_
    refine qa_iconst (v := 0) dX9_stands_13 (by decide) ?_
    refine qa_ist3 dX9_stands_14 ?_
    refine qa_fgt (L' := [some (.ref 91), some (.int v1), some (.int (0 : Int32)), some (.int (0 : Int32))]) (⟨rfl, ⟨rfl, ⟨rfl, ⟨rfl, trivial⟩⟩⟩⟩) ?_
    refine tX9_stands_15 l ?_ n v1 (0 : Int32) (0 : Int32) μ1 hp1  h
    · intro v2_6 μ5 hp5  h
      refine qa_ald0 dX9_stands_35 ?_
      refine qa_V0I dX9_stands_36 lm_X9_100 sh_91 rfl (by decide) (by decide) (Nat.le_of_ble_eq_true rfl) (tX9_houses l hp5  h) (fun r7 μ7 hp7 h => ?_)
      refine qa_if_ne (tgt := 46) dX9_stands_39 (by decide) (fun c8 => ?_) (fun c8 => ?_)
      · have h := h.1 c8
        refine qa_ild2 dX9_stands_46 ?_
        refine qa_ald0 dX9_stands_47 ?_
        refine qa_V0I dX9_stands_48 lm_X9_100 sh_91 rfl (by decide) (by decide) (Nat.le_of_ble_eq_true rfl) (tX9_houses l hp7  h) (fun r9 μ9 hp9 h => ?_)
        refine qa_S2I dX9_stands_51 lm_X9_258  (by decide) (Nat.le_of_ble_eq_true rfl) (tX9_over l hp9  h) (fun r10 μ10 hp10 h => ?_)
        exact qa_iret rfl dX9_stands_54 ⟨rfl, rfl⟩ ⟨rfl, hp10, _, rfl, h⟩
      · have h := h.2 c8
        refine qa_iconst (v := 0) dX9_stands_42 (by decide) ?_
        refine qa_goto (tgt := 54) dX9_stands_43 (by decide) ?_
        exact qa_iret rfl dX9_stands_54 ⟨rfl, rfl⟩ ⟨rfl, hp7, _, rfl, h⟩
  · have h := h.2 c2
    refine qa_bipush (v := -2) dX9_stands_8 (by decide) ?_
    exact qa_iret rfl dX9_stands_10 ⟨rfl, rfl⟩ ⟨rfl, hp1, _, rfl, h⟩
def wX9_stayOf_36 (n : Nat) (v1 : Int32) (v2 : Int32) (v3 : Int32) (v4 : Int32) (μ0 : qa_M) (K0 : Int32 → Int32 → Int32 → Int32 → qa_M → Prop) (Q : Int32 → qa_M → Prop) : Prop := wX9_forceOf n v1 v4 μ0 (fun r4 μ4 => wX9_turnBy n r4 v1 μ4 (fun r5 μ5 => ((¬ r5 = v2 → K0 v1 v2 v3 (v4 + (1 : Int32)) μ5) ∧ (r5 = v2 → K0 v1 v2 v4 (v4 + (1 : Int32)) μ5))))
def wX9_stayOf_5 : Nat → Int32 → Int32 → Int32 → Int32 → qa_M → (Int32 → qa_M → Prop) → Prop
  | 0, _, _, _, _, _, _ => False
  | n + 1, v1, v2, v3, v4, μ0, Q => wX9_houses n  μ0 (fun r1 μ1 => ((((1 : Int32) <<< (r1 &&& 31)) ≤ v4 → Q v3 μ1) ∧ (¬ ((1 : Int32) <<< (r1 &&& 31)) ≤ v4 → ((v3 = (-1 : Int32) → wX9_stayOf_36 n v1 v2 v3 v4 μ1 (fun v1 v2 v3 v4 μk => wX9_stayOf_5 n v1 v2 v3 v4 μk Q) Q) ∧ (¬ v3 = (-1 : Int32) → wX9_bits n v4 μ1 (fun r7 μ7 => wX9_bits n v3 μ7 (fun r8 μ8 => ((r7 < r8 → wX9_stayOf_36 n v1 v2 v3 v4 μ8 (fun v1 v2 v3 v4 μk => wX9_stayOf_5 n v1 v2 v3 v4 μk Q) Q) ∧ (¬ r7 < r8 → wX9_stayOf_5 n v1 v2 v3 (v4 + (1 : Int32)) μ8 Q)))))))))
def wX9_stayOf (n : Nat) (v1 : Int32) (v2 : Int32) (μ0 : qa_M) (Q : Int32 → qa_M → Prop) : Prop := wX9_stayOf_5 n v1 v2 (-1 : Int32) (0 : Int32) μ0  Q
theorem tX9_stayOf_36 (l : Launch) {K0 : Int32 → Int32 → Int32 → Int32 → qa_M → Prop} {Q : Int32 → qa_M → Prop} (hK0 : ∀ (v1 : Int32) (v2 : Int32) (v3 : Int32) (v4 : Int32) (μ : qa_M), qa_PP μ.2.2 → K0 v1 v2 v3 v4 μ → qa_G l yX9_stayOf cX9_stayOf 5 (some .int) 2 0 0 (qa_pI Q) 0 0 5 [some (.ref 91), some (.int v1), some (.int v2), some (.int v3), some (.int v4)] [] 113 μ) : ∀ (n : Nat) (v1 : Int32) (v2 : Int32) (v3 : Int32) (v4 : Int32) (μ0 : qa_M), qa_PP μ0.2.2 → wX9_stayOf_36 n v1 v2 v3 v4 μ0 K0 Q → qa_G l yX9_stayOf cX9_stayOf 5 (some .int) 2 0 0 (qa_pI Q) 0 0 36 [some (.ref 91), some (.int v1), some (.int v2), some (.int v3), some (.int v4)] [] 113 μ0 := by
  intro n
  intro v1 v2 v3 v4 μ0 hp0  h
  unfold wX9_stayOf_36 at h
  refine qa_ald0 dX9_stayOf_36 ?_
  refine qa_ald0 dX9_stayOf_37 ?_
  refine qa_ild1 dX9_stayOf_38 ?_
  refine qa_ild4 dX9_stayOf_39 ?_
  refine qa_V2I dX9_stayOf_41 lm_X9_274 sh_91 rfl (by decide) (by decide) (Nat.le_of_ble_eq_true rfl) (tX9_forceOf l hp0  h) (fun r4 μ4 hp4 h => ?_)
  refine qa_ild1 dX9_stayOf_44 ?_
  refine qa_V2I dX9_stayOf_45 lm_X9_277 sh_91 rfl (by decide) (by decide) (Nat.le_of_ble_eq_true rfl) (tX9_turnBy l hp4  h) (fun r5 μ5 hp5 h => ?_)
  refine qa_ild2 dX9_stayOf_48 ?_
  refine qa_icmp_ne (tgt := 55) dX9_stayOf_49 (by decide) (fun c6 => ?_) (fun c6 => ?_)
  · have h := h.1 c6
    refine qa_inc4 dX9_stayOf_55 (qa_io1 _) ?_
    refine qa_goto (tgt := 5) dX9_stayOf_58 (by decide) ?_
    refine qa_fgt (L' := [some (.ref 91), some (.int v1), some (.int v2), some (.int v3), some (.int (v4 + (1 : Int32)))]) (⟨rfl, ⟨rfl, ⟨rfl, ⟨rfl, ⟨rfl, trivial⟩⟩⟩⟩⟩) ?_
    exact hK0 v1 v2 v3 (v4 + (1 : Int32)) μ5 hp5  h
  · have h := h.2 c6
    refine qa_ild4 dX9_stayOf_52 ?_
    refine qa_ist3 dX9_stayOf_54 ?_
    refine qa_inc4 dX9_stayOf_55 (qa_io1 _) ?_
    refine qa_goto (tgt := 5) dX9_stayOf_58 (by decide) ?_
    refine qa_fgt (L' := [some (.ref 91), some (.int v1), some (.int v2), some (.int v4), some (.int (v4 + (1 : Int32)))]) (⟨rfl, ⟨rfl, ⟨rfl, ⟨rfl, ⟨rfl, trivial⟩⟩⟩⟩⟩) ?_
    exact hK0 v1 v2 v4 (v4 + (1 : Int32)) μ5 hp5  h
theorem tX9_stayOf_5 (l : Launch)  {Q : Int32 → qa_M → Prop}  : ∀ (n : Nat) (v1 : Int32) (v2 : Int32) (v3 : Int32) (v4 : Int32) (μ0 : qa_M), qa_PP μ0.2.2 → wX9_stayOf_5 n v1 v2 v3 v4 μ0  Q → qa_G l yX9_stayOf cX9_stayOf 5 (some .int) 2 0 0 (qa_pI Q) 0 0 5 [some (.ref 91), some (.int v1), some (.int v2), some (.int v3), some (.int v4)] [] 113 μ0 := by
  intro n
  induction n with
  | zero =>
    intro v1 v2 v3 v4 μ0 hp0  h
    rw [wX9_stayOf_5] at h
    exact h.elim
  | succ n ih =>
    intro v1 v2 v3 v4 μ0 hp0  h
    rw [wX9_stayOf_5] at h
    refine qa_ild4 dX9_stayOf_5 ?_
    refine qa_iconst (v := 1) dX9_stayOf_7 (by decide) ?_
    refine qa_ald0 dX9_stayOf_8 ?_
    refine qa_V0I dX9_stayOf_9 lm_X9_100 sh_91 rfl (by decide) (by decide) (Nat.le_of_ble_eq_true rfl) (tX9_houses l hp0  h) (fun r1 μ1 hp1 h => ?_)
    refine qa_ishl dX9_stayOf_12 ?_
    refine qa_icmp_ge (tgt := 61) dX9_stayOf_13 (by decide) (fun c2 => ?_) (fun c2 => ?_)
    · have h := h.1 c2
      refine qa_ild3 dX9_stayOf_61 ?_
      exact qa_iret rfl dX9_stayOf_62 ⟨rfl, rfl⟩ ⟨rfl, hp1, _, rfl, h⟩
    · have h := h.2 c2
      refine qa_ild3 dX9_stayOf_16 ?_
      refine qa_iconst (v := -1) dX9_stayOf_17 (by decide) ?_
      refine qa_icmp_eq (tgt := 36) dX9_stayOf_18 (by decide) (fun c3 => ?_) (fun c3 => ?_)
      · have h := h.1 c3
        refine qa_fgt (L' := [some (.ref 91), some (.int v1), some (.int v2), some (.int v3), some (.int v4)]) (⟨rfl, ⟨rfl, ⟨rfl, ⟨rfl, ⟨rfl, trivial⟩⟩⟩⟩⟩) ?_
        refine tX9_stayOf_36 l ih n v1 v2 v3 v4 μ1 hp1  h
      · have h := h.2 c3
        refine qa_ild4 dX9_stayOf_21 ?_
        refine qa_S1I dX9_stayOf_23 lm_X9_342  (by decide) (Nat.le_of_ble_eq_true rfl) (tX9_bits l hp1  h) (fun r7 μ7 hp7 h => ?_)
        refine qa_ild3 dX9_stayOf_26 ?_
        refine qa_S1I dX9_stayOf_27 lm_X9_342  (by decide) (Nat.le_of_ble_eq_true rfl) (tX9_bits l hp7  h) (fun r8 μ8 hp8 h => ?_)
        refine qa_icmp_lt (tgt := 36) dX9_stayOf_30 (by decide) (fun c9 => ?_) (fun c9 => ?_)
        · have h := h.1 c9
          refine qa_fgt (L' := [some (.ref 91), some (.int v1), some (.int v2), some (.int v3), some (.int v4)]) (⟨rfl, ⟨rfl, ⟨rfl, ⟨rfl, ⟨rfl, trivial⟩⟩⟩⟩⟩) ?_
          refine tX9_stayOf_36 l ih n v1 v2 v3 v4 μ8 hp8  h
        · have h := h.2 c9
          refine qa_goto (tgt := 55) dX9_stayOf_33 (by decide) ?_
          refine qa_inc4 dX9_stayOf_55 (qa_io1 _) ?_
          refine qa_goto (tgt := 5) dX9_stayOf_58 (by decide) ?_
          refine qa_fgt (L' := [some (.ref 91), some (.int v1), some (.int v2), some (.int v3), some (.int (v4 + (1 : Int32)))]) (⟨rfl, ⟨rfl, ⟨rfl, ⟨rfl, ⟨rfl, trivial⟩⟩⟩⟩⟩) ?_
          exact ih v1 v2 v3 (v4 + (1 : Int32)) μ8 hp8  h
theorem tX9_stayOf (l : Launch) {n : Nat} {v1 : Int32} {v2 : Int32} {μ0 : qa_M} {Q : Int32 → qa_M → Prop} (hp0 : qa_PP μ0.2.2)  (h : wX9_stayOf n v1 v2 μ0 Q) : qa_Met l yX9_stayOf cX9_stayOf 5 (some .int) 2 0 0 [.ref 91, .int v1, .int v2] 113 μ0 (qa_pI Q) := by
  refine qa_ofG (by decide) (Nat.le_of_ble_eq_true rfl) ?_
  unfold wX9_stayOf at h
  change qa_G l yX9_stayOf cX9_stayOf 5 (some .int) 2 0 0 (qa_pI Q) 0 0 0 [some (.ref 91), some (.int v1), some (.int v2), none, none] [] 113 μ0
  refine qa_iconst (v := -1) dX9_stayOf_0 (by decide) ?_
  refine qa_ist3 dX9_stayOf_1 ?_
  refine qa_iconst (v := 0) dX9_stayOf_2 (by decide) ?_
  refine qa_ist4 dX9_stayOf_3 ?_
  refine qa_fgt (L' := [some (.ref 91), some (.int v1), some (.int v2), some (.int (-1 : Int32)), some (.int (0 : Int32))]) (⟨rfl, ⟨rfl, ⟨rfl, ⟨rfl, ⟨rfl, trivial⟩⟩⟩⟩⟩) ?_
  refine tX9_stayOf_5 l  n v1 v2 (-1 : Int32) (0 : Int32) μ0 hp0  h
def wX9_stay (n : Nat) (v1 : Int32) (v2 : Int32) (μ0 : qa_M) (Q : Int32 → qa_M → Prop) : Prop := wX9_asksAhead n v1 μ0 (fun r1 μ1 => ((r1 = 0 → Q (-2 : Int32) μ1) ∧ (¬ r1 = 0 → wX9_in n v2.toInt64 (-400 : Int64) (400 : Int64) μ1 (fun r3 μ3 => ((¬ r3 = 0 → wX9_stayOf n v1 v2 μ3 (fun r5 μ5 => ((¬ r5 = (-1 : Int32) → wX9_bits n r5 μ5 (fun r7 μ7 => Q r7 μ7)) ∧ (r5 = (-1 : Int32) → Q (-1 : Int32) μ5)))) ∧ (r3 = 0 → Q (-2 : Int32) μ3))))))
theorem tX9_stay (l : Launch) {n : Nat} {v1 : Int32} {v2 : Int32} {μ0 : qa_M} {Q : Int32 → qa_M → Prop} (hp0 : qa_PP μ0.2.2)  (h : wX9_stay n v1 v2 μ0 Q) : qa_Met l yX9_stay cX9_stay 4 (some .int) 5 0 0 [.ref 91, .int v1, .int v2] 113 μ0 (qa_pI Q) := by
  refine qa_ofG (by decide) (Nat.le_of_ble_eq_true rfl) ?_
  unfold wX9_stay at h
  change qa_G l yX9_stay cX9_stay 4 (some .int) 5 0 0 (qa_pI Q) 0 0 0 [some (.ref 91), some (.int v1), some (.int v2), none] [] 113 μ0
  refine qa_ald0 dX9_stay_0 ?_
  refine qa_ild1 dX9_stay_1 ?_
  refine qa_V1I dX9_stay_2 lm_X9_298 sh_91 rfl (by decide) (by decide) (Nat.le_of_ble_eq_true rfl) (tX9_asksAhead l hp0  h) (fun r1 μ1 hp1 h => ?_)
  refine qa_if_eq (tgt := 22) dX9_stay_5 (by decide) (fun c2 => ?_) (fun c2 => ?_)
  · have h := h.1 c2
    refine qa_bipush (v := -2) dX9_stay_22 (by decide) ?_
    exact qa_iret rfl dX9_stay_24 ⟨rfl, rfl⟩ ⟨rfl, hp1, _, rfl, h⟩
  · have h := h.2 c2
    refine qa_ild2 dX9_stay_8 ?_
    refine qa_i2l dX9_stay_9 ?_
    refine qa_ldc2 dX9_stay_10 lk_X9_345 ?_
    refine qa_ldc2 dX9_stay_13 lk_X9_347 ?_
    refine qa_S3I dX9_stay_16 lm_X9_88  (by decide) (Nat.le_of_ble_eq_true rfl) (tX9_in l hp1  h) (fun r3 μ3 hp3 h => ?_)
    refine qa_if_ne (tgt := 25) dX9_stay_19 (by decide) (fun c4 => ?_) (fun c4 => ?_)
    · have h := h.1 c4
      refine qa_ald0 dX9_stay_25 ?_
      refine qa_ild1 dX9_stay_26 ?_
      refine qa_ild2 dX9_stay_27 ?_
      refine qa_V2I dX9_stay_28 lm_X9_349 sh_91 rfl (by decide) (by decide) (Nat.le_of_ble_eq_true rfl) (tX9_stayOf l hp3  h) (fun r5 μ5 hp5 h => ?_)
      refine qa_ist3 dX9_stay_31 ?_
      refine qa_ild3 dX9_stay_32 ?_
      refine qa_iconst (v := -1) dX9_stay_33 (by decide) ?_
      refine qa_icmp_ne (tgt := 41) dX9_stay_34 (by decide) (fun c6 => ?_) (fun c6 => ?_)
      · have h := h.1 c6
        refine qa_ild3 dX9_stay_41 ?_
        refine qa_S1I dX9_stay_42 lm_X9_342  (by decide) (Nat.le_of_ble_eq_true rfl) (tX9_bits l hp5  h) (fun r7 μ7 hp7 h => ?_)
        exact qa_iret rfl dX9_stay_45 ⟨rfl, rfl⟩ ⟨rfl, hp7, _, rfl, h⟩
      · have h := h.2 c6
        refine qa_iconst (v := -1) dX9_stay_37 (by decide) ?_
        refine qa_goto (tgt := 45) dX9_stay_38 (by decide) ?_
        exact qa_iret rfl dX9_stay_45 ⟨rfl, rfl⟩ ⟨rfl, hp5, _, rfl, h⟩
    · have h := h.2 c4
      refine qa_bipush (v := -2) dX9_stay_22 (by decide) ?_
      exact qa_iret rfl dX9_stay_24 ⟨rfl, rfl⟩ ⟨rfl, hp3, _, rfl, h⟩
def wX9_stays (n : Nat) (v1 : Int32) (v2 : Int32) (μ0 : qa_M) (Q : Int32 → qa_M → Prop) : Prop := wX9_asksAhead n v1 μ0 (fun r1 μ1 => ((r1 = 0 → Q (-2 : Int32) μ1) ∧ (¬ r1 = 0 → wX9_in n v2.toInt64 (-400 : Int64) (400 : Int64) μ1 (fun r3 μ3 => ((r3 = 0 → Q (-2 : Int32) μ3) ∧ (¬ r3 = 0 → wX9_stayOf n v1 v2 μ3 (fun r5 μ5 => Q r5 μ5)))))))
theorem tX9_stays (l : Launch) {n : Nat} {v1 : Int32} {v2 : Int32} {μ0 : qa_M} {Q : Int32 → qa_M → Prop} (hp0 : qa_PP μ0.2.2)  (h : wX9_stays n v1 v2 μ0 Q) : qa_Met l yX9_stays cX9_stays 3 (some .int) 5 0 0 [.ref 91, .int v1, .int v2] 113 μ0 (qa_pI Q) := by
  refine qa_ofG (by decide) (Nat.le_of_ble_eq_true rfl) ?_
  unfold wX9_stays at h
  change qa_G l yX9_stays cX9_stays 3 (some .int) 5 0 0 (qa_pI Q) 0 0 0 [some (.ref 91), some (.int v1), some (.int v2)] [] 113 μ0
  refine qa_ald0 dX9_stays_0 ?_
  refine qa_ild1 dX9_stays_1 ?_
  refine qa_V1I dX9_stays_2 lm_X9_298 sh_91 rfl (by decide) (by decide) (Nat.le_of_ble_eq_true rfl) (tX9_asksAhead l hp0  h) (fun r1 μ1 hp1 h => ?_)
  refine qa_if_eq (tgt := 31) dX9_stays_5 (by decide) (fun c2 => ?_) (fun c2 => ?_)
  · have h := h.1 c2
    refine qa_bipush (v := -2) dX9_stays_31 (by decide) ?_
    exact qa_iret rfl dX9_stays_33 ⟨rfl, rfl⟩ ⟨rfl, hp1, _, rfl, h⟩
  · have h := h.2 c2
    refine qa_ild2 dX9_stays_8 ?_
    refine qa_i2l dX9_stays_9 ?_
    refine qa_ldc2 dX9_stays_10 lk_X9_345 ?_
    refine qa_ldc2 dX9_stays_13 lk_X9_347 ?_
    refine qa_S3I dX9_stays_16 lm_X9_88  (by decide) (Nat.le_of_ble_eq_true rfl) (tX9_in l hp1  h) (fun r3 μ3 hp3 h => ?_)
    refine qa_if_eq (tgt := 31) dX9_stays_19 (by decide) (fun c4 => ?_) (fun c4 => ?_)
    · have h := h.1 c4
      refine qa_bipush (v := -2) dX9_stays_31 (by decide) ?_
      exact qa_iret rfl dX9_stays_33 ⟨rfl, rfl⟩ ⟨rfl, hp3, _, rfl, h⟩
    · have h := h.2 c4
      refine qa_ald0 dX9_stays_22 ?_
      refine qa_ild1 dX9_stays_23 ?_
      refine qa_ild2 dX9_stays_24 ?_
      refine qa_V2I dX9_stays_25 lm_X9_349 sh_91 rfl (by decide) (by decide) (Nat.le_of_ble_eq_true rfl) (tX9_stayOf l hp3  h) (fun r5 μ5 hp5 h => ?_)
      refine qa_goto (tgt := 33) dX9_stays_28 (by decide) ?_
      exact qa_iret rfl dX9_stays_33 ⟨rfl, rfl⟩ ⟨rfl, hp5, _, rfl, h⟩
def wX9_still_39 (n : Nat) (v2 : Int32) (s0 : Int32) (s1 : Int32) (μ0 : qa_M) (K0 : Int32 → Int32 → qa_M → Prop) (Q : Int32 → qa_M → Prop) : Prop := ∀ x6, x6 = (s1 ||| s0) → K0 x6 (v2 + (1 : Int32)) μ0
def wX9_still_14 : Nat → Int32 → Int32 → qa_M → (Int32 → qa_M → Prop) → Prop
  | 0, _, _, _, _ => False
  | n + 1, v1, v2, μ0, Q => wX9_weeks n  μ0 (fun r3 μ3 => ((r3 ≤ v2 → Q v1 μ3) ∧ (¬ r3 ≤ v2 → vp_in v2 20 ∧ ((¬ (μ3.1 104 v2.toNatClampNeg) = 0 → wX9_still_39 n v2 (0 : Int32) v1 μ3 (fun v1 v2 μk => wX9_still_14 n v1 v2 μk Q) Q) ∧ ((μ3.1 104 v2.toNatClampNeg) = 0 → wX9_still_39 n v2 ((1 : Int32) <<< (v2 &&& 31)) v1 μ3 (fun v1 v2 μk => wX9_still_14 n v1 v2 μk Q) Q)))))
def wX9_still (n : Nat)  (μ0 : qa_M) (Q : Int32 → qa_M → Prop) : Prop := wX9_asksTown n  μ0 (fun r1 μ1 => ((¬ r1 = 0 → wX9_still_14 n (0 : Int32) (0 : Int32) μ1  Q) ∧ (r1 = 0 → Q (-2 : Int32) μ1)))
theorem tX9_still_39 (l : Launch) {K0 : Int32 → Int32 → qa_M → Prop} {Q : Int32 → qa_M → Prop} (hK0 : ∀ (v1 : Int32) (v2 : Int32) (μ : qa_M), qa_PP μ.2.2 → K0 v1 v2 μ → qa_G l yX9_still cX9_still 3 (some .int) 4 0 0 (qa_pI Q) 0 0 14 [some (.ref 91), some (.int v1), some (.int v2)] [] 113 μ) : ∀ (n : Nat) (v2 : Int32) (s0 : Int32) (s1 : Int32) (μ0 : qa_M), qa_PP μ0.2.2 → wX9_still_39 n v2 s0 s1 μ0 K0 Q → qa_G l yX9_still cX9_still 3 (some .int) 4 0 0 (qa_pI Q) 0 0 39 [some (.ref 91), none, some (.int v2)] [.int s0, .int s1] 113 μ0 := by
  intro n
  intro v2 s0 s1 μ0 hp0  h
  unfold wX9_still_39 at h
  refine qa_ior dX9_still_39 ?_
  refine qa_nmI (fun x6 e6 => ?_)
  have h := h x6 e6
  refine qa_ist1 dX9_still_40 ?_
  refine qa_inc2 dX9_still_41 (qa_io1 _) ?_
  refine qa_goto (tgt := 14) dX9_still_44 (by decide) ?_
  refine qa_fgt (L' := [some (.ref 91), some (.int x6), some (.int (v2 + (1 : Int32)))]) (⟨rfl, ⟨rfl, ⟨rfl, trivial⟩⟩⟩) ?_
  exact hK0 x6 (v2 + (1 : Int32)) μ0 hp0  h
theorem tX9_still_14 (l : Launch)  {Q : Int32 → qa_M → Prop}  : ∀ (n : Nat) (v1 : Int32) (v2 : Int32) (μ0 : qa_M), qa_PP μ0.2.2 → wX9_still_14 n v1 v2 μ0  Q → qa_G l yX9_still cX9_still 3 (some .int) 4 0 0 (qa_pI Q) 0 0 14 [some (.ref 91), some (.int v1), some (.int v2)] [] 113 μ0 := by
  intro n
  induction n with
  | zero =>
    intro v1 v2 μ0 hp0  h
    rw [wX9_still_14] at h
    exact h.elim
  | succ n ih =>
    intro v1 v2 μ0 hp0  h
    rw [wX9_still_14] at h
    refine qa_ild2 dX9_still_14 ?_
    refine qa_ald0 dX9_still_15 ?_
    refine qa_V0I dX9_still_16 lm_X9_96 sh_91 rfl (by decide) (by decide) (Nat.le_of_ble_eq_true rfl) (tX9_weeks l hp0  h) (fun r3 μ3 hp3 h => ?_)
    refine qa_icmp_ge (tgt := 47) dX9_still_19 (by decide) (fun c4 => ?_) (fun c4 => ?_)
    · have h := h.1 c4
      refine qa_ild1 dX9_still_47 ?_
      exact qa_iret rfl dX9_still_48 ⟨rfl, rfl⟩ ⟨rfl, hp3, _, rfl, h⟩
    · have h := h.2 c4
      refine qa_ild1 dX9_still_22 ?_
      refine qa_ald0 dX9_still_23 ?_
      refine qa_getR dX9_still_24 lf_X9_52 rfl sh_91 (by decide) (pp_91_28 hp3) (by decide) ?_
      refine qa_ild2 dX9_still_27 ?_
      refine qa_iald dX9_still_28 sh_104 (by decide) h.1 ?_
      have h := h.2
      refine qa_if_ne (tgt := 38) dX9_still_29 (by decide) (fun c5 => ?_) (fun c5 => ?_)
      · have h := h.1 c5
        refine qa_iconst (v := 0) dX9_still_38 (by decide) ?_
        refine qa_fgt (L' := [some (.ref 91), none, some (.int v2)]) (⟨rfl, ⟨rfl, trivial⟩⟩) ?_
        refine tX9_still_39 l ih n v2 (0 : Int32) v1 μ3 hp3  h
      · have h := h.2 c5
        refine qa_iconst (v := 1) dX9_still_32 (by decide) ?_
        refine qa_ild2 dX9_still_33 ?_
        refine qa_ishl dX9_still_34 ?_
        refine qa_goto (tgt := 39) dX9_still_35 (by decide) ?_
        refine qa_fgt (L' := [some (.ref 91), none, some (.int v2)]) (⟨rfl, ⟨rfl, trivial⟩⟩) ?_
        refine tX9_still_39 l ih n v2 ((1 : Int32) <<< (v2 &&& 31)) v1 μ3 hp3  h
theorem tX9_still (l : Launch) {n : Nat}  {μ0 : qa_M} {Q : Int32 → qa_M → Prop} (hp0 : qa_PP μ0.2.2)  (h : wX9_still n  μ0 Q) : qa_Met l yX9_still cX9_still 3 (some .int) 4 0 0 [.ref 91] 113 μ0 (qa_pI Q) := by
  refine qa_ofG (by decide) (Nat.le_of_ble_eq_true rfl) ?_
  unfold wX9_still at h
  change qa_G l yX9_still cX9_still 3 (some .int) 4 0 0 (qa_pI Q) 0 0 0 [some (.ref 91), none, none] [] 113 μ0
  refine qa_ald0 dX9_still_0 ?_
  refine qa_V0I dX9_still_1 lm_X9_283 sh_91 rfl (by decide) (by decide) (Nat.le_of_ble_eq_true rfl) (tX9_asksTown l hp0  h) (fun r1 μ1 hp1 h => ?_)
  refine qa_if_ne (tgt := 10) dX9_still_4 (by decide) (fun c2 => ?_) (fun c2 => ?_)
  · have h := h.1 c2
    refine qa_iconst (v := 0) dX9_still_10 (by decide) ?_
    refine qa_ist1 dX9_still_11 ?_
    refine qa_iconst (v := 0) dX9_still_12 (by decide) ?_
    refine qa_ist2 dX9_still_13 ?_
    refine qa_fgt (L' := [some (.ref 91), some (.int (0 : Int32)), some (.int (0 : Int32))]) (⟨rfl, ⟨rfl, ⟨rfl, trivial⟩⟩⟩) ?_
    refine tX9_still_14 l  n (0 : Int32) (0 : Int32) μ1 hp1  h
  · have h := h.2 c2
    refine qa_bipush (v := -2) dX9_still_7 (by decide) ?_
    exact qa_iret rfl dX9_still_9 ⟨rfl, rfl⟩ ⟨rfl, hp1, _, rfl, h⟩
def wX9_strongest_44 (n : Nat) (v1 : Int32) (v2 : Int32) (v3 : Int32) (s0 : Int32) (s1 : Int32) (μ0 : qa_M) (K0 : Int32 → Int32 → Int32 → qa_M → Prop) (Q : Int32 → qa_M → Prop) : Prop := ((s1 ≤ s0 → K0 v1 v2 (v3 + (1 : Int32)) μ0) ∧ (¬ s1 ≤ s0 → K0 v1 v3 (v3 + (1 : Int32)) μ0))
def wX9_strongest_15 : Nat → Int32 → Int32 → Int32 → qa_M → (Int32 → qa_M → Prop) → Prop
  | 0, _, _, _, _, _ => False
  | n + 1, v1, v2, v3, μ0, Q => wX9_houses n  μ0 (fun r3 μ3 => ((r3 ≤ v3 → Q v2 μ3) ∧ (¬ r3 ≤ v3 → wX9_pushOf n v3 v1 μ3 (fun r5 μ5 => ((¬ v2 = (-1 : Int32) → wX9_pushOf n v2 v1 μ5 (fun r7 μ7 => wX9_strongest_44 n v1 v2 v3 r7 r5 μ7 (fun v1 v2 v3 μk => wX9_strongest_15 n v1 v2 v3 μk Q) Q)) ∧ (v2 = (-1 : Int32) → wX9_strongest_44 n v1 v2 v3 (0 : Int32) r5 μ5 (fun v1 v2 v3 μk => wX9_strongest_15 n v1 v2 v3 μk Q) Q))))))
def wX9_strongest (n : Nat) (v1 : Int32) (μ0 : qa_M) (Q : Int32 → qa_M → Prop) : Prop := wX9_asksAhead n v1 μ0 (fun r1 μ1 => ((¬ r1 = 0 → wX9_strongest_15 n v1 (-1 : Int32) (0 : Int32) μ1  Q) ∧ (r1 = 0 → Q (-2 : Int32) μ1)))
theorem tX9_strongest_44 (l : Launch) {K0 : Int32 → Int32 → Int32 → qa_M → Prop} {Q : Int32 → qa_M → Prop} (hK0 : ∀ (v1 : Int32) (v2 : Int32) (v3 : Int32) (μ : qa_M), qa_PP μ.2.2 → K0 v1 v2 v3 μ → qa_G l yX9_strongest cX9_strongest 4 (some .int) 5 0 0 (qa_pI Q) 0 0 15 [some (.ref 91), some (.int v1), some (.int v2), some (.int v3)] [] 113 μ) : ∀ (n : Nat) (v1 : Int32) (v2 : Int32) (v3 : Int32) (s0 : Int32) (s1 : Int32) (μ0 : qa_M), qa_PP μ0.2.2 → wX9_strongest_44 n v1 v2 v3 s0 s1 μ0 K0 Q → qa_G l yX9_strongest cX9_strongest 4 (some .int) 5 0 0 (qa_pI Q) 0 0 44 [some (.ref 91), some (.int v1), some (.int v2), some (.int v3)] [.int s0, .int s1] 113 μ0 := by
  intro n
  intro v1 v2 v3 s0 s1 μ0 hp0  h
  unfold wX9_strongest_44 at h
  refine qa_icmp_le (tgt := 49) dX9_strongest_44 (by decide) (fun c8 => ?_) (fun c8 => ?_)
  · have h := h.1 c8
    refine qa_inc3 dX9_strongest_49 (qa_io1 _) ?_
    refine qa_goto (tgt := 15) dX9_strongest_52 (by decide) ?_
    refine qa_fgt (L' := [some (.ref 91), some (.int v1), some (.int v2), some (.int (v3 + (1 : Int32)))]) (⟨rfl, ⟨rfl, ⟨rfl, ⟨rfl, trivial⟩⟩⟩⟩) ?_
    exact hK0 v1 v2 (v3 + (1 : Int32)) μ0 hp0  h
  · have h := h.2 c8
    refine qa_ild3 dX9_strongest_47 ?_
    refine qa_ist2 dX9_strongest_48 ?_
    refine qa_inc3 dX9_strongest_49 (qa_io1 _) ?_
    refine qa_goto (tgt := 15) dX9_strongest_52 (by decide) ?_
    refine qa_fgt (L' := [some (.ref 91), some (.int v1), some (.int v3), some (.int (v3 + (1 : Int32)))]) (⟨rfl, ⟨rfl, ⟨rfl, ⟨rfl, trivial⟩⟩⟩⟩) ?_
    exact hK0 v1 v3 (v3 + (1 : Int32)) μ0 hp0  h
theorem tX9_strongest_15 (l : Launch)  {Q : Int32 → qa_M → Prop}  : ∀ (n : Nat) (v1 : Int32) (v2 : Int32) (v3 : Int32) (μ0 : qa_M), qa_PP μ0.2.2 → wX9_strongest_15 n v1 v2 v3 μ0  Q → qa_G l yX9_strongest cX9_strongest 4 (some .int) 5 0 0 (qa_pI Q) 0 0 15 [some (.ref 91), some (.int v1), some (.int v2), some (.int v3)] [] 113 μ0 := by
  intro n
  induction n with
  | zero =>
    intro v1 v2 v3 μ0 hp0  h
    rw [wX9_strongest_15] at h
    exact h.elim
  | succ n ih =>
    intro v1 v2 v3 μ0 hp0  h
    rw [wX9_strongest_15] at h
    refine qa_ild3 dX9_strongest_15 ?_
    refine qa_ald0 dX9_strongest_16 ?_
    refine qa_V0I dX9_strongest_17 lm_X9_100 sh_91 rfl (by decide) (by decide) (Nat.le_of_ble_eq_true rfl) (tX9_houses l hp0  h) (fun r3 μ3 hp3 h => ?_)
    refine qa_icmp_ge (tgt := 55) dX9_strongest_20 (by decide) (fun c4 => ?_) (fun c4 => ?_)
    · have h := h.1 c4
      refine qa_ild2 dX9_strongest_55 ?_
      exact qa_iret rfl dX9_strongest_56 ⟨rfl, rfl⟩ ⟨rfl, hp3, _, rfl, h⟩
    · have h := h.2 c4
      refine qa_ald0 dX9_strongest_23 ?_
      refine qa_ild3 dX9_strongest_24 ?_
      refine qa_ild1 dX9_strongest_25 ?_
      refine qa_V2I dX9_strongest_26 lm_X9_301 sh_91 rfl (by decide) (by decide) (Nat.le_of_ble_eq_true rfl) (tX9_pushOf l hp3  h) (fun r5 μ5 hp5 h => ?_)
      refine qa_ild2 dX9_strongest_29 ?_
      refine qa_iconst (v := -1) dX9_strongest_30 (by decide) ?_
      refine qa_icmp_ne (tgt := 38) dX9_strongest_31 (by decide) (fun c6 => ?_) (fun c6 => ?_)
      · have h := h.1 c6
        refine qa_ald0 dX9_strongest_38 ?_
        refine qa_ild2 dX9_strongest_39 ?_
        refine qa_ild1 dX9_strongest_40 ?_
        refine qa_V2I dX9_strongest_41 lm_X9_301 sh_91 rfl (by decide) (by decide) (Nat.le_of_ble_eq_true rfl) (tX9_pushOf l hp5  h) (fun r7 μ7 hp7 h => ?_)
        refine qa_fgt (L' := [some (.ref 91), some (.int v1), some (.int v2), some (.int v3)]) (⟨rfl, ⟨rfl, ⟨rfl, ⟨rfl, trivial⟩⟩⟩⟩) ?_
        refine tX9_strongest_44 l ih n v1 v2 v3 r7 r5 μ7 hp7  h
      · have h := h.2 c6
        refine qa_iconst (v := 0) dX9_strongest_34 (by decide) ?_
        refine qa_goto (tgt := 44) dX9_strongest_35 (by decide) ?_
        refine qa_fgt (L' := [some (.ref 91), some (.int v1), some (.int v2), some (.int v3)]) (⟨rfl, ⟨rfl, ⟨rfl, ⟨rfl, trivial⟩⟩⟩⟩) ?_
        refine tX9_strongest_44 l ih n v1 v2 v3 (0 : Int32) r5 μ5 hp5  h
theorem tX9_strongest (l : Launch) {n : Nat} {v1 : Int32} {μ0 : qa_M} {Q : Int32 → qa_M → Prop} (hp0 : qa_PP μ0.2.2)  (h : wX9_strongest n v1 μ0 Q) : qa_Met l yX9_strongest cX9_strongest 4 (some .int) 5 0 0 [.ref 91, .int v1] 113 μ0 (qa_pI Q) := by
  refine qa_ofG (by decide) (Nat.le_of_ble_eq_true rfl) ?_
  unfold wX9_strongest at h
  change qa_G l yX9_strongest cX9_strongest 4 (some .int) 5 0 0 (qa_pI Q) 0 0 0 [some (.ref 91), some (.int v1), none, none] [] 113 μ0
  refine qa_ald0 dX9_strongest_0 ?_
  refine qa_ild1 dX9_strongest_1 ?_
  refine qa_V1I dX9_strongest_2 lm_X9_298 sh_91 rfl (by decide) (by decide) (Nat.le_of_ble_eq_true rfl) (tX9_asksAhead l hp0  h) (fun r1 μ1 hp1 h => ?_)
  refine qa_if_ne (tgt := 11) dX9_strongest_5 (by decide) (fun c2 => ?_) (fun c2 => ?_)
  · have h := h.1 c2
    refine qa_iconst (v := -1) dX9_strongest_11 (by decide) ?_
    refine qa_ist2 dX9_strongest_12 ?_
    refine qa_iconst (v := 0) dX9_strongest_13 (by decide) ?_
    refine qa_ist3 dX9_strongest_14 ?_
    refine qa_fgt (L' := [some (.ref 91), some (.int v1), some (.int (-1 : Int32)), some (.int (0 : Int32))]) (⟨rfl, ⟨rfl, ⟨rfl, ⟨rfl, trivial⟩⟩⟩⟩) ?_
    refine tX9_strongest_15 l  n v1 (-1 : Int32) (0 : Int32) μ1 hp1  h
  · have h := h.2 c2
    refine qa_bipush (v := -2) dX9_strongest_8 (by decide) ?_
    exact qa_iret rfl dX9_strongest_10 ⟨rfl, rfl⟩ ⟨rfl, hp1, _, rfl, h⟩
def wX9_sun (n : Nat) (v1 : Int32) (v2 : Int32) (μ0 : qa_M) (Q : Int32 → qa_M → Prop) : Prop := wX9_asksWeek n v2 μ0 (fun r1 μ1 => ((r1 = 0 → Q (-2 : Int32) μ1) ∧ (¬ r1 = 0 → wX9_isHouse n v1 μ1 (fun r3 μ3 => ((r3 = 0 → Q (-2 : Int32) μ3) ∧ (¬ r3 = 0 → wX9_sunTo n v1 v2 μ3 (fun r5 μ5 => Q r5 μ5)))))))
theorem tX9_sun (l : Launch) {n : Nat} {v1 : Int32} {v2 : Int32} {μ0 : qa_M} {Q : Int32 → qa_M → Prop} (hp0 : qa_PP μ0.2.2)  (h : wX9_sun n v1 v2 μ0 Q) : qa_Met l yX9_sun cX9_sun 3 (some .int) 5 0 0 [.ref 91, .int v1, .int v2] 113 μ0 (qa_pI Q) := by
  refine qa_ofG (by decide) (Nat.le_of_ble_eq_true rfl) ?_
  unfold wX9_sun at h
  change qa_G l yX9_sun cX9_sun 3 (some .int) 5 0 0 (qa_pI Q) 0 0 0 [some (.ref 91), some (.int v1), some (.int v2)] [] 113 μ0
  refine qa_ald0 dX9_sun_0 ?_
  refine qa_ild2 dX9_sun_1 ?_
  refine qa_V1I dX9_sun_2 lm_X9_292 sh_91 rfl (by decide) (by decide) (Nat.le_of_ble_eq_true rfl) (tX9_asksWeek l hp0  h) (fun r1 μ1 hp1 h => ?_)
  refine qa_if_eq (tgt := 25) dX9_sun_5 (by decide) (fun c2 => ?_) (fun c2 => ?_)
  · have h := h.1 c2
    refine qa_bipush (v := -2) dX9_sun_25 (by decide) ?_
    exact qa_iret rfl dX9_sun_27 ⟨rfl, rfl⟩ ⟨rfl, hp1, _, rfl, h⟩
  · have h := h.2 c2
    refine qa_ald0 dX9_sun_8 ?_
    refine qa_ild1 dX9_sun_9 ?_
    refine qa_V1I dX9_sun_10 lm_X9_103 sh_91 rfl (by decide) (by decide) (Nat.le_of_ble_eq_true rfl) (tX9_isHouse l hp1  h) (fun r3 μ3 hp3 h => ?_)
    refine qa_if_eq (tgt := 25) dX9_sun_13 (by decide) (fun c4 => ?_) (fun c4 => ?_)
    · have h := h.1 c4
      refine qa_bipush (v := -2) dX9_sun_25 (by decide) ?_
      exact qa_iret rfl dX9_sun_27 ⟨rfl, rfl⟩ ⟨rfl, hp3, _, rfl, h⟩
    · have h := h.2 c4
      refine qa_ald0 dX9_sun_16 ?_
      refine qa_ild1 dX9_sun_17 ?_
      refine qa_ild2 dX9_sun_18 ?_
      refine qa_V2I dX9_sun_19 lm_X9_310 sh_91 rfl (by decide) (by decide) (Nat.le_of_ble_eq_true rfl) (tX9_sunTo l hp3  h) (fun r5 μ5 hp5 h => ?_)
      refine qa_goto (tgt := 27) dX9_sun_22 (by decide) ?_
      exact qa_iret rfl dX9_sun_27 ⟨rfl, rfl⟩ ⟨rfl, hp5, _, rfl, h⟩
def wX9_surely_24 : Nat → Int32 → Int32 → qa_M → (Int32 → qa_M → Prop) → (Int32 → qa_M → Prop) → Prop
  | 0, _, _, _, _, _ => False
  | n + 1, v3, v4, μ0, K0, Q => (((μ0.1 91 35) ≤ v4 → K0 v3 μ0) ∧ (¬ (μ0.1 91 35) ≤ v4 → vp_in v4 256 ∧ ∀ x6, x6 = (v3 &&& (μ0.1 107 v4.toNatClampNeg)) → wX9_surely_24 n x6 (v4 + (1 : Int32)) μ0 K0 Q))
def wX9_surely (n : Nat) (v1 : Int32) (μ0 : qa_M) (Q : Int32 → qa_M → Prop) : Prop := wX9_layLeans n v1 μ0 (fun r1 μ1 => ((0 ≤ r1 → wX9_houses n  μ1 (fun r3 μ3 => ∀ x4, x4 = (((1 : Int32) <<< (r3 &&& 31)) - (1 : Int32)) → wX9_surely_24 n x4 (0 : Int32) μ3 (fun v3_8 μ7 => ((¬ (μ7.1 91 35) = 0 → Q v3_8 μ7) ∧ ((μ7.1 91 35) = 0 → Q (-1 : Int32) μ7))) Q)) ∧ (¬ 0 ≤ r1 → Q r1 μ1)))
theorem tX9_surely_24 (l : Launch) {K0 : Int32 → qa_M → Prop} {Q : Int32 → qa_M → Prop} (hK0 : ∀ (v3 : Int32) (μ : qa_M), qa_PP μ.2.2 → K0 v3 μ → qa_G l yX9_surely cX9_surely 5 (some .int) 4 0 0 (qa_pI Q) 0 0 49 [some (.ref 91), none, none, some (.int v3), none] [] 113 μ) : ∀ (n : Nat) (v3 : Int32) (v4 : Int32) (μ0 : qa_M), qa_PP μ0.2.2 → wX9_surely_24 n v3 v4 μ0 K0 Q → qa_G l yX9_surely cX9_surely 5 (some .int) 4 0 0 (qa_pI Q) 0 0 24 [some (.ref 91), none, none, some (.int v3), some (.int v4)] [] 113 μ0 := by
  intro n
  induction n with
  | zero =>
    intro v3 v4 μ0 hp0  h
    rw [wX9_surely_24] at h
    exact h.elim
  | succ n ih =>
    intro v3 v4 μ0 hp0  h
    rw [wX9_surely_24] at h
    refine qa_ild4 dX9_surely_24 ?_
    refine qa_ald0 dX9_surely_26 ?_
    refine qa_getI dX9_surely_27 lf_X9_374 (Or.inl rfl) sh_91 (by decide) ?_
    refine qa_icmp_ge (tgt := 49) dX9_surely_30 (by decide) (fun c5 => ?_) (fun c5 => ?_)
    · have h := h.1 c5
      refine qa_fgt (L' := [some (.ref 91), none, none, some (.int v3), none]) (⟨rfl, ⟨rfl, trivial⟩⟩) ?_
      exact hK0 v3 μ0 hp0  h
    · have h := h.2 c5
      refine qa_ild3 dX9_surely_33 ?_
      refine qa_ald0 dX9_surely_34 ?_
      refine qa_getR dX9_surely_35 lf_X9_61 rfl sh_91 (by decide) (pp_91_33 hp0) (by decide) ?_
      refine qa_ild4 dX9_surely_38 ?_
      refine qa_iald dX9_surely_40 sh_107 (by decide) h.1 ?_
      have h := h.2
      refine qa_iand dX9_surely_41 ?_
      refine qa_nmI (fun x6 e6 => ?_)
      have h := h x6 e6
      refine qa_ist3 dX9_surely_42 ?_
      refine qa_inc4 dX9_surely_43 (qa_io1 _) ?_
      refine qa_goto (tgt := 24) dX9_surely_46 (by decide) ?_
      refine qa_fgt (L' := [some (.ref 91), none, none, some (.int x6), some (.int (v4 + (1 : Int32)))]) (⟨rfl, ⟨rfl, ⟨rfl, trivial⟩⟩⟩) ?_
      exact ih x6 (v4 + (1 : Int32)) μ0 hp0  h
theorem tX9_surely (l : Launch) {n : Nat} {v1 : Int32} {μ0 : qa_M} {Q : Int32 → qa_M → Prop} (hp0 : qa_PP μ0.2.2)  (h : wX9_surely n v1 μ0 Q) : qa_Met l yX9_surely cX9_surely 5 (some .int) 4 0 0 [.ref 91, .int v1] 113 μ0 (qa_pI Q) := by
  refine qa_ofG (by decide) (Nat.le_of_ble_eq_true rfl) ?_
  unfold wX9_surely at h
  change qa_G l yX9_surely cX9_surely 5 (some .int) 4 0 0 (qa_pI Q) 0 0 0 [some (.ref 91), some (.int v1), none, none, none] [] 113 μ0
  refine qa_ald0 dX9_surely_0 ?_
  refine qa_ild1 dX9_surely_1 ?_
  refine qa_V1I dX9_surely_2 lm_X9_377 sh_91 rfl (by decide) (by decide) (Nat.le_of_ble_eq_true rfl) (tX9_layLeans l hp0  h) (fun r1 μ1 hp1 h => ?_)
  refine qa_ist2 dX9_surely_5 ?_
  refine qa_ild2 dX9_surely_6 ?_
  refine qa_if_ge (tgt := 12) dX9_surely_7 (by decide) (fun c2 => ?_) (fun c2 => ?_)
  · have h := h.1 c2
    refine qa_iconst (v := 1) dX9_surely_12 (by decide) ?_
    refine qa_ald0 dX9_surely_13 ?_
    refine qa_V0I dX9_surely_14 lm_X9_100 sh_91 rfl (by decide) (by decide) (Nat.le_of_ble_eq_true rfl) (tX9_houses l hp1  h) (fun r3 μ3 hp3 h => ?_)
    refine qa_ishl dX9_surely_17 ?_
    refine qa_iconst (v := 1) dX9_surely_18 (by decide) ?_
    refine qa_isub dX9_surely_19 ?_
    refine qa_nmI (fun x4 e4 => ?_)
    have h := h x4 e4
    refine qa_ist3 dX9_surely_20 ?_
    refine qa_iconst (v := 0) dX9_surely_21 (by decide) ?_
    refine qa_ist4 dX9_surely_22 ?_
    refine qa_fgt (L' := [some (.ref 91), none, none, some (.int x4), some (.int (0 : Int32))]) (⟨rfl, ⟨rfl, ⟨rfl, trivial⟩⟩⟩) ?_
    refine tX9_surely_24 l ?_ n x4 (0 : Int32) μ3 hp3  h
    · intro v3_8 μ7 hp7  h
      refine qa_ald0 dX9_surely_49 ?_
      refine qa_getI dX9_surely_50 lf_X9_374 (Or.inl rfl) sh_91 (by decide) ?_
      refine qa_if_ne (tgt := 60) dX9_surely_53 (by decide) (fun c9 => ?_) (fun c9 => ?_)
      · have h := h.1 c9
        refine qa_ild3 dX9_surely_60 ?_
        exact qa_iret rfl dX9_surely_61 ⟨rfl, rfl⟩ ⟨rfl, hp7, _, rfl, h⟩
      · have h := h.2 c9
        refine qa_iconst (v := -1) dX9_surely_56 (by decide) ?_
        refine qa_goto (tgt := 61) dX9_surely_57 (by decide) ?_
        exact qa_iret rfl dX9_surely_61 ⟨rfl, rfl⟩ ⟨rfl, hp7, _, rfl, h⟩
  · have h := h.2 c2
    refine qa_ild2 dX9_surely_10 ?_
    exact qa_iret rfl dX9_surely_11 ⟨rfl, rfl⟩ ⟨rfl, hp1, _, rfl, h⟩
def wX9_swap (n : Nat) (v1 : Int32) (v2 : Int32) (v3 : Int32) (μ0 : qa_M) (Q : Int32 → qa_M → Prop) : Prop := wX9_areTwo n v1 v2 μ0 (fun r1 μ1 => ((r1 = 0 → Q (-2 : Int32) μ1) ∧ (¬ r1 = 0 → wX9_isAhead n v3.toInt64 μ1 (fun r3 μ3 => ((¬ r3 = 0 → wX9_keepAct n ((((1000 : Int32) * v1) + ((100 : Int32) * v2)) + v3) v1 μ3 (fun r5 μ5 => Q r5 μ5)) ∧ (r3 = 0 → Q (-2 : Int32) μ3))))))
theorem tX9_swap (l : Launch) {n : Nat} {v1 : Int32} {v2 : Int32} {v3 : Int32} {μ0 : qa_M} {Q : Int32 → qa_M → Prop} (hp0 : qa_PP μ0.2.2)  (h : wX9_swap n v1 v2 v3 μ0 Q) : qa_Met l yX9_swap cX9_swap 4 (some .int) 5 0 0 [.ref 91, .int v1, .int v2, .int v3] 113 μ0 (qa_pI Q) := by
  refine qa_ofG (by decide) (Nat.le_of_ble_eq_true rfl) ?_
  unfold wX9_swap at h
  change qa_G l yX9_swap cX9_swap 4 (some .int) 5 0 0 (qa_pI Q) 0 0 0 [some (.ref 91), some (.int v1), some (.int v2), some (.int v3)] [] 113 μ0
  refine qa_ald0 dX9_swap_0 ?_
  refine qa_ild1 dX9_swap_1 ?_
  refine qa_ild2 dX9_swap_2 ?_
  refine qa_V2I dX9_swap_3 lm_X9_328 sh_91 rfl (by decide) (by decide) (Nat.le_of_ble_eq_true rfl) (tX9_areTwo l hp0  h) (fun r1 μ1 hp1 h => ?_)
  refine qa_if_eq (tgt := 18) dX9_swap_6 (by decide) (fun c2 => ?_) (fun c2 => ?_)
  · have h := h.1 c2
    refine qa_bipush (v := -2) dX9_swap_18 (by decide) ?_
    exact qa_iret rfl dX9_swap_20 ⟨rfl, rfl⟩ ⟨rfl, hp1, _, rfl, h⟩
  · have h := h.2 c2
    refine qa_ald0 dX9_swap_9 ?_
    refine qa_ild3 dX9_swap_10 ?_
    refine qa_i2l dX9_swap_11 ?_
    refine qa_V1I dX9_swap_12 lm_X9_289 sh_91 rfl (by decide) (by decide) (Nat.le_of_ble_eq_true rfl) (tX9_isAhead l hp1  h) (fun r3 μ3 hp3 h => ?_)
    refine qa_if_ne (tgt := 21) dX9_swap_15 (by decide) (fun c4 => ?_) (fun c4 => ?_)
    · have h := h.1 c4
      refine qa_ald0 dX9_swap_21 ?_
      refine qa_sipush (v := 1000) dX9_swap_22 (by decide) ?_
      refine qa_ild1 dX9_swap_25 ?_
      refine qa_imul dX9_swap_26 ?_
      refine qa_bipush (v := 100) dX9_swap_27 (by decide) ?_
      refine qa_ild2 dX9_swap_29 ?_
      refine qa_imul dX9_swap_30 ?_
      refine qa_iadd dX9_swap_31 ?_
      refine qa_ild3 dX9_swap_32 ?_
      refine qa_iadd dX9_swap_33 ?_
      refine qa_ild1 dX9_swap_34 ?_
      refine qa_V2I dX9_swap_35 lm_X9_434 sh_91 rfl (by decide) (by decide) (Nat.le_of_ble_eq_true rfl) (tX9_keepAct l hp3  h) (fun r5 μ5 hp5 h => ?_)
      exact qa_iret rfl dX9_swap_38 ⟨rfl, rfl⟩ ⟨rfl, hp5, _, rfl, h⟩
    · have h := h.2 c4
      refine qa_bipush (v := -2) dX9_swap_18 (by decide) ?_
      exact qa_iret rfl dX9_swap_20 ⟨rfl, rfl⟩ ⟨rfl, hp3, _, rfl, h⟩
def wX9_sweet_54 (n : Nat) (v1 : Int32) (v3 : Int32) (s0 : Int32) (s1 : Int32) (μ0 : qa_M) (K0 : Int32 → Int32 → Int32 → qa_M → Prop) (Q : Int32 → qa_M → Prop) : Prop := ∀ x8, x8 = (s1 + s0) → K0 v1 x8 (v3 + (1 : Int32)) μ0
def wX9_sweet_15 : Nat → Int32 → Int32 → Int32 → qa_M → (Int32 → qa_M → Prop) → Prop
  | 0, _, _, _, _, _ => False
  | n + 1, v1, v2, v3, μ0, Q => wX9_weeks n  μ0 (fun r3 μ3 => ((r3 < v3 → Q v2 μ3) ∧ (¬ r3 < v3 → wX9_placeOf n v1 v3 μ3 (fun r5 μ5 => vp_in r5 8 ∧ wX9_placeOf n v1 v3 μ5 (fun r6 μ6 => vp_in r6 8 ∧ (((μ5.1 98 r5.toNatClampNeg) ≤ (μ6.1 99 r6.toNatClampNeg) → wX9_sweet_54 n v1 v3 (0 : Int32) v2 μ6 (fun v1 v2 v3 μk => wX9_sweet_15 n v1 v2 v3 μk Q) Q) ∧ (¬ (μ5.1 98 r5.toNatClampNeg) ≤ (μ6.1 99 r6.toNatClampNeg) → wX9_sweet_54 n v1 v3 (1 : Int32) v2 μ6 (fun v1 v2 v3 μk => wX9_sweet_15 n v1 v2 v3 μk Q) Q)))))))
def wX9_sweet (n : Nat) (v1 : Int32) (μ0 : qa_M) (Q : Int32 → qa_M → Prop) : Prop := wX9_asksHouse n v1 μ0 (fun r1 μ1 => ((¬ r1 = 0 → wX9_sweet_15 n v1 (0 : Int32) (0 : Int32) μ1  Q) ∧ (r1 = 0 → Q (-2 : Int32) μ1)))
theorem tX9_sweet_54 (l : Launch) {K0 : Int32 → Int32 → Int32 → qa_M → Prop} {Q : Int32 → qa_M → Prop} (hK0 : ∀ (v1 : Int32) (v2 : Int32) (v3 : Int32) (μ : qa_M), qa_PP μ.2.2 → K0 v1 v2 v3 μ → qa_G l yX9_sweet cX9_sweet 4 (some .int) 5 0 0 (qa_pI Q) 0 0 15 [some (.ref 91), some (.int v1), some (.int v2), some (.int v3)] [] 113 μ) : ∀ (n : Nat) (v1 : Int32) (v3 : Int32) (s0 : Int32) (s1 : Int32) (μ0 : qa_M), qa_PP μ0.2.2 → wX9_sweet_54 n v1 v3 s0 s1 μ0 K0 Q → qa_G l yX9_sweet cX9_sweet 4 (some .int) 5 0 0 (qa_pI Q) 0 0 54 [some (.ref 91), some (.int v1), none, some (.int v3)] [.int s0, .int s1] 113 μ0 := by
  intro n
  intro v1 v3 s0 s1 μ0 hp0  h
  unfold wX9_sweet_54 at h
  refine qa_iadd dX9_sweet_54 ?_
  refine qa_nmI (fun x8 e8 => ?_)
  have h := h x8 e8
  refine qa_ist2 dX9_sweet_55 ?_
  refine qa_inc3 dX9_sweet_56 (qa_io1 _) ?_
  refine qa_goto (tgt := 15) dX9_sweet_59 (by decide) ?_
  refine qa_fgt (L' := [some (.ref 91), some (.int v1), some (.int x8), some (.int (v3 + (1 : Int32)))]) (⟨rfl, ⟨rfl, ⟨rfl, ⟨rfl, trivial⟩⟩⟩⟩) ?_
  exact hK0 v1 x8 (v3 + (1 : Int32)) μ0 hp0  h
theorem tX9_sweet_15 (l : Launch)  {Q : Int32 → qa_M → Prop}  : ∀ (n : Nat) (v1 : Int32) (v2 : Int32) (v3 : Int32) (μ0 : qa_M), qa_PP μ0.2.2 → wX9_sweet_15 n v1 v2 v3 μ0  Q → qa_G l yX9_sweet cX9_sweet 4 (some .int) 5 0 0 (qa_pI Q) 0 0 15 [some (.ref 91), some (.int v1), some (.int v2), some (.int v3)] [] 113 μ0 := by
  intro n
  induction n with
  | zero =>
    intro v1 v2 v3 μ0 hp0  h
    rw [wX9_sweet_15] at h
    exact h.elim
  | succ n ih =>
    intro v1 v2 v3 μ0 hp0  h
    rw [wX9_sweet_15] at h
    refine qa_ild3 dX9_sweet_15 ?_
    refine qa_ald0 dX9_sweet_16 ?_
    refine qa_V0I dX9_sweet_17 lm_X9_96 sh_91 rfl (by decide) (by decide) (Nat.le_of_ble_eq_true rfl) (tX9_weeks l hp0  h) (fun r3 μ3 hp3 h => ?_)
    refine qa_icmp_gt (tgt := 62) dX9_sweet_20 (by decide) (fun c4 => ?_) (fun c4 => ?_)
    · have h := h.1 c4
      refine qa_ild2 dX9_sweet_62 ?_
      exact qa_iret rfl dX9_sweet_63 ⟨rfl, rfl⟩ ⟨rfl, hp3, _, rfl, h⟩
    · have h := h.2 c4
      refine qa_ild2 dX9_sweet_23 ?_
      refine qa_ald0 dX9_sweet_24 ?_
      refine qa_getR dX9_sweet_25 lf_X9_34 rfl sh_91 (by decide) (pp_91_15 hp3) (by decide) ?_
      refine qa_ald0 dX9_sweet_28 ?_
      refine qa_ild1 dX9_sweet_29 ?_
      refine qa_ild3 dX9_sweet_30 ?_
      refine qa_V2I dX9_sweet_31 lm_X9_261 sh_91 rfl (by decide) (by decide) (Nat.le_of_ble_eq_true rfl) (tX9_placeOf l hp3  h) (fun r5 μ5 hp5 h => ?_)
      refine qa_iald dX9_sweet_34 sh_98 (by decide) h.1 ?_
      have h := h.2
      refine qa_ald0 dX9_sweet_35 ?_
      refine qa_getR dX9_sweet_36 lf_X9_37 rfl sh_91 (by decide) (pp_91_16 hp5) (by decide) ?_
      refine qa_ald0 dX9_sweet_39 ?_
      refine qa_ild1 dX9_sweet_40 ?_
      refine qa_ild3 dX9_sweet_41 ?_
      refine qa_V2I dX9_sweet_42 lm_X9_261 sh_91 rfl (by decide) (by decide) (Nat.le_of_ble_eq_true rfl) (tX9_placeOf l hp5  h) (fun r6 μ6 hp6 h => ?_)
      refine qa_iald dX9_sweet_45 sh_99 (by decide) h.1 ?_
      have h := h.2
      refine qa_icmp_le (tgt := 53) dX9_sweet_46 (by decide) (fun c7 => ?_) (fun c7 => ?_)
      · have h := h.1 c7
        refine qa_iconst (v := 0) dX9_sweet_53 (by decide) ?_
        refine qa_fgt (L' := [some (.ref 91), some (.int v1), none, some (.int v3)]) (⟨rfl, ⟨rfl, ⟨rfl, trivial⟩⟩⟩) ?_
        refine tX9_sweet_54 l ih n v1 v3 (0 : Int32) v2 μ6 hp6  h
      · have h := h.2 c7
        refine qa_iconst (v := 1) dX9_sweet_49 (by decide) ?_
        refine qa_goto (tgt := 54) dX9_sweet_50 (by decide) ?_
        refine qa_fgt (L' := [some (.ref 91), some (.int v1), none, some (.int v3)]) (⟨rfl, ⟨rfl, ⟨rfl, trivial⟩⟩⟩) ?_
        refine tX9_sweet_54 l ih n v1 v3 (1 : Int32) v2 μ6 hp6  h
theorem tX9_sweet (l : Launch) {n : Nat} {v1 : Int32} {μ0 : qa_M} {Q : Int32 → qa_M → Prop} (hp0 : qa_PP μ0.2.2)  (h : wX9_sweet n v1 μ0 Q) : qa_Met l yX9_sweet cX9_sweet 4 (some .int) 5 0 0 [.ref 91, .int v1] 113 μ0 (qa_pI Q) := by
  refine qa_ofG (by decide) (Nat.le_of_ble_eq_true rfl) ?_
  unfold wX9_sweet at h
  change qa_G l yX9_sweet cX9_sweet 4 (some .int) 5 0 0 (qa_pI Q) 0 0 0 [some (.ref 91), some (.int v1), none, none] [] 113 μ0
  refine qa_ald0 dX9_sweet_0 ?_
  refine qa_ild1 dX9_sweet_1 ?_
  refine qa_V1I dX9_sweet_2 lm_X9_307 sh_91 rfl (by decide) (by decide) (Nat.le_of_ble_eq_true rfl) (tX9_asksHouse l hp0  h) (fun r1 μ1 hp1 h => ?_)
  refine qa_if_ne (tgt := 11) dX9_sweet_5 (by decide) (fun c2 => ?_) (fun c2 => ?_)
  · have h := h.1 c2
    refine qa_iconst (v := 0) dX9_sweet_11 (by decide) ?_
    refine qa_ist2 dX9_sweet_12 ?_
    refine qa_iconst (v := 0) dX9_sweet_13 (by decide) ?_
    refine qa_ist3 dX9_sweet_14 ?_
    refine qa_fgt (L' := [some (.ref 91), some (.int v1), some (.int (0 : Int32)), some (.int (0 : Int32))]) (⟨rfl, ⟨rfl, ⟨rfl, ⟨rfl, trivial⟩⟩⟩⟩) ?_
    refine tX9_sweet_15 l  n v1 (0 : Int32) (0 : Int32) μ1 hp1  h
  · have h := h.2 c2
    refine qa_bipush (v := -2) dX9_sweet_8 (by decide) ?_
    exact qa_iret rfl dX9_sweet_10 ⟨rfl, rfl⟩ ⟨rfl, hp1, _, rfl, h⟩
def wX9_toil_15 : Nat → Int32 → Int32 → Int32 → qa_M → (Int32 → qa_M → Prop) → Prop
  | 0, _, _, _, _, _ => False
  | n + 1, v1, v2, v3, μ0, Q => wX9_weeks n  μ0 (fun r3 μ3 => ((r3 ≤ v3 → Q v2 μ3) ∧ (¬ r3 ≤ v3 → wX9_pushOf n v1 v3 μ3 (fun r5 μ5 => ∀ x6, x6 = (v2 + r5) → wX9_toil_15 n v1 x6 (v3 + (1 : Int32)) μ5 Q))))
def wX9_toil (n : Nat) (v1 : Int32) (μ0 : qa_M) (Q : Int32 → qa_M → Prop) : Prop := wX9_asksHouse n v1 μ0 (fun r1 μ1 => ((¬ r1 = 0 → wX9_toil_15 n v1 (0 : Int32) (0 : Int32) μ1  Q) ∧ (r1 = 0 → Q (-2 : Int32) μ1)))
theorem tX9_toil_15 (l : Launch)  {Q : Int32 → qa_M → Prop}  : ∀ (n : Nat) (v1 : Int32) (v2 : Int32) (v3 : Int32) (μ0 : qa_M), qa_PP μ0.2.2 → wX9_toil_15 n v1 v2 v3 μ0  Q → qa_G l yX9_toil cX9_toil 4 (some .int) 5 0 0 (qa_pI Q) 0 0 15 [some (.ref 91), some (.int v1), some (.int v2), some (.int v3)] [] 113 μ0 := by
  intro n
  induction n with
  | zero =>
    intro v1 v2 v3 μ0 hp0  h
    rw [wX9_toil_15] at h
    exact h.elim
  | succ n ih =>
    intro v1 v2 v3 μ0 hp0  h
    rw [wX9_toil_15] at h
    refine qa_ild3 dX9_toil_15 ?_
    refine qa_ald0 dX9_toil_16 ?_
    refine qa_V0I dX9_toil_17 lm_X9_96 sh_91 rfl (by decide) (by decide) (Nat.le_of_ble_eq_true rfl) (tX9_weeks l hp0  h) (fun r3 μ3 hp3 h => ?_)
    refine qa_icmp_ge (tgt := 38) dX9_toil_20 (by decide) (fun c4 => ?_) (fun c4 => ?_)
    · have h := h.1 c4
      refine qa_ild2 dX9_toil_38 ?_
      exact qa_iret rfl dX9_toil_39 ⟨rfl, rfl⟩ ⟨rfl, hp3, _, rfl, h⟩
    · have h := h.2 c4
      refine qa_ild2 dX9_toil_23 ?_
      refine qa_ald0 dX9_toil_24 ?_
      refine qa_ild1 dX9_toil_25 ?_
      refine qa_ild3 dX9_toil_26 ?_
      refine qa_V2I dX9_toil_27 lm_X9_301 sh_91 rfl (by decide) (by decide) (Nat.le_of_ble_eq_true rfl) (tX9_pushOf l hp3  h) (fun r5 μ5 hp5 h => ?_)
      refine qa_iadd dX9_toil_30 ?_
      refine qa_nmI (fun x6 e6 => ?_)
      have h := h x6 e6
      refine qa_ist2 dX9_toil_31 ?_
      refine qa_inc3 dX9_toil_32 (qa_io1 _) ?_
      refine qa_goto (tgt := 15) dX9_toil_35 (by decide) ?_
      refine qa_fgt (L' := [some (.ref 91), some (.int v1), some (.int x6), some (.int (v3 + (1 : Int32)))]) (⟨rfl, ⟨rfl, ⟨rfl, ⟨rfl, trivial⟩⟩⟩⟩) ?_
      exact ih v1 x6 (v3 + (1 : Int32)) μ5 hp5  h
theorem tX9_toil (l : Launch) {n : Nat} {v1 : Int32} {μ0 : qa_M} {Q : Int32 → qa_M → Prop} (hp0 : qa_PP μ0.2.2)  (h : wX9_toil n v1 μ0 Q) : qa_Met l yX9_toil cX9_toil 4 (some .int) 5 0 0 [.ref 91, .int v1] 113 μ0 (qa_pI Q) := by
  refine qa_ofG (by decide) (Nat.le_of_ble_eq_true rfl) ?_
  unfold wX9_toil at h
  change qa_G l yX9_toil cX9_toil 4 (some .int) 5 0 0 (qa_pI Q) 0 0 0 [some (.ref 91), some (.int v1), none, none] [] 113 μ0
  refine qa_ald0 dX9_toil_0 ?_
  refine qa_ild1 dX9_toil_1 ?_
  refine qa_V1I dX9_toil_2 lm_X9_307 sh_91 rfl (by decide) (by decide) (Nat.le_of_ble_eq_true rfl) (tX9_asksHouse l hp0  h) (fun r1 μ1 hp1 h => ?_)
  refine qa_if_ne (tgt := 11) dX9_toil_5 (by decide) (fun c2 => ?_) (fun c2 => ?_)
  · have h := h.1 c2
    refine qa_iconst (v := 0) dX9_toil_11 (by decide) ?_
    refine qa_ist2 dX9_toil_12 ?_
    refine qa_iconst (v := 0) dX9_toil_13 (by decide) ?_
    refine qa_ist3 dX9_toil_14 ?_
    refine qa_fgt (L' := [some (.ref 91), some (.int v1), some (.int (0 : Int32)), some (.int (0 : Int32))]) (⟨rfl, ⟨rfl, ⟨rfl, ⟨rfl, trivial⟩⟩⟩⟩) ?_
    refine tX9_toil_15 l  n v1 (0 : Int32) (0 : Int32) μ1 hp1  h
  · have h := h.2 c2
    refine qa_bipush (v := -2) dX9_toil_8 (by decide) ?_
    exact qa_iret rfl dX9_toil_10 ⟨rfl, rfl⟩ ⟨rfl, hp1, _, rfl, h⟩
def wX9_town_30 : Nat → Int32 → qa_M → (qa_M → Prop) → (Int32 → qa_M → Prop) → Prop
  | 0, _, _, _, _ => False
  | n + 1, v1, μ0, K0, Q => (((114 : Int32) ≤ v1 → K0  μ0) ∧ (¬ (114 : Int32) ≤ v1 → vp_in v1 114 ∧ ∀ μ7, μ7 = qa_uI μ0 97 v1.toNatClampNeg (0 : Int32) → wX9_town_30 n (v1 + (1 : Int32)) μ7 K0 Q))
def wX9_town_53 : Nat → qa_M → (qa_M → Prop) → (Int32 → qa_M → Prop) → Prop
  | 0, _, _, _ => False
  | n + 1, μ0, K0, Q => wX9_good n  μ0 (fun r11 μ11 => ((r11 = 0 → K0  μ11) ∧ (¬ r11 = 0 → (((μ11.1 91 10) = 0 → K0  μ11) ∧ (¬ (μ11.1 91 10) = 0 → wX9_readLine n  μ11 (fun μ14 => wX9_town_53 n  μ14 K0 Q))))))
def wX9_town_86 : Nat → Int32 → qa_M → (Int32 → qa_M → Prop) → Prop
  | 0, _, _, _ => False
  | n + 1, v1, μ0, Q => (((114 : Int32) ≤ v1 → Q (μ0.1 92 (9 : Int32).toNatClampNeg) μ0) ∧ (¬ (114 : Int32) ≤ v1 → vp_in v1 114 ∧ vp_in v1 114 ∧ ∀ μ20, μ20 = qa_uI μ0 92 v1.toNatClampNeg (μ0.1 97 v1.toNatClampNeg) → wX9_town_86 n (v1 + (1 : Int32)) μ20 Q))
def wX9_town (n : Nat)  (μ0 : qa_M) (Q : Int32 → qa_M → Prop) : Prop := ∀ μ1, μ1 = qa_uI μ0 91 7 (μ0.1 91 5) → ∀ μ2, μ2 = qa_uI μ1 91 5 (0 : Int32) → ∀ μ3, μ3 = qa_uI μ2 91 8 (0 : Int32) → ∀ μ4, μ4 = qa_uI μ3 91 12 (0 : Int32) → ∀ μ5, μ5 = qa_uI μ4 91 13 (-1 : Int32) → wX9_town_30 n (0 : Int32) μ5 (fun  μ8 => wX9_advance n  μ8 (fun μ10 => wX9_town_53 n  μ10 (fun  μ15 => wX9_good n  μ15 (fun r17 μ17 => ((¬ r17 = 0 → wX9_town_86 n (0 : Int32) μ17  Q) ∧ (r17 = 0 → Q (-4 : Int32) μ17)))) Q)) Q
theorem tX9_town_30 (l : Launch) {K0 : qa_M → Prop} {Q : Int32 → qa_M → Prop} (hK0 : ∀  (μ : qa_M), qa_PP μ.2.2 → K0  μ → qa_G l yX9_town cX9_town 2 (some .int) 11 0 0 (qa_pI Q) 0 0 49 [some (.ref 91), none] [] 113 μ) : ∀ (n : Nat) (v1 : Int32) (μ0 : qa_M), qa_PP μ0.2.2 → wX9_town_30 n v1 μ0 K0 Q → qa_G l yX9_town cX9_town 2 (some .int) 11 0 0 (qa_pI Q) 0 0 30 [some (.ref 91), some (.int v1)] [] 113 μ0 := by
  intro n
  induction n with
  | zero =>
    intro v1 μ0 hp0  h
    rw [wX9_town_30] at h
    exact h.elim
  | succ n ih =>
    intro v1 μ0 hp0  h
    rw [wX9_town_30] at h
    refine qa_ild1 dX9_town_30 ?_
    refine qa_bipush (v := 114) dX9_town_31 (by decide) ?_
    refine qa_icmp_ge (tgt := 49) dX9_town_33 (by decide) (fun c6 => ?_) (fun c6 => ?_)
    · have h := h.1 c6
      refine qa_fgt (L' := [some (.ref 91), none]) (⟨rfl, trivial⟩) ?_
      exact hK0  μ0 hp0  h
    · have h := h.2 c6
      refine qa_ald0 dX9_town_36 ?_
      refine qa_getR dX9_town_37 lf_X9_31 rfl sh_91 (by decide) (pp_91_14 hp0) (by decide) ?_
      refine qa_ild1 dX9_town_40 ?_
      refine qa_iconst (v := 0) dX9_town_41 (by decide) ?_
      refine qa_iast dX9_town_42 sh_97 (by decide) h.1 ?_
      have h := h.2
      refine qa_nmM (fun μ7 em7 => ?_)
      have h := h μ7 em7
      have hp7 : qa_PP μ7.2.2 := by rw [em7]; exact hp0
      refine qa_inc1 dX9_town_43 (qa_io1 _) ?_
      refine qa_goto (tgt := 30) dX9_town_46 (by decide) ?_
      refine qa_fgt (L' := [some (.ref 91), some (.int (v1 + (1 : Int32)))]) (⟨rfl, ⟨rfl, trivial⟩⟩) ?_
      exact ih (v1 + (1 : Int32)) μ7 hp7  h
theorem tX9_town_53 (l : Launch) {K0 : qa_M → Prop} {Q : Int32 → qa_M → Prop} (hK0 : ∀  (μ : qa_M), qa_PP μ.2.2 → K0  μ → qa_G l yX9_town cX9_town 2 (some .int) 11 0 0 (qa_pI Q) 0 0 74 [some (.ref 91), none] [] 113 μ) : ∀ (n : Nat)  (μ0 : qa_M), qa_PP μ0.2.2 → wX9_town_53 n  μ0 K0 Q → qa_G l yX9_town cX9_town 2 (some .int) 11 0 0 (qa_pI Q) 0 0 53 [some (.ref 91), none] [] 113 μ0 := by
  intro n
  induction n with
  | zero =>
    intro  μ0 hp0  h
    rw [wX9_town_53] at h
    exact h.elim
  | succ n ih =>
    intro  μ0 hp0  h
    rw [wX9_town_53] at h
    refine qa_ald0 dX9_town_53 ?_
    refine qa_V0I dX9_town_54 lm_X9_147 sh_91 rfl (by decide) (by decide) (Nat.le_of_ble_eq_true rfl) (tX9_good l hp0  h) (fun r11 μ11 hp11 h => ?_)
    refine qa_if_eq (tgt := 74) dX9_town_57 (by decide) (fun c12 => ?_) (fun c12 => ?_)
    · have h := h.1 c12
      refine qa_fgt (L' := [some (.ref 91), none]) (⟨rfl, trivial⟩) ?_
      exact hK0  μ11 hp11  h
    · have h := h.2 c12
      refine qa_ald0 dX9_town_60 ?_
      refine qa_getI dX9_town_61 lf_X9_123 (Or.inl rfl) sh_91 (by decide) ?_
      refine qa_if_eq (tgt := 74) dX9_town_64 (by decide) (fun c13 => ?_) (fun c13 => ?_)
      · have h := h.1 c13
        refine qa_fgt (L' := [some (.ref 91), none]) (⟨rfl, trivial⟩) ?_
        exact hK0  μ11 hp11  h
      · have h := h.2 c13
        refine qa_ald0 dX9_town_67 ?_
        refine qa_V0V dX9_town_68 lm_X9_221 sh_91 rfl (by decide) (by decide) (Nat.le_of_ble_eq_true rfl) (tX9_readLine l hp11  h) (fun μ14 hp14 h => ?_)
        refine qa_goto (tgt := 53) dX9_town_71 (by decide) ?_
        refine qa_fgt (L' := [some (.ref 91), none]) (⟨rfl, trivial⟩) ?_
        exact ih  μ14 hp14  h
theorem tX9_town_86 (l : Launch)  {Q : Int32 → qa_M → Prop}  : ∀ (n : Nat) (v1 : Int32) (μ0 : qa_M), qa_PP μ0.2.2 → wX9_town_86 n v1 μ0  Q → qa_G l yX9_town cX9_town 2 (some .int) 11 0 0 (qa_pI Q) 0 0 86 [some (.ref 91), some (.int v1)] [] 113 μ0 := by
  intro n
  induction n with
  | zero =>
    intro v1 μ0 hp0  h
    rw [wX9_town_86] at h
    exact h.elim
  | succ n ih =>
    intro v1 μ0 hp0  h
    rw [wX9_town_86] at h
    refine qa_ild1 dX9_town_86 ?_
    refine qa_bipush (v := 114) dX9_town_87 (by decide) ?_
    refine qa_icmp_ge (tgt := 110) dX9_town_89 (by decide) (fun c19 => ?_) (fun c19 => ?_)
    · have h := h.1 c19
      refine qa_ald0 dX9_town_110 ?_
      refine qa_getR dX9_town_111 lf_X9_9 rfl sh_91 (by decide) (pp_91_1 hp0) (by decide) ?_
      refine qa_bipush (v := 9) dX9_town_114 (by decide) ?_
      refine qa_iald dX9_town_116 sh_92 (by decide) (by unfold vp_in; decide) ?_
      exact qa_iret rfl dX9_town_117 ⟨rfl, rfl⟩ ⟨rfl, hp0, _, rfl, h⟩
    · have h := h.2 c19
      refine qa_ald0 dX9_town_92 ?_
      refine qa_getR dX9_town_93 lf_X9_9 rfl sh_91 (by decide) (pp_91_1 hp0) (by decide) ?_
      refine qa_ild1 dX9_town_96 ?_
      refine qa_ald0 dX9_town_97 ?_
      refine qa_getR dX9_town_98 lf_X9_31 rfl sh_91 (by decide) (pp_91_14 hp0) (by decide) ?_
      refine qa_ild1 dX9_town_101 ?_
      refine qa_iald dX9_town_102 sh_97 (by decide) h.1 ?_
      have h := h.2
      refine qa_iast dX9_town_103 sh_92 (by decide) h.1 ?_
      have h := h.2
      refine qa_nmM (fun μ20 em20 => ?_)
      have h := h μ20 em20
      have hp20 : qa_PP μ20.2.2 := by rw [em20]; exact hp0
      refine qa_inc1 dX9_town_104 (qa_io1 _) ?_
      refine qa_goto (tgt := 86) dX9_town_107 (by decide) ?_
      refine qa_fgt (L' := [some (.ref 91), some (.int (v1 + (1 : Int32)))]) (⟨rfl, ⟨rfl, trivial⟩⟩) ?_
      exact ih (v1 + (1 : Int32)) μ20 hp20  h
theorem tX9_town (l : Launch) {n : Nat}  {μ0 : qa_M} {Q : Int32 → qa_M → Prop} (hp0 : qa_PP μ0.2.2)  (h : wX9_town n  μ0 Q) : qa_Met l yX9_town cX9_town 2 (some .int) 11 0 0 [.ref 91] 113 μ0 (qa_pI Q) := by
  refine qa_ofG (by decide) (Nat.le_of_ble_eq_true rfl) ?_
  unfold wX9_town at h
  change qa_G l yX9_town cX9_town 2 (some .int) 11 0 0 (qa_pI Q) 0 0 0 [some (.ref 91), none] [] 113 μ0
  refine qa_ald0 dX9_town_0 ?_
  refine qa_ald0 dX9_town_1 ?_
  refine qa_getI dX9_town_2 lf_X9_107 (Or.inl rfl) sh_91 (by decide) ?_
  refine qa_putI dX9_town_5 lf_X9_110 rfl sh_91 (by decide) rfl ?_
  refine qa_nmM (fun μ1 em1 => ?_)
  have h := h μ1 em1
  have hp1 : qa_PP μ1.2.2 := by rw [em1]; exact hp0
  refine qa_ald0 dX9_town_8 ?_
  refine qa_iconst (v := 0) dX9_town_9 (by decide) ?_
  refine qa_putI dX9_town_10 lf_X9_107 rfl sh_91 (by decide) rfl ?_
  refine qa_nmM (fun μ2 em2 => ?_)
  have h := h μ2 em2
  have hp2 : qa_PP μ2.2.2 := by rw [em2]; exact hp1
  refine qa_ald0 dX9_town_13 ?_
  refine qa_iconst (v := 0) dX9_town_14 (by decide) ?_
  refine qa_putI dX9_town_15 lf_X9_113 rfl sh_91 (by decide) rfl ?_
  refine qa_nmM (fun μ3 em3 => ?_)
  have h := h μ3 em3
  have hp3 : qa_PP μ3.2.2 := by rw [em3]; exact hp2
  refine qa_ald0 dX9_town_18 ?_
  refine qa_iconst (v := 0) dX9_town_19 (by decide) ?_
  refine qa_putI dX9_town_20 lf_X9_144 rfl sh_91 (by decide) rfl ?_
  refine qa_nmM (fun μ4 em4 => ?_)
  have h := h μ4 em4
  have hp4 : qa_PP μ4.2.2 := by rw [em4]; exact hp3
  refine qa_ald0 dX9_town_23 ?_
  refine qa_iconst (v := -1) dX9_town_24 (by decide) ?_
  refine qa_putI dX9_town_25 lf_X9_27 rfl sh_91 (by decide) rfl ?_
  refine qa_nmM (fun μ5 em5 => ?_)
  have h := h μ5 em5
  have hp5 : qa_PP μ5.2.2 := by rw [em5]; exact hp4
  refine qa_iconst (v := 0) dX9_town_28 (by decide) ?_
  refine qa_ist1 dX9_town_29 ?_
  refine qa_fgt (L' := [some (.ref 91), some (.int (0 : Int32))]) (⟨rfl, ⟨rfl, trivial⟩⟩) ?_
  refine tX9_town_30 l ?_ n (0 : Int32) μ5 hp5  h
  · intro  μ8 hp8  h
    refine qa_ald0 dX9_town_49 ?_
    refine qa_V0V dX9_town_50 lm_X9_163 sh_91 rfl (by decide) (by decide) (Nat.le_of_ble_eq_true rfl) (tX9_advance l hp8  h) (fun μ10 hp10 h => ?_)
    refine qa_fgt (L' := [some (.ref 91), none]) (⟨rfl, trivial⟩) ?_
    refine tX9_town_53 l ?_ n  μ10 hp10  h
    · intro  μ15 hp15  h
      refine qa_ald0 dX9_town_74 ?_
      refine qa_V0I dX9_town_75 lm_X9_147 sh_91 rfl (by decide) (by decide) (Nat.le_of_ble_eq_true rfl) (tX9_good l hp15  h) (fun r17 μ17 hp17 h => ?_)
      refine qa_if_ne (tgt := 84) dX9_town_78 (by decide) (fun c18 => ?_) (fun c18 => ?_)
      · have h := h.1 c18
        refine qa_iconst (v := 0) dX9_town_84 (by decide) ?_
        refine qa_ist1 dX9_town_85 ?_
        refine qa_fgt (L' := [some (.ref 91), some (.int (0 : Int32))]) (⟨rfl, ⟨rfl, trivial⟩⟩) ?_
        refine tX9_town_86 l  n (0 : Int32) μ17 hp17  h
      · have h := h.2 c18
        refine qa_bipush (v := -4) dX9_town_81 (by decide) ?_
        exact qa_iret rfl dX9_town_83 ⟨rfl, rfl⟩ ⟨rfl, hp17, _, rfl, h⟩
def wX9_trade (n : Nat)  (μ0 : qa_M) (Q : Int32 → qa_M → Prop) : Prop := wX9_asksTrades n  μ0 (fun r1 μ1 => ((r1 = 0 → Q (-2 : Int32) μ1) ∧ (¬ r1 = 0 → Q (μ1.1 91 32) μ1)))
theorem tX9_trade (l : Launch) {n : Nat}  {μ0 : qa_M} {Q : Int32 → qa_M → Prop} (hp0 : qa_PP μ0.2.2)  (h : wX9_trade n  μ0 Q) : qa_Met l yX9_trade cX9_trade 1 (some .int) 5 0 0 [.ref 91] 113 μ0 (qa_pI Q) := by
  refine qa_ofG (by decide) (Nat.le_of_ble_eq_true rfl) ?_
  unfold wX9_trade at h
  change qa_G l yX9_trade cX9_trade 1 (some .int) 5 0 0 (qa_pI Q) 0 0 0 [some (.ref 91)] [] 113 μ0
  refine qa_ald0 dX9_trade_0 ?_
  refine qa_V0I dX9_trade_1 lm_X9_364 sh_91 rfl (by decide) (by decide) (Nat.le_of_ble_eq_true rfl) (tX9_asksTrades l hp0  h) (fun r1 μ1 hp1 h => ?_)
  refine qa_if_eq (tgt := 14) dX9_trade_4 (by decide) (fun c2 => ?_) (fun c2 => ?_)
  · have h := h.1 c2
    refine qa_bipush (v := -2) dX9_trade_14 (by decide) ?_
    exact qa_iret rfl dX9_trade_16 ⟨rfl, rfl⟩ ⟨rfl, hp1, _, rfl, h⟩
  · have h := h.2 c2
    refine qa_ald0 dX9_trade_7 ?_
    refine qa_getI dX9_trade_8 lf_X9_361 (Or.inl rfl) sh_91 (by decide) ?_
    refine qa_goto (tgt := 16) dX9_trade_11 (by decide) ?_
    exact qa_iret rfl dX9_trade_16 ⟨rfl, rfl⟩ ⟨rfl, hp1, _, rfl, h⟩
def wX9_trades (n : Nat)  (μ0 : qa_M) (Q : Int32 → qa_M → Prop) : Prop := wX9_asksTrades n  μ0 (fun r1 μ1 => ((r1 = 0 → Q (-2 : Int32) μ1) ∧ (¬ r1 = 0 → Q (μ1.1 91 31) μ1)))
theorem tX9_trades (l : Launch) {n : Nat}  {μ0 : qa_M} {Q : Int32 → qa_M → Prop} (hp0 : qa_PP μ0.2.2)  (h : wX9_trades n  μ0 Q) : qa_Met l yX9_trades cX9_trades 1 (some .int) 5 0 0 [.ref 91] 113 μ0 (qa_pI Q) := by
  refine qa_ofG (by decide) (Nat.le_of_ble_eq_true rfl) ?_
  unfold wX9_trades at h
  change qa_G l yX9_trades cX9_trades 1 (some .int) 5 0 0 (qa_pI Q) 0 0 0 [some (.ref 91)] [] 113 μ0
  refine qa_ald0 dX9_trades_0 ?_
  refine qa_V0I dX9_trades_1 lm_X9_364 sh_91 rfl (by decide) (by decide) (Nat.le_of_ble_eq_true rfl) (tX9_asksTrades l hp0  h) (fun r1 μ1 hp1 h => ?_)
  refine qa_if_eq (tgt := 14) dX9_trades_4 (by decide) (fun c2 => ?_) (fun c2 => ?_)
  · have h := h.1 c2
    refine qa_bipush (v := -2) dX9_trades_14 (by decide) ?_
    exact qa_iret rfl dX9_trades_16 ⟨rfl, rfl⟩ ⟨rfl, hp1, _, rfl, h⟩
  · have h := h.2 c2
    refine qa_ald0 dX9_trades_7 ?_
    refine qa_getI dX9_trades_8 lf_X9_358 (Or.inl rfl) sh_91 (by decide) ?_
    refine qa_goto (tgt := 16) dX9_trades_11 (by decide) ?_
    exact qa_iret rfl dX9_trades_16 ⟨rfl, rfl⟩ ⟨rfl, hp1, _, rfl, h⟩
def wX9_turn (n : Nat) (v1 : Int32) (μ0 : qa_M) (Q : Int32 → qa_M → Prop) : Prop := wX9_asksAhead n v1 μ0 (fun r1 μ1 => ((r1 = 0 → Q (-10000 : Int32) μ1) ∧ (¬ r1 = 0 → vp_in v1 20 ∧ Q (μ1.1 104 v1.toNatClampNeg) μ1)))
theorem tX9_turn (l : Launch) {n : Nat} {v1 : Int32} {μ0 : qa_M} {Q : Int32 → qa_M → Prop} (hp0 : qa_PP μ0.2.2)  (h : wX9_turn n v1 μ0 Q) : qa_Met l yX9_turn cX9_turn 2 (some .int) 5 0 0 [.ref 91, .int v1] 113 μ0 (qa_pI Q) := by
  refine qa_ofG (by decide) (Nat.le_of_ble_eq_true rfl) ?_
  unfold wX9_turn at h
  change qa_G l yX9_turn cX9_turn 2 (some .int) 5 0 0 (qa_pI Q) 0 0 0 [some (.ref 91), some (.int v1)] [] 113 μ0
  refine qa_ald0 dX9_turn_0 ?_
  refine qa_ild1 dX9_turn_1 ?_
  refine qa_V1I dX9_turn_2 lm_X9_298 sh_91 rfl (by decide) (by decide) (Nat.le_of_ble_eq_true rfl) (tX9_asksAhead l hp0  h) (fun r1 μ1 hp1 h => ?_)
  refine qa_if_eq (tgt := 17) dX9_turn_5 (by decide) (fun c2 => ?_) (fun c2 => ?_)
  · have h := h.1 c2
    refine qa_sipush (v := -10000) dX9_turn_17 (by decide) ?_
    exact qa_iret rfl dX9_turn_20 ⟨rfl, rfl⟩ ⟨rfl, hp1, _, rfl, h⟩
  · have h := h.2 c2
    refine qa_ald0 dX9_turn_8 ?_
    refine qa_getR dX9_turn_9 lf_X9_52 rfl sh_91 (by decide) (pp_91_28 hp1) (by decide) ?_
    refine qa_ild1 dX9_turn_12 ?_
    refine qa_iald dX9_turn_13 sh_104 (by decide) h.1 ?_
    have h := h.2
    refine qa_goto (tgt := 20) dX9_turn_14 (by decide) ?_
    exact qa_iret rfl dX9_turn_20 ⟨rfl, rfl⟩ ⟨rfl, hp1, _, rfl, h⟩
def wX9_undo (n : Nat)  (μ0 : qa_M) (Q : Int32 → qa_M → Prop) : Prop := wX9_isTown n  μ0 (fun r1 μ1 => ((¬ r1 = 0 → ((¬ (μ1.1 92 (8 : Int32).toNatClampNeg) = 0 → ∀ μ4, μ4 = qa_uI μ1 92 (8 : Int32).toNatClampNeg ((μ1.1 92 (8 : Int32).toNatClampNeg) - (1 : Int32)) → Q (μ4.1 92 (8 : Int32).toNatClampNeg) μ4) ∧ ((μ1.1 92 (8 : Int32).toNatClampNeg) = 0 → Q (-5 : Int32) μ1))) ∧ (r1 = 0 → Q (-2 : Int32) μ1)))
theorem tX9_undo (l : Launch) {n : Nat}  {μ0 : qa_M} {Q : Int32 → qa_M → Prop} (hp0 : qa_PP μ0.2.2)  (h : wX9_undo n  μ0 Q) : qa_Met l yX9_undo cX9_undo 1 (some .int) 1 0 0 [.ref 91] 113 μ0 (qa_pI Q) := by
  refine qa_ofG (by decide) (Nat.le_of_ble_eq_true rfl) ?_
  unfold wX9_undo at h
  change qa_G l yX9_undo cX9_undo 1 (some .int) 1 0 0 (qa_pI Q) 0 0 0 [some (.ref 91)] [] 113 μ0
  refine qa_ald0 dX9_undo_0 ?_
  refine qa_V0I dX9_undo_1 lm_X9_92 sh_91 rfl (by decide) (by decide) (Nat.le_of_ble_eq_true rfl) (tX9_isTown l hp0  h) (fun r1 μ1 hp1 h => ?_)
  refine qa_if_ne (tgt := 10) dX9_undo_4 (by decide) (fun c2 => ?_) (fun c2 => ?_)
  · have h := h.1 c2
    refine qa_ald0 dX9_undo_10 ?_
    refine qa_getR dX9_undo_11 lf_X9_9 rfl sh_91 (by decide) (pp_91_1 hp1) (by decide) ?_
    refine qa_bipush (v := 8) dX9_undo_14 (by decide) ?_
    refine qa_iald dX9_undo_16 sh_92 (by decide) (by unfold vp_in; decide) ?_
    refine qa_if_ne (tgt := 23) dX9_undo_17 (by decide) (fun c3 => ?_) (fun c3 => ?_)
    · have h := h.1 c3
      refine qa_ald0 dX9_undo_23 ?_
      refine qa_getR dX9_undo_24 lf_X9_9 rfl sh_91 (by decide) (pp_91_1 hp1) (by decide) ?_
      refine qa_bipush (v := 8) dX9_undo_27 (by decide) ?_
      refine qa_dup2 dX9_undo_29 rfl rfl ?_
      refine qa_iald dX9_undo_30 sh_92 (by decide) (by unfold vp_in; decide) ?_
      refine qa_iconst (v := 1) dX9_undo_31 (by decide) ?_
      refine qa_isub dX9_undo_32 ?_
      refine qa_iast dX9_undo_33 sh_92 (by decide) (by unfold vp_in; decide) ?_
      refine qa_nmM (fun μ4 em4 => ?_)
      have h := h μ4 em4
      have hp4 : qa_PP μ4.2.2 := by rw [em4]; exact hp1
      refine qa_ald0 dX9_undo_34 ?_
      refine qa_getR dX9_undo_35 lf_X9_9 rfl sh_91 (by decide) (pp_91_1 hp4) (by decide) ?_
      refine qa_bipush (v := 8) dX9_undo_38 (by decide) ?_
      refine qa_iald dX9_undo_40 sh_92 (by decide) (by unfold vp_in; decide) ?_
      exact qa_iret rfl dX9_undo_41 ⟨rfl, rfl⟩ ⟨rfl, hp4, _, rfl, h⟩
    · have h := h.2 c3
      refine qa_bipush (v := -5) dX9_undo_20 (by decide) ?_
      exact qa_iret rfl dX9_undo_22 ⟨rfl, rfl⟩ ⟨rfl, hp1, _, rfl, h⟩
  · have h := h.2 c2
    refine qa_bipush (v := -2) dX9_undo_7 (by decide) ?_
    exact qa_iret rfl dX9_undo_9 ⟨rfl, rfl⟩ ⟨rfl, hp1, _, rfl, h⟩
def wX9_view (n : Nat) (v1 : Int32) (v2 : Int32) (μ0 : qa_M) (Q : Int32 → qa_M → Prop) : Prop := wX9_asksWeek n v2 μ0 (fun r1 μ1 => ((r1 = 0 → Q (-2 : Int32) μ1) ∧ (¬ r1 = 0 → wX9_isHouse n v1 μ1 (fun r3 μ3 => ((r3 = 0 → Q (-2 : Int32) μ3) ∧ (¬ r3 = 0 → wX9_placeOf n v1 v2 μ3 (fun r5 μ5 => wX9_houses n  μ5 (fun r6 μ6 => wX9_houses n  μ6 (fun r7 μ7 => wX9_over n (r5 + (r6 / (2 : Int32))) r7 μ7 (fun r8 μ8 => wX9_whoAt n r8 v2 μ8 (fun r9 μ9 => Q r9 μ9)))))))))))
theorem tX9_view (l : Launch) {n : Nat} {v1 : Int32} {v2 : Int32} {μ0 : qa_M} {Q : Int32 → qa_M → Prop} (hp0 : qa_PP μ0.2.2)  (h : wX9_view n v1 v2 μ0 Q) : qa_Met l yX9_view cX9_view 3 (some .int) 5 0 0 [.ref 91, .int v1, .int v2] 113 μ0 (qa_pI Q) := by
  refine qa_ofG (by decide) (Nat.le_of_ble_eq_true rfl) ?_
  unfold wX9_view at h
  change qa_G l yX9_view cX9_view 3 (some .int) 5 0 0 (qa_pI Q) 0 0 0 [some (.ref 91), some (.int v1), some (.int v2)] [] 113 μ0
  refine qa_ald0 dX9_view_0 ?_
  refine qa_ild2 dX9_view_1 ?_
  refine qa_V1I dX9_view_2 lm_X9_292 sh_91 rfl (by decide) (by decide) (Nat.le_of_ble_eq_true rfl) (tX9_asksWeek l hp0  h) (fun r1 μ1 hp1 h => ?_)
  refine qa_if_eq (tgt := 44) dX9_view_5 (by decide) (fun c2 => ?_) (fun c2 => ?_)
  · have h := h.1 c2
    refine qa_bipush (v := -2) dX9_view_44 (by decide) ?_
    exact qa_iret rfl dX9_view_46 ⟨rfl, rfl⟩ ⟨rfl, hp1, _, rfl, h⟩
  · have h := h.2 c2
    refine qa_ald0 dX9_view_8 ?_
    refine qa_ild1 dX9_view_9 ?_
    refine qa_V1I dX9_view_10 lm_X9_103 sh_91 rfl (by decide) (by decide) (Nat.le_of_ble_eq_true rfl) (tX9_isHouse l hp1  h) (fun r3 μ3 hp3 h => ?_)
    refine qa_if_eq (tgt := 44) dX9_view_13 (by decide) (fun c4 => ?_) (fun c4 => ?_)
    · have h := h.1 c4
      refine qa_bipush (v := -2) dX9_view_44 (by decide) ?_
      exact qa_iret rfl dX9_view_46 ⟨rfl, rfl⟩ ⟨rfl, hp3, _, rfl, h⟩
    · have h := h.2 c4
      refine qa_ald0 dX9_view_16 ?_
      refine qa_ald0 dX9_view_17 ?_
      refine qa_ild1 dX9_view_18 ?_
      refine qa_ild2 dX9_view_19 ?_
      refine qa_V2I dX9_view_20 lm_X9_261 sh_91 rfl (by decide) (by decide) (Nat.le_of_ble_eq_true rfl) (tX9_placeOf l hp3  h) (fun r5 μ5 hp5 h => ?_)
      refine qa_ald0 dX9_view_23 ?_
      refine qa_V0I dX9_view_24 lm_X9_100 sh_91 rfl (by decide) (by decide) (Nat.le_of_ble_eq_true rfl) (tX9_houses l hp5  h) (fun r6 μ6 hp6 h => ?_)
      refine qa_iconst (v := 2) dX9_view_27 (by decide) ?_
      refine qa_idiv dX9_view_28 (by decide) ?_
      refine qa_iadd dX9_view_29 ?_
      refine qa_ald0 dX9_view_30 ?_
      refine qa_V0I dX9_view_31 lm_X9_100 sh_91 rfl (by decide) (by decide) (Nat.le_of_ble_eq_true rfl) (tX9_houses l hp6  h) (fun r7 μ7 hp7 h => ?_)
      refine qa_S2I dX9_view_34 lm_X9_258  (by decide) (Nat.le_of_ble_eq_true rfl) (tX9_over l hp7  h) (fun r8 μ8 hp8 h => ?_)
      refine qa_ild2 dX9_view_37 ?_
      refine qa_V2I dX9_view_38 lm_X9_295 sh_91 rfl (by decide) (by decide) (Nat.le_of_ble_eq_true rfl) (tX9_whoAt l hp8  h) (fun r9 μ9 hp9 h => ?_)
      refine qa_goto (tgt := 46) dX9_view_41 (by decide) ?_
      exact qa_iret rfl dX9_view_46 ⟨rfl, rfl⟩ ⟨rfl, hp9, _, rfl, h⟩
def wX9_when_22 : Nat → Int32 → Int32 → Int32 → qa_M → (Int32 → qa_M → Prop) → Prop
  | 0, _, _, _, _, _ => False
  | n + 1, v1, v2, v3, μ0, Q => wX9_weeks n  μ0 (fun r5 μ5 => ((r5 < v3 → Q (-1 : Int32) μ5) ∧ (¬ r5 < v3 → wX9_placeOf n v1 v3 μ5 (fun r7 μ7 => ((¬ r7 = v2 → wX9_when_22 n v1 v2 (v3 + (1 : Int32)) μ7 Q) ∧ (r7 = v2 → Q v3 μ7))))))
def wX9_when (n : Nat) (v1 : Int32) (v2 : Int32) (μ0 : qa_M) (Q : Int32 → qa_M → Prop) : Prop := wX9_asksHouse n v1 μ0 (fun r1 μ1 => ((r1 = 0 → Q (-2 : Int32) μ1) ∧ (¬ r1 = 0 → wX9_isPlace n v2.toInt64 μ1 (fun r3 μ3 => ((¬ r3 = 0 → wX9_when_22 n v1 v2 (0 : Int32) μ3  Q) ∧ (r3 = 0 → Q (-2 : Int32) μ3))))))
theorem tX9_when_22 (l : Launch)  {Q : Int32 → qa_M → Prop}  : ∀ (n : Nat) (v1 : Int32) (v2 : Int32) (v3 : Int32) (μ0 : qa_M), qa_PP μ0.2.2 → wX9_when_22 n v1 v2 v3 μ0  Q → qa_G l yX9_when cX9_when 4 (some .int) 5 0 0 (qa_pI Q) 0 0 22 [some (.ref 91), some (.int v1), some (.int v2), some (.int v3)] [] 113 μ0 := by
  intro n
  induction n with
  | zero =>
    intro v1 v2 v3 μ0 hp0  h
    rw [wX9_when_22] at h
    exact h.elim
  | succ n ih =>
    intro v1 v2 v3 μ0 hp0  h
    rw [wX9_when_22] at h
    refine qa_ild3 dX9_when_22 ?_
    refine qa_ald0 dX9_when_23 ?_
    refine qa_V0I dX9_when_24 lm_X9_96 sh_91 rfl (by decide) (by decide) (Nat.le_of_ble_eq_true rfl) (tX9_weeks l hp0  h) (fun r5 μ5 hp5 h => ?_)
    refine qa_icmp_gt (tgt := 48) dX9_when_27 (by decide) (fun c6 => ?_) (fun c6 => ?_)
    · have h := h.1 c6
      refine qa_iconst (v := -1) dX9_when_48 (by decide) ?_
      exact qa_iret rfl dX9_when_49 ⟨rfl, rfl⟩ ⟨rfl, hp5, _, rfl, h⟩
    · have h := h.2 c6
      refine qa_ald0 dX9_when_30 ?_
      refine qa_ild1 dX9_when_31 ?_
      refine qa_ild3 dX9_when_32 ?_
      refine qa_V2I dX9_when_33 lm_X9_261 sh_91 rfl (by decide) (by decide) (Nat.le_of_ble_eq_true rfl) (tX9_placeOf l hp5  h) (fun r7 μ7 hp7 h => ?_)
      refine qa_ild2 dX9_when_36 ?_
      refine qa_icmp_ne (tgt := 42) dX9_when_37 (by decide) (fun c8 => ?_) (fun c8 => ?_)
      · have h := h.1 c8
        refine qa_inc3 dX9_when_42 (qa_io1 _) ?_
        refine qa_goto (tgt := 22) dX9_when_45 (by decide) ?_
        refine qa_fgt (L' := [some (.ref 91), some (.int v1), some (.int v2), some (.int (v3 + (1 : Int32)))]) (⟨rfl, ⟨rfl, ⟨rfl, ⟨rfl, trivial⟩⟩⟩⟩) ?_
        exact ih v1 v2 (v3 + (1 : Int32)) μ7 hp7  h
      · have h := h.2 c8
        refine qa_ild3 dX9_when_40 ?_
        exact qa_iret rfl dX9_when_41 ⟨rfl, rfl⟩ ⟨rfl, hp7, _, rfl, h⟩
theorem tX9_when (l : Launch) {n : Nat} {v1 : Int32} {v2 : Int32} {μ0 : qa_M} {Q : Int32 → qa_M → Prop} (hp0 : qa_PP μ0.2.2)  (h : wX9_when n v1 v2 μ0 Q) : qa_Met l yX9_when cX9_when 4 (some .int) 5 0 0 [.ref 91, .int v1, .int v2] 113 μ0 (qa_pI Q) := by
  refine qa_ofG (by decide) (Nat.le_of_ble_eq_true rfl) ?_
  unfold wX9_when at h
  change qa_G l yX9_when cX9_when 4 (some .int) 5 0 0 (qa_pI Q) 0 0 0 [some (.ref 91), some (.int v1), some (.int v2), none] [] 113 μ0
  refine qa_ald0 dX9_when_0 ?_
  refine qa_ild1 dX9_when_1 ?_
  refine qa_V1I dX9_when_2 lm_X9_307 sh_91 rfl (by decide) (by decide) (Nat.le_of_ble_eq_true rfl) (tX9_asksHouse l hp0  h) (fun r1 μ1 hp1 h => ?_)
  refine qa_if_eq (tgt := 17) dX9_when_5 (by decide) (fun c2 => ?_) (fun c2 => ?_)
  · have h := h.1 c2
    refine qa_bipush (v := -2) dX9_when_17 (by decide) ?_
    exact qa_iret rfl dX9_when_19 ⟨rfl, rfl⟩ ⟨rfl, hp1, _, rfl, h⟩
  · have h := h.2 c2
    refine qa_ald0 dX9_when_8 ?_
    refine qa_ild2 dX9_when_9 ?_
    refine qa_i2l dX9_when_10 ?_
    refine qa_V1I dX9_when_11 lm_X9_254 sh_91 rfl (by decide) (by decide) (Nat.le_of_ble_eq_true rfl) (tX9_isPlace l hp1  h) (fun r3 μ3 hp3 h => ?_)
    refine qa_if_ne (tgt := 20) dX9_when_14 (by decide) (fun c4 => ?_) (fun c4 => ?_)
    · have h := h.1 c4
      refine qa_iconst (v := 0) dX9_when_20 (by decide) ?_
      refine qa_ist3 dX9_when_21 ?_
      refine qa_fgt (L' := [some (.ref 91), some (.int v1), some (.int v2), some (.int (0 : Int32))]) (⟨rfl, ⟨rfl, ⟨rfl, ⟨rfl, trivial⟩⟩⟩⟩) ?_
      refine tX9_when_22 l  n v1 v2 (0 : Int32) μ3 hp3  h
    · have h := h.2 c4
      refine qa_bipush (v := -2) dX9_when_17 (by decide) ?_
      exact qa_iret rfl dX9_when_19 ⟨rfl, rfl⟩ ⟨rfl, hp3, _, rfl, h⟩
def wX9_who (n : Nat) (v1 : Int32) (v2 : Int32) (μ0 : qa_M) (Q : Int32 → qa_M → Prop) : Prop := wX9_asksWeek n v2 μ0 (fun r1 μ1 => ((r1 = 0 → Q (-2 : Int32) μ1) ∧ (¬ r1 = 0 → wX9_isPlace n v1.toInt64 μ1 (fun r3 μ3 => ((r3 = 0 → Q (-2 : Int32) μ3) ∧ (¬ r3 = 0 → wX9_whoAt n v1 v2 μ3 (fun r5 μ5 => Q r5 μ5)))))))
theorem tX9_who (l : Launch) {n : Nat} {v1 : Int32} {v2 : Int32} {μ0 : qa_M} {Q : Int32 → qa_M → Prop} (hp0 : qa_PP μ0.2.2)  (h : wX9_who n v1 v2 μ0 Q) : qa_Met l yX9_who cX9_who 3 (some .int) 5 0 0 [.ref 91, .int v1, .int v2] 113 μ0 (qa_pI Q) := by
  refine qa_ofG (by decide) (Nat.le_of_ble_eq_true rfl) ?_
  unfold wX9_who at h
  change qa_G l yX9_who cX9_who 3 (some .int) 5 0 0 (qa_pI Q) 0 0 0 [some (.ref 91), some (.int v1), some (.int v2)] [] 113 μ0
  refine qa_ald0 dX9_who_0 ?_
  refine qa_ild2 dX9_who_1 ?_
  refine qa_V1I dX9_who_2 lm_X9_292 sh_91 rfl (by decide) (by decide) (Nat.le_of_ble_eq_true rfl) (tX9_asksWeek l hp0  h) (fun r1 μ1 hp1 h => ?_)
  refine qa_if_eq (tgt := 26) dX9_who_5 (by decide) (fun c2 => ?_) (fun c2 => ?_)
  · have h := h.1 c2
    refine qa_bipush (v := -2) dX9_who_26 (by decide) ?_
    exact qa_iret rfl dX9_who_28 ⟨rfl, rfl⟩ ⟨rfl, hp1, _, rfl, h⟩
  · have h := h.2 c2
    refine qa_ald0 dX9_who_8 ?_
    refine qa_ild1 dX9_who_9 ?_
    refine qa_i2l dX9_who_10 ?_
    refine qa_V1I dX9_who_11 lm_X9_254 sh_91 rfl (by decide) (by decide) (Nat.le_of_ble_eq_true rfl) (tX9_isPlace l hp1  h) (fun r3 μ3 hp3 h => ?_)
    refine qa_if_eq (tgt := 26) dX9_who_14 (by decide) (fun c4 => ?_) (fun c4 => ?_)
    · have h := h.1 c4
      refine qa_bipush (v := -2) dX9_who_26 (by decide) ?_
      exact qa_iret rfl dX9_who_28 ⟨rfl, rfl⟩ ⟨rfl, hp3, _, rfl, h⟩
    · have h := h.2 c4
      refine qa_ald0 dX9_who_17 ?_
      refine qa_ild1 dX9_who_18 ?_
      refine qa_ild2 dX9_who_19 ?_
      refine qa_V2I dX9_who_20 lm_X9_295 sh_91 rfl (by decide) (by decide) (Nat.le_of_ble_eq_true rfl) (tX9_whoAt l hp3  h) (fun r5 μ5 hp5 h => ?_)
      refine qa_goto (tgt := 28) dX9_who_23 (by decide) ?_
      exact qa_iret rfl dX9_who_28 ⟨rfl, rfl⟩ ⟨rfl, hp5, _, rfl, h⟩
def wX9_worth (n : Nat) (v1 : Int32) (μ0 : qa_M) (Q : Int32 → qa_M → Prop) : Prop := wX9_asItIs n  μ0 (fun μ1 => wX9_isTown n  μ1 (fun r2 μ2 => ((r2 = 0 → Q (-2 : Int32) μ2) ∧ (¬ r2 = 0 → wX9_houses n  μ2 (fun r4 μ4 => wX9_in n v1.toInt64 (0 : Int64) (((1 : Int32) <<< (r4 &&& 31)) - (1 : Int32)).toInt64 μ4 (fun r5 μ5 => ((r5 = 0 → Q (-2 : Int32) μ5) ∧ (¬ r5 = 0 → wX9_worthOf n v1 μ5 (fun r7 μ7 => Q r7 μ7)))))))))
theorem tX9_worth (l : Launch) {n : Nat} {v1 : Int32} {μ0 : qa_M} {Q : Int32 → qa_M → Prop} (hp0 : qa_PP μ0.2.2)  (h : wX9_worth n v1 μ0 Q) : qa_Met l yX9_worth cX9_worth 2 (some .int) 4 0 0 [.ref 91, .int v1] 113 μ0 (qa_pI Q) := by
  refine qa_ofG (by decide) (Nat.le_of_ble_eq_true rfl) ?_
  unfold wX9_worth at h
  change qa_G l yX9_worth cX9_worth 2 (some .int) 4 0 0 (qa_pI Q) 0 0 0 [some (.ref 91), some (.int v1)] [] 113 μ0
  refine qa_ald0 dX9_worth_0 ?_
  refine qa_V0V dX9_worth_1 lm_X9_251 sh_91 rfl (by decide) (by decide) (Nat.le_of_ble_eq_true rfl) (tX9_asItIs l hp0  h) (fun μ1 hp1 h => ?_)
  refine qa_ald0 dX9_worth_4 ?_
  refine qa_V0I dX9_worth_5 lm_X9_92 sh_91 rfl (by decide) (by decide) (Nat.le_of_ble_eq_true rfl) (tX9_isTown l hp1  h) (fun r2 μ2 hp2 h => ?_)
  refine qa_if_eq (tgt := 37) dX9_worth_8 (by decide) (fun c3 => ?_) (fun c3 => ?_)
  · have h := h.1 c3
    refine qa_bipush (v := -2) dX9_worth_37 (by decide) ?_
    exact qa_iret rfl dX9_worth_39 ⟨rfl, rfl⟩ ⟨rfl, hp2, _, rfl, h⟩
  · have h := h.2 c3
    refine qa_ild1 dX9_worth_11 ?_
    refine qa_i2l dX9_worth_12 ?_
    refine qa_lconst (v := 0) dX9_worth_13 (by decide) ?_
    refine qa_iconst (v := 1) dX9_worth_14 (by decide) ?_
    refine qa_ald0 dX9_worth_15 ?_
    refine qa_V0I dX9_worth_16 lm_X9_100 sh_91 rfl (by decide) (by decide) (Nat.le_of_ble_eq_true rfl) (tX9_houses l hp2  h) (fun r4 μ4 hp4 h => ?_)
    refine qa_ishl dX9_worth_19 ?_
    refine qa_iconst (v := 1) dX9_worth_20 (by decide) ?_
    refine qa_isub dX9_worth_21 ?_
    refine qa_i2l dX9_worth_22 ?_
    refine qa_S3I dX9_worth_23 lm_X9_88  (by decide) (Nat.le_of_ble_eq_true rfl) (tX9_in l hp4  h) (fun r5 μ5 hp5 h => ?_)
    refine qa_if_eq (tgt := 37) dX9_worth_26 (by decide) (fun c6 => ?_) (fun c6 => ?_)
    · have h := h.1 c6
      refine qa_bipush (v := -2) dX9_worth_37 (by decide) ?_
      exact qa_iret rfl dX9_worth_39 ⟨rfl, rfl⟩ ⟨rfl, hp5, _, rfl, h⟩
    · have h := h.2 c6
      refine qa_ald0 dX9_worth_29 ?_
      refine qa_ild1 dX9_worth_30 ?_
      refine qa_V1I dX9_worth_31 lm_X9_392 sh_91 rfl (by decide) (by decide) (Nat.le_of_ble_eq_true rfl) (tX9_worthOf l hp5  h) (fun r7 μ7 hp7 h => ?_)
      refine qa_goto (tgt := 39) dX9_worth_34 (by decide) ?_
      exact qa_iret rfl dX9_worth_39 ⟨rfl, rfl⟩ ⟨rfl, hp7, _, rfl, h⟩
def wX9_write (n : Nat) (v1 : Int32) (v2 : Int32) (v3 : Int64) (μ0 : qa_M) (Q : Int32 → qa_M → Prop) : Prop := wX9_isSlot n v1 μ0 (fun r1 μ1 => ((¬ r1 = 0 → vp_in v1 4 ∧ ((¬ (μ1.1 110 v1.toNatClampNeg) = (-1 : Int32) → vp_in v1 4 ∧ wX9_in n v2.toInt64 (0 : Int64) ((μ1.1 110 v1.toNatClampNeg) - (1 : Int32)).toInt64 μ1 (fun r4 μ4 => ((¬ r4 = 0 → vp_in v1 4 ∧ wX9_cut n v3 (μ4.1 111 v1.toNatClampNeg) μ4 (fun r6 μ6 => vp_in (((60 : Int32) * v1) + v2) 240 ∧ ∀ μ7, μ7 = qa_uJ μ6 112 (((60 : Int32) * v1) + v2).toNatClampNeg r6 → Q (0 : Int32) μ7)) ∧ (r4 = 0 → Q (-7 : Int32) μ4)))) ∧ ((μ1.1 110 v1.toNatClampNeg) = (-1 : Int32) → Q (-6 : Int32) μ1))) ∧ (r1 = 0 → Q (-2 : Int32) μ1)))
theorem tX9_write (l : Launch) {n : Nat} {v1 : Int32} {v2 : Int32} {v3 : Int64} {μ0 : qa_M} {Q : Int32 → qa_M → Prop} (hp0 : qa_PP μ0.2.2)  (h : wX9_write n v1 v2 v3 μ0 Q) : qa_Met l yX9_write cX9_write 5 (some .int) 2 0 0 [.ref 91, .int v1, .int v2, .long v3] 113 μ0 (qa_pI Q) := by
  refine qa_ofG (by decide) (Nat.le_of_ble_eq_true rfl) ?_
  unfold wX9_write at h
  change qa_G l yX9_write cX9_write 5 (some .int) 2 0 0 (qa_pI Q) 0 0 0 [some (.ref 91), some (.int v1), some (.int v2), some (.long v3), none] [] 113 μ0
  refine qa_ild1 dX9_write_0 ?_
  refine qa_S1I dX9_write_1 lm_X9_367  (by decide) (Nat.le_of_ble_eq_true rfl) (tX9_isSlot l hp0  h) (fun r1 μ1 hp1 h => ?_)
  refine qa_if_ne (tgt := 10) dX9_write_4 (by decide) (fun c2 => ?_) (fun c2 => ?_)
  · have h := h.1 c2
    refine qa_ald0 dX9_write_10 ?_
    refine qa_getR dX9_write_11 lf_X9_70 rfl sh_91 (by decide) (pp_91_41 hp1) (by decide) ?_
    refine qa_ild1 dX9_write_14 ?_
    refine qa_iald dX9_write_15 sh_110 (by decide) h.1 ?_
    have h := h.2
    refine qa_iconst (v := -1) dX9_write_16 (by decide) ?_
    refine qa_icmp_ne (tgt := 23) dX9_write_17 (by decide) (fun c3 => ?_) (fun c3 => ?_)
    · have h := h.1 c3
      refine qa_ild2 dX9_write_23 ?_
      refine qa_i2l dX9_write_24 ?_
      refine qa_lconst (v := 0) dX9_write_25 (by decide) ?_
      refine qa_ald0 dX9_write_26 ?_
      refine qa_getR dX9_write_27 lf_X9_70 rfl sh_91 (by decide) (pp_91_41 hp1) (by decide) ?_
      refine qa_ild1 dX9_write_30 ?_
      refine qa_iald dX9_write_31 sh_110 (by decide) h.1 ?_
      have h := h.2
      refine qa_iconst (v := 1) dX9_write_32 (by decide) ?_
      refine qa_isub dX9_write_33 ?_
      refine qa_i2l dX9_write_34 ?_
      refine qa_S3I dX9_write_35 lm_X9_88  (by decide) (Nat.le_of_ble_eq_true rfl) (tX9_in l hp1  h) (fun r4 μ4 hp4 h => ?_)
      refine qa_if_ne (tgt := 44) dX9_write_38 (by decide) (fun c5 => ?_) (fun c5 => ?_)
      · have h := h.1 c5
        refine qa_ald0 dX9_write_44 ?_
        refine qa_getR dX9_write_45 lf_X9_76 rfl sh_91 (by decide) (pp_91_43 hp4) (by decide) ?_
        refine qa_bipush (v := 60) dX9_write_48 (by decide) ?_
        refine qa_ild1 dX9_write_50 ?_
        refine qa_imul dX9_write_51 ?_
        refine qa_ild2 dX9_write_52 ?_
        refine qa_iadd dX9_write_53 ?_
        refine qa_lld3 dX9_write_54 ?_
        refine qa_ald0 dX9_write_55 ?_
        refine qa_getR dX9_write_56 lf_X9_73 rfl sh_91 (by decide) (pp_91_42 hp4) (by decide) ?_
        refine qa_ild1 dX9_write_59 ?_
        refine qa_iald dX9_write_60 sh_111 (by decide) h.1 ?_
        have h := h.2
        refine qa_S2J dX9_write_61 lm_X9_462  (by decide) (Nat.le_of_ble_eq_true rfl) (tX9_cut l hp4  h) (fun r6 μ6 hp6 h => ?_)
        refine qa_last dX9_write_64 sh_112 (by decide) h.1 ?_
        have h := h.2
        refine qa_nmM (fun μ7 em7 => ?_)
        have h := h μ7 em7
        have hp7 : qa_PP μ7.2.2 := by rw [em7]; exact hp6
        refine qa_iconst (v := 0) dX9_write_65 (by decide) ?_
        exact qa_iret rfl dX9_write_66 ⟨rfl, rfl⟩ ⟨rfl, hp7, _, rfl, h⟩
      · have h := h.2 c5
        refine qa_bipush (v := -7) dX9_write_41 (by decide) ?_
        exact qa_iret rfl dX9_write_43 ⟨rfl, rfl⟩ ⟨rfl, hp4, _, rfl, h⟩
    · have h := h.2 c3
      refine qa_bipush (v := -6) dX9_write_20 (by decide) ?_
      exact qa_iret rfl dX9_write_22 ⟨rfl, rfl⟩ ⟨rfl, hp1, _, rfl, h⟩
  · have h := h.2 c2
    refine qa_bipush (v := -2) dX9_write_7 (by decide) ?_
    exact qa_iret rfl dX9_write_9 ⟨rfl, rfl⟩ ⟨rfl, hp1, _, rfl, h⟩
def wX9_wrong (n : Nat) (v1 : Int32) (μ0 : qa_M) (Q : Int32 → qa_M → Prop) : Prop := wX9_asksTown n  μ0 (fun r1 μ1 => wX9_isLetter n v1 μ1 (fun r2 μ2 => ((¬ r2 = 0 → wX9_isRight n v1 μ2 (fun r4 μ4 => ((¬ r4 = 0 → Q (-1 : Int32) μ4) ∧ (r4 = 0 → wX9_letterOf n v1 (2 : Int32) μ4 (fun r6 μ6 => wX9_isWeek n r6.toInt64 μ6 (fun r7 μ7 => ((¬ r7 = 0 → wX9_letterOf n v1 (1 : Int32) μ7 (fun r9 μ9 => wX9_letterOf n v1 (2 : Int32) μ9 (fun r10 μ10 => wX9_whoAt n r9 r10 μ10 (fun r11 μ11 => Q r11 μ11)))) ∧ (r7 = 0 → Q (-1 : Int32) μ7)))))))) ∧ (r2 = 0 → Q (-2 : Int32) μ2))))
theorem tX9_wrong (l : Launch) {n : Nat} {v1 : Int32} {μ0 : qa_M} {Q : Int32 → qa_M → Prop} (hp0 : qa_PP μ0.2.2)  (h : wX9_wrong n v1 μ0 Q) : qa_Met l yX9_wrong cX9_wrong 2 (some .int) 4 0 0 [.ref 91, .int v1] 113 μ0 (qa_pI Q) := by
  refine qa_ofG (by decide) (Nat.le_of_ble_eq_true rfl) ?_
  unfold wX9_wrong at h
  change qa_G l yX9_wrong cX9_wrong 2 (some .int) 4 0 0 (qa_pI Q) 0 0 0 [some (.ref 91), some (.int v1)] [] 113 μ0
  refine qa_ald0 dX9_wrong_0 ?_
  refine qa_V0I dX9_wrong_1 lm_X9_283 sh_91 rfl (by decide) (by decide) (Nat.le_of_ble_eq_true rfl) (tX9_asksTown l hp0  h) (fun r1 μ1 hp1 h => ?_)
  refine qa_pop dX9_wrong_4 rfl ?_
  refine qa_ald0 dX9_wrong_5 ?_
  refine qa_ild1 dX9_wrong_6 ?_
  refine qa_V1I dX9_wrong_7 lm_X9_224 sh_91 rfl (by decide) (by decide) (Nat.le_of_ble_eq_true rfl) (tX9_isLetter l hp1  h) (fun r2 μ2 hp2 h => ?_)
  refine qa_if_ne (tgt := 16) dX9_wrong_10 (by decide) (fun c3 => ?_) (fun c3 => ?_)
  · have h := h.1 c3
    refine qa_ald0 dX9_wrong_16 ?_
    refine qa_ild1 dX9_wrong_17 ?_
    refine qa_V1I dX9_wrong_18 lm_X9_336 sh_91 rfl (by decide) (by decide) (Nat.le_of_ble_eq_true rfl) (tX9_isRight l hp2  h) (fun r4 μ4 hp4 h => ?_)
    refine qa_if_ne (tgt := 38) dX9_wrong_21 (by decide) (fun c5 => ?_) (fun c5 => ?_)
    · have h := h.1 c5
      refine qa_iconst (v := -1) dX9_wrong_38 (by decide) ?_
      refine qa_goto (tgt := 58) dX9_wrong_39 (by decide) ?_
      exact qa_iret rfl dX9_wrong_58 ⟨rfl, rfl⟩ ⟨rfl, hp4, _, rfl, h⟩
    · have h := h.2 c5
      refine qa_ald0 dX9_wrong_24 ?_
      refine qa_ald0 dX9_wrong_25 ?_
      refine qa_ild1 dX9_wrong_26 ?_
      refine qa_iconst (v := 2) dX9_wrong_27 (by decide) ?_
      refine qa_V2I dX9_wrong_28 lm_X9_227 sh_91 rfl (by decide) (by decide) (Nat.le_of_ble_eq_true rfl) (tX9_letterOf l hp4  h) (fun r6 μ6 hp6 h => ?_)
      refine qa_i2l dX9_wrong_31 ?_
      refine qa_V1I dX9_wrong_32 lm_X9_286 sh_91 rfl (by decide) (by decide) (Nat.le_of_ble_eq_true rfl) (tX9_isWeek l hp6  h) (fun r7 μ7 hp7 h => ?_)
      refine qa_if_ne (tgt := 42) dX9_wrong_35 (by decide) (fun c8 => ?_) (fun c8 => ?_)
      · have h := h.1 c8
        refine qa_ald0 dX9_wrong_42 ?_
        refine qa_ald0 dX9_wrong_43 ?_
        refine qa_ild1 dX9_wrong_44 ?_
        refine qa_iconst (v := 1) dX9_wrong_45 (by decide) ?_
        refine qa_V2I dX9_wrong_46 lm_X9_227 sh_91 rfl (by decide) (by decide) (Nat.le_of_ble_eq_true rfl) (tX9_letterOf l hp7  h) (fun r9 μ9 hp9 h => ?_)
        refine qa_ald0 dX9_wrong_49 ?_
        refine qa_ild1 dX9_wrong_50 ?_
        refine qa_iconst (v := 2) dX9_wrong_51 (by decide) ?_
        refine qa_V2I dX9_wrong_52 lm_X9_227 sh_91 rfl (by decide) (by decide) (Nat.le_of_ble_eq_true rfl) (tX9_letterOf l hp9  h) (fun r10 μ10 hp10 h => ?_)
        refine qa_V2I dX9_wrong_55 lm_X9_295 sh_91 rfl (by decide) (by decide) (Nat.le_of_ble_eq_true rfl) (tX9_whoAt l hp10  h) (fun r11 μ11 hp11 h => ?_)
        exact qa_iret rfl dX9_wrong_58 ⟨rfl, rfl⟩ ⟨rfl, hp11, _, rfl, h⟩
      · have h := h.2 c8
        refine qa_iconst (v := -1) dX9_wrong_38 (by decide) ?_
        refine qa_goto (tgt := 58) dX9_wrong_39 (by decide) ?_
        exact qa_iret rfl dX9_wrong_58 ⟨rfl, rfl⟩ ⟨rfl, hp7, _, rfl, h⟩
  · have h := h.2 c3
    refine qa_bipush (v := -2) dX9_wrong_13 (by decide) ?_
    exact qa_iret rfl dX9_wrong_15 ⟨rfl, rfl⟩ ⟨rfl, hp2, _, rfl, h⟩
