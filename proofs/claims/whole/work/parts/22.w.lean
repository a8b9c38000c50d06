def wX8_distance (n : Nat) (v1 : Int32) (v2 : Int32) (v3 : Int32) (μ0 : qa_M) (Q : Int32 → qa_M → Prop) : Prop := wX7_spot n 32 v2 v3 μ0 (fun r1 μ1 => wX7_spot n 32 v1 v3 μ1 (fun r2 μ2 => wX8_round n (r1 - r2) (μ2.1 (μ2.2.2 1 2) 5) μ2 (fun r3 μ3 => Q r3 μ3)))
theorem tX8_distance (l : Launch) {n : Nat} {v1 : Int32} {v2 : Int32} {v3 : Int32} {μ0 : qa_M} {Q : Int32 → qa_M → Prop} (hp0 : qa_PP μ0.2.2)  (h : wX8_distance n v1 v2 v3 μ0 Q) : qa_Met l yX8_distance cX8_distance 4 (some .int) 2 0 0 [.ref 1, .int v1, .int v2, .int v3] 113 μ0 (qa_pI Q) := by
  refine qa_ofG (by decide) (Nat.le_of_ble_eq_true rfl) ?_
  unfold wX8_distance at h
  change qa_G l yX8_distance cX8_distance 4 (some .int) 2 0 0 (qa_pI Q) 0 0 0 [some (.ref 1), some (.int v1), some (.int v2), some (.int v3)] [] 113 μ0
  refine qa_ald0 dX8_distance_0 ?_
  refine qa_getR dX8_distance_1 lf_X8_47 rfl sh_1 (by decide) (pp_1_9 hp0) (by decide) ?_
  refine qa_ild2 dX8_distance_4 ?_
  refine qa_ild3 dX8_distance_5 ?_
  refine qa_V2I dX8_distance_6 lm_X8_155 (sy_0 (Or.inl rfl)) rfl (yle_0 (Or.inl rfl)) (by decide) (Nat.le_of_ble_eq_true rfl) (tX7_spot l hp0 (Or.inl rfl) h) (fun r1 μ1 hp1 h => ?_)
  refine qa_ald0 dX8_distance_9 ?_
  refine qa_getR dX8_distance_10 lf_X8_47 rfl sh_1 (by decide) (pp_1_9 hp1) (by decide) ?_
  refine qa_ild1 dX8_distance_13 ?_
  refine qa_ild3 dX8_distance_14 ?_
  refine qa_V2I dX8_distance_15 lm_X8_155 (sy_0 (Or.inl rfl)) rfl (yle_0 (Or.inl rfl)) (by decide) (Nat.le_of_ble_eq_true rfl) (tX7_spot l hp1 (Or.inl rfl) h) (fun r2 μ2 hp2 h => ?_)
  refine qa_isub dX8_distance_18 ?_
  refine qa_ald0 dX8_distance_19 ?_
  refine qa_getR dX8_distance_20 lf_X8_19 rfl sh_1 (by decide) rfl (qa_tw0 hp2.2.1) ?_
  refine qa_getI dX8_distance_23 lf_X8_158 (Or.inl rfl) (st_0 hp2.2.1) (tle_0 hp2.2.1) ?_
  refine qa_S2I dX8_distance_26 lm_X8_177  (by decide) (Nat.le_of_ble_eq_true rfl) (tX8_round l hp2  h) (fun r3 μ3 hp3 h => ?_)
  exact qa_iret rfl dX8_distance_29 ⟨rfl, rfl⟩ ⟨rfl, hp3, _, rfl, h⟩
def wX8_apart (n : Nat) (v1 : Int32) (v2 : Int32) (v3 : Int32) (μ0 : qa_M) (Q : Int32 → qa_M → Prop) : Prop := wX8_isHouse n v1 μ0 (fun r1 μ1 => ((r1 = 0 → Q (-2 : Int32) μ1) ∧ (¬ r1 = 0 → wX8_isHouse n v2 μ1 (fun r3 μ3 => ((r3 = 0 → Q (-2 : Int32) μ3) ∧ (¬ r3 = 0 → wX8_isWeek n v3 μ3 (fun r5 μ5 => ((r5 = 0 → Q (-2 : Int32) μ5) ∧ (¬ r5 = 0 → wX8_distance n v1 v2 v3 μ5 (fun r7 μ7 => Q r7 μ7))))))))))
theorem tX8_apart (l : Launch) {n : Nat} {v1 : Int32} {v2 : Int32} {v3 : Int32} {μ0 : qa_M} {Q : Int32 → qa_M → Prop} (hp0 : qa_PP μ0.2.2)  (h : wX8_apart n v1 v2 v3 μ0 Q) : qa_Met l yX8_apart cX8_apart 4 (some .int) 3 0 0 [.ref 1, .int v1, .int v2, .int v3] 113 μ0 (qa_pI Q) := by
  refine qa_ofG (by decide) (Nat.le_of_ble_eq_true rfl) ?_
  unfold wX8_apart at h
  change qa_G l yX8_apart cX8_apart 4 (some .int) 3 0 0 (qa_pI Q) 0 0 0 [some (.ref 1), some (.int v1), some (.int v2), some (.int v3)] [] 113 μ0
  refine qa_ald0 dX8_apart_0 ?_
  refine qa_ild1 dX8_apart_1 ?_
  refine qa_V1I dX8_apart_2 lm_X8_103 sh_1 rfl (by decide) (by decide) (Nat.le_of_ble_eq_true rfl) (tX8_isHouse l hp0  h) (fun r1 μ1 hp1 h => ?_)
  refine qa_if_eq (tgt := 34) dX8_apart_5 (by decide) (fun c2 => ?_) (fun c2 => ?_)
  · have h := h.1 c2
    refine qa_bipush (v := -2) dX8_apart_34 (by decide) ?_
    exact qa_iret rfl dX8_apart_36 ⟨rfl, rfl⟩ ⟨rfl, hp1, _, rfl, h⟩
  · have h := h.2 c2
    refine qa_ald0 dX8_apart_8 ?_
    refine qa_ild2 dX8_apart_9 ?_
    refine qa_V1I dX8_apart_10 lm_X8_103 sh_1 rfl (by decide) (by decide) (Nat.le_of_ble_eq_true rfl) (tX8_isHouse l hp1  h) (fun r3 μ3 hp3 h => ?_)
    refine qa_if_eq (tgt := 34) dX8_apart_13 (by decide) (fun c4 => ?_) (fun c4 => ?_)
    · have h := h.1 c4
      refine qa_bipush (v := -2) dX8_apart_34 (by decide) ?_
      exact qa_iret rfl dX8_apart_36 ⟨rfl, rfl⟩ ⟨rfl, hp3, _, rfl, h⟩
    · have h := h.2 c4
      refine qa_ald0 dX8_apart_16 ?_
      refine qa_ild3 dX8_apart_17 ?_
      refine qa_V1I dX8_apart_18 lm_X8_152 sh_1 rfl (by decide) (by decide) (Nat.le_of_ble_eq_true rfl) (tX8_isWeek l hp3  h) (fun r5 μ5 hp5 h => ?_)
      refine qa_if_eq (tgt := 34) dX8_apart_21 (by decide) (fun c6 => ?_) (fun c6 => ?_)
      · have h := h.1 c6
        refine qa_bipush (v := -2) dX8_apart_34 (by decide) ?_
        exact qa_iret rfl dX8_apart_36 ⟨rfl, rfl⟩ ⟨rfl, hp5, _, rfl, h⟩
      · have h := h.2 c6
        refine qa_ald0 dX8_apart_24 ?_
        refine qa_ild1 dX8_apart_25 ?_
        refine qa_ild2 dX8_apart_26 ?_
        refine qa_ild3 dX8_apart_27 ?_
        refine qa_V3I dX8_apart_28 lm_X8_199 sh_1 rfl (by decide) (by decide) (Nat.le_of_ble_eq_true rfl) (tX8_distance l hp5  h) (fun r7 μ7 hp7 h => ?_)
        refine qa_goto (tgt := 36) dX8_apart_31 (by decide) ?_
        exact qa_iret rfl dX8_apart_36 ⟨rfl, rfl⟩ ⟨rfl, hp7, _, rfl, h⟩
def wX8_isSlot (n : Nat) (v0 : Int32) (μ0 : qa_M) (Q : Int32 → qa_M → Prop) : Prop := ((v0 < 0 → Q (0 : Int32) μ0) ∧ (¬ v0 < 0 → (((4 : Int32) ≤ v0 → Q (0 : Int32) μ0) ∧ (¬ (4 : Int32) ≤ v0 → Q (1 : Int32) μ0))))
theorem tX8_isSlot (l : Launch) {n : Nat} {v0 : Int32} {μ0 : qa_M} {Q : Int32 → qa_M → Prop} (hp0 : qa_PP μ0.2.2)  (h : wX8_isSlot n v0 μ0 Q) : qa_Met l yX8_isSlot cX8_isSlot 1 (some .boolean) 0 0 0 [.int v0] 113 μ0 (qa_pI Q) := by
  refine qa_ofG (by decide) (Nat.le_of_ble_eq_true rfl) ?_
  unfold wX8_isSlot at h
  change qa_G l yX8_isSlot cX8_isSlot 1 (some .boolean) 0 0 0 (qa_pI Q) 0 0 0 [some (.int v0)] [] 113 μ0
  refine qa_ild0 dX8_isSlot_0 ?_
  refine qa_if_lt (tgt := 13) dX8_isSlot_1 (by decide) (fun c1 => ?_) (fun c1 => ?_)
  · have h := h.1 c1
    refine qa_iconst (v := 0) dX8_isSlot_13 (by decide) ?_
    exact qa_zret rfl rfl dX8_isSlot_14 ⟨rfl, rfl⟩ ⟨rfl, hp0, _, rfl, h⟩
  · have h := h.2 c1
    refine qa_ild0 dX8_isSlot_4 ?_
    refine qa_iconst (v := 4) dX8_isSlot_5 (by decide) ?_
    refine qa_icmp_ge (tgt := 13) dX8_isSlot_6 (by decide) (fun c2 => ?_) (fun c2 => ?_)
    · have h := h.1 c2
      refine qa_iconst (v := 0) dX8_isSlot_13 (by decide) ?_
      exact qa_zret rfl rfl dX8_isSlot_14 ⟨rfl, rfl⟩ ⟨rfl, hp0, _, rfl, h⟩
    · have h := h.2 c2
      refine qa_iconst (v := 1) dX8_isSlot_9 (by decide) ?_
      refine qa_goto (tgt := 14) dX8_isSlot_10 (by decide) ?_
      exact qa_zret rfl rfl dX8_isSlot_14 ⟨rfl, rfl⟩ ⟨rfl, hp0, _, rfl, h⟩
def wX8_refusePairs (n : Nat) (v1 : Int32) (v2 : Int32) (v3 : Int32) (v4 : Int32) (μ0 : qa_M) (Q : Int32 → qa_M → Prop) : Prop := wX8_isSlot n v1 μ0 (fun r1 μ1 => ((r1 = 0 → Q (-2 : Int32) μ1) ∧ (¬ r1 = 0 → wX8_hasTown n  μ1 (fun r3 μ3 => ((¬ r3 = 0 → vp_in v1 4 ∧ wX3_isThere n (83 + 2 * v1.toNatClampNeg) μ3 (fun r6 μ6 => ((¬ r6 = 0 → vp_in v1 4 ∧ wX3_hasPairs n (83 + 2 * v1.toNatClampNeg) v2 v3 v4 μ6 (fun r9 μ9 => ((r9 = 0 → Q (-2 : Int32) μ9) ∧ (¬ r9 = 0 → Q (0 : Int32) μ9)))) ∧ (r6 = 0 → Q (-6 : Int32) μ6)))) ∧ (r3 = 0 → Q (-2 : Int32) μ3))))))
theorem tX8_refusePairs (l : Launch) {n : Nat} {v1 : Int32} {v2 : Int32} {v3 : Int32} {v4 : Int32} {μ0 : qa_M} {Q : Int32 → qa_M → Prop} (hp0 : qa_PP μ0.2.2)  (h : wX8_refusePairs n v1 v2 v3 v4 μ0 Q) : qa_Met l yX8_refusePairs cX8_refusePairs 5 (some .int) 1 0 0 [.ref 1, .int v1, .int v2, .int v3, .int v4] 113 μ0 (qa_pI Q) := by
  refine qa_ofG (by decide) (Nat.le_of_ble_eq_true rfl) ?_
  unfold wX8_refusePairs at h
  change qa_G l yX8_refusePairs cX8_refusePairs 5 (some .int) 1 0 0 (qa_pI Q) 0 0 0 [some (.ref 1), some (.int v1), some (.int v2), some (.int v3), some (.int v4)] [] 113 μ0
  refine qa_ild1 dX8_refusePairs_0 ?_
  refine qa_S1I dX8_refusePairs_1 lm_X8_310  (by decide) (Nat.le_of_ble_eq_true rfl) (tX8_isSlot l hp0  h) (fun r1 μ1 hp1 h => ?_)
  refine qa_if_eq (tgt := 14) dX8_refusePairs_4 (by decide) (fun c2 => ?_) (fun c2 => ?_)
  · have h := h.1 c2
    refine qa_bipush (v := -2) dX8_refusePairs_14 (by decide) ?_
    exact qa_iret rfl dX8_refusePairs_16 ⟨rfl, rfl⟩ ⟨rfl, hp1, _, rfl, h⟩
  · have h := h.2 c2
    refine qa_ald0 dX8_refusePairs_7 ?_
    refine qa_V0I dX8_refusePairs_8 lm_X8_138 sh_1 rfl (by decide) (by decide) (Nat.le_of_ble_eq_true rfl) (tX8_hasTown l hp1  h) (fun r3 μ3 hp3 h => ?_)
    refine qa_if_ne (tgt := 17) dX8_refusePairs_11 (by decide) (fun c4 => ?_) (fun c4 => ?_)
    · have h := h.1 c4
      refine qa_ald0 dX8_refusePairs_17 ?_
      refine qa_getR dX8_refusePairs_18 lf_X8_33 rfl sh_1 (by decide) (pp_1_7 hp3) (by decide) ?_
      refine qa_ild1 dX8_refusePairs_21 ?_
      have b5 := h.1
      have h := h.2
      refine qa_aald (t := 6) dX8_refusePairs_22 sh_30 rfl (by decide) b5 (psl hp3 b5) (qa_rw0 (qa_rwi b5)) ?_
      refine qa_V0I dX8_refusePairs_23 lm_X8_313 (sr_0 (qa_rwi b5)) rfl (rle_0 (qa_rwi b5)) (by decide) (Nat.le_of_ble_eq_true rfl) (tX3_isThere l hp3 (qa_rwi b5) h) (fun r6 μ6 hp6 h => ?_)
      refine qa_if_ne (tgt := 32) dX8_refusePairs_26 (by decide) (fun c7 => ?_) (fun c7 => ?_)
      · have h := h.1 c7
        refine qa_ald0 dX8_refusePairs_32 ?_
        refine qa_getR dX8_refusePairs_33 lf_X8_33 rfl sh_1 (by decide) (pp_1_7 hp6) (by decide) ?_
        refine qa_ild1 dX8_refusePairs_36 ?_
        have b8 := h.1
        have h := h.2
        refine qa_aald (t := 6) dX8_refusePairs_37 sh_30 rfl (by decide) b8 (psl hp6 b8) (qa_rw0 (qa_rwi b8)) ?_
        refine qa_ild2 dX8_refusePairs_38 ?_
        refine qa_ild3 dX8_refusePairs_39 ?_
        refine qa_ild4 dX8_refusePairs_40 ?_
        refine qa_V3I dX8_refusePairs_42 lm_X8_316 (sr_0 (qa_rwi b8)) rfl (rle_0 (qa_rwi b8)) (by decide) (Nat.le_of_ble_eq_true rfl) (tX3_hasPairs l hp6 (qa_rwi b8) h) (fun r9 μ9 hp9 h => ?_)
        refine qa_if_eq (tgt := 52) dX8_refusePairs_45 (by decide) (fun c10 => ?_) (fun c10 => ?_)
        · have h := h.1 c10
          refine qa_bipush (v := -2) dX8_refusePairs_52 (by decide) ?_
          exact qa_iret rfl dX8_refusePairs_54 ⟨rfl, rfl⟩ ⟨rfl, hp9, _, rfl, h⟩
        · have h := h.2 c10
          refine qa_iconst (v := 0) dX8_refusePairs_48 (by decide) ?_
          refine qa_goto (tgt := 54) dX8_refusePairs_49 (by decide) ?_
          exact qa_iret rfl dX8_refusePairs_54 ⟨rfl, rfl⟩ ⟨rfl, hp9, _, rfl, h⟩
      · have h := h.2 c7
        refine qa_bipush (v := -6) dX8_refusePairs_29 (by decide) ?_
        exact qa_iret rfl dX8_refusePairs_31 ⟨rfl, rfl⟩ ⟨rfl, hp6, _, rfl, h⟩
    · have h := h.2 c4
      refine qa_bipush (v := -2) dX8_refusePairs_14 (by decide) ?_
      exact qa_iret rfl dX8_refusePairs_16 ⟨rfl, rfl⟩ ⟨rfl, hp3, _, rfl, h⟩
def wX8_refuseTurns (n : Nat) (v1 : Int32) (μ0 : qa_M) (Q : Int32 → qa_M → Prop) : Prop := wX8_refusePairs n v1 ((μ0.1 (μ0.2.2 1 2) 1) - (1 : Int32)) (-400 : Int32) (400 : Int32) μ0 (fun r1 μ1 => Q r1 μ1)
theorem tX8_refuseTurns (l : Launch) {n : Nat} {v1 : Int32} {μ0 : qa_M} {Q : Int32 → qa_M → Prop} (hp0 : qa_PP μ0.2.2)  (h : wX8_refuseTurns n v1 μ0 Q) : qa_Met l yX8_refuseTurns cX8_refuseTurns 2 (some .int) 2 0 0 [.ref 1, .int v1] 113 μ0 (qa_pI Q) := by
  refine qa_ofG (by decide) (Nat.le_of_ble_eq_true rfl) ?_
  unfold wX8_refuseTurns at h
  change qa_G l yX8_refuseTurns cX8_refuseTurns 2 (some .int) 2 0 0 (qa_pI Q) 0 0 0 [some (.ref 1), some (.int v1)] [] 113 μ0
  refine qa_ald0 dX8_refuseTurns_0 ?_
  refine qa_ild1 dX8_refuseTurns_1 ?_
  refine qa_ald0 dX8_refuseTurns_2 ?_
  refine qa_getR dX8_refuseTurns_3 lf_X8_19 rfl sh_1 (by decide) rfl (qa_tw0 hp0.2.1) ?_
  refine qa_getI dX8_refuseTurns_6 lf_X8_145 (Or.inl rfl) (st_0 hp0.2.1) (tle_0 hp0.2.1) ?_
  refine qa_iconst (v := 1) dX8_refuseTurns_9 (by decide) ?_
  refine qa_isub dX8_refuseTurns_10 ?_
  refine qa_sipush (v := -400) dX8_refuseTurns_11 (by decide) ?_
  refine qa_sipush (v := 400) dX8_refuseTurns_14 (by decide) ?_
  refine qa_V4I dX8_refuseTurns_17 lm_X8_306 sh_1 rfl (by decide) (by decide) (Nat.le_of_ble_eq_true rfl) (tX8_refusePairs l hp0  h) (fun r1 μ1 hp1 h => ?_)
  exact qa_iret rfl dX8_refuseTurns_20 ⟨rfl, rfl⟩ ⟨rfl, hp1, _, rfl, h⟩
def wX8_lowBits (n : Nat) (v0 : Int32) (μ0 : qa_M) (Q : Int32 → qa_M → Prop) : Prop := Q (((1 : Int32) <<< (v0 &&& 31)) - (1 : Int32)) μ0
theorem tX8_lowBits (l : Launch) {n : Nat} {v0 : Int32} {μ0 : qa_M} {Q : Int32 → qa_M → Prop} (hp0 : qa_PP μ0.2.2)  (h : wX8_lowBits n v0 μ0 Q) : qa_Met l yX8_lowBits cX8_lowBits 1 (some .int) 0 0 0 [.int v0] 113 μ0 (qa_pI Q) := by
  refine qa_ofG (by decide) (Nat.le_of_ble_eq_true rfl) ?_
  unfold wX8_lowBits at h
  change qa_G l yX8_lowBits cX8_lowBits 1 (some .int) 0 0 0 (qa_pI Q) 0 0 0 [some (.int v0)] [] 113 μ0
  refine qa_iconst (v := 1) dX8_lowBits_0 (by decide) ?_
  refine qa_ild0 dX8_lowBits_1 ?_
  refine qa_ishl dX8_lowBits_2 ?_
  refine qa_iconst (v := 1) dX8_lowBits_3 (by decide) ?_
  refine qa_isub dX8_lowBits_4 ?_
  exact qa_iret rfl dX8_lowBits_5 ⟨rfl, rfl⟩ ⟨rfl, hp0, _, rfl, h⟩
def wX8_seek_19 : Nat → Nat → Int32 → qa_M → (qa_M → Prop) → Prop
  | 0, _, _, _, _ => False
  | n + 1, v1, v2, μ0, Q => wX8_lowBits n (μ0.1 (μ0.2.2 1 2) 5) μ0 (fun r3 μ3 => ((r3 < v2 → Q μ3) ∧ (¬ r3 < v2 → wX1_asTold n (μ3.2.2 1 2) μ3 (fun μ5 => ∀ μ6, μ6 = qa_uI μ5 31 2 v2 → wX7_follow n 37 (μ6.2.2 1 2) μ6 (fun μ7 => wX3_fitsTurns n v1 37 μ7 (fun r8 μ8 => ((r8 = 0 → wX8_seek_19 n v1 (v2 + (1 : Int32)) μ8 Q) ∧ (¬ r8 = 0 → wX4_add n v2 37 (μ8.1 (μ8.2.2 1 2) 1) μ8 (fun μ10 => wX8_seek_19 n v1 (v2 + (1 : Int32)) μ10 Q)))))))))
def wX8_seek (n : Nat) (v1 : Nat) (μ0 : qa_M) (Q : qa_M → Prop) : Prop := wX8_lowBits n (μ0.1 (μ0.2.2 1 2) 5) μ0 (fun r1 μ1 => wX4_begin n r1 μ1 (fun μ2 => wX8_seek_19 n v1 (0 : Int32) μ2  Q))
theorem tX8_seek_19 (l : Launch)  {Q : qa_M → Prop}  : ∀ (n : Nat) (v1 : Nat) (v2 : Int32) (μ0 : qa_M), qa_PP μ0.2.2 → qa_rw v1 → wX8_seek_19 n v1 v2 μ0  Q → qa_G l yX8_seek cX8_seek 3 none 4 0 0 (qa_pV Q) 0 0 19 [some (.ref 1), some (.ref v1), some (.int v2)] [] 113 μ0 := by
  intro n
  induction n with
  | zero =>
    intro v1 v2 μ0 hp0 k1 h
    rw [wX8_seek_19] at h
    exact h.elim
  | succ n ih =>
    intro v1 v2 μ0 hp0 k1 h
    rw [wX8_seek_19] at h
    refine qa_ild2 dX8_seek_19 ?_
    refine qa_ald0 dX8_seek_20 ?_
    refine qa_getR dX8_seek_21 lf_X8_19 rfl sh_1 (by decide) rfl (qa_tw0 hp0.2.1) ?_
    refine qa_getI dX8_seek_24 lf_X8_158 (Or.inl rfl) (st_0 hp0.2.1) (tle_0 hp0.2.1) ?_
    refine qa_S1I dX8_seek_27 lm_X8_148  (by decide) (Nat.le_of_ble_eq_true rfl) (tX8_lowBits l hp0  h) (fun r3 μ3 hp3 h => ?_)
    refine qa_icmp_gt (tgt := 103) dX8_seek_30 (by decide) (fun c4 => ?_) (fun c4 => ?_)
    · have h := h.1 c4
      exact qa_vret rfl dX8_seek_103 ⟨rfl, rfl⟩ ⟨rfl, hp3, rfl, h⟩
    · have h := h.2 c4
      refine qa_ald0 dX8_seek_33 ?_
      refine qa_getR dX8_seek_34 lf_X8_40 rfl sh_1 (by decide) (pp_1_8 hp3) (by decide) ?_
      refine qa_ald0 dX8_seek_37 ?_
      refine qa_getR dX8_seek_38 lf_X8_19 rfl sh_1 (by decide) rfl (qa_tw0 hp3.2.1) ?_
      refine qa_V1V dX8_seek_41 lm_X8_261 sh_31 rfl (by decide) (by decide) (Nat.le_of_ble_eq_true rfl) (tX1_asTold l hp3 hp3.2.1 h) (fun μ5 hp5 h => ?_)
      refine qa_ald0 dX8_seek_44 ?_
      refine qa_getR dX8_seek_45 lf_X8_40 rfl sh_1 (by decide) (pp_1_8 hp5) (by decide) ?_
      refine qa_ild2 dX8_seek_48 ?_
      refine qa_putI dX8_seek_49 lf_X8_323 rfl sh_31 (by decide) rfl ?_
      refine qa_nmM (fun μ6 em6 => ?_)
      have h := h μ6 em6
      have hp6 : qa_PP μ6.2.2 := by rw [em6]; exact hp5
      refine qa_ald0 dX8_seek_52 ?_
      refine qa_getR dX8_seek_53 lf_X8_51 rfl sh_1 (by decide) (pp_1_10 hp6) (by decide) ?_
      refine qa_ald0 dX8_seek_56 ?_
      refine qa_getR dX8_seek_57 lf_X8_19 rfl sh_1 (by decide) rfl (qa_tw0 hp6.2.1) ?_
      refine qa_ald0 dX8_seek_60 ?_
      refine qa_getR dX8_seek_61 lf_X8_40 rfl sh_1 (by decide) (pp_1_8 hp6) (by decide) ?_
      refine qa_V2V dX8_seek_64 lm_X8_266 (sy_0 (Or.inr rfl)) rfl (yle_0 (Or.inr rfl)) (by decide) (Nat.le_of_ble_eq_true rfl) (tX7_follow l hp6 (Or.inr rfl) hp6.2.1 h) (fun μ7 hp7 h => ?_)
      refine qa_ald1 dX8_seek_67 ?_
      refine qa_ald0 dX8_seek_68 ?_
      refine qa_getR dX8_seek_69 lf_X8_51 rfl sh_1 (by decide) (pp_1_10 hp7) (by decide) ?_
      refine qa_V1I dX8_seek_72 lm_X8_324 (sr_0 k1) rfl (rle_0 k1) (by decide) (Nat.le_of_ble_eq_true rfl) (tX3_fitsTurns l hp7 k1 (Or.inr rfl) h) (fun r8 μ8 hp8 h => ?_)
      refine qa_if_eq (tgt := 97) dX8_seek_75 (by decide) (fun c9 => ?_) (fun c9 => ?_)
      · have h := h.1 c9
        refine qa_inc2 dX8_seek_97 (qa_io1 _) ?_
        refine qa_goto (tgt := 19) dX8_seek_100 (by decide) ?_
        refine qa_fgt (L' := [some (.ref 1), some (.ref v1), some (.int (v2 + (1 : Int32)))]) (⟨rfl, ⟨rfl, ⟨rfl, trivial⟩⟩⟩) ?_
        exact ih v1 (v2 + (1 : Int32)) μ8 hp8 k1 h
      · have h := h.2 c9
        refine qa_ald0 dX8_seek_78 ?_
        refine qa_getR dX8_seek_79 lf_X8_57 rfl sh_1 (by decide) (pp_1_11 hp8) (by decide) ?_
        refine qa_ild2 dX8_seek_82 ?_
        refine qa_ald0 dX8_seek_83 ?_
        refine qa_getR dX8_seek_84 lf_X8_51 rfl sh_1 (by decide) (pp_1_10 hp8) (by decide) ?_
        refine qa_ald0 dX8_seek_87 ?_
        refine qa_getR dX8_seek_88 lf_X8_19 rfl sh_1 (by decide) rfl (qa_tw0 hp8.2.1) ?_
        refine qa_getI dX8_seek_91 lf_X8_145 (Or.inl rfl) (st_0 hp8.2.1) (tle_0 hp8.2.1) ?_
        refine qa_V3V dX8_seek_94 lm_X8_328 sh_42 rfl (by decide) (by decide) (Nat.le_of_ble_eq_true rfl) (tX4_add l hp8 (Or.inr rfl) h) (fun μ10 hp10 h => ?_)
        refine qa_inc2 dX8_seek_97 (qa_io1 _) ?_
        refine qa_goto (tgt := 19) dX8_seek_100 (by decide) ?_
        refine qa_fgt (L' := [some (.ref 1), some (.ref v1), some (.int (v2 + (1 : Int32)))]) (⟨rfl, ⟨rfl, ⟨rfl, trivial⟩⟩⟩) ?_
        exact ih v1 (v2 + (1 : Int32)) μ10 hp10 k1 h
theorem tX8_seek (l : Launch) {n : Nat} {v1 : Nat} {μ0 : qa_M} {Q : qa_M → Prop} (hp0 : qa_PP μ0.2.2) (k1 : qa_rw v1) (h : wX8_seek n v1 μ0 Q) : qa_Met l yX8_seek cX8_seek 3 none 4 0 0 [.ref 1, .ref v1] 113 μ0 (qa_pV Q) := by
  refine qa_ofG (by decide) (Nat.le_of_ble_eq_true rfl) ?_
  unfold wX8_seek at h
  change qa_G l yX8_seek cX8_seek 3 none 4 0 0 (qa_pV Q) 0 0 0 [some (.ref 1), some (.ref v1), none] [] 113 μ0
  refine qa_ald0 dX8_seek_0 ?_
  refine qa_getR dX8_seek_1 lf_X8_57 rfl sh_1 (by decide) (pp_1_11 hp0) (by decide) ?_
  refine qa_ald0 dX8_seek_4 ?_
  refine qa_getR dX8_seek_5 lf_X8_19 rfl sh_1 (by decide) rfl (qa_tw0 hp0.2.1) ?_
  refine qa_getI dX8_seek_8 lf_X8_158 (Or.inl rfl) (st_0 hp0.2.1) (tle_0 hp0.2.1) ?_
  refine qa_S1I dX8_seek_11 lm_X8_148  (by decide) (Nat.le_of_ble_eq_true rfl) (tX8_lowBits l hp0  h) (fun r1 μ1 hp1 h => ?_)
  refine qa_V1V dX8_seek_14 lm_X8_320 sh_42 rfl (by decide) (by decide) (Nat.le_of_ble_eq_true rfl) (tX4_begin l hp1  h) (fun μ2 hp2 h => ?_)
  refine qa_iconst (v := 0) dX8_seek_17 (by decide) ?_
  refine qa_ist2 dX8_seek_18 ?_
  refine qa_fgt (L' := [some (.ref 1), some (.ref v1), some (.int (0 : Int32))]) (⟨rfl, ⟨rfl, ⟨rfl, trivial⟩⟩⟩) ?_
  refine tX8_seek_19 l  n v1 (0 : Int32) μ2 hp2 k1 h
def wX8_weekToAsk_12 : Nat → Int32 → Int32 → Int32 → qa_M → (Int32 → qa_M → Prop) → Prop
  | 0, _, _, _, _, _ => False
  | n + 1, v1, v2, v3, μ0, Q => (((μ0.1 (μ0.2.2 1 2) 1) ≤ v3 → Q v1 μ0) ∧ (¬ (μ0.1 (μ0.2.2 1 2) 1) ≤ v3 → wX4_worst n v3 μ0 (fun r3 μ3 => ((v2 ≤ r3 → wX8_weekToAsk_12 n v1 v2 (v3 + (1 : Int32)) μ3 Q) ∧ (¬ v2 ≤ r3 → wX8_weekToAsk_12 n v3 r3 (v3 + (1 : Int32)) μ3 Q)))))
def wX8_weekToAsk (n : Nat)  (μ0 : qa_M) (Q : Int32 → qa_M → Prop) : Prop := ∀ x1, x1 = (μ0.1 42 0) → wX8_weekToAsk_12 n (-1 : Int32) x1 (0 : Int32) μ0  Q
theorem tX8_weekToAsk_12 (l : Launch)  {Q : Int32 → qa_M → Prop}  : ∀ (n : Nat) (v1 : Int32) (v2 : Int32) (v3 : Int32) (μ0 : qa_M), qa_PP μ0.2.2 → wX8_weekToAsk_12 n v1 v2 v3 μ0  Q → qa_G l yX8_weekToAsk cX8_weekToAsk 5 (some .int) 3 0 0 (qa_pI Q) 0 0 12 [some (.ref 1), some (.int v1), some (.int v2), some (.int v3), none] [] 113 μ0 := by
  intro n
  induction n with
  | zero =>
    intro v1 v2 v3 μ0 hp0  h
    rw [wX8_weekToAsk_12] at h
    exact h.elim
  | succ n ih =>
    intro v1 v2 v3 μ0 hp0  h
    rw [wX8_weekToAsk_12] at h
    refine qa_ild3 dX8_weekToAsk_12 ?_
    refine qa_ald0 dX8_weekToAsk_13 ?_
    refine qa_getR dX8_weekToAsk_14 lf_X8_19 rfl sh_1 (by decide) rfl (qa_tw0 hp0.2.1) ?_
    refine qa_getI dX8_weekToAsk_17 lf_X8_145 (Or.inl rfl) (st_0 hp0.2.1) (tle_0 hp0.2.1) ?_
    refine qa_icmp_ge (tgt := 54) dX8_weekToAsk_20 (by decide) (fun c2 => ?_) (fun c2 => ?_)
    · have h := h.1 c2
      refine qa_ild1 dX8_weekToAsk_54 ?_
      exact qa_iret rfl dX8_weekToAsk_55 ⟨rfl, rfl⟩ ⟨rfl, hp0, _, rfl, h⟩
    · have h := h.2 c2
      refine qa_ald0 dX8_weekToAsk_23 ?_
      refine qa_getR dX8_weekToAsk_24 lf_X8_57 rfl sh_1 (by decide) (pp_1_11 hp0) (by decide) ?_
      refine qa_ild3 dX8_weekToAsk_27 ?_
      refine qa_ald0 dX8_weekToAsk_28 ?_
      refine qa_getR dX8_weekToAsk_29 lf_X8_64 rfl sh_1 (by decide) (pp_1_1 hp0) (by decide) ?_
      refine qa_V2I dX8_weekToAsk_32 lm_X8_302 sh_42 rfl (by decide) (by decide) (Nat.le_of_ble_eq_true rfl) (tX4_worst l hp0  h) (fun r3 μ3 hp3 h => ?_)
      refine qa_ist4 dX8_weekToAsk_35 ?_
      refine qa_ild4 dX8_weekToAsk_37 ?_
      refine qa_ild2 dX8_weekToAsk_39 ?_
      refine qa_icmp_ge (tgt := 48) dX8_weekToAsk_40 (by decide) (fun c4 => ?_) (fun c4 => ?_)
      · have h := h.1 c4
        refine qa_inc3 dX8_weekToAsk_48 (qa_io1 _) ?_
        refine qa_goto (tgt := 12) dX8_weekToAsk_51 (by decide) ?_
        refine qa_fgt (L' := [some (.ref 1), some (.int v1), some (.int v2), some (.int (v3 + (1 : Int32))), none]) (⟨rfl, ⟨rfl, ⟨rfl, ⟨rfl, trivial⟩⟩⟩⟩) ?_
        exact ih v1 v2 (v3 + (1 : Int32)) μ3 hp3  h
      · have h := h.2 c4
        refine qa_ild4 dX8_weekToAsk_43 ?_
        refine qa_ist2 dX8_weekToAsk_45 ?_
        refine qa_ild3 dX8_weekToAsk_46 ?_
        refine qa_ist1 dX8_weekToAsk_47 ?_
        refine qa_inc3 dX8_weekToAsk_48 (qa_io1 _) ?_
        refine qa_goto (tgt := 12) dX8_weekToAsk_51 (by decide) ?_
        refine qa_fgt (L' := [some (.ref 1), some (.int v3), some (.int r3), some (.int (v3 + (1 : Int32))), none]) (⟨rfl, ⟨rfl, ⟨rfl, ⟨rfl, trivial⟩⟩⟩⟩) ?_
        exact ih v3 r3 (v3 + (1 : Int32)) μ3 hp3  h
theorem tX8_weekToAsk (l : Launch) {n : Nat}  {μ0 : qa_M} {Q : Int32 → qa_M → Prop} (hp0 : qa_PP μ0.2.2)  (h : wX8_weekToAsk n  μ0 Q) : qa_Met l yX8_weekToAsk cX8_weekToAsk 5 (some .int) 3 0 0 [.ref 1] 113 μ0 (qa_pI Q) := by
  refine qa_ofG (by decide) (Nat.le_of_ble_eq_true rfl) ?_
  unfold wX8_weekToAsk at h
  change qa_G l yX8_weekToAsk cX8_weekToAsk 5 (some .int) 3 0 0 (qa_pI Q) 0 0 0 [some (.ref 1), none, none, none, none] [] 113 μ0
  refine qa_iconst (v := -1) dX8_weekToAsk_0 (by decide) ?_
  refine qa_ist1 dX8_weekToAsk_1 ?_
  refine qa_ald0 dX8_weekToAsk_2 ?_
  refine qa_getR dX8_weekToAsk_3 lf_X8_57 rfl sh_1 (by decide) (pp_1_11 hp0) (by decide) ?_
  refine qa_getI dX8_weekToAsk_6 lf_X8_290 (Or.inl rfl) sh_42 (by decide) ?_
  refine qa_nmI (fun x1 e1 => ?_)
  have h := h x1 e1
  refine qa_ist2 dX8_weekToAsk_9 ?_
  refine qa_iconst (v := 0) dX8_weekToAsk_10 (by decide) ?_
  refine qa_ist3 dX8_weekToAsk_11 ?_
  refine qa_fgt (L' := [some (.ref 1), some (.int (-1 : Int32)), some (.int x1), some (.int (0 : Int32)), none]) (⟨rfl, ⟨rfl, ⟨rfl, ⟨rfl, trivial⟩⟩⟩⟩) ?_
  refine tX8_weekToAsk_12 l  n (-1 : Int32) x1 (0 : Int32) μ0 hp0  h
def wX8_ask (n : Nat) (v1 : Int32) (μ0 : qa_M) (Q : Int32 → qa_M → Prop) : Prop := wX8_refuseTurns n v1 μ0 (fun r1 μ1 => ((r1 = 0 → vp_in v1 4 ∧ wX8_seek n (83 + 2 * v1.toNatClampNeg) μ1 (fun μ4 => wX8_weekToAsk n  μ4 (fun r5 μ5 => Q r5 μ5))) ∧ (¬ r1 = 0 → Q r1 μ1)))
theorem tX8_ask (l : Launch) {n : Nat} {v1 : Int32} {μ0 : qa_M} {Q : Int32 → qa_M → Prop} (hp0 : qa_PP μ0.2.2)  (h : wX8_ask n v1 μ0 Q) : qa_Met l yX8_ask cX8_ask 3 (some .int) 5 0 0 [.ref 1, .int v1] 113 μ0 (qa_pI Q) := by
  refine qa_ofG (by decide) (Nat.le_of_ble_eq_true rfl) ?_
  unfold wX8_ask at h
  change qa_G l yX8_ask cX8_ask 3 (some .int) 5 0 0 (qa_pI Q) 0 0 0 [some (.ref 1), some (.int v1), none] [] 113 μ0
  refine qa_ald0 dX8_ask_0 ?_
  refine qa_ild1 dX8_ask_1 ?_
  refine qa_V1I dX8_ask_2 lm_X8_283 sh_1 rfl (by decide) (by decide) (Nat.le_of_ble_eq_true rfl) (tX8_refuseTurns l hp0  h) (fun r1 μ1 hp1 h => ?_)
  refine qa_ist2 dX8_ask_5 ?_
  refine qa_ild2 dX8_ask_6 ?_
  refine qa_if_eq (tgt := 12) dX8_ask_7 (by decide) (fun c2 => ?_) (fun c2 => ?_)
  · have h := h.1 c2
    refine qa_ald0 dX8_ask_12 ?_
    refine qa_ald0 dX8_ask_13 ?_
    refine qa_getR dX8_ask_14 lf_X8_33 rfl sh_1 (by decide) (pp_1_7 hp1) (by decide) ?_
    refine qa_ild1 dX8_ask_17 ?_
    have b3 := h.1
    have h := h.2
    refine qa_aald (t := 6) dX8_ask_18 sh_30 rfl (by decide) b3 (psl hp1 b3) (qa_rw0 (qa_rwi b3)) ?_
    refine qa_V1V dX8_ask_19 lm_X8_286 sh_1 rfl (by decide) (by decide) (Nat.le_of_ble_eq_true rfl) (tX8_seek l hp1 (qa_rwi b3) h) (fun μ4 hp4 h => ?_)
    refine qa_ald0 dX8_ask_22 ?_
    refine qa_V0I dX8_ask_23 lm_X8_299 sh_1 rfl (by decide) (by decide) (Nat.le_of_ble_eq_true rfl) (tX8_weekToAsk l hp4  h) (fun r5 μ5 hp5 h => ?_)
    exact qa_iret rfl dX8_ask_26 ⟨rfl, rfl⟩ ⟨rfl, hp5, _, rfl, h⟩
  · have h := h.2 c2
    refine qa_ild2 dX8_ask_10 ?_
    exact qa_iret rfl dX8_ask_11 ⟨rfl, rfl⟩ ⟨rfl, hp1, _, rfl, h⟩
def wX8_at (n : Nat) (v1 : Int32) (v2 : Int32) (μ0 : qa_M) (Q : Int32 → qa_M → Prop) : Prop := wX8_isHouse n v1 μ0 (fun r1 μ1 => ((r1 = 0 → Q (-2 : Int32) μ1) ∧ (¬ r1 = 0 → wX8_isWeek n v2 μ1 (fun r3 μ3 => ((r3 = 0 → Q (-2 : Int32) μ3) ∧ (¬ r3 = 0 → wX7_spot n 32 v1 v2 μ3 (fun r5 μ5 => Q r5 μ5)))))))
theorem tX8_at (l : Launch) {n : Nat} {v1 : Int32} {v2 : Int32} {μ0 : qa_M} {Q : Int32 → qa_M → Prop} (hp0 : qa_PP μ0.2.2)  (h : wX8_at n v1 v2 μ0 Q) : qa_Met l yX8_at cX8_at 3 (some .int) 2 0 0 [.ref 1, .int v1, .int v2] 113 μ0 (qa_pI Q) := by
  refine qa_ofG (by decide) (Nat.le_of_ble_eq_true rfl) ?_
  unfold wX8_at at h
  change qa_G l yX8_at cX8_at 3 (some .int) 2 0 0 (qa_pI Q) 0 0 0 [some (.ref 1), some (.int v1), some (.int v2)] [] 113 μ0
  refine qa_ald0 dX8_at_0 ?_
  refine qa_ild1 dX8_at_1 ?_
  refine qa_V1I dX8_at_2 lm_X8_103 sh_1 rfl (by decide) (by decide) (Nat.le_of_ble_eq_true rfl) (tX8_isHouse l hp0  h) (fun r1 μ1 hp1 h => ?_)
  refine qa_if_eq (tgt := 28) dX8_at_5 (by decide) (fun c2 => ?_) (fun c2 => ?_)
  · have h := h.1 c2
    refine qa_bipush (v := -2) dX8_at_28 (by decide) ?_
    exact qa_iret rfl dX8_at_30 ⟨rfl, rfl⟩ ⟨rfl, hp1, _, rfl, h⟩
  · have h := h.2 c2
    refine qa_ald0 dX8_at_8 ?_
    refine qa_ild2 dX8_at_9 ?_
    refine qa_V1I dX8_at_10 lm_X8_152 sh_1 rfl (by decide) (by decide) (Nat.le_of_ble_eq_true rfl) (tX8_isWeek l hp1  h) (fun r3 μ3 hp3 h => ?_)
    refine qa_if_eq (tgt := 28) dX8_at_13 (by decide) (fun c4 => ?_) (fun c4 => ?_)
    · have h := h.1 c4
      refine qa_bipush (v := -2) dX8_at_28 (by decide) ?_
      exact qa_iret rfl dX8_at_30 ⟨rfl, rfl⟩ ⟨rfl, hp3, _, rfl, h⟩
    · have h := h.2 c4
      refine qa_ald0 dX8_at_16 ?_
      refine qa_getR dX8_at_17 lf_X8_47 rfl sh_1 (by decide) (pp_1_9 hp3) (by decide) ?_
      refine qa_ild1 dX8_at_20 ?_
      refine qa_ild2 dX8_at_21 ?_
      refine qa_V2I dX8_at_22 lm_X8_155 (sy_0 (Or.inl rfl)) rfl (yle_0 (Or.inl rfl)) (by decide) (Nat.le_of_ble_eq_true rfl) (tX7_spot l hp3 (Or.inl rfl) h) (fun r5 μ5 hp5 h => ?_)
      refine qa_goto (tgt := 30) dX8_at_25 (by decide) ?_
      exact qa_iret rfl dX8_at_30 ⟨rfl, rfl⟩ ⟨rfl, hp5, _, rfl, h⟩
def wX8_back (n : Nat) (v1 : Int32) (μ0 : qa_M) (Q : Int32 → qa_M → Prop) : Prop := ((v1 < 0 → Q (-2 : Int32) μ0) ∧ (¬ v1 < 0 → ((v1 < (3 : Int32) → vp_in v1 3 ∧ ((¬ (μ0.1 29 v1.toNatClampNeg) = 0 → vp_in v1 3 ∧ wX6_copyFrom n (μ0.2.2 1 2) (47 + 12 * v1.toNatClampNeg) μ0 (fun μ5 => wX8_renew n  μ5 (fun μ6 => Q (0 : Int32) μ6))) ∧ ((μ0.1 29 v1.toNatClampNeg) = 0 → Q (-6 : Int32) μ0))) ∧ (¬ v1 < (3 : Int32) → Q (-2 : Int32) μ0))))
theorem tX8_back (l : Launch) {n : Nat} {v1 : Int32} {μ0 : qa_M} {Q : Int32 → qa_M → Prop} (hp0 : qa_PP μ0.2.2)  (h : wX8_back n v1 μ0 Q) : qa_Met l yX8_back cX8_back 2 (some .int) 5 0 0 [.ref 1, .int v1] 113 μ0 (qa_pI Q) := by
  refine qa_ofG (by decide) (Nat.le_of_ble_eq_true rfl) ?_
  unfold wX8_back at h
  change qa_G l yX8_back cX8_back 2 (some .int) 5 0 0 (qa_pI Q) 0 0 0 [some (.ref 1), some (.int v1)] [] 113 μ0
  refine qa_ild1 dX8_back_0 ?_
  refine qa_if_lt (tgt := 9) dX8_back_1 (by decide) (fun c1 => ?_) (fun c1 => ?_)
  · have h := h.1 c1
    refine qa_bipush (v := -2) dX8_back_9 (by decide) ?_
    exact qa_iret rfl dX8_back_11 ⟨rfl, rfl⟩ ⟨rfl, hp0, _, rfl, h⟩
  · have h := h.2 c1
    refine qa_ild1 dX8_back_4 ?_
    refine qa_iconst (v := 3) dX8_back_5 (by decide) ?_
    refine qa_icmp_lt (tgt := 12) dX8_back_6 (by decide) (fun c2 => ?_) (fun c2 => ?_)
    · have h := h.1 c2
      refine qa_ald0 dX8_back_12 ?_
      refine qa_getR dX8_back_13 lf_X8_27 rfl sh_1 (by decide) (pp_1_6 hp0) (by decide) ?_
      refine qa_ild1 dX8_back_16 ?_
      refine qa_zald dX8_back_17 sh_29 (by decide) h.1 ?_
      have h := h.2
      refine qa_if_ne (tgt := 24) dX8_back_18 (by decide) (fun c3 => ?_) (fun c3 => ?_)
      · have h := h.1 c3
        refine qa_ald0 dX8_back_24 ?_
        refine qa_getR dX8_back_25 lf_X8_19 rfl sh_1 (by decide) rfl (qa_tw0 hp0.2.1) ?_
        refine qa_ald0 dX8_back_28 ?_
        refine qa_getR dX8_back_29 lf_X8_23 rfl sh_1 (by decide) (pp_1_5 hp0) (by decide) ?_
        refine qa_ild1 dX8_back_32 ?_
        have b4 := h.1
        have h := h.2
        refine qa_aald (t := 5) dX8_back_33 sh_28 rfl (by decide) b4 (pim hp0 b4) (qa_tw0 (qa_twi b4)) ?_
        refine qa_V1V dX8_back_34 lm_X8_428 (st_0 hp0.2.1) rfl (tle_0 hp0.2.1) (by decide) (Nat.le_of_ble_eq_true rfl) (tX6_copyFrom l hp0 hp0.2.1 (qa_twi b4) h) (fun μ5 hp5 h => ?_)
        refine qa_ald0 dX8_back_37 ?_
        refine qa_V0V dX8_back_38 lm_X8_94 sh_1 rfl (by decide) (by decide) (Nat.le_of_ble_eq_true rfl) (tX8_renew l hp5  h) (fun μ6 hp6 h => ?_)
        refine qa_iconst (v := 0) dX8_back_41 (by decide) ?_
        exact qa_iret rfl dX8_back_42 ⟨rfl, rfl⟩ ⟨rfl, hp6, _, rfl, h⟩
      · have h := h.2 c3
        refine qa_bipush (v := -6) dX8_back_21 (by decide) ?_
        exact qa_iret rfl dX8_back_23 ⟨rfl, rfl⟩ ⟨rfl, hp0, _, rfl, h⟩
    · have h := h.2 c2
      refine qa_bipush (v := -2) dX8_back_9 (by decide) ?_
      exact qa_iret rfl dX8_back_11 ⟨rfl, rfl⟩ ⟨rfl, hp0, _, rfl, h⟩
def wX8_backHomeBits_4 : Nat → Int32 → Int32 → Int32 → qa_M → (Int32 → qa_M → Prop) → Prop
  | 0, _, _, _, _, _ => False
  | n + 1, v1, v2, v3, μ0, Q => (((μ0.1 (μ0.2.2 1 2) 5) ≤ v3 → Q v2 μ0) ∧ (¬ (μ0.1 (μ0.2.2 1 2) 5) ≤ v3 → wX7_spot n 32 v3 v1 μ0 (fun r2 μ2 => wX7_spot n 32 v3 (0 : Int32) μ2 (fun r3 μ3 => ((¬ r2 = r3 → wX8_backHomeBits_4 n v1 v2 (v3 + (1 : Int32)) μ3 Q) ∧ (r2 = r3 → ∀ x5, x5 = (v2 ||| ((1 : Int32) <<< (v3 &&& 31))) → wX8_backHomeBits_4 n v1 x5 (v3 + (1 : Int32)) μ3 Q))))))
def wX8_backHomeBits (n : Nat) (v1 : Int32) (μ0 : qa_M) (Q : Int32 → qa_M → Prop) : Prop := wX8_backHomeBits_4 n v1 (0 : Int32) (0 : Int32) μ0  Q
theorem tX8_backHomeBits_4 (l : Launch)  {Q : Int32 → qa_M → Prop}  : ∀ (n : Nat) (v1 : Int32) (v2 : Int32) (v3 : Int32) (μ0 : qa_M), qa_PP μ0.2.2 → wX8_backHomeBits_4 n v1 v2 v3 μ0  Q → qa_G l yX8_backHomeBits cX8_backHomeBits 4 (some .int) 1 0 0 (qa_pI Q) 0 0 4 [some (.ref 1), some (.int v1), some (.int v2), some (.int v3)] [] 113 μ0 := by
  intro n
  induction n with
  | zero =>
    intro v1 v2 v3 μ0 hp0  h
    rw [wX8_backHomeBits_4] at h
    exact h.elim
  | succ n ih =>
    intro v1 v2 v3 μ0 hp0  h
    rw [wX8_backHomeBits_4] at h
    refine qa_ild3 dX8_backHomeBits_4 ?_
    refine qa_ald0 dX8_backHomeBits_5 ?_
    refine qa_getR dX8_backHomeBits_6 lf_X8_19 rfl sh_1 (by decide) rfl (qa_tw0 hp0.2.1) ?_
    refine qa_getI dX8_backHomeBits_9 lf_X8_158 (Or.inl rfl) (st_0 hp0.2.1) (tle_0 hp0.2.1) ?_
    refine qa_icmp_ge (tgt := 48) dX8_backHomeBits_12 (by decide) (fun c1 => ?_) (fun c1 => ?_)
    · have h := h.1 c1
      refine qa_ild2 dX8_backHomeBits_48 ?_
      exact qa_iret rfl dX8_backHomeBits_49 ⟨rfl, rfl⟩ ⟨rfl, hp0, _, rfl, h⟩
    · have h := h.2 c1
      refine qa_ald0 dX8_backHomeBits_15 ?_
      refine qa_getR dX8_backHomeBits_16 lf_X8_47 rfl sh_1 (by decide) (pp_1_9 hp0) (by decide) ?_
      refine qa_ild3 dX8_backHomeBits_19 ?_
      refine qa_ild1 dX8_backHomeBits_20 ?_
      refine qa_V2I dX8_backHomeBits_21 lm_X8_155 (sy_0 (Or.inl rfl)) rfl (yle_0 (Or.inl rfl)) (by decide) (Nat.le_of_ble_eq_true rfl) (tX7_spot l hp0 (Or.inl rfl) h) (fun r2 μ2 hp2 h => ?_)
      refine qa_ald0 dX8_backHomeBits_24 ?_
      refine qa_getR dX8_backHomeBits_25 lf_X8_47 rfl sh_1 (by decide) (pp_1_9 hp2) (by decide) ?_
      refine qa_ild3 dX8_backHomeBits_28 ?_
      refine qa_iconst (v := 0) dX8_backHomeBits_29 (by decide) ?_
      refine qa_V2I dX8_backHomeBits_30 lm_X8_155 (sy_0 (Or.inl rfl)) rfl (yle_0 (Or.inl rfl)) (by decide) (Nat.le_of_ble_eq_true rfl) (tX7_spot l hp2 (Or.inl rfl) h) (fun r3 μ3 hp3 h => ?_)
      refine qa_icmp_ne (tgt := 42) dX8_backHomeBits_33 (by decide) (fun c4 => ?_) (fun c4 => ?_)
      · have h := h.1 c4
        refine qa_inc3 dX8_backHomeBits_42 (qa_io1 _) ?_
        refine qa_goto (tgt := 4) dX8_backHomeBits_45 (by decide) ?_
        refine qa_fgt (L' := [some (.ref 1), some (.int v1), some (.int v2), some (.int (v3 + (1 : Int32)))]) (⟨rfl, ⟨rfl, ⟨rfl, ⟨rfl, trivial⟩⟩⟩⟩) ?_
        exact ih v1 v2 (v3 + (1 : Int32)) μ3 hp3  h
      · have h := h.2 c4
        refine qa_ild2 dX8_backHomeBits_36 ?_
        refine qa_iconst (v := 1) dX8_backHomeBits_37 (by decide) ?_
        refine qa_ild3 dX8_backHomeBits_38 ?_
        refine qa_ishl dX8_backHomeBits_39 ?_
        refine qa_ior dX8_backHomeBits_40 ?_
        refine qa_nmI (fun x5 e5 => ?_)
        have h := h x5 e5
        refine qa_ist2 dX8_backHomeBits_41 ?_
        refine qa_inc3 dX8_backHomeBits_42 (qa_io1 _) ?_
        refine qa_goto (tgt := 4) dX8_backHomeBits_45 (by decide) ?_
        refine qa_fgt (L' := [some (.ref 1), some (.int v1), some (.int x5), some (.int (v3 + (1 : Int32)))]) (⟨rfl, ⟨rfl, ⟨rfl, ⟨rfl, trivial⟩⟩⟩⟩) ?_
        exact ih v1 x5 (v3 + (1 : Int32)) μ3 hp3  h
theorem tX8_backHomeBits (l : Launch) {n : Nat} {v1 : Int32} {μ0 : qa_M} {Q : Int32 → qa_M → Prop} (hp0 : qa_PP μ0.2.2)  (h : wX8_backHomeBits n v1 μ0 Q) : qa_Met l yX8_backHomeBits cX8_backHomeBits 4 (some .int) 1 0 0 [.ref 1, .int v1] 113 μ0 (qa_pI Q) := by
  refine qa_ofG (by decide) (Nat.le_of_ble_eq_true rfl) ?_
  unfold wX8_backHomeBits at h
  change qa_G l yX8_backHomeBits cX8_backHomeBits 4 (some .int) 1 0 0 (qa_pI Q) 0 0 0 [some (.ref 1), some (.int v1), none, none] [] 113 μ0
  refine qa_iconst (v := 0) dX8_backHomeBits_0 (by decide) ?_
  refine qa_ist2 dX8_backHomeBits_1 ?_
  refine qa_iconst (v := 0) dX8_backHomeBits_2 (by decide) ?_
  refine qa_ist3 dX8_backHomeBits_3 ?_
  refine qa_fgt (L' := [some (.ref 1), some (.int v1), some (.int (0 : Int32)), some (.int (0 : Int32))]) (⟨rfl, ⟨rfl, ⟨rfl, ⟨rfl, trivial⟩⟩⟩⟩) ?_
  refine tX8_backHomeBits_4 l  n v1 (0 : Int32) (0 : Int32) μ0 hp0  h
def wX8_backs_14 : Nat → Int32 → Int32 → qa_M → (Int32 → qa_M → Prop) → Prop
  | 0, _, _, _, _ => False
  | n + 1, v1, v2, μ0, Q => (((μ0.1 (μ0.2.2 1 2) 1) ≤ v2 → Q v1 μ0) ∧ (¬ (μ0.1 (μ0.2.2 1 2) 1) ≤ v2 → vp_in v2 20 ∧ ((0 ≤ (μ0.1 36 v2.toNatClampNeg) → wX8_backs_14 n v1 (v2 + (1 : Int32)) μ0 Q) ∧ (¬ 0 ≤ (μ0.1 36 v2.toNatClampNeg) → wX8_backs_14 n (v1 + (1 : Int32)) (v2 + (1 : Int32)) μ0 Q))))
def wX8_backs (n : Nat)  (μ0 : qa_M) (Q : Int32 → qa_M → Prop) : Prop := wX8_hasTown n  μ0 (fun r1 μ1 => ((¬ r1 = 0 → wX8_backs_14 n (0 : Int32) (0 : Int32) μ1  Q) ∧ (r1 = 0 → Q (-2 : Int32) μ1)))
theorem tX8_backs_14 (l : Launch)  {Q : Int32 → qa_M → Prop}  : ∀ (n : Nat) (v1 : Int32) (v2 : Int32) (μ0 : qa_M), qa_PP μ0.2.2 → wX8_backs_14 n v1 v2 μ0  Q → qa_G l yX8_backs cX8_backs 3 (some .int) 1 0 0 (qa_pI Q) 0 0 14 [some (.ref 1), some (.int v1), some (.int v2)] [] 113 μ0 := by
  intro n
  induction n with
  | zero =>
    intro v1 v2 μ0 hp0  h
    rw [wX8_backs_14] at h
    exact h.elim
  | succ n ih =>
    intro v1 v2 μ0 hp0  h
    rw [wX8_backs_14] at h
    refine qa_ild2 dX8_backs_14 ?_
    refine qa_ald0 dX8_backs_15 ?_
    refine qa_getR dX8_backs_16 lf_X8_19 rfl sh_1 (by decide) rfl (qa_tw0 hp0.2.1) ?_
    refine qa_getI dX8_backs_19 lf_X8_145 (Or.inl rfl) (st_0 hp0.2.1) (tle_0 hp0.2.1) ?_
    refine qa_icmp_ge (tgt := 46) dX8_backs_22 (by decide) (fun c3 => ?_) (fun c3 => ?_)
    · have h := h.1 c3
      refine qa_ild1 dX8_backs_46 ?_
      exact qa_iret rfl dX8_backs_47 ⟨rfl, rfl⟩ ⟨rfl, hp0, _, rfl, h⟩
    · have h := h.2 c3
      refine qa_ald0 dX8_backs_25 ?_
      refine qa_getR dX8_backs_26 lf_X8_47 rfl sh_1 (by decide) (pp_1_9 hp0) (by decide) ?_
      refine qa_getR dX8_backs_29 lf_X8_174 rfl (sy_0 (Or.inl rfl)) (yle_0 (Or.inl rfl)) (pp_32_3 hp0) (by decide) ?_
      refine qa_ild2 dX8_backs_32 ?_
      refine qa_iald dX8_backs_33 sh_36 (by decide) h.1 ?_
      have h := h.2
      refine qa_if_ge (tgt := 40) dX8_backs_34 (by decide) (fun c4 => ?_) (fun c4 => ?_)
      · have h := h.1 c4
        refine qa_inc2 dX8_backs_40 (qa_io1 _) ?_
        refine qa_goto (tgt := 14) dX8_backs_43 (by decide) ?_
        refine qa_fgt (L' := [some (.ref 1), some (.int v1), some (.int (v2 + (1 : Int32)))]) (⟨rfl, ⟨rfl, ⟨rfl, trivial⟩⟩⟩) ?_
        exact ih v1 (v2 + (1 : Int32)) μ0 hp0  h
      · have h := h.2 c4
        refine qa_inc1 dX8_backs_37 (qa_io1 _) ?_
        refine qa_inc2 dX8_backs_40 (qa_io1 _) ?_
        refine qa_goto (tgt := 14) dX8_backs_43 (by decide) ?_
        refine qa_fgt (L' := [some (.ref 1), some (.int (v1 + (1 : Int32))), some (.int (v2 + (1 : Int32)))]) (⟨rfl, ⟨rfl, ⟨rfl, trivial⟩⟩⟩) ?_
        exact ih (v1 + (1 : Int32)) (v2 + (1 : Int32)) μ0 hp0  h
theorem tX8_backs (l : Launch) {n : Nat}  {μ0 : qa_M} {Q : Int32 → qa_M → Prop} (hp0 : qa_PP μ0.2.2)  (h : wX8_backs n  μ0 Q) : qa_Met l yX8_backs cX8_backs 3 (some .int) 1 0 0 [.ref 1] 113 μ0 (qa_pI Q) := by
  refine qa_ofG (by decide) (Nat.le_of_ble_eq_true rfl) ?_
  unfold wX8_backs at h
  change qa_G l yX8_backs cX8_backs 3 (some .int) 1 0 0 (qa_pI Q) 0 0 0 [some (.ref 1), none, none] [] 113 μ0
  refine qa_ald0 dX8_backs_0 ?_
  refine qa_V0I dX8_backs_1 lm_X8_138 sh_1 rfl (by decide) (by decide) (Nat.le_of_ble_eq_true rfl) (tX8_hasTown l hp0  h) (fun r1 μ1 hp1 h => ?_)
  refine qa_if_ne (tgt := 10) dX8_backs_4 (by decide) (fun c2 => ?_) (fun c2 => ?_)
  · have h := h.1 c2
    refine qa_iconst (v := 0) dX8_backs_10 (by decide) ?_
    refine qa_ist1 dX8_backs_11 ?_
    refine qa_iconst (v := 0) dX8_backs_12 (by decide) ?_
    refine qa_ist2 dX8_backs_13 ?_
    refine qa_fgt (L' := [some (.ref 1), some (.int (0 : Int32)), some (.int (0 : Int32))]) (⟨rfl, ⟨rfl, ⟨rfl, trivial⟩⟩⟩) ?_
    refine tX8_backs_14 l  n (0 : Int32) (0 : Int32) μ1 hp1  h
  · have h := h.2 c2
    refine qa_bipush (v := -2) dX8_backs_7 (by decide) ?_
    exact qa_iret rfl dX8_backs_9 ⟨rfl, rfl⟩ ⟨rfl, hp1, _, rfl, h⟩
def wX8_isPair (n : Nat) (v1 : Int32) (v2 : Int32) (μ0 : qa_M) (Q : Int32 → qa_M → Prop) : Prop := wX8_isHouse n v1 μ0 (fun r1 μ1 => ((r1 = 0 → Q (0 : Int32) μ1) ∧ (¬ r1 = 0 → wX8_isHouse n v2 μ1 (fun r3 μ3 => ((r3 = 0 → Q (0 : Int32) μ3) ∧ (¬ r3 = 0 → ((v1 = v2 → Q (0 : Int32) μ3) ∧ (¬ v1 = v2 → Q (1 : Int32) μ3))))))))
theorem tX8_isPair (l : Launch) {n : Nat} {v1 : Int32} {v2 : Int32} {μ0 : qa_M} {Q : Int32 → qa_M → Prop} (hp0 : qa_PP μ0.2.2)  (h : wX8_isPair n v1 v2 μ0 Q) : qa_Met l yX8_isPair cX8_isPair 3 (some .boolean) 1 0 0 [.ref 1, .int v1, .int v2] 113 μ0 (qa_pI Q) := by
  refine qa_ofG (by decide) (Nat.le_of_ble_eq_true rfl) ?_
  unfold wX8_isPair at h
  change qa_G l yX8_isPair cX8_isPair 3 (some .boolean) 1 0 0 (qa_pI Q) 0 0 0 [some (.ref 1), some (.int v1), some (.int v2)] [] 113 μ0
  refine qa_ald0 dX8_isPair_0 ?_
  refine qa_ild1 dX8_isPair_1 ?_
  refine qa_V1I dX8_isPair_2 lm_X8_103 sh_1 rfl (by decide) (by decide) (Nat.le_of_ble_eq_true rfl) (tX8_isHouse l hp0  h) (fun r1 μ1 hp1 h => ?_)
  refine qa_if_eq (tgt := 25) dX8_isPair_5 (by decide) (fun c2 => ?_) (fun c2 => ?_)
  · have h := h.1 c2
    refine qa_iconst (v := 0) dX8_isPair_25 (by decide) ?_
    exact qa_zret rfl rfl dX8_isPair_26 ⟨rfl, rfl⟩ ⟨rfl, hp1, _, rfl, h⟩
  · have h := h.2 c2
    refine qa_ald0 dX8_isPair_8 ?_
    refine qa_ild2 dX8_isPair_9 ?_
    refine qa_V1I dX8_isPair_10 lm_X8_103 sh_1 rfl (by decide) (by decide) (Nat.le_of_ble_eq_true rfl) (tX8_isHouse l hp1  h) (fun r3 μ3 hp3 h => ?_)
    refine qa_if_eq (tgt := 25) dX8_isPair_13 (by decide) (fun c4 => ?_) (fun c4 => ?_)
    · have h := h.1 c4
      refine qa_iconst (v := 0) dX8_isPair_25 (by decide) ?_
      exact qa_zret rfl rfl dX8_isPair_26 ⟨rfl, rfl⟩ ⟨rfl, hp3, _, rfl, h⟩
    · have h := h.2 c4
      refine qa_ild1 dX8_isPair_16 ?_
      refine qa_ild2 dX8_isPair_17 ?_
      refine qa_icmp_eq (tgt := 25) dX8_isPair_18 (by decide) (fun c5 => ?_) (fun c5 => ?_)
      · have h := h.1 c5
        refine qa_iconst (v := 0) dX8_isPair_25 (by decide) ?_
        exact qa_zret rfl rfl dX8_isPair_26 ⟨rfl, rfl⟩ ⟨rfl, hp3, _, rfl, h⟩
      · have h := h.2 c5
        refine qa_iconst (v := 1) dX8_isPair_21 (by decide) ?_
        refine qa_goto (tgt := 26) dX8_isPair_22 (by decide) ?_
        exact qa_zret rfl rfl dX8_isPair_26 ⟨rfl, rfl⟩ ⟨rfl, hp3, _, rfl, h⟩
def wX8_beside_14 : Nat → Int32 → Int32 → Int32 → qa_M → (Int32 → qa_M → Prop) → Prop
  | 0, _, _, _, _, _ => False
  | n + 1, v1, v2, v3, μ0, Q => (((μ0.1 (μ0.2.2 1 2) 1) < v3 → Q (-1 : Int32) μ0) ∧ (¬ (μ0.1 (μ0.2.2 1 2) 1) < v3 → wX8_distance n v1 v2 v3 μ0 (fun r4 μ4 => ((r4 = (1 : Int32) → Q v3 μ4) ∧ (¬ r4 = (1 : Int32) → ((¬ r4 = ((μ4.1 (μ4.2.2 1 2) 5) - (1 : Int32)) → wX8_beside_14 n v1 v2 (v3 + (1 : Int32)) μ4 Q) ∧ (r4 = ((μ4.1 (μ4.2.2 1 2) 5) - (1 : Int32)) → Q v3 μ4)))))))
def wX8_beside (n : Nat) (v1 : Int32) (v2 : Int32) (μ0 : qa_M) (Q : Int32 → qa_M → Prop) : Prop := wX8_isPair n v1 v2 μ0 (fun r1 μ1 => ((¬ r1 = 0 → wX8_beside_14 n v1 v2 (0 : Int32) μ1  Q) ∧ (r1 = 0 → Q (-2 : Int32) μ1)))
theorem tX8_beside_14 (l : Launch)  {Q : Int32 → qa_M → Prop}  : ∀ (n : Nat) (v1 : Int32) (v2 : Int32) (v3 : Int32) (μ0 : qa_M), qa_PP μ0.2.2 → wX8_beside_14 n v1 v2 v3 μ0  Q → qa_G l yX8_beside cX8_beside 5 (some .int) 3 0 0 (qa_pI Q) 0 0 14 [some (.ref 1), some (.int v1), some (.int v2), some (.int v3), none] [] 113 μ0 := by
  intro n
  induction n with
  | zero =>
    intro v1 v2 v3 μ0 hp0  h
    rw [wX8_beside_14] at h
    exact h.elim
  | succ n ih =>
    intro v1 v2 v3 μ0 hp0  h
    rw [wX8_beside_14] at h
    refine qa_ild3 dX8_beside_14 ?_
    refine qa_ald0 dX8_beside_15 ?_
    refine qa_getR dX8_beside_16 lf_X8_19 rfl sh_1 (by decide) rfl (qa_tw0 hp0.2.1) ?_
    refine qa_getI dX8_beside_19 lf_X8_145 (Or.inl rfl) (st_0 hp0.2.1) (tle_0 hp0.2.1) ?_
    refine qa_icmp_gt (tgt := 62) dX8_beside_22 (by decide) (fun c3 => ?_) (fun c3 => ?_)
    · have h := h.1 c3
      refine qa_iconst (v := -1) dX8_beside_62 (by decide) ?_
      exact qa_iret rfl dX8_beside_63 ⟨rfl, rfl⟩ ⟨rfl, hp0, _, rfl, h⟩
    · have h := h.2 c3
      refine qa_ald0 dX8_beside_25 ?_
      refine qa_ild1 dX8_beside_26 ?_
      refine qa_ild2 dX8_beside_27 ?_
      refine qa_ild3 dX8_beside_28 ?_
      refine qa_V3I dX8_beside_29 lm_X8_199 sh_1 rfl (by decide) (by decide) (Nat.le_of_ble_eq_true rfl) (tX8_distance l hp0  h) (fun r4 μ4 hp4 h => ?_)
      refine qa_ist4 dX8_beside_32 ?_
      refine qa_ild4 dX8_beside_34 ?_
      refine qa_iconst (v := 1) dX8_beside_36 (by decide) ?_
      refine qa_icmp_eq (tgt := 54) dX8_beside_37 (by decide) (fun c5 => ?_) (fun c5 => ?_)
      · have h := h.1 c5
        refine qa_ild3 dX8_beside_54 ?_
        exact qa_iret rfl dX8_beside_55 ⟨rfl, rfl⟩ ⟨rfl, hp4, _, rfl, h⟩
      · have h := h.2 c5
        refine qa_ild4 dX8_beside_40 ?_
        refine qa_ald0 dX8_beside_42 ?_
        refine qa_getR dX8_beside_43 lf_X8_19 rfl sh_1 (by decide) rfl (qa_tw0 hp4.2.1) ?_
        refine qa_getI dX8_beside_46 lf_X8_158 (Or.inl rfl) (st_0 hp4.2.1) (tle_0 hp4.2.1) ?_
        refine qa_iconst (v := 1) dX8_beside_49 (by decide) ?_
        refine qa_isub dX8_beside_50 ?_
        refine qa_icmp_ne (tgt := 56) dX8_beside_51 (by decide) (fun c6 => ?_) (fun c6 => ?_)
        · have h := h.1 c6
          refine qa_inc3 dX8_beside_56 (qa_io1 _) ?_
          refine qa_goto (tgt := 14) dX8_beside_59 (by decide) ?_
          refine qa_fgt (L' := [some (.ref 1), some (.int v1), some (.int v2), some (.int (v3 + (1 : Int32))), none]) (⟨rfl, ⟨rfl, ⟨rfl, ⟨rfl, trivial⟩⟩⟩⟩) ?_
          exact ih v1 v2 (v3 + (1 : Int32)) μ4 hp4  h
        · have h := h.2 c6
          refine qa_ild3 dX8_beside_54 ?_
          exact qa_iret rfl dX8_beside_55 ⟨rfl, rfl⟩ ⟨rfl, hp4, _, rfl, h⟩
theorem tX8_beside (l : Launch) {n : Nat} {v1 : Int32} {v2 : Int32} {μ0 : qa_M} {Q : Int32 → qa_M → Prop} (hp0 : qa_PP μ0.2.2)  (h : wX8_beside n v1 v2 μ0 Q) : qa_Met l yX8_beside cX8_beside 5 (some .int) 3 0 0 [.ref 1, .int v1, .int v2] 113 μ0 (qa_pI Q) := by
  refine qa_ofG (by decide) (Nat.le_of_ble_eq_true rfl) ?_
  unfold wX8_beside at h
  change qa_G l yX8_beside cX8_beside 5 (some .int) 3 0 0 (qa_pI Q) 0 0 0 [some (.ref 1), some (.int v1), some (.int v2), none, none] [] 113 μ0
  refine qa_ald0 dX8_beside_0 ?_
  refine qa_ild1 dX8_beside_1 ?_
  refine qa_ild2 dX8_beside_2 ?_
  refine qa_V2I dX8_beside_3 lm_X8_202 sh_1 rfl (by decide) (by decide) (Nat.le_of_ble_eq_true rfl) (tX8_isPair l hp0  h) (fun r1 μ1 hp1 h => ?_)
  refine qa_if_ne (tgt := 12) dX8_beside_6 (by decide) (fun c2 => ?_) (fun c2 => ?_)
  · have h := h.1 c2
    refine qa_iconst (v := 0) dX8_beside_12 (by decide) ?_
    refine qa_ist3 dX8_beside_13 ?_
    refine qa_fgt (L' := [some (.ref 1), some (.int v1), some (.int v2), some (.int (0 : Int32)), none]) (⟨rfl, ⟨rfl, ⟨rfl, ⟨rfl, trivial⟩⟩⟩⟩) ?_
    refine tX8_beside_14 l  n v1 v2 (0 : Int32) μ1 hp1  h
  · have h := h.2 c2
    refine qa_bipush (v := -2) dX8_beside_9 (by decide) ?_
    exact qa_iret rfl dX8_beside_11 ⟨rfl, rfl⟩ ⟨rfl, hp1, _, rfl, h⟩
def wX8_best_15 : Nat → Int32 → Int32 → Int32 → qa_M → (Int32 → qa_M → Prop) → Prop
  | 0, _, _, _, _, _ => False
  | n + 1, v1, v2, v3, μ0, Q => (((μ0.1 (μ0.2.2 1 2) 1) < v3 → Q v2 μ0) ∧ (¬ (μ0.1 (μ0.2.2 1 2) 1) < v3 → wX7_spot n 32 v1 v3 μ0 (fun r4 μ4 => vp_in r4 8 ∧ wX7_spot n 32 v1 v2 μ4 (fun r5 μ5 => vp_in r5 8 ∧ (((μ4.1 ((μ0.2.2 1 2) + 2) r4.toNatClampNeg) ≤ (μ5.1 ((μ4.2.2 1 2) + 2) r5.toNatClampNeg) → wX8_best_15 n v1 v2 (v3 + (1 : Int32)) μ5 Q) ∧ (¬ (μ4.1 ((μ0.2.2 1 2) + 2) r4.toNatClampNeg) ≤ (μ5.1 ((μ4.2.2 1 2) + 2) r5.toNatClampNeg) → wX8_best_15 n v1 v3 (v3 + (1 : Int32)) μ5 Q))))))
def wX8_best (n : Nat) (v1 : Int32) (μ0 : qa_M) (Q : Int32 → qa_M → Prop) : Prop := wX8_isHouse n v1 μ0 (fun r1 μ1 => ((¬ r1 = 0 → wX8_best_15 n v1 (0 : Int32) (1 : Int32) μ1  Q) ∧ (r1 = 0 → Q (-2 : Int32) μ1)))
theorem tX8_best_15 (l : Launch)  {Q : Int32 → qa_M → Prop}  : ∀ (n : Nat) (v1 : Int32) (v2 : Int32) (v3 : Int32) (μ0 : qa_M), qa_PP μ0.2.2 → wX8_best_15 n v1 v2 v3 μ0  Q → qa_G l yX8_best cX8_best 4 (some .int) 1 0 0 (qa_pI Q) 0 0 15 [some (.ref 1), some (.int v1), some (.int v2), some (.int v3)] [] 113 μ0 := by
  intro n
  induction n with
  | zero =>
    intro v1 v2 v3 μ0 hp0  h
    rw [wX8_best_15] at h
    exact h.elim
  | succ n ih =>
    intro v1 v2 v3 μ0 hp0  h
    rw [wX8_best_15] at h
    refine qa_ild3 dX8_best_15 ?_
    refine qa_ald0 dX8_best_16 ?_
    refine qa_getR dX8_best_17 lf_X8_19 rfl sh_1 (by decide) rfl (qa_tw0 hp0.2.1) ?_
    refine qa_getI dX8_best_20 lf_X8_145 (Or.inl rfl) (st_0 hp0.2.1) (tle_0 hp0.2.1) ?_
    refine qa_icmp_gt (tgt := 71) dX8_best_23 (by decide) (fun c3 => ?_) (fun c3 => ?_)
    · have h := h.1 c3
      refine qa_ild2 dX8_best_71 ?_
      exact qa_iret rfl dX8_best_72 ⟨rfl, rfl⟩ ⟨rfl, hp0, _, rfl, h⟩
    · have h := h.2 c3
      refine qa_ald0 dX8_best_26 ?_
      refine qa_getR dX8_best_27 lf_X8_19 rfl sh_1 (by decide) rfl (qa_tw0 hp0.2.1) ?_
      refine qa_getR dX8_best_30 lf_X8_120 rfl (st_0 hp0.2.1) (tle_0 hp0.2.1) (pt_12 hp0 hp0.2.1) (Nat.succ_pos _) ?_
      refine qa_ald0 dX8_best_33 ?_
      refine qa_getR dX8_best_34 lf_X8_47 rfl sh_1 (by decide) (pp_1_9 hp0) (by decide) ?_
      refine qa_ild1 dX8_best_37 ?_
      refine qa_ild3 dX8_best_38 ?_
      refine qa_V2I dX8_best_39 lm_X8_155 (sy_0 (Or.inl rfl)) rfl (yle_0 (Or.inl rfl)) (by decide) (Nat.le_of_ble_eq_true rfl) (tX7_spot l hp0 (Or.inl rfl) h) (fun r4 μ4 hp4 h => ?_)
      refine qa_iald dX8_best_42 (st_2 hp0.2.1) (tle_2 hp0.2.1) h.1 ?_
      have h := h.2
      refine qa_ald0 dX8_best_43 ?_
      refine qa_getR dX8_best_44 lf_X8_19 rfl sh_1 (by decide) rfl (qa_tw0 hp4.2.1) ?_
      refine qa_getR dX8_best_47 lf_X8_120 rfl (st_0 hp4.2.1) (tle_0 hp4.2.1) (pt_12 hp4 hp4.2.1) (Nat.succ_pos _) ?_
      refine qa_ald0 dX8_best_50 ?_
      refine qa_getR dX8_best_51 lf_X8_47 rfl sh_1 (by decide) (pp_1_9 hp4) (by decide) ?_
      refine qa_ild1 dX8_best_54 ?_
      refine qa_ild2 dX8_best_55 ?_
      refine qa_V2I dX8_best_56 lm_X8_155 (sy_0 (Or.inl rfl)) rfl (yle_0 (Or.inl rfl)) (by decide) (Nat.le_of_ble_eq_true rfl) (tX7_spot l hp4 (Or.inl rfl) h) (fun r5 μ5 hp5 h => ?_)
      refine qa_iald dX8_best_59 (st_2 hp4.2.1) (tle_2 hp4.2.1) h.1 ?_
      have h := h.2
      refine qa_icmp_le (tgt := 65) dX8_best_60 (by decide) (fun c6 => ?_) (fun c6 => ?_)
      · have h := h.1 c6
        refine qa_inc3 dX8_best_65 (qa_io1 _) ?_
        refine qa_goto (tgt := 15) dX8_best_68 (by decide) ?_
        refine qa_fgt (L' := [some (.ref 1), some (.int v1), some (.int v2), some (.int (v3 + (1 : Int32)))]) (⟨rfl, ⟨rfl, ⟨rfl, ⟨rfl, trivial⟩⟩⟩⟩) ?_
        exact ih v1 v2 (v3 + (1 : Int32)) μ5 hp5  h
      · have h := h.2 c6
        refine qa_ild3 dX8_best_63 ?_
        refine qa_ist2 dX8_best_64 ?_
        refine qa_inc3 dX8_best_65 (qa_io1 _) ?_
        refine qa_goto (tgt := 15) dX8_best_68 (by decide) ?_
        refine qa_fgt (L' := [some (.ref 1), some (.int v1), some (.int v3), some (.int (v3 + (1 : Int32)))]) (⟨rfl, ⟨rfl, ⟨rfl, ⟨rfl, trivial⟩⟩⟩⟩) ?_
        exact ih v1 v3 (v3 + (1 : Int32)) μ5 hp5  h
theorem tX8_best (l : Launch) {n : Nat} {v1 : Int32} {μ0 : qa_M} {Q : Int32 → qa_M → Prop} (hp0 : qa_PP μ0.2.2)  (h : wX8_best n v1 μ0 Q) : qa_Met l yX8_best cX8_best 4 (some .int) 1 0 0 [.ref 1, .int v1] 113 μ0 (qa_pI Q) := by
  refine qa_ofG (by decide) (Nat.le_of_ble_eq_true rfl) ?_
  unfold wX8_best at h
  change qa_G l yX8_best cX8_best 4 (some .int) 1 0 0 (qa_pI Q) 0 0 0 [some (.ref 1), some (.int v1), none, none] [] 113 μ0
  refine qa_ald0 dX8_best_0 ?_
  refine qa_ild1 dX8_best_1 ?_
  refine qa_V1I dX8_best_2 lm_X8_103 sh_1 rfl (by decide) (by decide) (Nat.le_of_ble_eq_true rfl) (tX8_isHouse l hp0  h) (fun r1 μ1 hp1 h => ?_)
  refine qa_if_ne (tgt := 11) dX8_best_5 (by decide) (fun c2 => ?_) (fun c2 => ?_)
  · have h := h.1 c2
    refine qa_iconst (v := 0) dX8_best_11 (by decide) ?_
    refine qa_ist2 dX8_best_12 ?_
    refine qa_iconst (v := 1) dX8_best_13 (by decide) ?_
    refine qa_ist3 dX8_best_14 ?_
    refine qa_fgt (L' := [some (.ref 1), some (.int v1), some (.int (0 : Int32)), some (.int (1 : Int32))]) (⟨rfl, ⟨rfl, ⟨rfl, ⟨rfl, trivial⟩⟩⟩⟩) ?_
    refine tX8_best_15 l  n v1 (0 : Int32) (1 : Int32) μ1 hp1  h
  · have h := h.2 c2
    refine qa_bipush (v := -2) dX8_best_8 (by decide) ?_
    exact qa_iret rfl dX8_best_10 ⟨rfl, rfl⟩ ⟨rfl, hp1, _, rfl, h⟩
def wX8_gainsSun (n : Nat) (v1 : Int32) (μ0 : qa_M) (Q : Int32 → qa_M → Prop) : Prop := wX7_sunTo n 37 (μ0.2.2 1 2) v1 (μ0.1 (μ0.2.2 1 2) 1) μ0 (fun r1 μ1 => wX7_sunTo n 32 (μ1.2.2 1 2) v1 (μ1.1 (μ1.2.2 1 2) 1) μ1 (fun r2 μ2 => ((r1 ≤ r2 → Q (0 : Int32) μ2) ∧ (¬ r1 ≤ r2 → Q (1 : Int32) μ2))))
theorem tX8_gainsSun (l : Launch) {n : Nat} {v1 : Int32} {μ0 : qa_M} {Q : Int32 → qa_M → Prop} (hp0 : qa_PP μ0.2.2)  (h : wX8_gainsSun n v1 μ0 Q) : qa_Met l yX8_gainsSun cX8_gainsSun 2 (some .boolean) 2 0 0 [.ref 1, .int v1] 113 μ0 (qa_pI Q) := by
  refine qa_ofG (by decide) (Nat.le_of_ble_eq_true rfl) ?_
  unfold wX8_gainsSun at h
  change qa_G l yX8_gainsSun cX8_gainsSun 2 (some .boolean) 2 0 0 (qa_pI Q) 0 0 0 [some (.ref 1), some (.int v1)] [] 113 μ0
  refine qa_ald0 dX8_gainsSun_0 ?_
  refine qa_getR dX8_gainsSun_1 lf_X8_51 rfl sh_1 (by decide) (pp_1_10 hp0) (by decide) ?_
  refine qa_ald0 dX8_gainsSun_4 ?_
  refine qa_getR dX8_gainsSun_5 lf_X8_19 rfl sh_1 (by decide) rfl (qa_tw0 hp0.2.1) ?_
  refine qa_ild1 dX8_gainsSun_8 ?_
  refine qa_ald0 dX8_gainsSun_9 ?_
  refine qa_getR dX8_gainsSun_10 lf_X8_19 rfl sh_1 (by decide) rfl (qa_tw0 hp0.2.1) ?_
  refine qa_getI dX8_gainsSun_13 lf_X8_145 (Or.inl rfl) (st_0 hp0.2.1) (tle_0 hp0.2.1) ?_
  refine qa_V3I dX8_gainsSun_16 lm_X8_185 (sy_0 (Or.inr rfl)) rfl (yle_0 (Or.inr rfl)) (by decide) (Nat.le_of_ble_eq_true rfl) (tX7_sunTo l hp0 (Or.inr rfl) hp0.2.1 h) (fun r1 μ1 hp1 h => ?_)
  refine qa_ald0 dX8_gainsSun_19 ?_
  refine qa_getR dX8_gainsSun_20 lf_X8_47 rfl sh_1 (by decide) (pp_1_9 hp1) (by decide) ?_
  refine qa_ald0 dX8_gainsSun_23 ?_
  refine qa_getR dX8_gainsSun_24 lf_X8_19 rfl sh_1 (by decide) rfl (qa_tw0 hp1.2.1) ?_
  refine qa_ild1 dX8_gainsSun_27 ?_
  refine qa_ald0 dX8_gainsSun_28 ?_
  refine qa_getR dX8_gainsSun_29 lf_X8_19 rfl sh_1 (by decide) rfl (qa_tw0 hp1.2.1) ?_
  refine qa_getI dX8_gainsSun_32 lf_X8_145 (Or.inl rfl) (st_0 hp1.2.1) (tle_0 hp1.2.1) ?_
  refine qa_V3I dX8_gainsSun_35 lm_X8_185 (sy_0 (Or.inl rfl)) rfl (yle_0 (Or.inl rfl)) (by decide) (Nat.le_of_ble_eq_true rfl) (tX7_sunTo l hp1 (Or.inl rfl) hp1.2.1 h) (fun r2 μ2 hp2 h => ?_)
  refine qa_icmp_le (tgt := 45) dX8_gainsSun_38 (by decide) (fun c3 => ?_) (fun c3 => ?_)
  · have h := h.1 c3
    refine qa_iconst (v := 0) dX8_gainsSun_45 (by decide) ?_
    exact qa_zret rfl rfl dX8_gainsSun_46 ⟨rfl, rfl⟩ ⟨rfl, hp2, _, rfl, h⟩
  · have h := h.2 c3
    refine qa_iconst (v := 1) dX8_gainsSun_41 (by decide) ?_
    refine qa_goto (tgt := 46) dX8_gainsSun_42 (by decide) ?_
    exact qa_zret rfl rfl dX8_gainsSun_46 ⟨rfl, rfl⟩ ⟨rfl, hp2, _, rfl, h⟩
def wX8_bothGain (n : Nat) (v1 : Int32) (v2 : Int32) (μ0 : qa_M) (Q : Int32 → qa_M → Prop) : Prop := wX1_asTold n (μ0.2.2 1 2) μ0 (fun μ1 => ∀ μ2, μ2 = qa_uI μ1 31 5 v1 → ∀ μ3, μ3 = qa_uI μ2 31 6 v2 → wX7_follow n 37 (μ3.2.2 1 2) μ3 (fun μ4 => wX8_gainsSun n v1 μ4 (fun r5 μ5 => ((r5 = 0 → Q (0 : Int32) μ5) ∧ (¬ r5 = 0 → wX8_gainsSun n v2 μ5 (fun r7 μ7 => ((r7 = 0 → Q (0 : Int32) μ7) ∧ (¬ r7 = 0 → Q (1 : Int32) μ7))))))))
theorem tX8_bothGain (l : Launch) {n : Nat} {v1 : Int32} {v2 : Int32} {μ0 : qa_M} {Q : Int32 → qa_M → Prop} (hp0 : qa_PP μ0.2.2)  (h : wX8_bothGain n v1 v2 μ0 Q) : qa_Met l yX8_bothGain cX8_bothGain 3 (some .boolean) 4 0 0 [.ref 1, .int v1, .int v2] 113 μ0 (qa_pI Q) := by
  refine qa_ofG (by decide) (Nat.le_of_ble_eq_true rfl) ?_
  unfold wX8_bothGain at h
  change qa_G l yX8_bothGain cX8_bothGain 3 (some .boolean) 4 0 0 (qa_pI Q) 0 0 0 [some (.ref 1), some (.int v1), some (.int v2)] [] 113 μ0
  refine qa_ald0 dX8_bothGain_0 ?_
  refine qa_getR dX8_bothGain_1 lf_X8_40 rfl sh_1 (by decide) (pp_1_8 hp0) (by decide) ?_
  refine qa_ald0 dX8_bothGain_4 ?_
  refine qa_getR dX8_bothGain_5 lf_X8_19 rfl sh_1 (by decide) rfl (qa_tw0 hp0.2.1) ?_
  refine qa_V1V dX8_bothGain_8 lm_X8_261 sh_31 rfl (by decide) (by decide) (Nat.le_of_ble_eq_true rfl) (tX1_asTold l hp0 hp0.2.1 h) (fun μ1 hp1 h => ?_)
  refine qa_ald0 dX8_bothGain_11 ?_
  refine qa_getR dX8_bothGain_12 lf_X8_40 rfl sh_1 (by decide) (pp_1_8 hp1) (by decide) ?_
  refine qa_ild1 dX8_bothGain_15 ?_
  refine qa_putI dX8_bothGain_16 lf_X8_274 rfl sh_31 (by decide) rfl ?_
  refine qa_nmM (fun μ2 em2 => ?_)
  have h := h μ2 em2
  have hp2 : qa_PP μ2.2.2 := by rw [em2]; exact hp1
  refine qa_ald0 dX8_bothGain_19 ?_
  refine qa_getR dX8_bothGain_20 lf_X8_40 rfl sh_1 (by decide) (pp_1_8 hp2) (by decide) ?_
  refine qa_ild2 dX8_bothGain_23 ?_
  refine qa_putI dX8_bothGain_24 lf_X8_277 rfl sh_31 (by decide) rfl ?_
  refine qa_nmM (fun μ3 em3 => ?_)
  have h := h μ3 em3
  have hp3 : qa_PP μ3.2.2 := by rw [em3]; exact hp2
  refine qa_ald0 dX8_bothGain_27 ?_
  refine qa_getR dX8_bothGain_28 lf_X8_51 rfl sh_1 (by decide) (pp_1_10 hp3) (by decide) ?_
  refine qa_ald0 dX8_bothGain_31 ?_
  refine qa_getR dX8_bothGain_32 lf_X8_19 rfl sh_1 (by decide) rfl (qa_tw0 hp3.2.1) ?_
  refine qa_ald0 dX8_bothGain_35 ?_
  refine qa_getR dX8_bothGain_36 lf_X8_40 rfl sh_1 (by decide) (pp_1_8 hp3) (by decide) ?_
  refine qa_V2V dX8_bothGain_39 lm_X8_266 (sy_0 (Or.inr rfl)) rfl (yle_0 (Or.inr rfl)) (by decide) (Nat.le_of_ble_eq_true rfl) (tX7_follow l hp3 (Or.inr rfl) hp3.2.1 h) (fun μ4 hp4 h => ?_)
  refine qa_ald0 dX8_bothGain_42 ?_
  refine qa_ild1 dX8_bothGain_43 ?_
  refine qa_V1I dX8_bothGain_44 lm_X8_280 sh_1 rfl (by decide) (by decide) (Nat.le_of_ble_eq_true rfl) (tX8_gainsSun l hp4  h) (fun r5 μ5 hp5 h => ?_)
  refine qa_if_eq (tgt := 62) dX8_bothGain_47 (by decide) (fun c6 => ?_) (fun c6 => ?_)
  · have h := h.1 c6
    refine qa_iconst (v := 0) dX8_bothGain_62 (by decide) ?_
    exact qa_zret rfl rfl dX8_bothGain_63 ⟨rfl, rfl⟩ ⟨rfl, hp5, _, rfl, h⟩
  · have h := h.2 c6
    refine qa_ald0 dX8_bothGain_50 ?_
    refine qa_ild2 dX8_bothGain_51 ?_
    refine qa_V1I dX8_bothGain_52 lm_X8_280 sh_1 rfl (by decide) (by decide) (Nat.le_of_ble_eq_true rfl) (tX8_gainsSun l hp5  h) (fun r7 μ7 hp7 h => ?_)
    refine qa_if_eq (tgt := 62) dX8_bothGain_55 (by decide) (fun c8 => ?_) (fun c8 => ?_)
    · have h := h.1 c8
      refine qa_iconst (v := 0) dX8_bothGain_62 (by decide) ?_
      exact qa_zret rfl rfl dX8_bothGain_63 ⟨rfl, rfl⟩ ⟨rfl, hp7, _, rfl, h⟩
    · have h := h.2 c8
      refine qa_iconst (v := 1) dX8_bothGain_58 (by decide) ?_
      refine qa_goto (tgt := 63) dX8_bothGain_59 (by decide) ?_
      exact qa_zret rfl rfl dX8_bothGain_63 ⟨rfl, rfl⟩ ⟨rfl, hp7, _, rfl, h⟩
def wX8_brown_59 (n : Nat) (v3 : Int32) (v4 : Int32) (μ0 : qa_M) (K0 : Int32 → Int32 → Int32 → qa_M → Prop) (Q : Int32 → qa_M → Prop) : Prop := K0 v3 v4 (v3 + (1 : Int32)) μ0
def wX8_brown_16 : Nat → Int32 → Int32 → Int32 → qa_M → (Int32 → qa_M → Prop) → Prop
  | 0, _, _, _, _, _ => False
  | n + 1, v1, v2, v3, μ0, Q => (((μ0.1 (μ0.2.2 1 2) 5) ≤ v3 → Q v1 μ0) ∧ (¬ (μ0.1 (μ0.2.2 1 2) 5) ≤ v3 → wX7_sunTo n 32 (μ0.2.2 1 2) v3 (μ0.1 (μ0.2.2 1 2) 1) μ0 (fun r4 μ4 => ((v1 = (-1 : Int32) → wX8_brown_59 n v3 r4 μ4 (fun v1 v2 v3 μk => wX8_brown_16 n v1 v2 v3 μk Q) Q) ∧ (¬ v1 = (-1 : Int32) → ((r4 ≤ v2 → wX8_brown_16 n v1 v2 (v3 + (1 : Int32)) μ4 Q) ∧ (¬ r4 ≤ v2 → wX8_brown_59 n v3 r4 μ4 (fun v1 v2 v3 μk => wX8_brown_16 n v1 v2 v3 μk Q) Q)))))))
def wX8_brown (n : Nat)  (μ0 : qa_M) (Q : Int32 → qa_M → Prop) : Prop := wX8_hasTown n  μ0 (fun r1 μ1 => ((¬ r1 = 0 → wX8_brown_16 n (-1 : Int32) (-1 : Int32) (0 : Int32) μ1  Q) ∧ (r1 = 0 → Q (-2 : Int32) μ1)))
theorem tX8_brown_59 (l : Launch) {K0 : Int32 → Int32 → Int32 → qa_M → Prop} {Q : Int32 → qa_M → Prop} (hK0 : ∀ (v1 : Int32) (v2 : Int32) (v3 : Int32) (μ : qa_M), qa_PP μ.2.2 → K0 v1 v2 v3 μ → qa_G l yX8_brown cX8_brown 5 (some .int) 2 0 0 (qa_pI Q) 0 0 16 [some (.ref 1), some (.int v1), some (.int v2), some (.int v3), none] [] 113 μ) : ∀ (n : Nat) (v3 : Int32) (v4 : Int32) (μ0 : qa_M), qa_PP μ0.2.2 → wX8_brown_59 n v3 v4 μ0 K0 Q → qa_G l yX8_brown cX8_brown 5 (some .int) 2 0 0 (qa_pI Q) 0 0 59 [some (.ref 1), none, none, some (.int v3), some (.int v4)] [] 113 μ0 := by
  intro n
  intro v3 v4 μ0 hp0  h
  unfold wX8_brown_59 at h
  refine qa_ild4 dX8_brown_59 ?_
  refine qa_ist2 dX8_brown_61 ?_
  refine qa_ild3 dX8_brown_62 ?_
  refine qa_ist1 dX8_brown_63 ?_
  refine qa_inc3 dX8_brown_64 (qa_io1 _) ?_
  refine qa_goto (tgt := 16) dX8_brown_67 (by decide) ?_
  refine qa_fgt (L' := [some (.ref 1), some (.int v3), some (.int v4), some (.int (v3 + (1 : Int32))), none]) (⟨rfl, ⟨rfl, ⟨rfl, ⟨rfl, trivial⟩⟩⟩⟩) ?_
  exact hK0 v3 v4 (v3 + (1 : Int32)) μ0 hp0  h
theorem tX8_brown_16 (l : Launch)  {Q : Int32 → qa_M → Prop}  : ∀ (n : Nat) (v1 : Int32) (v2 : Int32) (v3 : Int32) (μ0 : qa_M), qa_PP μ0.2.2 → wX8_brown_16 n v1 v2 v3 μ0  Q → qa_G l yX8_brown cX8_brown 5 (some .int) 2 0 0 (qa_pI Q) 0 0 16 [some (.ref 1), some (.int v1), some (.int v2), some (.int v3), none] [] 113 μ0 := by
  intro n
  induction n with
  | zero =>
    intro v1 v2 v3 μ0 hp0  h
    rw [wX8_brown_16] at h
    exact h.elim
  | succ n ih =>
    intro v1 v2 v3 μ0 hp0  h
    rw [wX8_brown_16] at h
    refine qa_ild3 dX8_brown_16 ?_
    refine qa_ald0 dX8_brown_17 ?_
    refine qa_getR dX8_brown_18 lf_X8_19 rfl sh_1 (by decide) rfl (qa_tw0 hp0.2.1) ?_
    refine qa_getI dX8_brown_21 lf_X8_158 (Or.inl rfl) (st_0 hp0.2.1) (tle_0 hp0.2.1) ?_
    refine qa_icmp_ge (tgt := 70) dX8_brown_24 (by decide) (fun c3 => ?_) (fun c3 => ?_)
    · have h := h.1 c3
      refine qa_ild1 dX8_brown_70 ?_
      exact qa_iret rfl dX8_brown_71 ⟨rfl, rfl⟩ ⟨rfl, hp0, _, rfl, h⟩
    · have h := h.2 c3
      refine qa_ald0 dX8_brown_27 ?_
      refine qa_getR dX8_brown_28 lf_X8_47 rfl sh_1 (by decide) (pp_1_9 hp0) (by decide) ?_
      refine qa_ald0 dX8_brown_31 ?_
      refine qa_getR dX8_brown_32 lf_X8_19 rfl sh_1 (by decide) rfl (qa_tw0 hp0.2.1) ?_
      refine qa_ild3 dX8_brown_35 ?_
      refine qa_ald0 dX8_brown_36 ?_
      refine qa_getR dX8_brown_37 lf_X8_19 rfl sh_1 (by decide) rfl (qa_tw0 hp0.2.1) ?_
      refine qa_getI dX8_brown_40 lf_X8_145 (Or.inl rfl) (st_0 hp0.2.1) (tle_0 hp0.2.1) ?_
      refine qa_V3I dX8_brown_43 lm_X8_185 (sy_0 (Or.inl rfl)) rfl (yle_0 (Or.inl rfl)) (by decide) (Nat.le_of_ble_eq_true rfl) (tX7_sunTo l hp0 (Or.inl rfl) hp0.2.1 h) (fun r4 μ4 hp4 h => ?_)
      refine qa_ist4 dX8_brown_46 ?_
      refine qa_ild1 dX8_brown_48 ?_
      refine qa_iconst (v := -1) dX8_brown_49 (by decide) ?_
      refine qa_icmp_eq (tgt := 59) dX8_brown_50 (by decide) (fun c5 => ?_) (fun c5 => ?_)
      · have h := h.1 c5
        refine qa_fgt (L' := [some (.ref 1), none, none, some (.int v3), some (.int r4)]) (⟨rfl, ⟨rfl, ⟨rfl, trivial⟩⟩⟩) ?_
        refine tX8_brown_59 l ih n v3 r4 μ4 hp4  h
      · have h := h.2 c5
        refine qa_ild4 dX8_brown_53 ?_
        refine qa_ild2 dX8_brown_55 ?_
        refine qa_icmp_le (tgt := 64) dX8_brown_56 (by decide) (fun c6 => ?_) (fun c6 => ?_)
        · have h := h.1 c6
          refine qa_inc3 dX8_brown_64 (qa_io1 _) ?_
          refine qa_goto (tgt := 16) dX8_brown_67 (by decide) ?_
          refine qa_fgt (L' := [some (.ref 1), some (.int v1), some (.int v2), some (.int (v3 + (1 : Int32))), none]) (⟨rfl, ⟨rfl, ⟨rfl, ⟨rfl, trivial⟩⟩⟩⟩) ?_
          exact ih v1 v2 (v3 + (1 : Int32)) μ4 hp4  h
        · have h := h.2 c6
          refine qa_fgt (L' := [some (.ref 1), none, none, some (.int v3), some (.int r4)]) (⟨rfl, ⟨rfl, ⟨rfl, trivial⟩⟩⟩) ?_
          refine tX8_brown_59 l ih n v3 r4 μ4 hp4  h
theorem tX8_brown (l : Launch) {n : Nat}  {μ0 : qa_M} {Q : Int32 → qa_M → Prop} (hp0 : qa_PP μ0.2.2)  (h : wX8_brown n  μ0 Q) : qa_Met l yX8_brown cX8_brown 5 (some .int) 2 0 0 [.ref 1] 113 μ0 (qa_pI Q) := by
  refine qa_ofG (by decide) (Nat.le_of_ble_eq_true rfl) ?_
  unfold wX8_brown at h
  change qa_G l yX8_brown cX8_brown 5 (some .int) 2 0 0 (qa_pI Q) 0 0 0 [some (.ref 1), none, none, none, none] [] 113 μ0
  refine qa_ald0 dX8_brown_0 ?_
  refine qa_V0I dX8_brown_1 lm_X8_138 sh_1 rfl (by decide) (by decide) (Nat.le_of_ble_eq_true rfl) (tX8_hasTown l hp0  h) (fun r1 μ1 hp1 h => ?_)
  refine qa_if_ne (tgt := 10) dX8_brown_4 (by decide) (fun c2 => ?_) (fun c2 => ?_)
  · have h := h.1 c2
    refine qa_iconst (v := -1) dX8_brown_10 (by decide) ?_
    refine qa_ist1 dX8_brown_11 ?_
    refine qa_iconst (v := -1) dX8_brown_12 (by decide) ?_
    refine qa_ist2 dX8_brown_13 ?_
    refine qa_iconst (v := 0) dX8_brown_14 (by decide) ?_
    refine qa_ist3 dX8_brown_15 ?_
    refine qa_fgt (L' := [some (.ref 1), some (.int (-1 : Int32)), some (.int (-1 : Int32)), some (.int (0 : Int32)), none]) (⟨rfl, ⟨rfl, ⟨rfl, ⟨rfl, trivial⟩⟩⟩⟩) ?_
    refine tX8_brown_16 l  n (-1 : Int32) (-1 : Int32) (0 : Int32) μ1 hp1  h
  · have h := h.2 c2
    refine qa_bipush (v := -2) dX8_brown_7 (by decide) ?_
    exact qa_iret rfl dX8_brown_9 ⟨rfl, rfl⟩ ⟨rfl, hp1, _, rfl, h⟩
def wX8_followLaw (n : Nat) (v1 : Int32) (μ0 : qa_M) (Q : qa_M → Prop) : Prop := wX1_asTold n (μ0.2.2 1 2) μ0 (fun μ1 => ∀ μ2, μ2 = qa_uI μ1 31 0 v1 → wX7_follow n 37 (μ2.2.2 1 2) μ2 (fun μ3 => Q μ3))
theorem tX8_followLaw (l : Launch) {n : Nat} {v1 : Int32} {μ0 : qa_M} {Q : qa_M → Prop} (hp0 : qa_PP μ0.2.2)  (h : wX8_followLaw n v1 μ0 Q) : qa_Met l yX8_followLaw cX8_followLaw 2 none 4 0 0 [.ref 1, .int v1] 113 μ0 (qa_pV Q) := by
  refine qa_ofG (by decide) (Nat.le_of_ble_eq_true rfl) ?_
  unfold wX8_followLaw at h
  change qa_G l yX8_followLaw cX8_followLaw 2 none 4 0 0 (qa_pV Q) 0 0 0 [some (.ref 1), some (.int v1)] [] 113 μ0
  refine qa_ald0 dX8_followLaw_0 ?_
  refine qa_getR dX8_followLaw_1 lf_X8_40 rfl sh_1 (by decide) (pp_1_8 hp0) (by decide) ?_
  refine qa_ald0 dX8_followLaw_4 ?_
  refine qa_getR dX8_followLaw_5 lf_X8_19 rfl sh_1 (by decide) rfl (qa_tw0 hp0.2.1) ?_
  refine qa_V1V dX8_followLaw_8 lm_X8_261 sh_31 rfl (by decide) (by decide) (Nat.le_of_ble_eq_true rfl) (tX1_asTold l hp0 hp0.2.1 h) (fun μ1 hp1 h => ?_)
  refine qa_ald0 dX8_followLaw_11 ?_
  refine qa_getR dX8_followLaw_12 lf_X8_40 rfl sh_1 (by decide) (pp_1_8 hp1) (by decide) ?_
  refine qa_ild1 dX8_followLaw_15 ?_
  refine qa_putI dX8_followLaw_16 lf_X8_270 rfl sh_31 (by decide) rfl ?_
  refine qa_nmM (fun μ2 em2 => ?_)
  have h := h μ2 em2
  have hp2 : qa_PP μ2.2.2 := by rw [em2]; exact hp1
  refine qa_ald0 dX8_followLaw_19 ?_
  refine qa_getR dX8_followLaw_20 lf_X8_51 rfl sh_1 (by decide) (pp_1_10 hp2) (by decide) ?_
  refine qa_ald0 dX8_followLaw_23 ?_
  refine qa_getR dX8_followLaw_24 lf_X8_19 rfl sh_1 (by decide) rfl (qa_tw0 hp2.2.1) ?_
  refine qa_ald0 dX8_followLaw_27 ?_
  refine qa_getR dX8_followLaw_28 lf_X8_40 rfl sh_1 (by decide) (pp_1_8 hp2) (by decide) ?_
  refine qa_V2V dX8_followLaw_31 lm_X8_266 (sy_0 (Or.inr rfl)) rfl (yle_0 (Or.inr rfl)) (by decide) (Nat.le_of_ble_eq_true rfl) (tX7_follow l hp2 (Or.inr rfl) hp2.2.1 h) (fun μ3 hp3 h => ?_)
  exact qa_vret rfl dX8_followLaw_34 ⟨rfl, rfl⟩ ⟨rfl, hp3, rfl, h⟩
def wX8_spreadBy (n : Nat) (v1 : Int32) (μ0 : qa_M) (Q : Int32 → qa_M → Prop) : Prop := wX8_followLaw n v1 μ0 (fun μ1 => wX7_spread n 37 (μ1.2.2 1 2) μ1 (fun r2 μ2 => Q r2 μ2))
theorem tX8_spreadBy (l : Launch) {n : Nat} {v1 : Int32} {μ0 : qa_M} {Q : Int32 → qa_M → Prop} (hp0 : qa_PP μ0.2.2)  (h : wX8_spreadBy n v1 μ0 Q) : qa_Met l yX8_spreadBy cX8_spreadBy 2 (some .int) 5 0 0 [.ref 1, .int v1] 113 μ0 (qa_pI Q) := by
  refine qa_ofG (by decide) (Nat.le_of_ble_eq_true rfl) ?_
  unfold wX8_spreadBy at h
  change qa_G l yX8_spreadBy cX8_spreadBy 2 (some .int) 5 0 0 (qa_pI Q) 0 0 0 [some (.ref 1), some (.int v1)] [] 113 μ0
  refine qa_ald0 dX8_spreadBy_0 ?_
  refine qa_ild1 dX8_spreadBy_1 ?_
  refine qa_V1V dX8_spreadBy_2 lm_X8_271 sh_1 rfl (by decide) (by decide) (Nat.le_of_ble_eq_true rfl) (tX8_followLaw l hp0  h) (fun μ1 hp1 h => ?_)
  refine qa_ald0 dX8_spreadBy_5 ?_
  refine qa_getR dX8_spreadBy_6 lf_X8_51 rfl sh_1 (by decide) (pp_1_10 hp1) (by decide) ?_
  refine qa_ald0 dX8_spreadBy_9 ?_
  refine qa_getR dX8_spreadBy_10 lf_X8_19 rfl sh_1 (by decide) rfl (qa_tw0 hp1.2.1) ?_
  refine qa_V1I dX8_spreadBy_13 lm_X8_189 (sy_0 (Or.inr rfl)) rfl (yle_0 (Or.inr rfl)) (by decide) (Nat.le_of_ble_eq_true rfl) (tX7_spread l hp1 (Or.inr rfl) hp1.2.1 h) (fun r2 μ2 hp2 h => ?_)
  exact qa_iret rfl dX8_spreadBy_16 ⟨rfl, rfl⟩ ⟨rfl, hp2, _, rfl, h⟩
def wX8_by (n : Nat) (v1 : Int32) (μ0 : qa_M) (Q : Int32 → qa_M → Prop) : Prop := wX8_hasTown n  μ0 (fun r1 μ1 => ((r1 = 0 → Q (-2 : Int32) μ1) ∧ (¬ r1 = 0 → ((v1 < 0 → Q (-2 : Int32) μ1) ∧ (¬ v1 < 0 → (((4 : Int32) ≤ v1 → Q (-2 : Int32) μ1) ∧ (¬ (4 : Int32) ≤ v1 → wX8_spreadBy n v1 μ1 (fun r5 μ5 => Q r5 μ5))))))))
theorem tX8_by (l : Launch) {n : Nat} {v1 : Int32} {μ0 : qa_M} {Q : Int32 → qa_M → Prop} (hp0 : qa_PP μ0.2.2)  (h : wX8_by n v1 μ0 Q) : qa_Met l yX8_by cX8_by 2 (some .int) 6 0 0 [.ref 1, .int v1] 113 μ0 (qa_pI Q) := by
  refine qa_ofG (by decide) (Nat.le_of_ble_eq_true rfl) ?_
  unfold wX8_by at h
  change qa_G l yX8_by cX8_by 2 (some .int) 6 0 0 (qa_pI Q) 0 0 0 [some (.ref 1), some (.int v1)] [] 113 μ0
  refine qa_ald0 dX8_by_0 ?_
  refine qa_V0I dX8_by_1 lm_X8_138 sh_1 rfl (by decide) (by decide) (Nat.le_of_ble_eq_true rfl) (tX8_hasTown l hp0  h) (fun r1 μ1 hp1 h => ?_)
  refine qa_if_eq (tgt := 24) dX8_by_4 (by decide) (fun c2 => ?_) (fun c2 => ?_)
  · have h := h.1 c2
    refine qa_bipush (v := -2) dX8_by_24 (by decide) ?_
    exact qa_iret rfl dX8_by_26 ⟨rfl, rfl⟩ ⟨rfl, hp1, _, rfl, h⟩
  · have h := h.2 c2
    refine qa_ild1 dX8_by_7 ?_
    refine qa_if_lt (tgt := 24) dX8_by_8 (by decide) (fun c3 => ?_) (fun c3 => ?_)
    · have h := h.1 c3
      refine qa_bipush (v := -2) dX8_by_24 (by decide) ?_
      exact qa_iret rfl dX8_by_26 ⟨rfl, rfl⟩ ⟨rfl, hp1, _, rfl, h⟩
    · have h := h.2 c3
      refine qa_ild1 dX8_by_11 ?_
      refine qa_iconst (v := 4) dX8_by_12 (by decide) ?_
      refine qa_icmp_ge (tgt := 24) dX8_by_13 (by decide) (fun c4 => ?_) (fun c4 => ?_)
      · have h := h.1 c4
        refine qa_bipush (v := -2) dX8_by_24 (by decide) ?_
        exact qa_iret rfl dX8_by_26 ⟨rfl, rfl⟩ ⟨rfl, hp1, _, rfl, h⟩
      · have h := h.2 c4
        refine qa_ald0 dX8_by_16 ?_
        refine qa_ild1 dX8_by_17 ?_
        refine qa_V1I dX8_by_18 lm_X8_255 sh_1 rfl (by decide) (by decide) (Nat.le_of_ble_eq_true rfl) (tX8_spreadBy l hp1  h) (fun r5 μ5 hp5 h => ?_)
        refine qa_goto (tgt := 26) dX8_by_21 (by decide) ?_
        exact qa_iret rfl dX8_by_26 ⟨rfl, rfl⟩ ⟨rfl, hp5, _, rfl, h⟩
def wX8_isPlace (n : Nat) (v1 : Int32) (μ0 : qa_M) (Q : Int32 → qa_M → Prop) : Prop := ((v1 < 0 → Q (0 : Int32) μ0) ∧ (¬ v1 < 0 → (((μ0.1 (μ0.2.2 1 2) 5) ≤ v1 → Q (0 : Int32) μ0) ∧ (¬ (μ0.1 (μ0.2.2 1 2) 5) ≤ v1 → Q (1 : Int32) μ0))))
theorem tX8_isPlace (l : Launch) {n : Nat} {v1 : Int32} {μ0 : qa_M} {Q : Int32 → qa_M → Prop} (hp0 : qa_PP μ0.2.2)  (h : wX8_isPlace n v1 μ0 Q) : qa_Met l yX8_isPlace cX8_isPlace 2 (some .boolean) 0 0 0 [.ref 1, .int v1] 113 μ0 (qa_pI Q) := by
  refine qa_ofG (by decide) (Nat.le_of_ble_eq_true rfl) ?_
  unfold wX8_isPlace at h
  change qa_G l yX8_isPlace cX8_isPlace 2 (some .boolean) 0 0 0 (qa_pI Q) 0 0 0 [some (.ref 1), some (.int v1)] [] 113 μ0
  refine qa_ild1 dX8_isPlace_0 ?_
  refine qa_if_lt (tgt := 19) dX8_isPlace_1 (by decide) (fun c1 => ?_) (fun c1 => ?_)
  · have h := h.1 c1
    refine qa_iconst (v := 0) dX8_isPlace_19 (by decide) ?_
    exact qa_zret rfl rfl dX8_isPlace_20 ⟨rfl, rfl⟩ ⟨rfl, hp0, _, rfl, h⟩
  · have h := h.2 c1
    refine qa_ild1 dX8_isPlace_4 ?_
    refine qa_ald0 dX8_isPlace_5 ?_
    refine qa_getR dX8_isPlace_6 lf_X8_19 rfl sh_1 (by decide) rfl (qa_tw0 hp0.2.1) ?_
    refine qa_getI dX8_isPlace_9 lf_X8_158 (Or.inl rfl) (st_0 hp0.2.1) (tle_0 hp0.2.1) ?_
    refine qa_icmp_ge (tgt := 19) dX8_isPlace_12 (by decide) (fun c2 => ?_) (fun c2 => ?_)
    · have h := h.1 c2
      refine qa_iconst (v := 0) dX8_isPlace_19 (by decide) ?_
      exact qa_zret rfl rfl dX8_isPlace_20 ⟨rfl, rfl⟩ ⟨rfl, hp0, _, rfl, h⟩
    · have h := h.2 c2
      refine qa_iconst (v := 1) dX8_isPlace_15 (by decide) ?_
      refine qa_goto (tgt := 20) dX8_isPlace_16 (by decide) ?_
      exact qa_zret rfl rfl dX8_isPlace_20 ⟨rfl, rfl⟩ ⟨rfl, hp0, _, rfl, h⟩
def wX8_isChanceWeek (n : Nat) (v1 : Int32) (μ0 : qa_M) (Q : Int32 → qa_M → Prop) : Prop := wX8_isTurningWeek n v1 μ0 (fun r1 μ1 => ((r1 = 0 → Q (0 : Int32) μ1) ∧ (¬ r1 = 0 → (((7 : Int32) < v1 → Q (0 : Int32) μ1) ∧ (¬ (7 : Int32) < v1 → Q (1 : Int32) μ1)))))
theorem tX8_isChanceWeek (l : Launch) {n : Nat} {v1 : Int32} {μ0 : qa_M} {Q : Int32 → qa_M → Prop} (hp0 : qa_PP μ0.2.2)  (h : wX8_isChanceWeek n v1 μ0 Q) : qa_Met l yX8_isChanceWeek cX8_isChanceWeek 2 (some .boolean) 2 0 0 [.ref 1, .int v1] 113 μ0 (qa_pI Q) := by
  refine qa_ofG (by decide) (Nat.le_of_ble_eq_true rfl) ?_
  unfold wX8_isChanceWeek at h
  change qa_G l yX8_isChanceWeek cX8_isChanceWeek 2 (some .boolean) 2 0 0 (qa_pI Q) 0 0 0 [some (.ref 1), some (.int v1)] [] 113 μ0
  refine qa_ald0 dX8_isChanceWeek_0 ?_
  refine qa_ild1 dX8_isChanceWeek_1 ?_
  refine qa_V1I dX8_isChanceWeek_2 lm_X8_165 sh_1 rfl (by decide) (by decide) (Nat.le_of_ble_eq_true rfl) (tX8_isTurningWeek l hp0  h) (fun r1 μ1 hp1 h => ?_)
  refine qa_if_eq (tgt := 18) dX8_isChanceWeek_5 (by decide) (fun c2 => ?_) (fun c2 => ?_)
  · have h := h.1 c2
    refine qa_iconst (v := 0) dX8_isChanceWeek_18 (by decide) ?_
    exact qa_zret rfl rfl dX8_isChanceWeek_19 ⟨rfl, rfl⟩ ⟨rfl, hp1, _, rfl, h⟩
  · have h := h.2 c2
    refine qa_ild1 dX8_isChanceWeek_8 ?_
    refine qa_bipush (v := 7) dX8_isChanceWeek_9 (by decide) ?_
    refine qa_icmp_gt (tgt := 18) dX8_isChanceWeek_11 (by decide) (fun c3 => ?_) (fun c3 => ?_)
    · have h := h.1 c3
      refine qa_iconst (v := 0) dX8_isChanceWeek_18 (by decide) ?_
      exact qa_zret rfl rfl dX8_isChanceWeek_19 ⟨rfl, rfl⟩ ⟨rfl, hp1, _, rfl, h⟩
    · have h := h.2 c3
      refine qa_iconst (v := 1) dX8_isChanceWeek_14 (by decide) ?_
      refine qa_goto (tgt := 19) dX8_isChanceWeek_15 (by decide) ?_
      exact qa_zret rfl rfl dX8_isChanceWeek_19 ⟨rfl, rfl⟩ ⟨rfl, hp1, _, rfl, h⟩
def wX8_isPart (n : Nat) (v0 : Int32) (μ0 : qa_M) (Q : Int32 → qa_M → Prop) : Prop := ((v0 = 0 → Q (1 : Int32) μ0) ∧ (¬ v0 = 0 → ((¬ v0 = (1 : Int32) → Q (0 : Int32) μ0) ∧ (v0 = (1 : Int32) → Q (1 : Int32) μ0))))
theorem tX8_isPart (l : Launch) {n : Nat} {v0 : Int32} {μ0 : qa_M} {Q : Int32 → qa_M → Prop} (hp0 : qa_PP μ0.2.2)  (h : wX8_isPart n v0 μ0 Q) : qa_Met l yX8_isPart cX8_isPart 1 (some .boolean) 0 0 0 [.int v0] 113 μ0 (qa_pI Q) := by
  refine qa_ofG (by decide) (Nat.le_of_ble_eq_true rfl) ?_
  unfold wX8_isPart at h
  change qa_G l yX8_isPart cX8_isPart 1 (some .boolean) 0 0 0 (qa_pI Q) 0 0 0 [some (.int v0)] [] 113 μ0
  refine qa_ild0 dX8_isPart_0 ?_
  refine qa_if_eq (tgt := 9) dX8_isPart_1 (by decide) (fun c1 => ?_) (fun c1 => ?_)
  · have h := h.1 c1
    refine qa_iconst (v := 1) dX8_isPart_9 (by decide) ?_
    refine qa_goto (tgt := 14) dX8_isPart_10 (by decide) ?_
    exact qa_zret rfl rfl dX8_isPart_14 ⟨rfl, rfl⟩ ⟨rfl, hp0, _, rfl, h⟩
  · have h := h.2 c1
    refine qa_ild0 dX8_isPart_4 ?_
    refine qa_iconst (v := 1) dX8_isPart_5 (by decide) ?_
    refine qa_icmp_ne (tgt := 13) dX8_isPart_6 (by decide) (fun c2 => ?_) (fun c2 => ?_)
    · have h := h.1 c2
      refine qa_iconst (v := 0) dX8_isPart_13 (by decide) ?_
      exact qa_zret rfl rfl dX8_isPart_14 ⟨rfl, rfl⟩ ⟨rfl, hp0, _, rfl, h⟩
    · have h := h.2 c2
      refine qa_iconst (v := 1) dX8_isPart_9 (by decide) ?_
      refine qa_goto (tgt := 14) dX8_isPart_10 (by decide) ?_
      exact qa_zret rfl rfl dX8_isPart_14 ⟨rfl, rfl⟩ ⟨rfl, hp0, _, rfl, h⟩
def wX8_power_5 : Nat → Int32 → Int32 → Int64 → Int32 → qa_M → (Int64 → qa_M → Prop) → Prop
  | 0, _, _, _, _, _, _ => False
  | n + 1, v0, v1, v2, v4, μ0, Q => ((v1 ≤ v4 → Q v2 μ0) ∧ (¬ v1 ≤ v4 → ∀ x2, x2 = (v2 * v0.toInt64) → wX8_power_5 n v0 v1 x2 (v4 + (1 : Int32)) μ0 Q))
def wX8_power (n : Nat) (v0 : Int32) (v1 : Int32) (μ0 : qa_M) (Q : Int64 → qa_M → Prop) : Prop := wX8_power_5 n v0 v1 (1 : Int64) (0 : Int32) μ0  Q
theorem tX8_power_5 (l : Launch)  {Q : Int64 → qa_M → Prop}  : ∀ (n : Nat) (v0 : Int32) (v1 : Int32) (v2 : Int64) (v4 : Int32) (μ0 : qa_M), qa_PP μ0.2.2 → wX8_power_5 n v0 v1 v2 v4 μ0  Q → qa_G l yX8_power cX8_power 5 (some .long) 0 0 0 (qa_pJ Q) 0 0 5 [some (.int v0), some (.int v1), some (.long v2), none, some (.int v4)] [] 113 μ0 := by
  intro n
  induction n with
  | zero =>
    intro v0 v1 v2 v4 μ0 hp0  h
    rw [wX8_power_5] at h
    exact h.elim
  | succ n ih =>
    intro v0 v1 v2 v4 μ0 hp0  h
    rw [wX8_power_5] at h
    refine qa_ild4 dX8_power_5 ?_
    refine qa_ild1 dX8_power_7 ?_
    refine qa_icmp_ge (tgt := 22) dX8_power_8 (by decide) (fun c1 => ?_) (fun c1 => ?_)
    · have h := h.1 c1
      refine qa_lld2 dX8_power_22 ?_
      exact qa_lret rfl dX8_power_23 ⟨rfl, rfl⟩ ⟨rfl, hp0, _, rfl, h⟩
    · have h := h.2 c1
      refine qa_lld2 dX8_power_11 ?_
      refine qa_ild0 dX8_power_12 ?_
      refine qa_i2l dX8_power_13 ?_
      refine qa_lmul dX8_power_14 ?_
      refine qa_nmL (fun x2 e2 => ?_)
      have h := h x2 e2
      refine qa_lst2 dX8_power_15 ?_
      refine qa_inc4 dX8_power_16 (qa_io1 _) ?_
      refine qa_goto (tgt := 5) dX8_power_19 (by decide) ?_
      refine qa_fgt (L' := [some (.int v0), some (.int v1), some (.long x2), none, some (.int (v4 + (1 : Int32)))]) (⟨rfl, ⟨rfl, ⟨rfl, ⟨rfl, trivial⟩⟩⟩⟩) ?_
      exact ih v0 v1 x2 (v4 + (1 : Int32)) μ0 hp0  h
theorem tX8_power (l : Launch) {n : Nat} {v0 : Int32} {v1 : Int32} {μ0 : qa_M} {Q : Int64 → qa_M → Prop} (hp0 : qa_PP μ0.2.2)  (h : wX8_power n v0 v1 μ0 Q) : qa_Met l yX8_power cX8_power 5 (some .long) 0 0 0 [.int v0, .int v1] 113 μ0 (qa_pJ Q) := by
  refine qa_ofG (by decide) (Nat.le_of_ble_eq_true rfl) ?_
  unfold wX8_power at h
  change qa_G l yX8_power cX8_power 5 (some .long) 0 0 0 (qa_pJ Q) 0 0 0 [some (.int v0), some (.int v1), none, none, none] [] 113 μ0
  refine qa_lconst (v := 1) dX8_power_0 (by decide) ?_
  refine qa_lst2 dX8_power_1 ?_
  refine qa_iconst (v := 0) dX8_power_2 (by decide) ?_
  refine qa_ist4 dX8_power_3 ?_
  refine qa_fgt (L' := [some (.int v0), some (.int v1), some (.long (1 : Int64)), none, some (.int (0 : Int32))]) (⟨rfl, ⟨rfl, ⟨rfl, ⟨rfl, trivial⟩⟩⟩⟩) ?_
  refine tX8_power_5 l  n v0 v1 (1 : Int64) (0 : Int32) μ0 hp0  h
def wX8_weightOf (n : Nat) (v1 : Int32) (v2 : Int32) (μ0 : qa_M) (Q : Int64 → qa_M → Prop) : Prop := wJ6_bitCount_0f7a4 n v1 μ0 (fun r1 μ1 => wX8_power n (μ1.1 (μ1.2.2 1 2) 4) r1 μ1 (fun r2 μ2 => wX8_power n ((10 : Int32) - (μ2.1 (μ2.2.2 1 2) 4)) (v2 - r1) μ2 (fun r3 μ3 => Q (r2 * r3) μ3)))
theorem tX8_weightOf (l : Launch) {n : Nat} {v1 : Int32} {v2 : Int32} {μ0 : qa_M} {Q : Int64 → qa_M → Prop} (hp0 : qa_PP μ0.2.2)  (h : wX8_weightOf n v1 v2 μ0 Q) : qa_Met l yX8_weightOf cX8_weightOf 4 (some .long) 1 0 0 [.ref 1, .int v1, .int v2] 113 μ0 (qa_pJ Q) := by
  refine qa_ofG (by decide) (Nat.le_of_ble_eq_true rfl) ?_
  unfold wX8_weightOf at h
  change qa_G l yX8_weightOf cX8_weightOf 4 (some .long) 1 0 0 (qa_pJ Q) 0 0 0 [some (.ref 1), some (.int v1), some (.int v2), none] [] 113 μ0
  refine qa_ild1 dX8_weightOf_0 ?_
  refine qa_S1I dX8_weightOf_1 lm_X8_226  (by decide) (Nat.le_of_ble_eq_true rfl) (tJ6_bitCount_0f7a4 l hp0  h) (fun r1 μ1 hp1 h => ?_)
  refine qa_ist3 dX8_weightOf_4 ?_
  refine qa_ald0 dX8_weightOf_5 ?_
  refine qa_getR dX8_weightOf_6 lf_X8_19 rfl sh_1 (by decide) rfl (qa_tw0 hp1.2.1) ?_
  refine qa_getI dX8_weightOf_9 lf_X8_381 (Or.inl rfl) (st_0 hp1.2.1) (tle_0 hp1.2.1) ?_
  refine qa_ild3 dX8_weightOf_12 ?_
  refine qa_S2J dX8_weightOf_13 lm_X8_374  (by decide) (Nat.le_of_ble_eq_true rfl) (tX8_power l hp1  h) (fun r2 μ2 hp2 h => ?_)
  refine qa_bipush (v := 10) dX8_weightOf_16 (by decide) ?_
  refine qa_ald0 dX8_weightOf_18 ?_
  refine qa_getR dX8_weightOf_19 lf_X8_19 rfl sh_1 (by decide) rfl (qa_tw0 hp2.2.1) ?_
  refine qa_getI dX8_weightOf_22 lf_X8_381 (Or.inl rfl) (st_0 hp2.2.1) (tle_0 hp2.2.1) ?_
  refine qa_isub dX8_weightOf_25 ?_
  refine qa_ild2 dX8_weightOf_26 ?_
  refine qa_ild3 dX8_weightOf_27 ?_
  refine qa_isub dX8_weightOf_28 ?_
  refine qa_S2J dX8_weightOf_29 lm_X8_374  (by decide) (Nat.le_of_ble_eq_true rfl) (tX8_power l hp2  h) (fun r3 μ3 hp3 h => ?_)
  refine qa_lmul dX8_weightOf_32 ?_
  exact qa_lret rfl dX8_weightOf_33 ⟨rfl, rfl⟩ ⟨rfl, hp3, _, rfl, h⟩
def wX8_followSnows (n : Nat) (v1 : Int32) (v2 : Int32) (μ0 : qa_M) (Q : qa_M → Prop) : Prop := wX1_asTold n (μ0.2.2 1 2) μ0 (fun μ1 => ∀ μ2, μ2 = qa_uI μ1 31 3 v1 → ∀ μ3, μ3 = qa_uI μ2 31 7 v2 → wX7_follow n 37 (μ3.2.2 1 2) μ3 (fun μ4 => Q μ4))
theorem tX8_followSnows (l : Launch) {n : Nat} {v1 : Int32} {v2 : Int32} {μ0 : qa_M} {Q : qa_M → Prop} (hp0 : qa_PP μ0.2.2)  (h : wX8_followSnows n v1 v2 μ0 Q) : qa_Met l yX8_followSnows cX8_followSnows 3 none 4 0 0 [.ref 1, .int v1, .int v2] 113 μ0 (qa_pV Q) := by
  refine qa_ofG (by decide) (Nat.le_of_ble_eq_true rfl) ?_
  unfold wX8_followSnows at h
  change qa_G l yX8_followSnows cX8_followSnows 3 none 4 0 0 (qa_pV Q) 0 0 0 [some (.ref 1), some (.int v1), some (.int v2)] [] 113 μ0
  refine qa_ald0 dX8_followSnows_0 ?_
  refine qa_getR dX8_followSnows_1 lf_X8_40 rfl sh_1 (by decide) (pp_1_8 hp0) (by decide) ?_
  refine qa_ald0 dX8_followSnows_4 ?_
  refine qa_getR dX8_followSnows_5 lf_X8_19 rfl sh_1 (by decide) rfl (qa_tw0 hp0.2.1) ?_
  refine qa_V1V dX8_followSnows_8 lm_X8_261 sh_31 rfl (by decide) (by decide) (Nat.le_of_ble_eq_true rfl) (tX1_asTold l hp0 hp0.2.1 h) (fun μ1 hp1 h => ?_)
  refine qa_ald0 dX8_followSnows_11 ?_
  refine qa_getR dX8_followSnows_12 lf_X8_40 rfl sh_1 (by decide) (pp_1_8 hp1) (by decide) ?_
  refine qa_ild1 dX8_followSnows_15 ?_
  refine qa_putI dX8_followSnows_16 lf_X8_377 rfl sh_31 (by decide) rfl ?_
  refine qa_nmM (fun μ2 em2 => ?_)
  have h := h μ2 em2
  have hp2 : qa_PP μ2.2.2 := by rw [em2]; exact hp1
  refine qa_ald0 dX8_followSnows_19 ?_
  refine qa_getR dX8_followSnows_20 lf_X8_40 rfl sh_1 (by decide) (pp_1_8 hp2) (by decide) ?_
  refine qa_ild2 dX8_followSnows_23 ?_
  refine qa_putI dX8_followSnows_24 lf_X8_378 rfl sh_31 (by decide) rfl ?_
  refine qa_nmM (fun μ3 em3 => ?_)
  have h := h μ3 em3
  have hp3 : qa_PP μ3.2.2 := by rw [em3]; exact hp2
  refine qa_ald0 dX8_followSnows_27 ?_
  refine qa_getR dX8_followSnows_28 lf_X8_51 rfl sh_1 (by decide) (pp_1_10 hp3) (by decide) ?_
  refine qa_ald0 dX8_followSnows_31 ?_
  refine qa_getR dX8_followSnows_32 lf_X8_19 rfl sh_1 (by decide) rfl (qa_tw0 hp3.2.1) ?_
  refine qa_ald0 dX8_followSnows_35 ?_
  refine qa_getR dX8_followSnows_36 lf_X8_40 rfl sh_1 (by decide) (pp_1_8 hp3) (by decide) ?_
  refine qa_V2V dX8_followSnows_39 lm_X8_266 (sy_0 (Or.inr rfl)) rfl (yle_0 (Or.inr rfl)) (by decide) (Nat.le_of_ble_eq_true rfl) (tX7_follow l hp3 (Or.inr rfl) hp3.2.1 h) (fun μ4 hp4 h => ?_)
  exact qa_vret rfl dX8_followSnows_42 ⟨rfl, rfl⟩ ⟨rfl, hp4, rfl, h⟩
def wX8_commonDivisor_3 : Nat → Int64 → Int64 → Int32 → qa_M → (Int64 → qa_M → Prop) → Prop
  | 0, _, _, _, _, _ => False
  | n + 1, v0, v2, v4, μ0, Q => (((200 : Int32) ≤ v4 → Q v0 μ0) ∧ (¬ (200 : Int32) ≤ v4 → (((lg_cmp v2 (0 : Int64)) = 0 → Q v0 μ0) ∧ (¬ (lg_cmp v2 (0 : Int64)) = 0 → ¬ v2 = 0 ∧ ∀ x3, x3 = (v0 - v0 / v2 * v2) → wX8_commonDivisor_3 n v2 x3 (v4 + (1 : Int32)) μ0 Q))))
def wX8_commonDivisor (n : Nat) (v0 : Int64) (v2 : Int64) (μ0 : qa_M) (Q : Int64 → qa_M → Prop) : Prop := wX8_commonDivisor_3 n v0 v2 (0 : Int32) μ0  Q
theorem tX8_commonDivisor_3 (l : Launch)  {Q : Int64 → qa_M → Prop}  : ∀ (n : Nat) (v0 : Int64) (v2 : Int64) (v4 : Int32) (μ0 : qa_M), qa_PP μ0.2.2 → wX8_commonDivisor_3 n v0 v2 v4 μ0  Q → qa_G l yX8_commonDivisor cX8_commonDivisor 7 (some .long) 0 0 0 (qa_pJ Q) 0 0 3 [some (.long v0), none, some (.long v2), none, some (.int v4), none, none] [] 113 μ0 := by
  intro n
  induction n with
  | zero =>
    intro v0 v2 v4 μ0 hp0  h
    rw [wX8_commonDivisor_3] at h
    exact h.elim
  | succ n ih =>
    intro v0 v2 v4 μ0 hp0  h
    rw [wX8_commonDivisor_3] at h
    refine qa_ild4 dX8_commonDivisor_3 ?_
    refine qa_sipush (v := 200) dX8_commonDivisor_5 (by decide) ?_
    refine qa_icmp_ge (tgt := 33) dX8_commonDivisor_8 (by decide) (fun c1 => ?_) (fun c1 => ?_)
    · have h := h.1 c1
      refine qa_lld0 dX8_commonDivisor_33 ?_
      exact qa_lret rfl dX8_commonDivisor_34 ⟨rfl, rfl⟩ ⟨rfl, hp0, _, rfl, h⟩
    · have h := h.2 c1
      refine qa_lld2 dX8_commonDivisor_11 ?_
      refine qa_lconst (v := 0) dX8_commonDivisor_12 (by decide) ?_
      refine qa_lcmp dX8_commonDivisor_13 ?_
      refine qa_if_eq (tgt := 33) dX8_commonDivisor_14 (by decide) (fun c2 => ?_) (fun c2 => ?_)
      · have h := h.1 c2
        refine qa_lld0 dX8_commonDivisor_33 ?_
        exact qa_lret rfl dX8_commonDivisor_34 ⟨rfl, rfl⟩ ⟨rfl, hp0, _, rfl, h⟩
      · have h := h.2 c2
        refine qa_lld0 dX8_commonDivisor_17 ?_
        refine qa_lld2 dX8_commonDivisor_18 ?_
        refine qa_lrem dX8_commonDivisor_19 h.1 ?_
        have h := h.2
        refine qa_nmL (fun x3 e3 => ?_)
        have h := h x3 e3
        refine qa_lst5 dX8_commonDivisor_20 ?_
        refine qa_lld2 dX8_commonDivisor_22 ?_
        refine qa_lst0 dX8_commonDivisor_23 ?_
        refine qa_lld5 dX8_commonDivisor_24 ?_
        refine qa_lst2 dX8_commonDivisor_26 ?_
        refine qa_inc4 dX8_commonDivisor_27 (qa_io1 _) ?_
        refine qa_goto (tgt := 3) dX8_commonDivisor_30 (by decide) ?_
        refine qa_fgt (L' := [some (.long v2), none, some (.long x3), none, some (.int (v4 + (1 : Int32))), none, none]) (⟨rfl, ⟨rfl, ⟨rfl, trivial⟩⟩⟩) ?_
        exact ih v2 x3 (v4 + (1 : Int32)) μ0 hp0  h
theorem tX8_commonDivisor (l : Launch) {n : Nat} {v0 : Int64} {v2 : Int64} {μ0 : qa_M} {Q : Int64 → qa_M → Prop} (hp0 : qa_PP μ0.2.2)  (h : wX8_commonDivisor n v0 v2 μ0 Q) : qa_Met l yX8_commonDivisor cX8_commonDivisor 7 (some .long) 0 0 0 [.long v0, .long v2] 113 μ0 (qa_pJ Q) := by
  refine qa_ofG (by decide) (Nat.le_of_ble_eq_true rfl) ?_
  unfold wX8_commonDivisor at h
  change qa_G l yX8_commonDivisor cX8_commonDivisor 7 (some .long) 0 0 0 (qa_pJ Q) 0 0 0 [some (.long v0), none, some (.long v2), none, none, none, none] [] 113 μ0
  refine qa_iconst (v := 0) dX8_commonDivisor_0 (by decide) ?_
  refine qa_ist4 dX8_commonDivisor_1 ?_
  refine qa_fgt (L' := [some (.long v0), none, some (.long v2), none, some (.int (0 : Int32)), none, none]) (⟨rfl, ⟨rfl, ⟨rfl, trivial⟩⟩⟩) ?_
  refine tX8_commonDivisor_3 l  n v0 v2 (0 : Int32) μ0 hp0  h
def wX8_fractionPart (n : Nat) (v0 : Int64) (v2 : Int64) (v4 : Int32) (μ0 : qa_M) (Q : Int64 → qa_M → Prop) : Prop := wJ9_abs_067f4 n v0 μ0 (fun r1 μ1 => wX8_commonDivisor n r1 v2 μ1 (fun r2 μ2 => ((0 ≤ (lg_cmp r2 (1 : Int64)) → ((¬ v4 = 0 → ¬ r2 = 0 ∧ Q (v2 / r2) μ2) ∧ (v4 = 0 → ¬ r2 = 0 ∧ Q (v0 / r2) μ2))) ∧ (¬ 0 ≤ (lg_cmp r2 (1 : Int64)) → Q v4.toInt64 μ2))))
theorem tX8_fractionPart (l : Launch) {n : Nat} {v0 : Int64} {v2 : Int64} {v4 : Int32} {μ0 : qa_M} {Q : Int64 → qa_M → Prop} (hp0 : qa_PP μ0.2.2)  (h : wX8_fractionPart n v0 v2 v4 μ0 Q) : qa_Met l yX8_fractionPart cX8_fractionPart 7 (some .long) 1 0 0 [.long v0, .long v2, .int v4] 113 μ0 (qa_pJ Q) := by
  refine qa_ofG (by decide) (Nat.le_of_ble_eq_true rfl) ?_
  unfold wX8_fractionPart at h
  change qa_G l yX8_fractionPart cX8_fractionPart 7 (some .long) 1 0 0 (qa_pJ Q) 0 0 0 [some (.long v0), none, some (.long v2), none, some (.int v4), none, none] [] 113 μ0
  refine qa_lld0 dX8_fractionPart_0 ?_
  refine qa_S1J dX8_fractionPart_1 lm_X8_461  (by decide) (Nat.le_of_ble_eq_true rfl) (tJ9_abs_067f4 l hp0  h) (fun r1 μ1 hp1 h => ?_)
  refine qa_lld2 dX8_fractionPart_4 ?_
  refine qa_S2J dX8_fractionPart_5 lm_X8_464  (by decide) (Nat.le_of_ble_eq_true rfl) (tX8_commonDivisor l hp1  h) (fun r2 μ2 hp2 h => ?_)
  refine qa_lst5 dX8_fractionPart_8 ?_
  refine qa_lld5 dX8_fractionPart_10 ?_
  refine qa_lconst (v := 1) dX8_fractionPart_12 (by decide) ?_
  refine qa_lcmp dX8_fractionPart_13 ?_
  refine qa_if_ge (tgt := 21) dX8_fractionPart_14 (by decide) (fun c3 => ?_) (fun c3 => ?_)
  · have h := h.1 c3
    refine qa_ild4 dX8_fractionPart_21 ?_
    refine qa_if_ne (tgt := 30) dX8_fractionPart_23 (by decide) (fun c4 => ?_) (fun c4 => ?_)
    · have h := h.1 c4
      refine qa_lld2 dX8_fractionPart_30 ?_
      refine qa_lld5 dX8_fractionPart_31 ?_
      refine qa_ldiv dX8_fractionPart_33 h.1 ?_
      have h := h.2
      exact qa_lret rfl dX8_fractionPart_34 ⟨rfl, rfl⟩ ⟨rfl, hp2, _, rfl, h⟩
    · have h := h.2 c4
      refine qa_lld0 dX8_fractionPart_26 ?_
      refine qa_goto (tgt := 31) dX8_fractionPart_27 (by decide) ?_
      refine qa_lld5 dX8_fractionPart_31 ?_
      refine qa_ldiv dX8_fractionPart_33 h.1 ?_
      have h := h.2
      exact qa_lret rfl dX8_fractionPart_34 ⟨rfl, rfl⟩ ⟨rfl, hp2, _, rfl, h⟩
  · have h := h.2 c3
    refine qa_ild4 dX8_fractionPart_17 ?_
    refine qa_i2l dX8_fractionPart_19 ?_
    exact qa_lret rfl dX8_fractionPart_20 ⟨rfl, rfl⟩ ⟨rfl, hp2, _, rfl, h⟩
def wX8_chance_42 : Nat → Int32 → Int32 → Int32 → Int32 → Int64 → Int32 → qa_M → (Int32 → Int32 → Int64 → qa_M → Prop) → (Int64 → qa_M → Prop) → Prop
  | 0, _, _, _, _, _, _, _, _, _ => False
  | n + 1, v1, v2, v3, v4, v5, v7, μ0, K0, Q => wX8_lowBits n (v3 + (1 : Int32)) μ0 (fun r9 μ9 => ((r9 < v7 → K0 v3 v4 v5 μ9) ∧ (¬ r9 < v7 → wX8_weightOf n v7 (v3 + (1 : Int32)) μ9 (fun r11 μ11 => wX8_followSnows n v7 (v3 + (1 : Int32)) μ11 (fun μ12 => wX7_spot n 37 v1 (v3 + (1 : Int32)) μ12 (fun r13 μ13 => ((¬ r13 = v2 → wX8_chance_42 n v1 v2 v3 v4 v5 (v7 + (1 : Int32)) μ13 K0 Q) ∧ (r13 = v2 → ∀ x15, x15 = (v5 + r11) → wX8_chance_42 n v1 v2 v3 v4 x15 (v7 + (1 : Int32)) μ13 K0 Q))))))))
def wX8_chance (n : Nat) (v1 : Int32) (v2 : Int32) (v3 : Int32) (v4 : Int32) (μ0 : qa_M) (Q : Int64 → qa_M → Prop) : Prop := wX8_isHouse n v1 μ0 (fun r1 μ1 => ((r1 = 0 → Q (-2 : Int64) μ1) ∧ (¬ r1 = 0 → wX8_isPlace n v2 μ1 (fun r3 μ3 => ((r3 = 0 → Q (-2 : Int64) μ3) ∧ (¬ r3 = 0 → wX8_isChanceWeek n v3 μ3 (fun r5 μ5 => ((r5 = 0 → Q (-2 : Int64) μ5) ∧ (¬ r5 = 0 → wX8_isPart n v4 μ5 (fun r7 μ7 => ((¬ r7 = 0 → wX8_chance_42 n v1 v2 v3 v4 (0 : Int64) (0 : Int32) μ7 (fun v3_17 v4_17 v5_17 μ16 => wX8_power n (10 : Int32) (v3_17 + (1 : Int32)) μ16 (fun r18 μ18 => wX8_fractionPart n v5_17 r18 v4_17 μ18 (fun r19 μ19 => Q r19 μ19))) Q) ∧ (r7 = 0 → Q (-2 : Int64) μ7))))))))))))
theorem tX8_chance_42 (l : Launch) {K0 : Int32 → Int32 → Int64 → qa_M → Prop} {Q : Int64 → qa_M → Prop} (hK0 : ∀ (v3 : Int32) (v4 : Int32) (v5 : Int64) (μ : qa_M), qa_PP μ.2.2 → K0 v3 v4 v5 μ → qa_G l yX8_chance cX8_chance 10 (some .long) 5 0 0 (qa_pJ Q) 0 0 101 [none, none, none, some (.int v3), some (.int v4), some (.long v5), none, none, none, none] [] 113 μ) : ∀ (n : Nat) (v1 : Int32) (v2 : Int32) (v3 : Int32) (v4 : Int32) (v5 : Int64) (v7 : Int32) (μ0 : qa_M), qa_PP μ0.2.2 → wX8_chance_42 n v1 v2 v3 v4 v5 v7 μ0 K0 Q → qa_G l yX8_chance cX8_chance 10 (some .long) 5 0 0 (qa_pJ Q) 0 0 42 [some (.ref 1), some (.int v1), some (.int v2), some (.int v3), some (.int v4), some (.long v5), none, some (.int v7), none, none] [] 113 μ0 := by
  intro n
  induction n with
  | zero =>
    intro v1 v2 v3 v4 v5 v7 μ0 hp0  h
    rw [wX8_chance_42] at h
    exact h.elim
  | succ n ih =>
    intro v1 v2 v3 v4 v5 v7 μ0 hp0  h
    rw [wX8_chance_42] at h
    refine qa_ild7 dX8_chance_42 ?_
    refine qa_ild3 dX8_chance_44 ?_
    refine qa_iconst (v := 1) dX8_chance_45 (by decide) ?_
    refine qa_iadd dX8_chance_46 ?_
    refine qa_S1I dX8_chance_47 lm_X8_148  (by decide) (Nat.le_of_ble_eq_true rfl) (tX8_lowBits l hp0  h) (fun r9 μ9 hp9 h => ?_)
    refine qa_icmp_gt (tgt := 101) dX8_chance_50 (by decide) (fun c10 => ?_) (fun c10 => ?_)
    · have h := h.1 c10
      refine qa_fgt (L' := [none, none, none, some (.int v3), some (.int v4), some (.long v5), none, none, none, none]) (⟨rfl, ⟨rfl, ⟨rfl, trivial⟩⟩⟩) ?_
      exact hK0 v3 v4 v5 μ9 hp9  h
    · have h := h.2 c10
      refine qa_ald0 dX8_chance_53 ?_
      refine qa_ild7 dX8_chance_54 ?_
      refine qa_ild3 dX8_chance_56 ?_
      refine qa_iconst (v := 1) dX8_chance_57 (by decide) ?_
      refine qa_iadd dX8_chance_58 ?_
      refine qa_V2J dX8_chance_59 lm_X8_366 sh_1 rfl (by decide) (by decide) (Nat.le_of_ble_eq_true rfl) (tX8_weightOf l hp9  h) (fun r11 μ11 hp11 h => ?_)
      refine qa_lst8 dX8_chance_62 ?_
      refine qa_ald0 dX8_chance_64 ?_
      refine qa_ild7 dX8_chance_65 ?_
      refine qa_ild3 dX8_chance_67 ?_
      refine qa_iconst (v := 1) dX8_chance_68 (by decide) ?_
      refine qa_iadd dX8_chance_69 ?_
      refine qa_V2V dX8_chance_70 lm_X8_370 sh_1 rfl (by decide) (by decide) (Nat.le_of_ble_eq_true rfl) (tX8_followSnows l hp11  h) (fun μ12 hp12 h => ?_)
      refine qa_ald0 dX8_chance_73 ?_
      refine qa_getR dX8_chance_74 lf_X8_51 rfl sh_1 (by decide) (pp_1_10 hp12) (by decide) ?_
      refine qa_ild1 dX8_chance_77 ?_
      refine qa_ild3 dX8_chance_78 ?_
      refine qa_iconst (v := 1) dX8_chance_79 (by decide) ?_
      refine qa_iadd dX8_chance_80 ?_
      refine qa_V2I dX8_chance_81 lm_X8_155 (sy_0 (Or.inr rfl)) rfl (yle_0 (Or.inr rfl)) (by decide) (Nat.le_of_ble_eq_true rfl) (tX7_spot l hp12 (Or.inr rfl) h) (fun r13 μ13 hp13 h => ?_)
      refine qa_ild2 dX8_chance_84 ?_
      refine qa_icmp_ne (tgt := 95) dX8_chance_85 (by decide) (fun c14 => ?_) (fun c14 => ?_)
      · have h := h.1 c14
        refine qa_inc7 dX8_chance_95 (qa_io1 _) ?_
        refine qa_goto (tgt := 42) dX8_chance_98 (by decide) ?_
        refine qa_fgt (L' := [some (.ref 1), some (.int v1), some (.int v2), some (.int v3), some (.int v4), some (.long v5), none, some (.int (v7 + (1 : Int32))), none, none]) (⟨rfl, ⟨rfl, ⟨rfl, ⟨rfl, ⟨rfl, ⟨rfl, ⟨rfl, trivial⟩⟩⟩⟩⟩⟩⟩) ?_
        exact ih v1 v2 v3 v4 v5 (v7 + (1 : Int32)) μ13 hp13  h
      · have h := h.2 c14
        refine qa_lld5 dX8_chance_88 ?_
        refine qa_lld8 dX8_chance_90 ?_
        refine qa_ladd dX8_chance_92 ?_
        refine qa_nmL (fun x15 e15 => ?_)
        have h := h x15 e15
        refine qa_lst5 dX8_chance_93 ?_
        refine qa_inc7 dX8_chance_95 (qa_io1 _) ?_
        refine qa_goto (tgt := 42) dX8_chance_98 (by decide) ?_
        refine qa_fgt (L' := [some (.ref 1), some (.int v1), some (.int v2), some (.int v3), some (.int v4), some (.long x15), none, some (.int (v7 + (1 : Int32))), none, none]) (⟨rfl, ⟨rfl, ⟨rfl, ⟨rfl, ⟨rfl, ⟨rfl, ⟨rfl, trivial⟩⟩⟩⟩⟩⟩⟩) ?_
        exact ih v1 v2 v3 v4 x15 (v7 + (1 : Int32)) μ13 hp13  h
theorem tX8_chance (l : Launch) {n : Nat} {v1 : Int32} {v2 : Int32} {v3 : Int32} {v4 : Int32} {μ0 : qa_M} {Q : Int64 → qa_M → Prop} (hp0 : qa_PP μ0.2.2)  (h : wX8_chance n v1 v2 v3 v4 μ0 Q) : qa_Met l yX8_chance cX8_chance 10 (some .long) 5 0 0 [.ref 1, .int v1, .int v2, .int v3, .int v4] 113 μ0 (qa_pJ Q) := by
  refine qa_ofG (by decide) (Nat.le_of_ble_eq_true rfl) ?_
  unfold wX8_chance at h
  change qa_G l yX8_chance cX8_chance 10 (some .long) 5 0 0 (qa_pJ Q) 0 0 0 [some (.ref 1), some (.int v1), some (.int v2), some (.int v3), some (.int v4), none, none, none, none, none] [] 113 μ0
  refine qa_ald0 dX8_chance_0 ?_
  refine qa_ild1 dX8_chance_1 ?_
  refine qa_V1I dX8_chance_2 lm_X8_103 sh_1 rfl (by decide) (by decide) (Nat.le_of_ble_eq_true rfl) (tX8_isHouse l hp0  h) (fun r1 μ1 hp1 h => ?_)
  refine qa_if_eq (tgt := 32) dX8_chance_5 (by decide) (fun c2 => ?_) (fun c2 => ?_)
  · have h := h.1 c2
    refine qa_ldc2 dX8_chance_32 lk_X8_364 ?_
    exact qa_lret rfl dX8_chance_35 ⟨rfl, rfl⟩ ⟨rfl, hp1, _, rfl, h⟩
  · have h := h.2 c2
    refine qa_ald0 dX8_chance_8 ?_
    refine qa_ild2 dX8_chance_9 ?_
    refine qa_V1I dX8_chance_10 lm_X8_117 sh_1 rfl (by decide) (by decide) (Nat.le_of_ble_eq_true rfl) (tX8_isPlace l hp1  h) (fun r3 μ3 hp3 h => ?_)
    refine qa_if_eq (tgt := 32) dX8_chance_13 (by decide) (fun c4 => ?_) (fun c4 => ?_)
    · have h := h.1 c4
      refine qa_ldc2 dX8_chance_32 lk_X8_364 ?_
      exact qa_lret rfl dX8_chance_35 ⟨rfl, rfl⟩ ⟨rfl, hp3, _, rfl, h⟩
    · have h := h.2 c4
      refine qa_ald0 dX8_chance_16 ?_
      refine qa_ild3 dX8_chance_17 ?_
      refine qa_V1I dX8_chance_18 lm_X8_361 sh_1 rfl (by decide) (by decide) (Nat.le_of_ble_eq_true rfl) (tX8_isChanceWeek l hp3  h) (fun r5 μ5 hp5 h => ?_)
      refine qa_if_eq (tgt := 32) dX8_chance_21 (by decide) (fun c6 => ?_) (fun c6 => ?_)
      · have h := h.1 c6
        refine qa_ldc2 dX8_chance_32 lk_X8_364 ?_
        exact qa_lret rfl dX8_chance_35 ⟨rfl, rfl⟩ ⟨rfl, hp5, _, rfl, h⟩
      · have h := h.2 c6
        refine qa_ild4 dX8_chance_24 ?_
        refine qa_S1I dX8_chance_26 lm_X8_342  (by decide) (Nat.le_of_ble_eq_true rfl) (tX8_isPart l hp5  h) (fun r7 μ7 hp7 h => ?_)
        refine qa_if_ne (tgt := 36) dX8_chance_29 (by decide) (fun c8 => ?_) (fun c8 => ?_)
        · have h := h.1 c8
          refine qa_lconst (v := 0) dX8_chance_36 (by decide) ?_
          refine qa_lst5 dX8_chance_37 ?_
          refine qa_iconst (v := 0) dX8_chance_39 (by decide) ?_
          refine qa_ist7 dX8_chance_40 ?_
          refine qa_fgt (L' := [some (.ref 1), some (.int v1), some (.int v2), some (.int v3), some (.int v4), some (.long (0 : Int64)), none, some (.int (0 : Int32)), none, none]) (⟨rfl, ⟨rfl, ⟨rfl, ⟨rfl, ⟨rfl, ⟨rfl, ⟨rfl, trivial⟩⟩⟩⟩⟩⟩⟩) ?_
          refine tX8_chance_42 l ?_ n v1 v2 v3 v4 (0 : Int64) (0 : Int32) μ7 hp7  h
          · intro v3_17 v4_17 v5_17 μ16 hp16  h
            refine qa_lld5 dX8_chance_101 ?_
            refine qa_bipush (v := 10) dX8_chance_103 (by decide) ?_
            refine qa_ild3 dX8_chance_105 ?_
            refine qa_iconst (v := 1) dX8_chance_106 (by decide) ?_
            refine qa_iadd dX8_chance_107 ?_
            refine qa_S2J dX8_chance_108 lm_X8_374  (by decide) (Nat.le_of_ble_eq_true rfl) (tX8_power l hp16  h) (fun r18 μ18 hp18 h => ?_)
            refine qa_ild4 dX8_chance_111 ?_
            refine qa_S3J dX8_chance_113 lm_X8_351  (by decide) (Nat.le_of_ble_eq_true rfl) (tX8_fractionPart l hp18  h) (fun r19 μ19 hp19 h => ?_)
            exact qa_lret rfl dX8_chance_116 ⟨rfl, rfl⟩ ⟨rfl, hp19, _, rfl, h⟩
        · have h := h.2 c8
          refine qa_ldc2 dX8_chance_32 lk_X8_364 ?_
          exact qa_lret rfl dX8_chance_35 ⟨rfl, rfl⟩ ⟨rfl, hp7, _, rfl, h⟩
def wX8_rowsThere_4 : Nat → Int32 → Int32 → qa_M → (Int32 → qa_M → Prop) → Prop
  | 0, _, _, _, _ => False
  | n + 1, v1, v2, μ0, Q => (((4 : Int32) ≤ v2 → Q v1 μ0) ∧ (¬ (4 : Int32) ≤ v2 → vp_in v2 4 ∧ wX3_isThere n (83 + 2 * v2.toNatClampNeg) μ0 (fun r3 μ3 => ((r3 = 0 → wX8_rowsThere_4 n v1 (v2 + (1 : Int32)) μ3 Q) ∧ (¬ r3 = 0 → wX8_rowsThere_4 n (v1 + (1 : Int32)) (v2 + (1 : Int32)) μ3 Q)))))
def wX8_rowsThere (n : Nat)  (μ0 : qa_M) (Q : Int32 → qa_M → Prop) : Prop := wX8_rowsThere_4 n (0 : Int32) (0 : Int32) μ0  Q
theorem tX8_rowsThere_4 (l : Launch)  {Q : Int32 → qa_M → Prop}  : ∀ (n : Nat) (v1 : Int32) (v2 : Int32) (μ0 : qa_M), qa_PP μ0.2.2 → wX8_rowsThere_4 n v1 v2 μ0  Q → qa_G l yX8_rowsThere cX8_rowsThere 3 (some .int) 1 0 0 (qa_pI Q) 0 0 4 [some (.ref 1), some (.int v1), some (.int v2)] [] 113 μ0 := by
  intro n
  induction n with
  | zero =>
    intro v1 v2 μ0 hp0  h
    rw [wX8_rowsThere_4] at h
    exact h.elim
  | succ n ih =>
    intro v1 v2 μ0 hp0  h
    rw [wX8_rowsThere_4] at h
    refine qa_ild2 dX8_rowsThere_4 ?_
    refine qa_iconst (v := 4) dX8_rowsThere_5 (by decide) ?_
    refine qa_icmp_ge (tgt := 30) dX8_rowsThere_6 (by decide) (fun c1 => ?_) (fun c1 => ?_)
    · have h := h.1 c1
      refine qa_ild1 dX8_rowsThere_30 ?_
      exact qa_iret rfl dX8_rowsThere_31 ⟨rfl, rfl⟩ ⟨rfl, hp0, _, rfl, h⟩
    · have h := h.2 c1
      refine qa_ald0 dX8_rowsThere_9 ?_
      refine qa_getR dX8_rowsThere_10 lf_X8_33 rfl sh_1 (by decide) (pp_1_7 hp0) (by decide) ?_
      refine qa_ild2 dX8_rowsThere_13 ?_
      have b2 := h.1
      have h := h.2
      refine qa_aald (t := 6) dX8_rowsThere_14 sh_30 rfl (by decide) b2 (psl hp0 b2) (qa_rw0 (qa_rwi b2)) ?_
      refine qa_V0I dX8_rowsThere_15 lm_X8_313 (sr_0 (qa_rwi b2)) rfl (rle_0 (qa_rwi b2)) (by decide) (Nat.le_of_ble_eq_true rfl) (tX3_isThere l hp0 (qa_rwi b2) h) (fun r3 μ3 hp3 h => ?_)
      refine qa_if_eq (tgt := 24) dX8_rowsThere_18 (by decide) (fun c4 => ?_) (fun c4 => ?_)
      · have h := h.1 c4
        refine qa_inc2 dX8_rowsThere_24 (qa_io1 _) ?_
        refine qa_goto (tgt := 4) dX8_rowsThere_27 (by decide) ?_
        refine qa_fgt (L' := [some (.ref 1), some (.int v1), some (.int (v2 + (1 : Int32)))]) (⟨rfl, ⟨rfl, ⟨rfl, trivial⟩⟩⟩) ?_
        exact ih v1 (v2 + (1 : Int32)) μ3 hp3  h
      · have h := h.2 c4
        refine qa_inc1 dX8_rowsThere_21 (qa_io1 _) ?_
        refine qa_inc2 dX8_rowsThere_24 (qa_io1 _) ?_
        refine qa_goto (tgt := 4) dX8_rowsThere_27 (by decide) ?_
        refine qa_fgt (L' := [some (.ref 1), some (.int (v1 + (1 : Int32))), some (.int (v2 + (1 : Int32)))]) (⟨rfl, ⟨rfl, ⟨rfl, trivial⟩⟩⟩) ?_
        exact ih (v1 + (1 : Int32)) (v2 + (1 : Int32)) μ3 hp3  h
theorem tX8_rowsThere (l : Launch) {n : Nat}  {μ0 : qa_M} {Q : Int32 → qa_M → Prop} (hp0 : qa_PP μ0.2.2)  (h : wX8_rowsThere n  μ0 Q) : qa_Met l yX8_rowsThere cX8_rowsThere 3 (some .int) 1 0 0 [.ref 1] 113 μ0 (qa_pI Q) := by
  refine qa_ofG (by decide) (Nat.le_of_ble_eq_true rfl) ?_
  unfold wX8_rowsThere at h
  change qa_G l yX8_rowsThere cX8_rowsThere 3 (some .int) 1 0 0 (qa_pI Q) 0 0 0 [some (.ref 1), none, none] [] 113 μ0
  refine qa_iconst (v := 0) dX8_rowsThere_0 (by decide) ?_
  refine qa_ist1 dX8_rowsThere_1 ?_
  refine qa_iconst (v := 0) dX8_rowsThere_2 (by decide) ?_
  refine qa_ist2 dX8_rowsThere_3 ?_
  refine qa_fgt (L' := [some (.ref 1), some (.int (0 : Int32)), some (.int (0 : Int32))]) (⟨rfl, ⟨rfl, ⟨rfl, trivial⟩⟩⟩) ?_
  refine tX8_rowsThere_4 l  n (0 : Int32) (0 : Int32) μ0 hp0  h
def wX8_count (n : Nat) (v1 : Int32) (μ0 : qa_M) (Q : Int32 → qa_M → Prop) : Prop := ((v1 = (0 : Int32) → Q (μ0.1 (μ0.2.2 1 2) 1) μ0) ∧ (¬ v1 = (0 : Int32) → ((v1 = (1 : Int32) → Q (μ0.1 (μ0.2.2 1 2) 2) μ0) ∧ (¬ v1 = (1 : Int32) → ((v1 = (2 : Int32) → Q (μ0.1 (μ0.2.2 1 2) 3) μ0) ∧ (¬ v1 = (2 : Int32) → ((v1 = (3 : Int32) → Q (μ0.1 (μ0.2.2 1 2) 4) μ0) ∧ (¬ v1 = (3 : Int32) → ((v1 = (4 : Int32) → Q (μ0.1 (μ0.2.2 1 2) 5) μ0) ∧ (¬ v1 = (4 : Int32) → ((v1 = (5 : Int32) → Q (μ0.1 (μ0.2.2 1 2) 6) μ0) ∧ (¬ v1 = (5 : Int32) → ((v1 = (6 : Int32) → Q (μ0.1 (μ0.2.2 1 2) 7) μ0) ∧ (¬ v1 = (6 : Int32) → ((v1 = (7 : Int32) → Q (μ0.1 (μ0.2.2 1 2) 8) μ0) ∧ (¬ v1 = (7 : Int32) → ((v1 = (8 : Int32) → Q (μ0.1 ((μ0.2.2 1 2) + 7) 0) μ0) ∧ (¬ v1 = (8 : Int32) → ((v1 = (9 : Int32) → Q (μ0.1 (μ0.2.2 1 2) 0) μ0) ∧ (¬ v1 = (9 : Int32) → ((v1 = (10 : Int32) → Q (μ0.1 2 1) μ0) ∧ (¬ v1 = (10 : Int32) → ((v1 = (11 : Int32) → wX8_rowsThere n  μ0 (fun r13 μ13 => Q r13 μ13)) ∧ (¬ v1 = (11 : Int32) → Q (-1 : Int32) μ0))))))))))))))))))))))))
theorem tX8_count (l : Launch) {n : Nat} {v1 : Int32} {μ0 : qa_M} {Q : Int32 → qa_M → Prop} (hp0 : qa_PP μ0.2.2)  (h : wX8_count n v1 μ0 Q) : qa_Met l yX8_count cX8_count 2 (some .int) 2 0 0 [.ref 1, .int v1] 113 μ0 (qa_pI Q) := by
  refine qa_ofG (by decide) (Nat.le_of_ble_eq_true rfl) ?_
  unfold wX8_count at h
  change qa_G l yX8_count cX8_count 2 (some .int) 2 0 0 (qa_pI Q) 0 0 0 [some (.ref 1), some (.int v1)] [] 113 μ0
  refine qa_ild1 dX8_count_0 ?_
  by_cases c1 : v1 = (0 : Int32)
  · have h := h.1 c1
    refine qa_tabIn (tgt := 64) dX8_count_1 (by rw [c1]; decide) (by rw [c1]; decide) (by rw [c1]; rfl) (by decide) ?_
    refine qa_ald0 dX8_count_64 ?_
    refine qa_getR dX8_count_65 lf_X8_19 rfl sh_1 (by decide) rfl (qa_tw0 hp0.2.1) ?_
    refine qa_getI dX8_count_68 lf_X8_145 (Or.inl rfl) (st_0 hp0.2.1) (tle_0 hp0.2.1) ?_
    exact qa_iret rfl dX8_count_71 ⟨rfl, rfl⟩ ⟨rfl, hp0, _, rfl, h⟩
  have h := h.2 c1
  by_cases c2 : v1 = (1 : Int32)
  · have h := h.1 c2
    refine qa_tabIn (tgt := 72) dX8_count_1 (by rw [c2]; decide) (by rw [c2]; decide) (by rw [c2]; rfl) (by decide) ?_
    refine qa_ald0 dX8_count_72 ?_
    refine qa_getR dX8_count_73 lf_X8_19 rfl sh_1 (by decide) rfl (qa_tw0 hp0.2.1) ?_
    refine qa_getI dX8_count_76 lf_X8_242 (Or.inl rfl) (st_0 hp0.2.1) (tle_0 hp0.2.1) ?_
    exact qa_iret rfl dX8_count_79 ⟨rfl, rfl⟩ ⟨rfl, hp0, _, rfl, h⟩
  have h := h.2 c2
  by_cases c3 : v1 = (2 : Int32)
  · have h := h.1 c3
    refine qa_tabIn (tgt := 80) dX8_count_1 (by rw [c3]; decide) (by rw [c3]; decide) (by rw [c3]; rfl) (by decide) ?_
    refine qa_ald0 dX8_count_80 ?_
    refine qa_getR dX8_count_81 lf_X8_19 rfl sh_1 (by decide) rfl (qa_tw0 hp0.2.1) ?_
    refine qa_getI dX8_count_84 lf_X8_245 (Or.inl rfl) (st_0 hp0.2.1) (tle_0 hp0.2.1) ?_
    exact qa_iret rfl dX8_count_87 ⟨rfl, rfl⟩ ⟨rfl, hp0, _, rfl, h⟩
  have h := h.2 c3
  by_cases c4 : v1 = (3 : Int32)
  · have h := h.1 c4
    refine qa_tabIn (tgt := 88) dX8_count_1 (by rw [c4]; decide) (by rw [c4]; decide) (by rw [c4]; rfl) (by decide) ?_
    refine qa_ald0 dX8_count_88 ?_
    refine qa_getR dX8_count_89 lf_X8_19 rfl sh_1 (by decide) rfl (qa_tw0 hp0.2.1) ?_
    refine qa_getI dX8_count_92 lf_X8_381 (Or.inl rfl) (st_0 hp0.2.1) (tle_0 hp0.2.1) ?_
    exact qa_iret rfl dX8_count_95 ⟨rfl, rfl⟩ ⟨rfl, hp0, _, rfl, h⟩
  have h := h.2 c4
  by_cases c5 : v1 = (4 : Int32)
  · have h := h.1 c5
    refine qa_tabIn (tgt := 96) dX8_count_1 (by rw [c5]; decide) (by rw [c5]; decide) (by rw [c5]; rfl) (by decide) ?_
    refine qa_ald0 dX8_count_96 ?_
    refine qa_getR dX8_count_97 lf_X8_19 rfl sh_1 (by decide) rfl (qa_tw0 hp0.2.1) ?_
    refine qa_getI dX8_count_100 lf_X8_158 (Or.inl rfl) (st_0 hp0.2.1) (tle_0 hp0.2.1) ?_
    exact qa_iret rfl dX8_count_103 ⟨rfl, rfl⟩ ⟨rfl, hp0, _, rfl, h⟩
  have h := h.2 c5
  by_cases c6 : v1 = (5 : Int32)
  · have h := h.1 c6
    refine qa_tabIn (tgt := 104) dX8_count_1 (by rw [c6]; decide) (by rw [c6]; decide) (by rw [c6]; rfl) (by decide) ?_
    refine qa_ald0 dX8_count_104 ?_
    refine qa_getR dX8_count_105 lf_X8_19 rfl sh_1 (by decide) rfl (qa_tw0 hp0.2.1) ?_
    refine qa_getI dX8_count_108 lf_X8_416 (Or.inl rfl) (st_0 hp0.2.1) (tle_0 hp0.2.1) ?_
    exact qa_iret rfl dX8_count_111 ⟨rfl, rfl⟩ ⟨rfl, hp0, _, rfl, h⟩
  have h := h.2 c6
  by_cases c7 : v1 = (6 : Int32)
  · have h := h.1 c7
    refine qa_tabIn (tgt := 112) dX8_count_1 (by rw [c7]; decide) (by rw [c7]; decide) (by rw [c7]; rfl) (by decide) ?_
    refine qa_ald0 dX8_count_112 ?_
    refine qa_getR dX8_count_113 lf_X8_19 rfl sh_1 (by decide) rfl (qa_tw0 hp0.2.1) ?_
    refine qa_getI dX8_count_116 lf_X8_419 (Or.inl rfl) (st_0 hp0.2.1) (tle_0 hp0.2.1) ?_
    exact qa_iret rfl dX8_count_119 ⟨rfl, rfl⟩ ⟨rfl, hp0, _, rfl, h⟩
  have h := h.2 c7
  by_cases c8 : v1 = (7 : Int32)
  · have h := h.1 c8
    refine qa_tabIn (tgt := 120) dX8_count_1 (by rw [c8]; decide) (by rw [c8]; decide) (by rw [c8]; rfl) (by decide) ?_
    refine qa_ald0 dX8_count_120 ?_
    refine qa_getR dX8_count_121 lf_X8_19 rfl sh_1 (by decide) rfl (qa_tw0 hp0.2.1) ?_
    refine qa_getI dX8_count_124 lf_X8_422 (Or.inl rfl) (st_0 hp0.2.1) (tle_0 hp0.2.1) ?_
    exact qa_iret rfl dX8_count_127 ⟨rfl, rfl⟩ ⟨rfl, hp0, _, rfl, h⟩
  have h := h.2 c8
  by_cases c9 : v1 = (8 : Int32)
  · have h := h.1 c9
    refine qa_tabIn (tgt := 128) dX8_count_1 (by rw [c9]; decide) (by rw [c9]; decide) (by rw [c9]; rfl) (by decide) ?_
    refine qa_ald0 dX8_count_128 ?_
    refine qa_getR dX8_count_129 lf_X8_19 rfl sh_1 (by decide) rfl (qa_tw0 hp0.2.1) ?_
    refine qa_getR dX8_count_132 lf_X8_387 rfl (st_0 hp0.2.1) (tle_0 hp0.2.1) (pt_17 hp0 hp0.2.1) (Nat.succ_pos _) ?_
    refine qa_getI dX8_count_135 lf_X8_391 (Or.inl rfl) (st_7 hp0.2.1) (tle_7 hp0.2.1) ?_
    exact qa_iret rfl dX8_count_138 ⟨rfl, rfl⟩ ⟨rfl, hp0, _, rfl, h⟩
  have h := h.2 c9
  by_cases c10 : v1 = (9 : Int32)
  · have h := h.1 c10
    refine qa_tabIn (tgt := 139) dX8_count_1 (by rw [c10]; decide) (by rw [c10]; decide) (by rw [c10]; rfl) (by decide) ?_
    refine qa_ald0 dX8_count_139 ?_
    refine qa_getR dX8_count_140 lf_X8_19 rfl sh_1 (by decide) rfl (qa_tw0 hp0.2.1) ?_
    refine qa_getI dX8_count_143 lf_X8_97 (Or.inl rfl) (st_0 hp0.2.1) (tle_0 hp0.2.1) ?_
    exact qa_iret rfl dX8_count_146 ⟨rfl, rfl⟩ ⟨rfl, hp0, _, rfl, h⟩
  have h := h.2 c10
  by_cases c11 : v1 = (10 : Int32)
  · have h := h.1 c11
    refine qa_tabIn (tgt := 147) dX8_count_1 (by rw [c11]; decide) (by rw [c11]; decide) (by rw [c11]; rfl) (by decide) ?_
    refine qa_ald0 dX8_count_147 ?_
    refine qa_getR dX8_count_148 lf_X8_10 rfl sh_1 (by decide) (pp_1_0 hp0) (by decide) ?_
    refine qa_getI dX8_count_151 lf_X8_77 (Or.inl rfl) sh_2 (by decide) ?_
    exact qa_iret rfl dX8_count_154 ⟨rfl, rfl⟩ ⟨rfl, hp0, _, rfl, h⟩
  have h := h.2 c11
  by_cases c12 : v1 = (11 : Int32)
  · have h := h.1 c12
    refine qa_tabIn (tgt := 155) dX8_count_1 (by rw [c12]; decide) (by rw [c12]; decide) (by rw [c12]; rfl) (by decide) ?_
    refine qa_ald0 dX8_count_155 ?_
    refine qa_V0I dX8_count_156 lm_X8_425 sh_1 rfl (by decide) (by decide) (Nat.le_of_ble_eq_true rfl) (tX8_rowsThere l hp0  h) (fun r13 μ13 hp13 h => ?_)
    exact qa_iret rfl dX8_count_159 ⟨rfl, rfl⟩ ⟨rfl, hp13, _, rfl, h⟩
  have h := h.2 c12
  have o14 : v1.toInt < 0 ∨ 11 < v1.toInt := by
    have qc1 : v1.toInt ≠ 0 := fun q => c1 (Int32.toInt_inj.mp (q.trans rfl))
    have qc2 : v1.toInt ≠ 1 := fun q => c2 (Int32.toInt_inj.mp (q.trans rfl))
    have qc3 : v1.toInt ≠ 2 := fun q => c3 (Int32.toInt_inj.mp (q.trans rfl))
    have qc4 : v1.toInt ≠ 3 := fun q => c4 (Int32.toInt_inj.mp (q.trans rfl))
    have qc5 : v1.toInt ≠ 4 := fun q => c5 (Int32.toInt_inj.mp (q.trans rfl))
    have qc6 : v1.toInt ≠ 5 := fun q => c6 (Int32.toInt_inj.mp (q.trans rfl))
    have qc7 : v1.toInt ≠ 6 := fun q => c7 (Int32.toInt_inj.mp (q.trans rfl))
    have qc8 : v1.toInt ≠ 7 := fun q => c8 (Int32.toInt_inj.mp (q.trans rfl))
    have qc9 : v1.toInt ≠ 8 := fun q => c9 (Int32.toInt_inj.mp (q.trans rfl))
    have qc10 : v1.toInt ≠ 9 := fun q => c10 (Int32.toInt_inj.mp (q.trans rfl))
    have qc11 : v1.toInt ≠ 10 := fun q => c11 (Int32.toInt_inj.mp (q.trans rfl))
    have qc12 : v1.toInt ≠ 11 := fun q => c12 (Int32.toInt_inj.mp (q.trans rfl))
    omega
  refine qa_tabOut (tgt := 160) dX8_count_1 o14 (by decide) ?_
  refine qa_iconst (v := -1) dX8_count_160 (by decide) ?_
  exact qa_iret rfl dX8_count_161 ⟨rfl, rfl⟩ ⟨rfl, hp0, _, rfl, h⟩
def wX8_cut (n : Nat) (v0 : Int64) (v2 : Int32) (μ0 : qa_M) (Q : Int64 → qa_M → Prop) : Prop := ((v2 = (0 : Int32) → Q v0.toInt32.toInt8.toInt32.toInt64 μ0) ∧ (¬ v2 = (0 : Int32) → ((v2 = (1 : Int32) → Q v0.toInt32.toInt16.toInt32.toInt64 μ0) ∧ (¬ v2 = (1 : Int32) → ((v2 = (2 : Int32) → Q v0.toInt32.toInt64 μ0) ∧ (¬ v2 = (2 : Int32) → Q v0 μ0))))))
theorem tX8_cut (l : Launch) {n : Nat} {v0 : Int64} {v2 : Int32} {μ0 : qa_M} {Q : Int64 → qa_M → Prop} (hp0 : qa_PP μ0.2.2)  (h : wX8_cut n v0 v2 μ0 Q) : qa_Met l yX8_cut cX8_cut 3 (some .long) 0 0 0 [.long v0, .int v2] 113 μ0 (qa_pJ Q) := by
  refine qa_ofG (by decide) (Nat.le_of_ble_eq_true rfl) ?_
  unfold wX8_cut at h
  change qa_G l yX8_cut cX8_cut 3 (some .long) 0 0 0 (qa_pJ Q) 0 0 0 [some (.long v0), none, some (.int v2)] [] 113 μ0
  refine qa_ild2 dX8_cut_0 ?_
  by_cases c1 : v2 = (0 : Int32)
  · have h := h.1 c1
    refine qa_tabIn (tgt := 28) dX8_cut_1 (by rw [c1]; decide) (by rw [c1]; decide) (by rw [c1]; rfl) (by decide) ?_
    refine qa_lld0 dX8_cut_28 ?_
    refine qa_l2i dX8_cut_29 ?_
    refine qa_i2b dX8_cut_30 ?_
    refine qa_i2l dX8_cut_31 ?_
    exact qa_lret rfl dX8_cut_32 ⟨rfl, rfl⟩ ⟨rfl, hp0, _, rfl, h⟩
  have h := h.2 c1
  by_cases c2 : v2 = (1 : Int32)
  · have h := h.1 c2
    refine qa_tabIn (tgt := 33) dX8_cut_1 (by rw [c2]; decide) (by rw [c2]; decide) (by rw [c2]; rfl) (by decide) ?_
    refine qa_lld0 dX8_cut_33 ?_
    refine qa_l2i dX8_cut_34 ?_
    refine qa_i2s dX8_cut_35 ?_
    refine qa_i2l dX8_cut_36 ?_
    exact qa_lret rfl dX8_cut_37 ⟨rfl, rfl⟩ ⟨rfl, hp0, _, rfl, h⟩
  have h := h.2 c2
  by_cases c3 : v2 = (2 : Int32)
  · have h := h.1 c3
    refine qa_tabIn (tgt := 38) dX8_cut_1 (by rw [c3]; decide) (by rw [c3]; decide) (by rw [c3]; rfl) (by decide) ?_
    refine qa_lld0 dX8_cut_38 ?_
    refine qa_l2i dX8_cut_39 ?_
    refine qa_i2l dX8_cut_40 ?_
    exact qa_lret rfl dX8_cut_41 ⟨rfl, rfl⟩ ⟨rfl, hp0, _, rfl, h⟩
  have h := h.2 c3
  have o4 : v2.toInt < 0 ∨ 2 < v2.toInt := by
    have qc1 : v2.toInt ≠ 0 := fun q => c1 (Int32.toInt_inj.mp (q.trans rfl))
    have qc2 : v2.toInt ≠ 1 := fun q => c2 (Int32.toInt_inj.mp (q.trans rfl))
    have qc3 : v2.toInt ≠ 2 := fun q => c3 (Int32.toInt_inj.mp (q.trans rfl))
    omega
  refine qa_tabOut (tgt := 42) dX8_cut_1 o4 (by decide) ?_
  refine qa_lld0 dX8_cut_42 ?_
  exact qa_lret rfl dX8_cut_43 ⟨rfl, rfl⟩ ⟨rfl, hp0, _, rfl, h⟩
def wX8_isSeed (n : Nat) (v0 : Int32) (μ0 : qa_M) (Q : Int32 → qa_M → Prop) : Prop := ((v0 < 0 → Q (0 : Int32) μ0) ∧ (¬ v0 < 0 → (((2000000000 : Int32) < v0 → Q (0 : Int32) μ0) ∧ (¬ (2000000000 : Int32) < v0 → Q (1 : Int32) μ0))))
theorem tX8_isSeed (l : Launch) {n : Nat} {v0 : Int32} {μ0 : qa_M} {Q : Int32 → qa_M → Prop} (hp0 : qa_PP μ0.2.2)  (h : wX8_isSeed n v0 μ0 Q) : qa_Met l yX8_isSeed cX8_isSeed 1 (some .boolean) 0 0 0 [.int v0] 113 μ0 (qa_pI Q) := by
  refine qa_ofG (by decide) (Nat.le_of_ble_eq_true rfl) ?_
  unfold wX8_isSeed at h
  change qa_G l yX8_isSeed cX8_isSeed 1 (some .boolean) 0 0 0 (qa_pI Q) 0 0 0 [some (.int v0)] [] 113 μ0
  refine qa_ild0 dX8_isSeed_0 ?_
  refine qa_if_lt (tgt := 15) dX8_isSeed_1 (by decide) (fun c1 => ?_) (fun c1 => ?_)
  · have h := h.1 c1
    refine qa_iconst (v := 0) dX8_isSeed_15 (by decide) ?_
    exact qa_zret rfl rfl dX8_isSeed_16 ⟨rfl, rfl⟩ ⟨rfl, hp0, _, rfl, h⟩
  · have h := h.2 c1
    refine qa_ild0 dX8_isSeed_4 ?_
    refine qa_ldcw dX8_isSeed_5 lk_X8_454 ?_
    refine qa_icmp_gt (tgt := 15) dX8_isSeed_8 (by decide) (fun c2 => ?_) (fun c2 => ?_)
    · have h := h.1 c2
      refine qa_iconst (v := 0) dX8_isSeed_15 (by decide) ?_
      exact qa_zret rfl rfl dX8_isSeed_16 ⟨rfl, rfl⟩ ⟨rfl, hp0, _, rfl, h⟩
    · have h := h.2 c2
      refine qa_iconst (v := 1) dX8_isSeed_11 (by decide) ?_
      refine qa_goto (tgt := 16) dX8_isSeed_12 (by decide) ?_
      exact qa_zret rfl rfl dX8_isSeed_16 ⟨rfl, rfl⟩ ⟨rfl, hp0, _, rfl, h⟩
def wX8_drawnSnows_9 : Nat → Int64 → Int32 → Int32 → qa_M → (Int32 → qa_M → Prop) → Prop
  | 0, _, _, _, _, _ => False
  | n + 1, v2, v4, v5, μ0, Q => (((μ0.1 (μ0.2.2 1 2) 1) ≤ v5 → Q v4 μ0) ∧ (¬ (μ0.1 (μ0.2.2 1 2) 1) ≤ v5 → ∀ x3, x3 = ((((1103515245 : Int64) * v2) + (12345 : Int64)) &&& (2147483647 : Int64)) → ((0 ≤ (lg_cmp ((x3 / (65536 : Int64)) - (x3 / (65536 : Int64)) / (10 : Int64) * (10 : Int64)) (μ0.1 (μ0.2.2 1 2) 4).toInt64) → wX8_drawnSnows_9 n x3 v4 (v5 + (1 : Int32)) μ0 Q) ∧ (¬ 0 ≤ (lg_cmp ((x3 / (65536 : Int64)) - (x3 / (65536 : Int64)) / (10 : Int64) * (10 : Int64)) (μ0.1 (μ0.2.2 1 2) 4).toInt64) → ∀ x5, x5 = (v4 ||| ((1 : Int32) <<< (v5 &&& 31))) → wX8_drawnSnows_9 n x3 x5 (v5 + (1 : Int32)) μ0 Q))))
def wX8_drawnSnows (n : Nat) (v1 : Int32) (μ0 : qa_M) (Q : Int32 → qa_M → Prop) : Prop := ∀ x1, x1 = v1.toInt64 → wX8_drawnSnows_9 n x1 (0 : Int32) (0 : Int32) μ0  Q
theorem tX8_drawnSnows_9 (l : Launch)  {Q : Int32 → qa_M → Prop}  : ∀ (n : Nat) (v2 : Int64) (v4 : Int32) (v5 : Int32) (μ0 : qa_M), qa_PP μ0.2.2 → wX8_drawnSnows_9 n v2 v4 v5 μ0  Q → qa_G l yX8_drawnSnows cX8_drawnSnows 6 (some .int) 0 0 0 (qa_pI Q) 0 0 9 [some (.ref 1), none, some (.long v2), none, some (.int v4), some (.int v5)] [] 113 μ0 := by
  intro n
  induction n with
  | zero =>
    intro v2 v4 v5 μ0 hp0  h
    rw [wX8_drawnSnows_9] at h
    exact h.elim
  | succ n ih =>
    intro v2 v4 v5 μ0 hp0  h
    rw [wX8_drawnSnows_9] at h
    refine qa_ild5 dX8_drawnSnows_9 ?_
    refine qa_ald0 dX8_drawnSnows_11 ?_
    refine qa_getR dX8_drawnSnows_12 lf_X8_19 rfl sh_1 (by decide) rfl (qa_tw0 hp0.2.1) ?_
    refine qa_getI dX8_drawnSnows_15 lf_X8_145 (Or.inl rfl) (st_0 hp0.2.1) (tle_0 hp0.2.1) ?_
    refine qa_icmp_ge (tgt := 71) dX8_drawnSnows_18 (by decide) (fun c2 => ?_) (fun c2 => ?_)
    · have h := h.1 c2
      refine qa_ild4 dX8_drawnSnows_71 ?_
      exact qa_iret rfl dX8_drawnSnows_73 ⟨rfl, rfl⟩ ⟨rfl, hp0, _, rfl, h⟩
    · have h := h.2 c2
      refine qa_ldc2 dX8_drawnSnows_21 lk_X8_406 ?_
      refine qa_lld2 dX8_drawnSnows_24 ?_
      refine qa_lmul dX8_drawnSnows_25 ?_
      refine qa_ldc2 dX8_drawnSnows_26 lk_X8_408 ?_
      refine qa_ladd dX8_drawnSnows_29 ?_
      refine qa_ldc2 dX8_drawnSnows_30 lk_X8_410 ?_
      refine qa_land dX8_drawnSnows_33 ?_
      refine qa_nmL (fun x3 e3 => ?_)
      have h := h x3 e3
      refine qa_lst2 dX8_drawnSnows_34 ?_
      refine qa_lld2 dX8_drawnSnows_35 ?_
      refine qa_ldc2 dX8_drawnSnows_36 lk_X8_412 ?_
      refine qa_ldiv dX8_drawnSnows_39 (by decide) ?_
      refine qa_ldc2 dX8_drawnSnows_40 lk_X8_414 ?_
      refine qa_lrem dX8_drawnSnows_43 (by decide) ?_
      refine qa_ald0 dX8_drawnSnows_44 ?_
      refine qa_getR dX8_drawnSnows_45 lf_X8_19 rfl sh_1 (by decide) rfl (qa_tw0 hp0.2.1) ?_
      refine qa_getI dX8_drawnSnows_48 lf_X8_381 (Or.inl rfl) (st_0 hp0.2.1) (tle_0 hp0.2.1) ?_
      refine qa_i2l dX8_drawnSnows_51 ?_
      refine qa_lcmp dX8_drawnSnows_52 ?_
      refine qa_if_ge (tgt := 65) dX8_drawnSnows_53 (by decide) (fun c4 => ?_) (fun c4 => ?_)
      · have h := h.1 c4
        refine qa_inc5 dX8_drawnSnows_65 (qa_io1 _) ?_
        refine qa_goto (tgt := 9) dX8_drawnSnows_68 (by decide) ?_
        refine qa_fgt (L' := [some (.ref 1), none, some (.long x3), none, some (.int v4), some (.int (v5 + (1 : Int32)))]) (⟨rfl, ⟨rfl, ⟨rfl, ⟨rfl, trivial⟩⟩⟩⟩) ?_
        exact ih x3 v4 (v5 + (1 : Int32)) μ0 hp0  h
      · have h := h.2 c4
        refine qa_ild4 dX8_drawnSnows_56 ?_
        refine qa_iconst (v := 1) dX8_drawnSnows_58 (by decide) ?_
        refine qa_ild5 dX8_drawnSnows_59 ?_
        refine qa_ishl dX8_drawnSnows_61 ?_
        refine qa_ior dX8_drawnSnows_62 ?_
        refine qa_nmI (fun x5 e5 => ?_)
        have h := h x5 e5
        refine qa_ist4 dX8_drawnSnows_63 ?_
        refine qa_inc5 dX8_drawnSnows_65 (qa_io1 _) ?_
        refine qa_goto (tgt := 9) dX8_drawnSnows_68 (by decide) ?_
        refine qa_fgt (L' := [some (.ref 1), none, some (.long x3), none, some (.int x5), some (.int (v5 + (1 : Int32)))]) (⟨rfl, ⟨rfl, ⟨rfl, ⟨rfl, trivial⟩⟩⟩⟩) ?_
        exact ih x3 x5 (v5 + (1 : Int32)) μ0 hp0  h
theorem tX8_drawnSnows (l : Launch) {n : Nat} {v1 : Int32} {μ0 : qa_M} {Q : Int32 → qa_M → Prop} (hp0 : qa_PP μ0.2.2)  (h : wX8_drawnSnows n v1 μ0 Q) : qa_Met l yX8_drawnSnows cX8_drawnSnows 6 (some .int) 0 0 0 [.ref 1, .int v1] 113 μ0 (qa_pI Q) := by
  refine qa_ofG (by decide) (Nat.le_of_ble_eq_true rfl) ?_
  unfold wX8_drawnSnows at h
  change qa_G l yX8_drawnSnows cX8_drawnSnows 6 (some .int) 0 0 0 (qa_pI Q) 0 0 0 [some (.ref 1), some (.int v1), none, none, none, none] [] 113 μ0
  refine qa_ild1 dX8_drawnSnows_0 ?_
  refine qa_i2l dX8_drawnSnows_1 ?_
  refine qa_nmL (fun x1 e1 => ?_)
  have h := h x1 e1
  refine qa_lst2 dX8_drawnSnows_2 ?_
  refine qa_iconst (v := 0) dX8_drawnSnows_3 (by decide) ?_
  refine qa_ist4 dX8_drawnSnows_4 ?_
  refine qa_iconst (v := 0) dX8_drawnSnows_6 (by decide) ?_
  refine qa_ist5 dX8_drawnSnows_7 ?_
  refine qa_fgt (L' := [some (.ref 1), none, some (.long x1), none, some (.int (0 : Int32)), some (.int (0 : Int32))]) (⟨rfl, ⟨rfl, ⟨rfl, ⟨rfl, trivial⟩⟩⟩⟩) ?_
  refine tX8_drawnSnows_9 l  n x1 (0 : Int32) (0 : Int32) μ0 hp0  h
def wX8_drawn (n : Nat) (v1 : Int32) (v2 : Int32) (μ0 : qa_M) (Q : Int32 → qa_M → Prop) : Prop := wX8_hasTown n  μ0 (fun r1 μ1 => ((r1 = 0 → Q (-2 : Int32) μ1) ∧ (¬ r1 = 0 → wX8_isSeed n v1 μ1 (fun r3 μ3 => ((r3 = 0 → Q (-2 : Int32) μ3) ∧ (¬ r3 = 0 → ((v2 < 0 → Q (-2 : Int32) μ3) ∧ (¬ v2 < 0 → ((v2 ≤ (2 : Int32) → wX8_drawnSnows n v1 μ3 (fun r7 μ7 => ((¬ v2 = 0 → wX8_followSnows n r7 (μ7.1 (μ7.2.2 1 2) 1) μ7 (fun μ9 => ((¬ v2 = (1 : Int32) → wX7_reachedBits n 37 (μ9.2.2 1 2) μ9 (fun r11 μ11 => Q r11 μ11)) ∧ (v2 = (1 : Int32) → wX7_spread n 37 (μ9.2.2 1 2) μ9 (fun r12 μ12 => Q r12 μ12))))) ∧ (v2 = 0 → Q r7 μ7)))) ∧ (¬ v2 ≤ (2 : Int32) → Q (-2 : Int32) μ3))))))))))
theorem tX8_drawn (l : Launch) {n : Nat} {v1 : Int32} {v2 : Int32} {μ0 : qa_M} {Q : Int32 → qa_M → Prop} (hp0 : qa_PP μ0.2.2)  (h : wX8_drawn n v1 v2 μ0 Q) : qa_Met l yX8_drawn cX8_drawn 4 (some .int) 5 0 0 [.ref 1, .int v1, .int v2] 113 μ0 (qa_pI Q) := by
  refine qa_ofG (by decide) (Nat.le_of_ble_eq_true rfl) ?_
  unfold wX8_drawn at h
  change qa_G l yX8_drawn cX8_drawn 4 (some .int) 5 0 0 (qa_pI Q) 0 0 0 [some (.ref 1), some (.int v1), some (.int v2), none] [] 113 μ0
  refine qa_ald0 dX8_drawn_0 ?_
  refine qa_V0I dX8_drawn_1 lm_X8_138 sh_1 rfl (by decide) (by decide) (Nat.le_of_ble_eq_true rfl) (tX8_hasTown l hp0  h) (fun r1 μ1 hp1 h => ?_)
  refine qa_if_eq (tgt := 23) dX8_drawn_4 (by decide) (fun c2 => ?_) (fun c2 => ?_)
  · have h := h.1 c2
    refine qa_bipush (v := -2) dX8_drawn_23 (by decide) ?_
    exact qa_iret rfl dX8_drawn_25 ⟨rfl, rfl⟩ ⟨rfl, hp1, _, rfl, h⟩
  · have h := h.2 c2
    refine qa_ild1 dX8_drawn_7 ?_
    refine qa_S1I dX8_drawn_8 lm_X8_400  (by decide) (Nat.le_of_ble_eq_true rfl) (tX8_isSeed l hp1  h) (fun r3 μ3 hp3 h => ?_)
    refine qa_if_eq (tgt := 23) dX8_drawn_11 (by decide) (fun c4 => ?_) (fun c4 => ?_)
    · have h := h.1 c4
      refine qa_bipush (v := -2) dX8_drawn_23 (by decide) ?_
      exact qa_iret rfl dX8_drawn_25 ⟨rfl, rfl⟩ ⟨rfl, hp3, _, rfl, h⟩
    · have h := h.2 c4
      refine qa_ild2 dX8_drawn_14 ?_
      refine qa_if_lt (tgt := 23) dX8_drawn_15 (by decide) (fun c5 => ?_) (fun c5 => ?_)
      · have h := h.1 c5
        refine qa_bipush (v := -2) dX8_drawn_23 (by decide) ?_
        exact qa_iret rfl dX8_drawn_25 ⟨rfl, rfl⟩ ⟨rfl, hp3, _, rfl, h⟩
      · have h := h.2 c5
        refine qa_ild2 dX8_drawn_18 ?_
        refine qa_iconst (v := 2) dX8_drawn_19 (by decide) ?_
        refine qa_icmp_le (tgt := 26) dX8_drawn_20 (by decide) (fun c6 => ?_) (fun c6 => ?_)
        · have h := h.1 c6
          refine qa_ald0 dX8_drawn_26 ?_
          refine qa_ild1 dX8_drawn_27 ?_
          refine qa_V1I dX8_drawn_28 lm_X8_403 sh_1 rfl (by decide) (by decide) (Nat.le_of_ble_eq_true rfl) (tX8_drawnSnows l hp3  h) (fun r7 μ7 hp7 h => ?_)
          refine qa_ist3 dX8_drawn_31 ?_
          refine qa_ild2 dX8_drawn_32 ?_
          refine qa_if_ne (tgt := 38) dX8_drawn_33 (by decide) (fun c8 => ?_) (fun c8 => ?_)
          · have h := h.1 c8
            refine qa_ald0 dX8_drawn_38 ?_
            refine qa_ild3 dX8_drawn_39 ?_
            refine qa_ald0 dX8_drawn_40 ?_
            refine qa_getR dX8_drawn_41 lf_X8_19 rfl sh_1 (by decide) rfl (qa_tw0 hp7.2.1) ?_
            refine qa_getI dX8_drawn_44 lf_X8_145 (Or.inl rfl) (st_0 hp7.2.1) (tle_0 hp7.2.1) ?_
            refine qa_V2V dX8_drawn_47 lm_X8_370 sh_1 rfl (by decide) (by decide) (Nat.le_of_ble_eq_true rfl) (tX8_followSnows l hp7  h) (fun μ9 hp9 h => ?_)
            refine qa_ild2 dX8_drawn_50 ?_
            refine qa_iconst (v := 1) dX8_drawn_51 (by decide) ?_
            refine qa_icmp_ne (tgt := 69) dX8_drawn_52 (by decide) (fun c10 => ?_) (fun c10 => ?_)
            · have h := h.1 c10
              refine qa_ald0 dX8_drawn_69 ?_
              refine qa_getR dX8_drawn_70 lf_X8_51 rfl sh_1 (by decide) (pp_1_10 hp9) (by decide) ?_
              refine qa_ald0 dX8_drawn_73 ?_
              refine qa_getR dX8_drawn_74 lf_X8_19 rfl sh_1 (by decide) rfl (qa_tw0 hp9.2.1) ?_
              refine qa_V1I dX8_drawn_77 lm_X8_217 (sy_0 (Or.inr rfl)) rfl (yle_0 (Or.inr rfl)) (by decide) (Nat.le_of_ble_eq_true rfl) (tX7_reachedBits l hp9 (Or.inr rfl) hp9.2.1 h) (fun r11 μ11 hp11 h => ?_)
              exact qa_iret rfl dX8_drawn_80 ⟨rfl, rfl⟩ ⟨rfl, hp11, _, rfl, h⟩
            · have h := h.2 c10
              refine qa_ald0 dX8_drawn_55 ?_
              refine qa_getR dX8_drawn_56 lf_X8_51 rfl sh_1 (by decide) (pp_1_10 hp9) (by decide) ?_
              refine qa_ald0 dX8_drawn_59 ?_
              refine qa_getR dX8_drawn_60 lf_X8_19 rfl sh_1 (by decide) rfl (qa_tw0 hp9.2.1) ?_
              refine qa_V1I dX8_drawn_63 lm_X8_189 (sy_0 (Or.inr rfl)) rfl (yle_0 (Or.inr rfl)) (by decide) (Nat.le_of_ble_eq_true rfl) (tX7_spread l hp9 (Or.inr rfl) hp9.2.1 h) (fun r12 μ12 hp12 h => ?_)
              refine qa_goto (tgt := 80) dX8_drawn_66 (by decide) ?_
              exact qa_iret rfl dX8_drawn_80 ⟨rfl, rfl⟩ ⟨rfl, hp12, _, rfl, h⟩
          · have h := h.2 c8
            refine qa_ild3 dX8_drawn_36 ?_
            exact qa_iret rfl dX8_drawn_37 ⟨rfl, rfl⟩ ⟨rfl, hp7, _, rfl, h⟩
        · have h := h.2 c6
          refine qa_bipush (v := -2) dX8_drawn_23 (by decide) ?_
          exact qa_iret rfl dX8_drawn_25 ⟨rfl, rfl⟩ ⟨rfl, hp3, _, rfl, h⟩
def wX8_end (n : Nat) (v1 : Int32) (μ0 : qa_M) (Q : Int32 → qa_M → Prop) : Prop := ((v1 < 0 → Q (-1 : Int32) μ0) ∧ (¬ v1 < 0 → ((v1 ≤ (μ0.1 2 1) → ∀ μ3, μ3 = qa_uI μ0 2 1 v1 → Q v1 μ3) ∧ (¬ v1 ≤ (μ0.1 2 1) → Q (-1 : Int32) μ0))))
theorem tX8_end (l : Launch) {n : Nat} {v1 : Int32} {μ0 : qa_M} {Q : Int32 → qa_M → Prop} (hp0 : qa_PP μ0.2.2)  (h : wX8_end n v1 μ0 Q) : qa_Met l yX8_end cX8_end 2 (some .int) 0 0 0 [.ref 1, .int v1] 113 μ0 (qa_pI Q) := by
  refine qa_ofG (by decide) (Nat.le_of_ble_eq_true rfl) ?_
  unfold wX8_end at h
  change qa_G l yX8_end cX8_end 2 (some .int) 0 0 0 (qa_pI Q) 0 0 0 [some (.ref 1), some (.int v1)] [] 113 μ0
  refine qa_ild1 dX8_end_0 ?_
  refine qa_if_lt (tgt := 15) dX8_end_1 (by decide) (fun c1 => ?_) (fun c1 => ?_)
  · have h := h.1 c1
    refine qa_iconst (v := -1) dX8_end_15 (by decide) ?_
    exact qa_iret rfl dX8_end_16 ⟨rfl, rfl⟩ ⟨rfl, hp0, _, rfl, h⟩
  · have h := h.2 c1
    refine qa_ild1 dX8_end_4 ?_
    refine qa_ald0 dX8_end_5 ?_
    refine qa_getR dX8_end_6 lf_X8_10 rfl sh_1 (by decide) (pp_1_0 hp0) (by decide) ?_
    refine qa_getI dX8_end_9 lf_X8_77 (Or.inl rfl) sh_2 (by decide) ?_
    refine qa_icmp_le (tgt := 17) dX8_end_12 (by decide) (fun c2 => ?_) (fun c2 => ?_)
    · have h := h.1 c2
      refine qa_ald0 dX8_end_17 ?_
      refine qa_getR dX8_end_18 lf_X8_10 rfl sh_1 (by decide) (pp_1_0 hp0) (by decide) ?_
      refine qa_ild1 dX8_end_21 ?_
      refine qa_putI dX8_end_22 lf_X8_77 rfl sh_2 (by decide) rfl ?_
      refine qa_nmM (fun μ3 em3 => ?_)
      have h := h μ3 em3
      have hp3 : qa_PP μ3.2.2 := by rw [em3]; exact hp0
      refine qa_ild1 dX8_end_25 ?_
      exact qa_iret rfl dX8_end_26 ⟨rfl, rfl⟩ ⟨rfl, hp3, _, rfl, h⟩
    · have h := h.2 c2
      refine qa_iconst (v := -1) dX8_end_15 (by decide) ?_
      exact qa_iret rfl dX8_end_16 ⟨rfl, rfl⟩ ⟨rfl, hp0, _, rfl, h⟩
def wX8_followHeavy (n : Nat) (v1 : Int32) (μ0 : qa_M) (Q : qa_M → Prop) : Prop := wX1_asTold n (μ0.2.2 1 2) μ0 (fun μ1 => ∀ μ2, μ2 = qa_uI μ1 31 1 v1 → wX7_follow n 37 (μ2.2.2 1 2) μ2 (fun μ3 => Q μ3))
theorem tX8_followHeavy (l : Launch) {n : Nat} {v1 : Int32} {μ0 : qa_M} {Q : qa_M → Prop} (hp0 : qa_PP μ0.2.2)  (h : wX8_followHeavy n v1 μ0 Q) : qa_Met l yX8_followHeavy cX8_followHeavy 2 none 4 0 0 [.ref 1, .int v1] 113 μ0 (qa_pV Q) := by
  refine qa_ofG (by decide) (Nat.le_of_ble_eq_true rfl) ?_
  unfold wX8_followHeavy at h
  change qa_G l yX8_followHeavy cX8_followHeavy 2 none 4 0 0 (qa_pV Q) 0 0 0 [some (.ref 1), some (.int v1)] [] 113 μ0
  refine qa_ald0 dX8_followHeavy_0 ?_
  refine qa_getR dX8_followHeavy_1 lf_X8_40 rfl sh_1 (by decide) (pp_1_8 hp0) (by decide) ?_
  refine qa_ald0 dX8_followHeavy_4 ?_
  refine qa_getR dX8_followHeavy_5 lf_X8_19 rfl sh_1 (by decide) rfl (qa_tw0 hp0.2.1) ?_
  refine qa_V1V dX8_followHeavy_8 lm_X8_261 sh_31 rfl (by decide) (by decide) (Nat.le_of_ble_eq_true rfl) (tX1_asTold l hp0 hp0.2.1 h) (fun μ1 hp1 h => ?_)
  refine qa_ald0 dX8_followHeavy_11 ?_
  refine qa_getR dX8_followHeavy_12 lf_X8_40 rfl sh_1 (by decide) (pp_1_8 hp1) (by decide) ?_
  refine qa_ild1 dX8_followHeavy_15 ?_
  refine qa_putI dX8_followHeavy_16 lf_X8_265 rfl sh_31 (by decide) rfl ?_
  refine qa_nmM (fun μ2 em2 => ?_)
  have h := h μ2 em2
  have hp2 : qa_PP μ2.2.2 := by rw [em2]; exact hp1
  refine qa_ald0 dX8_followHeavy_19 ?_
  refine qa_getR dX8_followHeavy_20 lf_X8_51 rfl sh_1 (by decide) (pp_1_10 hp2) (by decide) ?_
  refine qa_ald0 dX8_followHeavy_23 ?_
  refine qa_getR dX8_followHeavy_24 lf_X8_19 rfl sh_1 (by decide) rfl (qa_tw0 hp2.2.1) ?_
  refine qa_ald0 dX8_followHeavy_27 ?_
  refine qa_getR dX8_followHeavy_28 lf_X8_40 rfl sh_1 (by decide) (pp_1_8 hp2) (by decide) ?_
  refine qa_V2V dX8_followHeavy_31 lm_X8_266 (sy_0 (Or.inr rfl)) rfl (yle_0 (Or.inr rfl)) (by decide) (Nat.le_of_ble_eq_true rfl) (tX7_follow l hp2 (Or.inr rfl) hp2.2.1 h) (fun μ3 hp3 h => ?_)
  exact qa_vret rfl dX8_followHeavy_34 ⟨rfl, rfl⟩ ⟨rfl, hp3, rfl, h⟩
def wX8_fair_51 (n : Nat) (v3 : Int32) (v4 : Int32) (μ0 : qa_M) (K0 : Int32 → Int32 → Int32 → qa_M → Prop) (Q : Int32 → qa_M → Prop) : Prop := K0 v3 v4 (v3 + (1 : Int32)) μ0
def wX8_fair_16 : Nat → Int32 → Int32 → Int32 → qa_M → (Int32 → qa_M → Prop) → Prop
  | 0, _, _, _, _, _ => False
  | n + 1, v1, v2, v3, μ0, Q => (((30 : Int32) < v3 → Q v1 μ0) ∧ (¬ (30 : Int32) < v3 → wX8_followHeavy n v3 μ0 (fun μ4 => wX7_spread n 37 (μ4.2.2 1 2) μ4 (fun r5 μ5 => ((v1 = (-1 : Int32) → wX8_fair_51 n v3 r5 μ5 (fun v1 v2 v3 μk => wX8_fair_16 n v1 v2 v3 μk Q) Q) ∧ (¬ v1 = (-1 : Int32) → ((v2 ≤ r5 → wX8_fair_16 n v1 v2 (v3 + (1 : Int32)) μ5 Q) ∧ (¬ v2 ≤ r5 → wX8_fair_51 n v3 r5 μ5 (fun v1 v2 v3 μk => wX8_fair_16 n v1 v2 v3 μk Q) Q))))))))
def wX8_fair (n : Nat)  (μ0 : qa_M) (Q : Int32 → qa_M → Prop) : Prop := wX8_hasTown n  μ0 (fun r1 μ1 => ((¬ r1 = 0 → wX8_fair_16 n (-1 : Int32) (0 : Int32) (1 : Int32) μ1  Q) ∧ (r1 = 0 → Q (-2 : Int32) μ1)))
theorem tX8_fair_51 (l : Launch) {K0 : Int32 → Int32 → Int32 → qa_M → Prop} {Q : Int32 → qa_M → Prop} (hK0 : ∀ (v1 : Int32) (v2 : Int32) (v3 : Int32) (μ : qa_M), qa_PP μ.2.2 → K0 v1 v2 v3 μ → qa_G l yX8_fair cX8_fair 5 (some .int) 5 0 0 (qa_pI Q) 0 0 16 [some (.ref 1), some (.int v1), some (.int v2), some (.int v3), none] [] 113 μ) : ∀ (n : Nat) (v3 : Int32) (v4 : Int32) (μ0 : qa_M), qa_PP μ0.2.2 → wX8_fair_51 n v3 v4 μ0 K0 Q → qa_G l yX8_fair cX8_fair 5 (some .int) 5 0 0 (qa_pI Q) 0 0 51 [some (.ref 1), none, none, some (.int v3), some (.int v4)] [] 113 μ0 := by
  intro n
  intro v3 v4 μ0 hp0  h
  unfold wX8_fair_51 at h
  refine qa_ild4 dX8_fair_51 ?_
  refine qa_ist2 dX8_fair_53 ?_
  refine qa_ild3 dX8_fair_54 ?_
  refine qa_ist1 dX8_fair_55 ?_
  refine qa_inc3 dX8_fair_56 (qa_io1 _) ?_
  refine qa_goto (tgt := 16) dX8_fair_59 (by decide) ?_
  refine qa_fgt (L' := [some (.ref 1), some (.int v3), some (.int v4), some (.int (v3 + (1 : Int32))), none]) (⟨rfl, ⟨rfl, ⟨rfl, ⟨rfl, trivial⟩⟩⟩⟩) ?_
  exact hK0 v3 v4 (v3 + (1 : Int32)) μ0 hp0  h
theorem tX8_fair_16 (l : Launch)  {Q : Int32 → qa_M → Prop}  : ∀ (n : Nat) (v1 : Int32) (v2 : Int32) (v3 : Int32) (μ0 : qa_M), qa_PP μ0.2.2 → wX8_fair_16 n v1 v2 v3 μ0  Q → qa_G l yX8_fair cX8_fair 5 (some .int) 5 0 0 (qa_pI Q) 0 0 16 [some (.ref 1), some (.int v1), some (.int v2), some (.int v3), none] [] 113 μ0 := by
  intro n
  induction n with
  | zero =>
    intro v1 v2 v3 μ0 hp0  h
    rw [wX8_fair_16] at h
    exact h.elim
  | succ n ih =>
    intro v1 v2 v3 μ0 hp0  h
    rw [wX8_fair_16] at h
    refine qa_ild3 dX8_fair_16 ?_
    refine qa_bipush (v := 30) dX8_fair_17 (by decide) ?_
    refine qa_icmp_gt (tgt := 62) dX8_fair_19 (by decide) (fun c3 => ?_) (fun c3 => ?_)
    · have h := h.1 c3
      refine qa_ild1 dX8_fair_62 ?_
      exact qa_iret rfl dX8_fair_63 ⟨rfl, rfl⟩ ⟨rfl, hp0, _, rfl, h⟩
    · have h := h.2 c3
      refine qa_ald0 dX8_fair_22 ?_
      refine qa_ild3 dX8_fair_23 ?_
      refine qa_V1V dX8_fair_24 lm_X8_252 sh_1 rfl (by decide) (by decide) (Nat.le_of_ble_eq_true rfl) (tX8_followHeavy l hp0  h) (fun μ4 hp4 h => ?_)
      refine qa_ald0 dX8_fair_27 ?_
      refine qa_getR dX8_fair_28 lf_X8_51 rfl sh_1 (by decide) (pp_1_10 hp4) (by decide) ?_
      refine qa_ald0 dX8_fair_31 ?_
      refine qa_getR dX8_fair_32 lf_X8_19 rfl sh_1 (by decide) rfl (qa_tw0 hp4.2.1) ?_
      refine qa_V1I dX8_fair_35 lm_X8_189 (sy_0 (Or.inr rfl)) rfl (yle_0 (Or.inr rfl)) (by decide) (Nat.le_of_ble_eq_true rfl) (tX7_spread l hp4 (Or.inr rfl) hp4.2.1 h) (fun r5 μ5 hp5 h => ?_)
      refine qa_ist4 dX8_fair_38 ?_
      refine qa_ild1 dX8_fair_40 ?_
      refine qa_iconst (v := -1) dX8_fair_41 (by decide) ?_
      refine qa_icmp_eq (tgt := 51) dX8_fair_42 (by decide) (fun c6 => ?_) (fun c6 => ?_)
      · have h := h.1 c6
        refine qa_fgt (L' := [some (.ref 1), none, none, some (.int v3), some (.int r5)]) (⟨rfl, ⟨rfl, ⟨rfl, trivial⟩⟩⟩) ?_
        refine tX8_fair_51 l ih n v3 r5 μ5 hp5  h
      · have h := h.2 c6
        refine qa_ild4 dX8_fair_45 ?_
        refine qa_ild2 dX8_fair_47 ?_
        refine qa_icmp_ge (tgt := 56) dX8_fair_48 (by decide) (fun c7 => ?_) (fun c7 => ?_)
        · have h := h.1 c7
          refine qa_inc3 dX8_fair_56 (qa_io1 _) ?_
          refine qa_goto (tgt := 16) dX8_fair_59 (by decide) ?_
          refine qa_fgt (L' := [some (.ref 1), some (.int v1), some (.int v2), some (.int (v3 + (1 : Int32))), none]) (⟨rfl, ⟨rfl, ⟨rfl, ⟨rfl, trivial⟩⟩⟩⟩) ?_
          exact ih v1 v2 (v3 + (1 : Int32)) μ5 hp5  h
        · have h := h.2 c7
          refine qa_fgt (L' := [some (.ref 1), none, none, some (.int v3), some (.int r5)]) (⟨rfl, ⟨rfl, ⟨rfl, trivial⟩⟩⟩) ?_
          refine tX8_fair_51 l ih n v3 r5 μ5 hp5  h
theorem tX8_fair (l : Launch) {n : Nat}  {μ0 : qa_M} {Q : Int32 → qa_M → Prop} (hp0 : qa_PP μ0.2.2)  (h : wX8_fair n  μ0 Q) : qa_Met l yX8_fair cX8_fair 5 (some .int) 5 0 0 [.ref 1] 113 μ0 (qa_pI Q) := by
  refine qa_ofG (by decide) (Nat.le_of_ble_eq_true rfl) ?_
  unfold wX8_fair at h
  change qa_G l yX8_fair cX8_fair 5 (some .int) 5 0 0 (qa_pI Q) 0 0 0 [some (.ref 1), none, none, none, none] [] 113 μ0
  refine qa_ald0 dX8_fair_0 ?_
  refine qa_V0I dX8_fair_1 lm_X8_138 sh_1 rfl (by decide) (by decide) (Nat.le_of_ble_eq_true rfl) (tX8_hasTown l hp0  h) (fun r1 μ1 hp1 h => ?_)
  refine qa_if_ne (tgt := 10) dX8_fair_4 (by decide) (fun c2 => ?_) (fun c2 => ?_)
  · have h := h.1 c2
    refine qa_iconst (v := -1) dX8_fair_10 (by decide) ?_
    refine qa_ist1 dX8_fair_11 ?_
    refine qa_iconst (v := 0) dX8_fair_12 (by decide) ?_
    refine qa_ist2 dX8_fair_13 ?_
    refine qa_iconst (v := 1) dX8_fair_14 (by decide) ?_
    refine qa_ist3 dX8_fair_15 ?_
    refine qa_fgt (L' := [some (.ref 1), some (.int (-1 : Int32)), some (.int (0 : Int32)), some (.int (1 : Int32)), none]) (⟨rfl, ⟨rfl, ⟨rfl, ⟨rfl, trivial⟩⟩⟩⟩) ?_
    refine tX8_fair_16 l  n (-1 : Int32) (0 : Int32) (1 : Int32) μ1 hp1  h
  · have h := h.2 c2
    refine qa_bipush (v := -2) dX8_fair_7 (by decide) ?_
    exact qa_iret rfl dX8_fair_9 ⟨rfl, rfl⟩ ⟨rfl, hp1, _, rfl, h⟩
