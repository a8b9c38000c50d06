def wX8_fault (n : Nat) (v1 : Int32) (μ0 : qa_M) (Q : Int32 → qa_M → Prop) : Prop := ((¬ v1 = 0 → ((¬ v1 = (1 : Int32) → Q (-1 : Int32) μ0) ∧ (v1 = (1 : Int32) → Q (μ0.1 2 8) μ0))) ∧ (v1 = 0 → Q (μ0.1 2 7) μ0))
theorem tX8_fault (l : Launch) {n : Nat} {v1 : Int32} {μ0 : qa_M} {Q : Int32 → qa_M → Prop} (hp0 : qa_PP μ0.2.2)  (h : wX8_fault n v1 μ0 Q) : qa_Met l yX8_fault cX8_fault 2 (some .int) 0 0 0 [.ref 1, .int v1] 113 μ0 (qa_pI Q) := by
  refine qa_ofG (by decide) (Nat.le_of_ble_eq_true rfl) ?_
  unfold wX8_fault at h
  change qa_G l yX8_fault cX8_fault 2 (some .int) 0 0 0 (qa_pI Q) 0 0 0 [some (.ref 1), some (.int v1)] [] 113 μ0
  refine qa_ild1 dX8_fault_0 ?_
  refine qa_if_ne (tgt := 12) dX8_fault_1 (by decide) (fun c1 => ?_) (fun c1 => ?_)
  · have h := h.1 c1
    refine qa_ild1 dX8_fault_12 ?_
    refine qa_iconst (v := 1) dX8_fault_13 (by decide) ?_
    refine qa_icmp_ne (tgt := 27) dX8_fault_14 (by decide) (fun c2 => ?_) (fun c2 => ?_)
    · have h := h.1 c2
      refine qa_iconst (v := -1) dX8_fault_27 (by decide) ?_
      exact qa_iret rfl dX8_fault_28 ⟨rfl, rfl⟩ ⟨rfl, hp0, _, rfl, h⟩
    · have h := h.2 c2
      refine qa_ald0 dX8_fault_17 ?_
      refine qa_getR dX8_fault_18 lf_X8_10 rfl sh_1 (by decide) (pp_1_0 hp0) (by decide) ?_
      refine qa_getI dX8_fault_21 lf_X8_100 (Or.inl rfl) sh_2 (by decide) ?_
      refine qa_goto (tgt := 28) dX8_fault_24 (by decide) ?_
      exact qa_iret rfl dX8_fault_28 ⟨rfl, rfl⟩ ⟨rfl, hp0, _, rfl, h⟩
  · have h := h.2 c1
    refine qa_ald0 dX8_fault_4 ?_
    refine qa_getR dX8_fault_5 lf_X8_10 rfl sh_1 (by decide) (pp_1_0 hp0) (by decide) ?_
    refine qa_getI dX8_fault_8 lf_X8_88 (Or.inl rfl) sh_2 (by decide) ?_
    exact qa_iret rfl dX8_fault_11 ⟨rfl, rfl⟩ ⟨rfl, hp0, _, rfl, h⟩
def wX8_feed (n : Nat) (v1 : Int32) (v2 : Int32) (v3 : Int32) (v4 : Int32) (v5 : Int32) (μ0 : qa_M) (Q : Int32 → qa_M → Prop) : Prop := (((μ0.1 2 1) ≤ (780 : Int32) → wX2_add n v1 μ0 (fun μ2 => wX2_add n v2 μ2 (fun μ3 => wX2_add n v3 μ3 (fun μ4 => wX2_add n v4 μ4 (fun μ5 => wX2_add n v5 μ5 (fun μ6 => Q (μ6.1 2 1) μ6)))))) ∧ (¬ (μ0.1 2 1) ≤ (780 : Int32) → Q (-1 : Int32) μ0))
theorem tX8_feed (l : Launch) {n : Nat} {v1 : Int32} {v2 : Int32} {v3 : Int32} {v4 : Int32} {v5 : Int32} {μ0 : qa_M} {Q : Int32 → qa_M → Prop} (hp0 : qa_PP μ0.2.2)  (h : wX8_feed n v1 v2 v3 v4 v5 μ0 Q) : qa_Met l yX8_feed cX8_feed 6 (some .int) 1 0 0 [.ref 1, .int v1, .int v2, .int v3, .int v4, .int v5] 113 μ0 (qa_pI Q) := by
  refine qa_ofG (by decide) (Nat.le_of_ble_eq_true rfl) ?_
  unfold wX8_feed at h
  change qa_G l yX8_feed cX8_feed 6 (some .int) 1 0 0 (qa_pI Q) 0 0 0 [some (.ref 1), some (.int v1), some (.int v2), some (.int v3), some (.int v4), some (.int v5)] [] 113 μ0
  refine qa_ald0 dX8_feed_0 ?_
  refine qa_getR dX8_feed_1 lf_X8_10 rfl sh_1 (by decide) (pp_1_0 hp0) (by decide) ?_
  refine qa_getI dX8_feed_4 lf_X8_77 (Or.inl rfl) sh_2 (by decide) ?_
  refine qa_sipush (v := 780) dX8_feed_7 (by decide) ?_
  refine qa_icmp_le (tgt := 15) dX8_feed_10 (by decide) (fun c1 => ?_) (fun c1 => ?_)
  · have h := h.1 c1
    refine qa_ald0 dX8_feed_15 ?_
    refine qa_getR dX8_feed_16 lf_X8_10 rfl sh_1 (by decide) (pp_1_0 hp0) (by decide) ?_
    refine qa_ild1 dX8_feed_19 ?_
    refine qa_V1V dX8_feed_20 lm_X8_81 sh_2 rfl (by decide) (by decide) (Nat.le_of_ble_eq_true rfl) (tX2_add l hp0  h) (fun μ2 hp2 h => ?_)
    refine qa_ald0 dX8_feed_23 ?_
    refine qa_getR dX8_feed_24 lf_X8_10 rfl sh_1 (by decide) (pp_1_0 hp2) (by decide) ?_
    refine qa_ild2 dX8_feed_27 ?_
    refine qa_V1V dX8_feed_28 lm_X8_81 sh_2 rfl (by decide) (by decide) (Nat.le_of_ble_eq_true rfl) (tX2_add l hp2  h) (fun μ3 hp3 h => ?_)
    refine qa_ald0 dX8_feed_31 ?_
    refine qa_getR dX8_feed_32 lf_X8_10 rfl sh_1 (by decide) (pp_1_0 hp3) (by decide) ?_
    refine qa_ild3 dX8_feed_35 ?_
    refine qa_V1V dX8_feed_36 lm_X8_81 sh_2 rfl (by decide) (by decide) (Nat.le_of_ble_eq_true rfl) (tX2_add l hp3  h) (fun μ4 hp4 h => ?_)
    refine qa_ald0 dX8_feed_39 ?_
    refine qa_getR dX8_feed_40 lf_X8_10 rfl sh_1 (by decide) (pp_1_0 hp4) (by decide) ?_
    refine qa_ild4 dX8_feed_43 ?_
    refine qa_V1V dX8_feed_45 lm_X8_81 sh_2 rfl (by decide) (by decide) (Nat.le_of_ble_eq_true rfl) (tX2_add l hp4  h) (fun μ5 hp5 h => ?_)
    refine qa_ald0 dX8_feed_48 ?_
    refine qa_getR dX8_feed_49 lf_X8_10 rfl sh_1 (by decide) (pp_1_0 hp5) (by decide) ?_
    refine qa_ild5 dX8_feed_52 ?_
    refine qa_V1V dX8_feed_54 lm_X8_81 sh_2 rfl (by decide) (by decide) (Nat.le_of_ble_eq_true rfl) (tX2_add l hp5  h) (fun μ6 hp6 h => ?_)
    refine qa_ald0 dX8_feed_57 ?_
    refine qa_getR dX8_feed_58 lf_X8_10 rfl sh_1 (by decide) (pp_1_0 hp6) (by decide) ?_
    refine qa_getI dX8_feed_61 lf_X8_77 (Or.inl rfl) sh_2 (by decide) ?_
    exact qa_iret rfl dX8_feed_64 ⟨rfl, rfl⟩ ⟨rfl, hp6, _, rfl, h⟩
  · have h := h.2 c1
    refine qa_iconst (v := -1) dX8_feed_13 (by decide) ?_
    exact qa_iret rfl dX8_feed_14 ⟨rfl, rfl⟩ ⟨rfl, hp0, _, rfl, h⟩
def wX8_turnWithout_5 : Nat → Int32 → Int32 → Int32 → Int32 → qa_M → (Int32 → Int32 → qa_M → Prop) → (Int32 → qa_M → Prop) → Prop
  | 0, _, _, _, _, _, _, _ => False
  | n + 1, v1, v2, v3, v4, μ0, K0, Q => (((μ0.1 (μ0.2.2 1 2) 5) ≤ v4 → K0 v1 v3 μ0) ∧ (¬ (μ0.1 (μ0.2.2 1 2) 5) ≤ v4 → wX8_bitOf n v2 v4 μ0 (fun r2 μ2 => ((¬ r2 = 0 → wX8_turnWithout_5 n v1 v2 v3 (v4 + (1 : Int32)) μ2 K0 Q) ∧ (r2 = 0 → wX7_effort n 32 v4 v1 μ2 (fun r4 μ4 => wX8_signed n r4 (μ4.1 (μ4.2.2 1 2) 9) v4 μ4 (fun r5 μ5 => ∀ x6, x6 = (v3 + r5) → wX8_turnWithout_5 n v1 v2 x6 (v4 + (1 : Int32)) μ5 K0 Q)))))))
def wX8_turnWithout (n : Nat) (v1 : Int32) (v2 : Int32) (μ0 : qa_M) (Q : Int32 → qa_M → Prop) : Prop := wX8_turnWithout_5 n v1 v2 (0 : Int32) (0 : Int32) μ0 (fun v1_8 v3_8 μ7 => wX8_turnBy n (μ7.1 (μ7.2.2 1 2) 2) (μ7.1 (μ7.2.2 1 2) 3) v3_8 v1_8 (μ7.1 (μ7.2.2 1 2) 5) μ7 (fun r9 μ9 => Q r9 μ9)) Q
theorem tX8_turnWithout_5 (l : Launch) {K0 : Int32 → Int32 → qa_M → Prop} {Q : Int32 → qa_M → Prop} (hK0 : ∀ (v1 : Int32) (v3 : Int32) (μ : qa_M), qa_PP μ.2.2 → K0 v1 v3 μ → qa_G l yX8_turnWithout cX8_turnWithout 5 (some .int) 3 0 0 (qa_pI Q) 0 0 57 [some (.ref 1), some (.int v1), none, some (.int v3), none] [] 113 μ) : ∀ (n : Nat) (v1 : Int32) (v2 : Int32) (v3 : Int32) (v4 : Int32) (μ0 : qa_M), qa_PP μ0.2.2 → wX8_turnWithout_5 n v1 v2 v3 v4 μ0 K0 Q → qa_G l yX8_turnWithout cX8_turnWithout 5 (some .int) 3 0 0 (qa_pI Q) 0 0 5 [some (.ref 1), some (.int v1), some (.int v2), some (.int v3), some (.int v4)] [] 113 μ0 := by
  intro n
  induction n with
  | zero =>
    intro v1 v2 v3 v4 μ0 hp0  h
    rw [wX8_turnWithout_5] at h
    exact h.elim
  | succ n ih =>
    intro v1 v2 v3 v4 μ0 hp0  h
    rw [wX8_turnWithout_5] at h
    refine qa_ild4 dX8_turnWithout_5 ?_
    refine qa_ald0 dX8_turnWithout_7 ?_
    refine qa_getR dX8_turnWithout_8 lf_X8_19 rfl sh_1 (by decide) rfl (qa_tw0 hp0.2.1) ?_
    refine qa_getI dX8_turnWithout_11 lf_X8_158 (Or.inl rfl) (st_0 hp0.2.1) (tle_0 hp0.2.1) ?_
    refine qa_icmp_ge (tgt := 57) dX8_turnWithout_14 (by decide) (fun c1 => ?_) (fun c1 => ?_)
    · have h := h.1 c1
      refine qa_fgt (L' := [some (.ref 1), some (.int v1), none, some (.int v3), none]) (⟨rfl, ⟨rfl, ⟨rfl, trivial⟩⟩⟩) ?_
      exact hK0 v1 v3 μ0 hp0  h
    · have h := h.2 c1
      refine qa_ild2 dX8_turnWithout_17 ?_
      refine qa_ild4 dX8_turnWithout_18 ?_
      refine qa_S2I dX8_turnWithout_20 lm_X8_113  (by decide) (Nat.le_of_ble_eq_true rfl) (tX8_bitOf l hp0  h) (fun r2 μ2 hp2 h => ?_)
      refine qa_if_ne (tgt := 51) dX8_turnWithout_23 (by decide) (fun c3 => ?_) (fun c3 => ?_)
      · have h := h.1 c3
        refine qa_inc4 dX8_turnWithout_51 (qa_io1 _) ?_
        refine qa_goto (tgt := 5) dX8_turnWithout_54 (by decide) ?_
        refine qa_fgt (L' := [some (.ref 1), some (.int v1), some (.int v2), some (.int v3), some (.int (v4 + (1 : Int32)))]) (⟨rfl, ⟨rfl, ⟨rfl, ⟨rfl, ⟨rfl, trivial⟩⟩⟩⟩⟩) ?_
        exact ih v1 v2 v3 (v4 + (1 : Int32)) μ2 hp2  h
      · have h := h.2 c3
        refine qa_ild3 dX8_turnWithout_26 ?_
        refine qa_ald0 dX8_turnWithout_27 ?_
        refine qa_getR dX8_turnWithout_28 lf_X8_47 rfl sh_1 (by decide) (pp_1_9 hp2) (by decide) ?_
        refine qa_ild4 dX8_turnWithout_31 ?_
        refine qa_ild1 dX8_turnWithout_33 ?_
        refine qa_V2I dX8_turnWithout_34 lm_X8_168 (sy_0 (Or.inl rfl)) rfl (yle_0 (Or.inl rfl)) (by decide) (Nat.le_of_ble_eq_true rfl) (tX7_effort l hp2 (Or.inl rfl) h) (fun r4 μ4 hp4 h => ?_)
        refine qa_ald0 dX8_turnWithout_37 ?_
        refine qa_getR dX8_turnWithout_38 lf_X8_19 rfl sh_1 (by decide) rfl (qa_tw0 hp4.2.1) ?_
        refine qa_getI dX8_turnWithout_41 lf_X8_110 (Or.inl rfl) (st_0 hp4.2.1) (tle_0 hp4.2.1) ?_
        refine qa_ild4 dX8_turnWithout_44 ?_
        refine qa_S3I dX8_turnWithout_46 lm_X8_239  (by decide) (Nat.le_of_ble_eq_true rfl) (tX8_signed l hp4  h) (fun r5 μ5 hp5 h => ?_)
        refine qa_iadd dX8_turnWithout_49 ?_
        refine qa_nmI (fun x6 e6 => ?_)
        have h := h x6 e6
        refine qa_ist3 dX8_turnWithout_50 ?_
        refine qa_inc4 dX8_turnWithout_51 (qa_io1 _) ?_
        refine qa_goto (tgt := 5) dX8_turnWithout_54 (by decide) ?_
        refine qa_fgt (L' := [some (.ref 1), some (.int v1), some (.int v2), some (.int x6), some (.int (v4 + (1 : Int32)))]) (⟨rfl, ⟨rfl, ⟨rfl, ⟨rfl, ⟨rfl, trivial⟩⟩⟩⟩⟩) ?_
        exact ih v1 v2 x6 (v4 + (1 : Int32)) μ5 hp5  h
theorem tX8_turnWithout (l : Launch) {n : Nat} {v1 : Int32} {v2 : Int32} {μ0 : qa_M} {Q : Int32 → qa_M → Prop} (hp0 : qa_PP μ0.2.2)  (h : wX8_turnWithout n v1 v2 μ0 Q) : qa_Met l yX8_turnWithout cX8_turnWithout 5 (some .int) 3 0 0 [.ref 1, .int v1, .int v2] 113 μ0 (qa_pI Q) := by
  refine qa_ofG (by decide) (Nat.le_of_ble_eq_true rfl) ?_
  unfold wX8_turnWithout at h
  change qa_G l yX8_turnWithout cX8_turnWithout 5 (some .int) 3 0 0 (qa_pI Q) 0 0 0 [some (.ref 1), some (.int v1), some (.int v2), none, none] [] 113 μ0
  refine qa_iconst (v := 0) dX8_turnWithout_0 (by decide) ?_
  refine qa_ist3 dX8_turnWithout_1 ?_
  refine qa_iconst (v := 0) dX8_turnWithout_2 (by decide) ?_
  refine qa_ist4 dX8_turnWithout_3 ?_
  refine qa_fgt (L' := [some (.ref 1), some (.int v1), some (.int v2), some (.int (0 : Int32)), some (.int (0 : Int32))]) (⟨rfl, ⟨rfl, ⟨rfl, ⟨rfl, ⟨rfl, trivial⟩⟩⟩⟩⟩) ?_
  refine tX8_turnWithout_5 l ?_ n v1 v2 (0 : Int32) (0 : Int32) μ0 hp0  h
  · intro v1_8 v3_8 μ7 hp7  h
    refine qa_ald0 dX8_turnWithout_57 ?_
    refine qa_getR dX8_turnWithout_58 lf_X8_19 rfl sh_1 (by decide) rfl (qa_tw0 hp7.2.1) ?_
    refine qa_getI dX8_turnWithout_61 lf_X8_242 (Or.inl rfl) (st_0 hp7.2.1) (tle_0 hp7.2.1) ?_
    refine qa_ald0 dX8_turnWithout_64 ?_
    refine qa_getR dX8_turnWithout_65 lf_X8_19 rfl sh_1 (by decide) rfl (qa_tw0 hp7.2.1) ?_
    refine qa_getI dX8_turnWithout_68 lf_X8_245 (Or.inl rfl) (st_0 hp7.2.1) (tle_0 hp7.2.1) ?_
    refine qa_ild3 dX8_turnWithout_71 ?_
    refine qa_ild1 dX8_turnWithout_72 ?_
    refine qa_ald0 dX8_turnWithout_73 ?_
    refine qa_getR dX8_turnWithout_74 lf_X8_19 rfl sh_1 (by decide) rfl (qa_tw0 hp7.2.1) ?_
    refine qa_getI dX8_turnWithout_77 lf_X8_158 (Or.inl rfl) (st_0 hp7.2.1) (tle_0 hp7.2.1) ?_
    refine qa_S5I dX8_turnWithout_80 lm_X8_248  (by decide) (Nat.le_of_ble_eq_true rfl) (tX8_turnBy l hp7  h) (fun r9 μ9 hp9 h => ?_)
    exact qa_iret rfl dX8_turnWithout_83 ⟨rfl, rfl⟩ ⟨rfl, hp9, _, rfl, h⟩
def wX8_fewestStaying_42 (n : Nat) (v1 : Int32) (v2 : Int32) (v3 : Int32) (v4 : Int32) (s0 : Int32) (μ0 : qa_M) (K0 : Int32 → Int32 → Int32 → Int32 → qa_M → Prop) (Q : Int32 → qa_M → Prop) : Prop := ((s0 = 0 → K0 v1 v2 v3 (v4 + (1 : Int32)) μ0) ∧ (¬ s0 = 0 → wX8_turnWithout n v1 v4 μ0 (fun r5 μ5 => ((¬ r5 = v2 → K0 v1 v2 v3 (v4 + (1 : Int32)) μ5) ∧ (r5 = v2 → K0 v1 v2 v4 (v4 + (1 : Int32)) μ5)))))
def wX8_fewestStaying_37 (n : Nat) (v1 : Int32) (v2 : Int32) (v3 : Int32) (v4 : Int32) (μ0 : qa_M) (K0 : Int32 → Int32 → Int32 → Int32 → qa_M → Prop) (Q : Int32 → qa_M → Prop) : Prop := wX8_fewestStaying_42 n v1 v2 v3 v4 (1 : Int32) μ0 K0 Q
def wX8_fewestStaying_5 : Nat → Int32 → Int32 → Int32 → Int32 → qa_M → (Int32 → qa_M → Prop) → Prop
  | 0, _, _, _, _, _, _ => False
  | n + 1, v1, v2, v3, v4, μ0, Q => wX8_lowBits n (μ0.1 (μ0.2.2 1 2) 5) μ0 (fun r1 μ1 => ((r1 < v4 → Q v3 μ1) ∧ (¬ r1 < v4 → ((v3 = (-1 : Int32) → wX8_fewestStaying_37 n v1 v2 v3 v4 μ1 (fun v1 v2 v3 v4 μk => wX8_fewestStaying_5 n v1 v2 v3 v4 μk Q) Q) ∧ (¬ v3 = (-1 : Int32) → wJ6_bitCount_0f7a4 n v4 μ1 (fun r7 μ7 => wJ6_bitCount_0f7a4 n v3 μ7 (fun r8 μ8 => ((r8 ≤ r7 → wX8_fewestStaying_42 n v1 v2 v3 v4 (0 : Int32) μ8 (fun v1 v2 v3 v4 μk => wX8_fewestStaying_5 n v1 v2 v3 v4 μk Q) Q) ∧ (¬ r8 ≤ r7 → wX8_fewestStaying_37 n v1 v2 v3 v4 μ8 (fun v1 v2 v3 v4 μk => wX8_fewestStaying_5 n v1 v2 v3 v4 μk Q) Q)))))))))
def wX8_fewestStaying (n : Nat) (v1 : Int32) (v2 : Int32) (μ0 : qa_M) (Q : Int32 → qa_M → Prop) : Prop := wX8_fewestStaying_5 n v1 v2 (-1 : Int32) (0 : Int32) μ0  Q
theorem tX8_fewestStaying_42 (l : Launch) {K0 : Int32 → Int32 → Int32 → Int32 → qa_M → Prop} {Q : Int32 → qa_M → Prop} (hK0 : ∀ (v1 : Int32) (v2 : Int32) (v3 : Int32) (v4 : Int32) (μ : qa_M), qa_PP μ.2.2 → K0 v1 v2 v3 v4 μ → qa_G l yX8_fewestStaying cX8_fewestStaying 6 (some .int) 4 0 0 (qa_pI Q) 0 0 5 [some (.ref 1), some (.int v1), some (.int v2), some (.int v3), some (.int v4), none] [] 113 μ) : ∀ (n : Nat) (v1 : Int32) (v2 : Int32) (v3 : Int32) (v4 : Int32) (s0 : Int32) (μ0 : qa_M), qa_PP μ0.2.2 → wX8_fewestStaying_42 n v1 v2 v3 v4 s0 μ0 K0 Q → qa_G l yX8_fewestStaying cX8_fewestStaying 6 (some .int) 4 0 0 (qa_pI Q) 0 0 42 [some (.ref 1), some (.int v1), some (.int v2), some (.int v3), some (.int v4), none] [.int s0] 113 μ0 := by
  intro n
  intro v1 v2 v3 v4 s0 μ0 hp0  h
  unfold wX8_fewestStaying_42 at h
  refine qa_ist5 dX8_fewestStaying_42 ?_
  refine qa_ild5 dX8_fewestStaying_44 ?_
  refine qa_if_eq (tgt := 63) dX8_fewestStaying_46 (by decide) (fun c4 => ?_) (fun c4 => ?_)
  · have h := h.1 c4
    refine qa_inc4 dX8_fewestStaying_63 (qa_io1 _) ?_
    refine qa_goto (tgt := 5) dX8_fewestStaying_66 (by decide) ?_
    refine qa_fgt (L' := [some (.ref 1), some (.int v1), some (.int v2), some (.int v3), some (.int (v4 + (1 : Int32))), none]) (⟨rfl, ⟨rfl, ⟨rfl, ⟨rfl, ⟨rfl, trivial⟩⟩⟩⟩⟩) ?_
    exact hK0 v1 v2 v3 (v4 + (1 : Int32)) μ0 hp0  h
  · have h := h.2 c4
    refine qa_ald0 dX8_fewestStaying_49 ?_
    refine qa_ild1 dX8_fewestStaying_50 ?_
    refine qa_ild4 dX8_fewestStaying_51 ?_
    refine qa_V2I dX8_fewestStaying_53 lm_X8_234 sh_1 rfl (by decide) (by decide) (Nat.le_of_ble_eq_true rfl) (tX8_turnWithout l hp0  h) (fun r5 μ5 hp5 h => ?_)
    refine qa_ild2 dX8_fewestStaying_56 ?_
    refine qa_icmp_ne (tgt := 63) dX8_fewestStaying_57 (by decide) (fun c6 => ?_) (fun c6 => ?_)
    · have h := h.1 c6
      refine qa_inc4 dX8_fewestStaying_63 (qa_io1 _) ?_
      refine qa_goto (tgt := 5) dX8_fewestStaying_66 (by decide) ?_
      refine qa_fgt (L' := [some (.ref 1), some (.int v1), some (.int v2), some (.int v3), some (.int (v4 + (1 : Int32))), none]) (⟨rfl, ⟨rfl, ⟨rfl, ⟨rfl, ⟨rfl, trivial⟩⟩⟩⟩⟩) ?_
      exact hK0 v1 v2 v3 (v4 + (1 : Int32)) μ5 hp5  h
    · have h := h.2 c6
      refine qa_ild4 dX8_fewestStaying_60 ?_
      refine qa_ist3 dX8_fewestStaying_62 ?_
      refine qa_inc4 dX8_fewestStaying_63 (qa_io1 _) ?_
      refine qa_goto (tgt := 5) dX8_fewestStaying_66 (by decide) ?_
      refine qa_fgt (L' := [some (.ref 1), some (.int v1), some (.int v2), some (.int v4), some (.int (v4 + (1 : Int32))), none]) (⟨rfl, ⟨rfl, ⟨rfl, ⟨rfl, ⟨rfl, trivial⟩⟩⟩⟩⟩) ?_
      exact hK0 v1 v2 v4 (v4 + (1 : Int32)) μ5 hp5  h
theorem tX8_fewestStaying_37 (l : Launch) {K0 : Int32 → Int32 → Int32 → Int32 → qa_M → Prop} {Q : Int32 → qa_M → Prop} (hK0 : ∀ (v1 : Int32) (v2 : Int32) (v3 : Int32) (v4 : Int32) (μ : qa_M), qa_PP μ.2.2 → K0 v1 v2 v3 v4 μ → qa_G l yX8_fewestStaying cX8_fewestStaying 6 (some .int) 4 0 0 (qa_pI Q) 0 0 5 [some (.ref 1), some (.int v1), some (.int v2), some (.int v3), some (.int v4), none] [] 113 μ) : ∀ (n : Nat) (v1 : Int32) (v2 : Int32) (v3 : Int32) (v4 : Int32) (μ0 : qa_M), qa_PP μ0.2.2 → wX8_fewestStaying_37 n v1 v2 v3 v4 μ0 K0 Q → qa_G l yX8_fewestStaying cX8_fewestStaying 6 (some .int) 4 0 0 (qa_pI Q) 0 0 37 [some (.ref 1), some (.int v1), some (.int v2), some (.int v3), some (.int v4), none] [] 113 μ0 := by
  intro n
  intro v1 v2 v3 v4 μ0 hp0  h
  unfold wX8_fewestStaying_37 at h
  refine qa_iconst (v := 1) dX8_fewestStaying_37 (by decide) ?_
  refine qa_goto (tgt := 42) dX8_fewestStaying_38 (by decide) ?_
  refine qa_fgt (L' := [some (.ref 1), some (.int v1), some (.int v2), some (.int v3), some (.int v4), none]) (⟨rfl, ⟨rfl, ⟨rfl, ⟨rfl, ⟨rfl, trivial⟩⟩⟩⟩⟩) ?_
  refine tX8_fewestStaying_42 l hK0 n v1 v2 v3 v4 (1 : Int32) μ0 hp0  h
theorem tX8_fewestStaying_5 (l : Launch)  {Q : Int32 → qa_M → Prop}  : ∀ (n : Nat) (v1 : Int32) (v2 : Int32) (v3 : Int32) (v4 : Int32) (μ0 : qa_M), qa_PP μ0.2.2 → wX8_fewestStaying_5 n v1 v2 v3 v4 μ0  Q → qa_G l yX8_fewestStaying cX8_fewestStaying 6 (some .int) 4 0 0 (qa_pI Q) 0 0 5 [some (.ref 1), some (.int v1), some (.int v2), some (.int v3), some (.int v4), none] [] 113 μ0 := by
  intro n
  induction n with
  | zero =>
    intro v1 v2 v3 v4 μ0 hp0  h
    rw [wX8_fewestStaying_5] at h
    exact h.elim
  | succ n ih =>
    intro v1 v2 v3 v4 μ0 hp0  h
    rw [wX8_fewestStaying_5] at h
    refine qa_ild4 dX8_fewestStaying_5 ?_
    refine qa_ald0 dX8_fewestStaying_7 ?_
    refine qa_getR dX8_fewestStaying_8 lf_X8_19 rfl sh_1 (by decide) rfl (qa_tw0 hp0.2.1) ?_
    refine qa_getI dX8_fewestStaying_11 lf_X8_158 (Or.inl rfl) (st_0 hp0.2.1) (tle_0 hp0.2.1) ?_
    refine qa_S1I dX8_fewestStaying_14 lm_X8_148  (by decide) (Nat.le_of_ble_eq_true rfl) (tX8_lowBits l hp0  h) (fun r1 μ1 hp1 h => ?_)
    refine qa_icmp_gt (tgt := 69) dX8_fewestStaying_17 (by decide) (fun c2 => ?_) (fun c2 => ?_)
    · have h := h.1 c2
      refine qa_ild3 dX8_fewestStaying_69 ?_
      exact qa_iret rfl dX8_fewestStaying_70 ⟨rfl, rfl⟩ ⟨rfl, hp1, _, rfl, h⟩
    · have h := h.2 c2
      refine qa_ild3 dX8_fewestStaying_20 ?_
      refine qa_iconst (v := -1) dX8_fewestStaying_21 (by decide) ?_
      refine qa_icmp_eq (tgt := 37) dX8_fewestStaying_22 (by decide) (fun c3 => ?_) (fun c3 => ?_)
      · have h := h.1 c3
        refine qa_fgt (L' := [some (.ref 1), some (.int v1), some (.int v2), some (.int v3), some (.int v4), none]) (⟨rfl, ⟨rfl, ⟨rfl, ⟨rfl, ⟨rfl, trivial⟩⟩⟩⟩⟩) ?_
        refine tX8_fewestStaying_37 l ih n v1 v2 v3 v4 μ1 hp1  h
      · have h := h.2 c3
        refine qa_ild4 dX8_fewestStaying_25 ?_
        refine qa_S1I dX8_fewestStaying_27 lm_X8_226  (by decide) (Nat.le_of_ble_eq_true rfl) (tJ6_bitCount_0f7a4 l hp1  h) (fun r7 μ7 hp7 h => ?_)
        refine qa_ild3 dX8_fewestStaying_30 ?_
        refine qa_S1I dX8_fewestStaying_31 lm_X8_226  (by decide) (Nat.le_of_ble_eq_true rfl) (tJ6_bitCount_0f7a4 l hp7  h) (fun r8 μ8 hp8 h => ?_)
        refine qa_icmp_ge (tgt := 41) dX8_fewestStaying_34 (by decide) (fun c9 => ?_) (fun c9 => ?_)
        · have h := h.1 c9
          refine qa_iconst (v := 0) dX8_fewestStaying_41 (by decide) ?_
          refine qa_fgt (L' := [some (.ref 1), some (.int v1), some (.int v2), some (.int v3), some (.int v4), none]) (⟨rfl, ⟨rfl, ⟨rfl, ⟨rfl, ⟨rfl, trivial⟩⟩⟩⟩⟩) ?_
          refine tX8_fewestStaying_42 l ih n v1 v2 v3 v4 (0 : Int32) μ8 hp8  h
        · have h := h.2 c9
          refine qa_fgt (L' := [some (.ref 1), some (.int v1), some (.int v2), some (.int v3), some (.int v4), none]) (⟨rfl, ⟨rfl, ⟨rfl, ⟨rfl, ⟨rfl, trivial⟩⟩⟩⟩⟩) ?_
          refine tX8_fewestStaying_37 l ih n v1 v2 v3 v4 μ8 hp8  h
theorem tX8_fewestStaying (l : Launch) {n : Nat} {v1 : Int32} {v2 : Int32} {μ0 : qa_M} {Q : Int32 → qa_M → Prop} (hp0 : qa_PP μ0.2.2)  (h : wX8_fewestStaying n v1 v2 μ0 Q) : qa_Met l yX8_fewestStaying cX8_fewestStaying 6 (some .int) 4 0 0 [.ref 1, .int v1, .int v2] 113 μ0 (qa_pI Q) := by
  refine qa_ofG (by decide) (Nat.le_of_ble_eq_true rfl) ?_
  unfold wX8_fewestStaying at h
  change qa_G l yX8_fewestStaying cX8_fewestStaying 6 (some .int) 4 0 0 (qa_pI Q) 0 0 0 [some (.ref 1), some (.int v1), some (.int v2), none, none, none] [] 113 μ0
  refine qa_iconst (v := -1) dX8_fewestStaying_0 (by decide) ?_
  refine qa_ist3 dX8_fewestStaying_1 ?_
  refine qa_iconst (v := 0) dX8_fewestStaying_2 (by decide) ?_
  refine qa_ist4 dX8_fewestStaying_3 ?_
  refine qa_fgt (L' := [some (.ref 1), some (.int v1), some (.int v2), some (.int (-1 : Int32)), some (.int (0 : Int32)), none]) (⟨rfl, ⟨rfl, ⟨rfl, ⟨rfl, ⟨rfl, trivial⟩⟩⟩⟩⟩) ?_
  refine tX8_fewestStaying_5 l  n v1 v2 (-1 : Int32) (0 : Int32) μ0 hp0  h
def wX8_firstWeekOn_3 : Nat → Int32 → Int32 → Int32 → qa_M → (Int32 → qa_M → Prop) → Prop
  | 0, _, _, _, _, _ => False
  | n + 1, v1, v2, v4, μ0, Q => (((μ0.1 (μ0.2.2 1 2) 1) < v4 → Q (-1 : Int32) μ0) ∧ (¬ (μ0.1 (μ0.2.2 1 2) 1) < v4 → wX7_spot n 32 v1 v4 μ0 (fun r2 μ2 => ((¬ r2 = v2 → wX8_firstWeekOn_3 n v1 v2 (v4 + (1 : Int32)) μ2 Q) ∧ (r2 = v2 → Q v4 μ2)))))
def wX8_firstWeekOn (n : Nat) (v1 : Int32) (v2 : Int32) (v3 : Int32) (μ0 : qa_M) (Q : Int32 → qa_M → Prop) : Prop := wX8_firstWeekOn_3 n v1 v2 v3 μ0  Q
theorem tX8_firstWeekOn_3 (l : Launch)  {Q : Int32 → qa_M → Prop}  : ∀ (n : Nat) (v1 : Int32) (v2 : Int32) (v4 : Int32) (μ0 : qa_M), qa_PP μ0.2.2 → wX8_firstWeekOn_3 n v1 v2 v4 μ0  Q → qa_G l yX8_firstWeekOn cX8_firstWeekOn 5 (some .int) 1 0 0 (qa_pI Q) 0 0 3 [some (.ref 1), some (.int v1), some (.int v2), none, some (.int v4)] [] 113 μ0 := by
  intro n
  induction n with
  | zero =>
    intro v1 v2 v4 μ0 hp0  h
    rw [wX8_firstWeekOn_3] at h
    exact h.elim
  | succ n ih =>
    intro v1 v2 v4 μ0 hp0  h
    rw [wX8_firstWeekOn_3] at h
    refine qa_ild4 dX8_firstWeekOn_3 ?_
    refine qa_ald0 dX8_firstWeekOn_5 ?_
    refine qa_getR dX8_firstWeekOn_6 lf_X8_19 rfl sh_1 (by decide) rfl (qa_tw0 hp0.2.1) ?_
    refine qa_getI dX8_firstWeekOn_9 lf_X8_145 (Or.inl rfl) (st_0 hp0.2.1) (tle_0 hp0.2.1) ?_
    refine qa_icmp_gt (tgt := 38) dX8_firstWeekOn_12 (by decide) (fun c1 => ?_) (fun c1 => ?_)
    · have h := h.1 c1
      refine qa_iconst (v := -1) dX8_firstWeekOn_38 (by decide) ?_
      exact qa_iret rfl dX8_firstWeekOn_39 ⟨rfl, rfl⟩ ⟨rfl, hp0, _, rfl, h⟩
    · have h := h.2 c1
      refine qa_ald0 dX8_firstWeekOn_15 ?_
      refine qa_getR dX8_firstWeekOn_16 lf_X8_47 rfl sh_1 (by decide) (pp_1_9 hp0) (by decide) ?_
      refine qa_ild1 dX8_firstWeekOn_19 ?_
      refine qa_ild4 dX8_firstWeekOn_20 ?_
      refine qa_V2I dX8_firstWeekOn_22 lm_X8_155 (sy_0 (Or.inl rfl)) rfl (yle_0 (Or.inl rfl)) (by decide) (Nat.le_of_ble_eq_true rfl) (tX7_spot l hp0 (Or.inl rfl) h) (fun r2 μ2 hp2 h => ?_)
      refine qa_ild2 dX8_firstWeekOn_25 ?_
      refine qa_icmp_ne (tgt := 32) dX8_firstWeekOn_26 (by decide) (fun c3 => ?_) (fun c3 => ?_)
      · have h := h.1 c3
        refine qa_inc4 dX8_firstWeekOn_32 (qa_io1 _) ?_
        refine qa_goto (tgt := 3) dX8_firstWeekOn_35 (by decide) ?_
        refine qa_fgt (L' := [some (.ref 1), some (.int v1), some (.int v2), none, some (.int (v4 + (1 : Int32)))]) (⟨rfl, ⟨rfl, ⟨rfl, ⟨rfl, trivial⟩⟩⟩⟩) ?_
        exact ih v1 v2 (v4 + (1 : Int32)) μ2 hp2  h
      · have h := h.2 c3
        refine qa_ild4 dX8_firstWeekOn_29 ?_
        exact qa_iret rfl dX8_firstWeekOn_31 ⟨rfl, rfl⟩ ⟨rfl, hp2, _, rfl, h⟩
theorem tX8_firstWeekOn (l : Launch) {n : Nat} {v1 : Int32} {v2 : Int32} {v3 : Int32} {μ0 : qa_M} {Q : Int32 → qa_M → Prop} (hp0 : qa_PP μ0.2.2)  (h : wX8_firstWeekOn n v1 v2 v3 μ0 Q) : qa_Met l yX8_firstWeekOn cX8_firstWeekOn 5 (some .int) 1 0 0 [.ref 1, .int v1, .int v2, .int v3] 113 μ0 (qa_pI Q) := by
  refine qa_ofG (by decide) (Nat.le_of_ble_eq_true rfl) ?_
  unfold wX8_firstWeekOn at h
  change qa_G l yX8_firstWeekOn cX8_firstWeekOn 5 (some .int) 1 0 0 (qa_pI Q) 0 0 0 [some (.ref 1), some (.int v1), some (.int v2), some (.int v3), none] [] 113 μ0
  refine qa_ild3 dX8_firstWeekOn_0 ?_
  refine qa_ist4 dX8_firstWeekOn_1 ?_
  refine qa_fgt (L' := [some (.ref 1), some (.int v1), some (.int v2), none, some (.int v3)]) (⟨rfl, ⟨rfl, ⟨rfl, ⟨rfl, trivial⟩⟩⟩⟩) ?_
  refine tX8_firstWeekOn_3 l  n v1 v2 v3 μ0 hp0  h
def wX8_force (n : Nat) (v1 : Int32) (μ0 : qa_M) (Q : Int32 → qa_M → Prop) : Prop := wX8_isTurningWeek n v1 μ0 (fun r1 μ1 => ((r1 = 0 → Q (-10000 : Int32) μ1) ∧ (¬ r1 = 0 → vp_in v1 20 ∧ Q (μ1.1 35 v1.toNatClampNeg) μ1)))
theorem tX8_force (l : Launch) {n : Nat} {v1 : Int32} {μ0 : qa_M} {Q : Int32 → qa_M → Prop} (hp0 : qa_PP μ0.2.2)  (h : wX8_force n v1 μ0 Q) : qa_Met l yX8_force cX8_force 2 (some .int) 2 0 0 [.ref 1, .int v1] 113 μ0 (qa_pI Q) := by
  refine qa_ofG (by decide) (Nat.le_of_ble_eq_true rfl) ?_
  unfold wX8_force at h
  change qa_G l yX8_force cX8_force 2 (some .int) 2 0 0 (qa_pI Q) 0 0 0 [some (.ref 1), some (.int v1)] [] 113 μ0
  refine qa_ald0 dX8_force_0 ?_
  refine qa_ild1 dX8_force_1 ?_
  refine qa_V1I dX8_force_2 lm_X8_165 sh_1 rfl (by decide) (by decide) (Nat.le_of_ble_eq_true rfl) (tX8_isTurningWeek l hp0  h) (fun r1 μ1 hp1 h => ?_)
  refine qa_if_eq (tgt := 20) dX8_force_5 (by decide) (fun c2 => ?_) (fun c2 => ?_)
  · have h := h.1 c2
    refine qa_sipush (v := -10000) dX8_force_20 (by decide) ?_
    exact qa_iret rfl dX8_force_23 ⟨rfl, rfl⟩ ⟨rfl, hp1, _, rfl, h⟩
  · have h := h.2 c2
    refine qa_ald0 dX8_force_8 ?_
    refine qa_getR dX8_force_9 lf_X8_47 rfl sh_1 (by decide) (pp_1_9 hp1) (by decide) ?_
    refine qa_getR dX8_force_12 lf_X8_171 rfl (sy_0 (Or.inl rfl)) (yle_0 (Or.inl rfl)) (pp_32_2 hp1) (by decide) ?_
    refine qa_ild1 dX8_force_15 ?_
    refine qa_iald dX8_force_16 sh_35 (by decide) h.1 ?_
    have h := h.2
    refine qa_goto (tgt := 23) dX8_force_17 (by decide) ?_
    exact qa_iret rfl dX8_force_23 ⟨rfl, rfl⟩ ⟨rfl, hp1, _, rfl, h⟩
def wX8_gain_65 : Nat → Int32 → Int32 → Int32 → qa_M → (Int32 → qa_M → Prop) → Prop
  | 0, _, _, _, _, _ => False
  | n + 1, v1, v5, v6, μ0, Q => (((μ0.1 (μ0.2.2 1 2) 1) ≤ v6 → Q v5 μ0) ∧ (¬ (μ0.1 (μ0.2.2 1 2) 1) ≤ v6 → wX7_effort n 37 v1 v6 μ0 (fun r6 μ6 => ((r6 ≤ 0 → wX8_gain_65 n v1 v5 (v6 + (1 : Int32)) μ6 Q) ∧ (¬ r6 ≤ 0 → wX8_gain_65 n v1 (v5 + (-2 : Int32)) (v6 + (1 : Int32)) μ6 Q)))))
def wX8_gain (n : Nat) (v1 : Int32) (v2 : Int32) (v3 : Int32) (v4 : Int32) (μ0 : qa_M) (Q : Int32 → qa_M → Prop) : Prop := wX1_asTold n (μ0.2.2 1 2) μ0 (fun μ1 => ∀ μ2, μ2 = qa_uI μ1 31 4 ((v3 <<< (v1 &&& 31)) ||| (v4 <<< (v2 &&& 31))) → wX7_follow n 37 (μ2.2.2 1 2) μ2 (fun μ3 => wX7_sunTo n 37 (μ3.2.2 1 2) v1 (μ3.1 (μ3.2.2 1 2) 1) μ3 (fun r4 μ4 => wX8_gain_65 n v1 r4 (0 : Int32) μ4  Q)))
theorem tX8_gain_65 (l : Launch)  {Q : Int32 → qa_M → Prop}  : ∀ (n : Nat) (v1 : Int32) (v5 : Int32) (v6 : Int32) (μ0 : qa_M), qa_PP μ0.2.2 → wX8_gain_65 n v1 v5 v6 μ0  Q → qa_G l yX8_gain cX8_gain 7 (some .int) 4 0 0 (qa_pI Q) 0 0 65 [some (.ref 1), some (.int v1), none, none, none, some (.int v5), some (.int v6)] [] 113 μ0 := by
  intro n
  induction n with
  | zero =>
    intro v1 v5 v6 μ0 hp0  h
    rw [wX8_gain_65] at h
    exact h.elim
  | succ n ih =>
    intro v1 v5 v6 μ0 hp0  h
    rw [wX8_gain_65] at h
    refine qa_ild6 dX8_gain_65 ?_
    refine qa_ald0 dX8_gain_67 ?_
    refine qa_getR dX8_gain_68 lf_X8_19 rfl sh_1 (by decide) rfl (qa_tw0 hp0.2.1) ?_
    refine qa_getI dX8_gain_71 lf_X8_145 (Or.inl rfl) (st_0 hp0.2.1) (tle_0 hp0.2.1) ?_
    refine qa_icmp_ge (tgt := 99) dX8_gain_74 (by decide) (fun c5 => ?_) (fun c5 => ?_)
    · have h := h.1 c5
      refine qa_ild5 dX8_gain_99 ?_
      exact qa_iret rfl dX8_gain_101 ⟨rfl, rfl⟩ ⟨rfl, hp0, _, rfl, h⟩
    · have h := h.2 c5
      refine qa_ald0 dX8_gain_77 ?_
      refine qa_getR dX8_gain_78 lf_X8_51 rfl sh_1 (by decide) (pp_1_10 hp0) (by decide) ?_
      refine qa_ild1 dX8_gain_81 ?_
      refine qa_ild6 dX8_gain_82 ?_
      refine qa_V2I dX8_gain_84 lm_X8_168 (sy_0 (Or.inr rfl)) rfl (yle_0 (Or.inr rfl)) (by decide) (Nat.le_of_ble_eq_true rfl) (tX7_effort l hp0 (Or.inr rfl) h) (fun r6 μ6 hp6 h => ?_)
      refine qa_if_le (tgt := 93) dX8_gain_87 (by decide) (fun c7 => ?_) (fun c7 => ?_)
      · have h := h.1 c7
        refine qa_inc6 dX8_gain_93 (qa_io1 _) ?_
        refine qa_goto (tgt := 65) dX8_gain_96 (by decide) ?_
        refine qa_fgt (L' := [some (.ref 1), some (.int v1), none, none, none, some (.int v5), some (.int (v6 + (1 : Int32)))]) (⟨rfl, ⟨rfl, ⟨rfl, ⟨rfl, trivial⟩⟩⟩⟩) ?_
        exact ih v1 v5 (v6 + (1 : Int32)) μ6 hp6  h
      · have h := h.2 c7
        refine qa_inc5 dX8_gain_90 (qa_iom2 _) ?_
        refine qa_inc6 dX8_gain_93 (qa_io1 _) ?_
        refine qa_goto (tgt := 65) dX8_gain_96 (by decide) ?_
        refine qa_fgt (L' := [some (.ref 1), some (.int v1), none, none, none, some (.int (v5 + (-2 : Int32))), some (.int (v6 + (1 : Int32)))]) (⟨rfl, ⟨rfl, ⟨rfl, ⟨rfl, trivial⟩⟩⟩⟩) ?_
        exact ih v1 (v5 + (-2 : Int32)) (v6 + (1 : Int32)) μ6 hp6  h
theorem tX8_gain (l : Launch) {n : Nat} {v1 : Int32} {v2 : Int32} {v3 : Int32} {v4 : Int32} {μ0 : qa_M} {Q : Int32 → qa_M → Prop} (hp0 : qa_PP μ0.2.2)  (h : wX8_gain n v1 v2 v3 v4 μ0 Q) : qa_Met l yX8_gain cX8_gain 7 (some .int) 4 0 0 [.ref 1, .int v1, .int v2, .int v3, .int v4] 113 μ0 (qa_pI Q) := by
  refine qa_ofG (by decide) (Nat.le_of_ble_eq_true rfl) ?_
  unfold wX8_gain at h
  change qa_G l yX8_gain cX8_gain 7 (some .int) 4 0 0 (qa_pI Q) 0 0 0 [some (.ref 1), some (.int v1), some (.int v2), some (.int v3), some (.int v4), none, none] [] 113 μ0
  refine qa_ald0 dX8_gain_0 ?_
  refine qa_getR dX8_gain_1 lf_X8_40 rfl sh_1 (by decide) (pp_1_8 hp0) (by decide) ?_
  refine qa_ald0 dX8_gain_4 ?_
  refine qa_getR dX8_gain_5 lf_X8_19 rfl sh_1 (by decide) rfl (qa_tw0 hp0.2.1) ?_
  refine qa_V1V dX8_gain_8 lm_X8_261 sh_31 rfl (by decide) (by decide) (Nat.le_of_ble_eq_true rfl) (tX1_asTold l hp0 hp0.2.1 h) (fun μ1 hp1 h => ?_)
  refine qa_ald0 dX8_gain_11 ?_
  refine qa_getR dX8_gain_12 lf_X8_40 rfl sh_1 (by decide) (pp_1_8 hp1) (by decide) ?_
  refine qa_ild3 dX8_gain_15 ?_
  refine qa_ild1 dX8_gain_16 ?_
  refine qa_ishl dX8_gain_17 ?_
  refine qa_ild4 dX8_gain_18 ?_
  refine qa_ild2 dX8_gain_20 ?_
  refine qa_ishl dX8_gain_21 ?_
  refine qa_ior dX8_gain_22 ?_
  refine qa_putI dX8_gain_23 lf_X8_355 rfl sh_31 (by decide) rfl ?_
  refine qa_nmM (fun μ2 em2 => ?_)
  have h := h μ2 em2
  have hp2 : qa_PP μ2.2.2 := by rw [em2]; exact hp1
  refine qa_ald0 dX8_gain_26 ?_
  refine qa_getR dX8_gain_27 lf_X8_51 rfl sh_1 (by decide) (pp_1_10 hp2) (by decide) ?_
  refine qa_ald0 dX8_gain_30 ?_
  refine qa_getR dX8_gain_31 lf_X8_19 rfl sh_1 (by decide) rfl (qa_tw0 hp2.2.1) ?_
  refine qa_ald0 dX8_gain_34 ?_
  refine qa_getR dX8_gain_35 lf_X8_40 rfl sh_1 (by decide) (pp_1_8 hp2) (by decide) ?_
  refine qa_V2V dX8_gain_38 lm_X8_266 (sy_0 (Or.inr rfl)) rfl (yle_0 (Or.inr rfl)) (by decide) (Nat.le_of_ble_eq_true rfl) (tX7_follow l hp2 (Or.inr rfl) hp2.2.1 h) (fun μ3 hp3 h => ?_)
  refine qa_ald0 dX8_gain_41 ?_
  refine qa_getR dX8_gain_42 lf_X8_51 rfl sh_1 (by decide) (pp_1_10 hp3) (by decide) ?_
  refine qa_ald0 dX8_gain_45 ?_
  refine qa_getR dX8_gain_46 lf_X8_19 rfl sh_1 (by decide) rfl (qa_tw0 hp3.2.1) ?_
  refine qa_ild1 dX8_gain_49 ?_
  refine qa_ald0 dX8_gain_50 ?_
  refine qa_getR dX8_gain_51 lf_X8_19 rfl sh_1 (by decide) rfl (qa_tw0 hp3.2.1) ?_
  refine qa_getI dX8_gain_54 lf_X8_145 (Or.inl rfl) (st_0 hp3.2.1) (tle_0 hp3.2.1) ?_
  refine qa_V3I dX8_gain_57 lm_X8_185 (sy_0 (Or.inr rfl)) rfl (yle_0 (Or.inr rfl)) (by decide) (Nat.le_of_ble_eq_true rfl) (tX7_sunTo l hp3 (Or.inr rfl) hp3.2.1 h) (fun r4 μ4 hp4 h => ?_)
  refine qa_ist5 dX8_gain_60 ?_
  refine qa_iconst (v := 0) dX8_gain_62 (by decide) ?_
  refine qa_ist6 dX8_gain_63 ?_
  refine qa_fgt (L' := [some (.ref 1), some (.int v1), none, none, none, some (.int r4), some (.int (0 : Int32))]) (⟨rfl, ⟨rfl, ⟨rfl, ⟨rfl, trivial⟩⟩⟩⟩) ?_
  refine tX8_gain_65 l  n v1 r4 (0 : Int32) μ4 hp4  h
def wX8_gateBits_5 : Nat → Nat → Nat → Int32 → Int32 → qa_M → (Int32 → qa_M → Prop) → Prop
  | 0, _, _, _, _, _, _ => False
  | n + 1, v1, v2, v3, v4, μ0, Q => (((μ0.1 (μ0.2.2 1 2) 5) ≤ v4 → Q v3 μ0) ∧ (¬ (μ0.1 (μ0.2.2 1 2) 5) ≤ v4 → wX3_fitsPlaces n v1 v2 v4 μ0 (fun r2 μ2 => ((r2 = 0 → wX8_gateBits_5 n v1 v2 v3 (v4 + (1 : Int32)) μ2 Q) ∧ (¬ r2 = 0 → ∀ x4, x4 = (v3 ||| ((1 : Int32) <<< (v4 &&& 31))) → wX8_gateBits_5 n v1 v2 x4 (v4 + (1 : Int32)) μ2 Q)))))
def wX8_gateBits (n : Nat) (v1 : Nat) (v2 : Nat) (μ0 : qa_M) (Q : Int32 → qa_M → Prop) : Prop := wX8_gateBits_5 n v1 v2 (0 : Int32) (0 : Int32) μ0  Q
theorem tX8_gateBits_5 (l : Launch)  {Q : Int32 → qa_M → Prop}  : ∀ (n : Nat) (v1 : Nat) (v2 : Nat) (v3 : Int32) (v4 : Int32) (μ0 : qa_M), qa_PP μ0.2.2 → qa_rw v1 → qa_yr v2 → wX8_gateBits_5 n v1 v2 v3 v4 μ0  Q → qa_G l yX8_gateBits cX8_gateBits 5 (some .int) 2 0 0 (qa_pI Q) 0 0 5 [some (.ref 1), some (.ref v1), some (.ref v2), some (.int v3), some (.int v4)] [] 113 μ0 := by
  intro n
  induction n with
  | zero =>
    intro v1 v2 v3 v4 μ0 hp0 k1 k2 h
    rw [wX8_gateBits_5] at h
    exact h.elim
  | succ n ih =>
    intro v1 v2 v3 v4 μ0 hp0 k1 k2 h
    rw [wX8_gateBits_5] at h
    refine qa_ild4 dX8_gateBits_5 ?_
    refine qa_ald0 dX8_gateBits_7 ?_
    refine qa_getR dX8_gateBits_8 lf_X8_19 rfl sh_1 (by decide) rfl (qa_tw0 hp0.2.1) ?_
    refine qa_getI dX8_gateBits_11 lf_X8_158 (Or.inl rfl) (st_0 hp0.2.1) (tle_0 hp0.2.1) ?_
    refine qa_icmp_ge (tgt := 40) dX8_gateBits_14 (by decide) (fun c1 => ?_) (fun c1 => ?_)
    · have h := h.1 c1
      refine qa_ild3 dX8_gateBits_40 ?_
      exact qa_iret rfl dX8_gateBits_41 ⟨rfl, rfl⟩ ⟨rfl, hp0, _, rfl, h⟩
    · have h := h.2 c1
      refine qa_ald1 dX8_gateBits_17 ?_
      refine qa_ald2 dX8_gateBits_18 ?_
      refine qa_ild4 dX8_gateBits_19 ?_
      refine qa_V2I dX8_gateBits_21 lm_X8_335 (sr_0 k1) rfl (rle_0 k1) (by decide) (Nat.le_of_ble_eq_true rfl) (tX3_fitsPlaces l hp0 k1 k2 h) (fun r2 μ2 hp2 h => ?_)
      refine qa_if_eq (tgt := 34) dX8_gateBits_24 (by decide) (fun c3 => ?_) (fun c3 => ?_)
      · have h := h.1 c3
        refine qa_inc4 dX8_gateBits_34 (qa_io1 _) ?_
        refine qa_goto (tgt := 5) dX8_gateBits_37 (by decide) ?_
        refine qa_fgt (L' := [some (.ref 1), some (.ref v1), some (.ref v2), some (.int v3), some (.int (v4 + (1 : Int32)))]) (⟨rfl, ⟨rfl, ⟨rfl, ⟨rfl, ⟨rfl, trivial⟩⟩⟩⟩⟩) ?_
        exact ih v1 v2 v3 (v4 + (1 : Int32)) μ2 hp2 k1 k2 h
      · have h := h.2 c3
        refine qa_ild3 dX8_gateBits_27 ?_
        refine qa_iconst (v := 1) dX8_gateBits_28 (by decide) ?_
        refine qa_ild4 dX8_gateBits_29 ?_
        refine qa_ishl dX8_gateBits_31 ?_
        refine qa_ior dX8_gateBits_32 ?_
        refine qa_nmI (fun x4 e4 => ?_)
        have h := h x4 e4
        refine qa_ist3 dX8_gateBits_33 ?_
        refine qa_inc4 dX8_gateBits_34 (qa_io1 _) ?_
        refine qa_goto (tgt := 5) dX8_gateBits_37 (by decide) ?_
        refine qa_fgt (L' := [some (.ref 1), some (.ref v1), some (.ref v2), some (.int x4), some (.int (v4 + (1 : Int32)))]) (⟨rfl, ⟨rfl, ⟨rfl, ⟨rfl, ⟨rfl, trivial⟩⟩⟩⟩⟩) ?_
        exact ih v1 v2 x4 (v4 + (1 : Int32)) μ2 hp2 k1 k2 h
theorem tX8_gateBits (l : Launch) {n : Nat} {v1 : Nat} {v2 : Nat} {μ0 : qa_M} {Q : Int32 → qa_M → Prop} (hp0 : qa_PP μ0.2.2) (k1 : qa_rw v1) (k2 : qa_yr v2) (h : wX8_gateBits n v1 v2 μ0 Q) : qa_Met l yX8_gateBits cX8_gateBits 5 (some .int) 2 0 0 [.ref 1, .ref v1, .ref v2] 113 μ0 (qa_pI Q) := by
  refine qa_ofG (by decide) (Nat.le_of_ble_eq_true rfl) ?_
  unfold wX8_gateBits at h
  change qa_G l yX8_gateBits cX8_gateBits 5 (some .int) 2 0 0 (qa_pI Q) 0 0 0 [some (.ref 1), some (.ref v1), some (.ref v2), none, none] [] 113 μ0
  refine qa_iconst (v := 0) dX8_gateBits_0 (by decide) ?_
  refine qa_ist3 dX8_gateBits_1 ?_
  refine qa_iconst (v := 0) dX8_gateBits_2 (by decide) ?_
  refine qa_ist4 dX8_gateBits_3 ?_
  refine qa_fgt (L' := [some (.ref 1), some (.ref v1), some (.ref v2), some (.int (0 : Int32)), some (.int (0 : Int32))]) (⟨rfl, ⟨rfl, ⟨rfl, ⟨rfl, ⟨rfl, trivial⟩⟩⟩⟩⟩) ?_
  refine tX8_gateBits_5 l  n v1 v2 (0 : Int32) (0 : Int32) μ0 hp0 k1 k2 h
def wX8_gate (n : Nat) (v1 : Int32) (μ0 : qa_M) (Q : Int32 → qa_M → Prop) : Prop := wX8_refusePairs n v1 (μ0.1 (μ0.2.2 1 2) 1) (0 : Int32) ((μ0.1 (μ0.2.2 1 2) 5) - (1 : Int32)) μ0 (fun r1 μ1 => ((r1 = 0 → vp_in v1 4 ∧ wX8_gateBits n (83 + 2 * v1.toNatClampNeg) 32 μ1 (fun r4 μ4 => Q r4 μ4)) ∧ (¬ r1 = 0 → Q r1 μ1)))
theorem tX8_gate (l : Launch) {n : Nat} {v1 : Int32} {μ0 : qa_M} {Q : Int32 → qa_M → Prop} (hp0 : qa_PP μ0.2.2)  (h : wX8_gate n v1 μ0 Q) : qa_Met l yX8_gate cX8_gate 3 (some .int) 3 0 0 [.ref 1, .int v1] 113 μ0 (qa_pI Q) := by
  refine qa_ofG (by decide) (Nat.le_of_ble_eq_true rfl) ?_
  unfold wX8_gate at h
  change qa_G l yX8_gate cX8_gate 3 (some .int) 3 0 0 (qa_pI Q) 0 0 0 [some (.ref 1), some (.int v1), none] [] 113 μ0
  refine qa_ald0 dX8_gate_0 ?_
  refine qa_ild1 dX8_gate_1 ?_
  refine qa_ald0 dX8_gate_2 ?_
  refine qa_getR dX8_gate_3 lf_X8_19 rfl sh_1 (by decide) rfl (qa_tw0 hp0.2.1) ?_
  refine qa_getI dX8_gate_6 lf_X8_145 (Or.inl rfl) (st_0 hp0.2.1) (tle_0 hp0.2.1) ?_
  refine qa_iconst (v := 0) dX8_gate_9 (by decide) ?_
  refine qa_ald0 dX8_gate_10 ?_
  refine qa_getR dX8_gate_11 lf_X8_19 rfl sh_1 (by decide) rfl (qa_tw0 hp0.2.1) ?_
  refine qa_getI dX8_gate_14 lf_X8_158 (Or.inl rfl) (st_0 hp0.2.1) (tle_0 hp0.2.1) ?_
  refine qa_iconst (v := 1) dX8_gate_17 (by decide) ?_
  refine qa_isub dX8_gate_18 ?_
  refine qa_V4I dX8_gate_19 lm_X8_306 sh_1 rfl (by decide) (by decide) (Nat.le_of_ble_eq_true rfl) (tX8_refusePairs l hp0  h) (fun r1 μ1 hp1 h => ?_)
  refine qa_ist2 dX8_gate_22 ?_
  refine qa_ild2 dX8_gate_23 ?_
  refine qa_if_eq (tgt := 31) dX8_gate_24 (by decide) (fun c2 => ?_) (fun c2 => ?_)
  · have h := h.1 c2
    refine qa_ald0 dX8_gate_31 ?_
    refine qa_ald0 dX8_gate_32 ?_
    refine qa_getR dX8_gate_33 lf_X8_33 rfl sh_1 (by decide) (pp_1_7 hp1) (by decide) ?_
    refine qa_ild1 dX8_gate_36 ?_
    have b3 := h.1
    have h := h.2
    refine qa_aald (t := 6) dX8_gate_37 sh_30 rfl (by decide) b3 (psl hp1 b3) (qa_rw0 (qa_rwi b3)) ?_
    refine qa_ald0 dX8_gate_38 ?_
    refine qa_getR dX8_gate_39 lf_X8_47 rfl sh_1 (by decide) (pp_1_9 hp1) (by decide) ?_
    refine qa_V2I dX8_gate_42 lm_X8_331 sh_1 rfl (by decide) (by decide) (Nat.le_of_ble_eq_true rfl) (tX8_gateBits l hp1 (qa_rwi b3) (Or.inl rfl) h) (fun r4 μ4 hp4 h => ?_)
    exact qa_iret rfl dX8_gate_45 ⟨rfl, rfl⟩ ⟨rfl, hp4, _, rfl, h⟩
  · have h := h.2 c2
    refine qa_ild2 dX8_gate_27 ?_
    refine qa_goto (tgt := 45) dX8_gate_28 (by decide) ?_
    exact qa_iret rfl dX8_gate_45 ⟨rfl, rfl⟩ ⟨rfl, hp1, _, rfl, h⟩
def wX8_gets (n : Nat) (v1 : Int32) (v2 : Int32) (v3 : Int32) (v4 : Int32) (μ0 : qa_M) (Q : Int32 → qa_M → Prop) : Prop := wX8_isPair n v1 v2 μ0 (fun r1 μ1 => ((r1 = 0 → Q (-1000 : Int32) μ1) ∧ (¬ r1 = 0 → wX8_isPart n v3 μ1 (fun r3 μ3 => ((r3 = 0 → Q (-1000 : Int32) μ3) ∧ (¬ r3 = 0 → wX8_isPart n v4 μ3 (fun r5 μ5 => ((r5 = 0 → Q (-1000 : Int32) μ5) ∧ (¬ r5 = 0 → wX8_gain n v1 v2 v3 v4 μ5 (fun r7 μ7 => Q r7 μ7))))))))))
theorem tX8_gets (l : Launch) {n : Nat} {v1 : Int32} {v2 : Int32} {v3 : Int32} {v4 : Int32} {μ0 : qa_M} {Q : Int32 → qa_M → Prop} (hp0 : qa_PP μ0.2.2)  (h : wX8_gets n v1 v2 v3 v4 μ0 Q) : qa_Met l yX8_gets cX8_gets 5 (some .int) 5 0 0 [.ref 1, .int v1, .int v2, .int v3, .int v4] 113 μ0 (qa_pI Q) := by
  refine qa_ofG (by decide) (Nat.le_of_ble_eq_true rfl) ?_
  unfold wX8_gets at h
  change qa_G l yX8_gets cX8_gets 5 (some .int) 5 0 0 (qa_pI Q) 0 0 0 [some (.ref 1), some (.int v1), some (.int v2), some (.int v3), some (.int v4)] [] 113 μ0
  refine qa_ald0 dX8_gets_0 ?_
  refine qa_ild1 dX8_gets_1 ?_
  refine qa_ild2 dX8_gets_2 ?_
  refine qa_V2I dX8_gets_3 lm_X8_202 sh_1 rfl (by decide) (by decide) (Nat.le_of_ble_eq_true rfl) (tX8_isPair l hp0  h) (fun r1 μ1 hp1 h => ?_)
  refine qa_if_eq (tgt := 36) dX8_gets_6 (by decide) (fun c2 => ?_) (fun c2 => ?_)
  · have h := h.1 c2
    refine qa_sipush (v := -1000) dX8_gets_36 (by decide) ?_
    exact qa_iret rfl dX8_gets_39 ⟨rfl, rfl⟩ ⟨rfl, hp1, _, rfl, h⟩
  · have h := h.2 c2
    refine qa_ild3 dX8_gets_9 ?_
    refine qa_S1I dX8_gets_10 lm_X8_342  (by decide) (Nat.le_of_ble_eq_true rfl) (tX8_isPart l hp1  h) (fun r3 μ3 hp3 h => ?_)
    refine qa_if_eq (tgt := 36) dX8_gets_13 (by decide) (fun c4 => ?_) (fun c4 => ?_)
    · have h := h.1 c4
      refine qa_sipush (v := -1000) dX8_gets_36 (by decide) ?_
      exact qa_iret rfl dX8_gets_39 ⟨rfl, rfl⟩ ⟨rfl, hp3, _, rfl, h⟩
    · have h := h.2 c4
      refine qa_ild4 dX8_gets_16 ?_
      refine qa_S1I dX8_gets_18 lm_X8_342  (by decide) (Nat.le_of_ble_eq_true rfl) (tX8_isPart l hp3  h) (fun r5 μ5 hp5 h => ?_)
      refine qa_if_eq (tgt := 36) dX8_gets_21 (by decide) (fun c6 => ?_) (fun c6 => ?_)
      · have h := h.1 c6
        refine qa_sipush (v := -1000) dX8_gets_36 (by decide) ?_
        exact qa_iret rfl dX8_gets_39 ⟨rfl, rfl⟩ ⟨rfl, hp5, _, rfl, h⟩
      · have h := h.2 c6
        refine qa_ald0 dX8_gets_24 ?_
        refine qa_ild1 dX8_gets_25 ?_
        refine qa_ild2 dX8_gets_26 ?_
        refine qa_ild3 dX8_gets_27 ?_
        refine qa_ild4 dX8_gets_28 ?_
        refine qa_V4I dX8_gets_30 lm_X8_358 sh_1 rfl (by decide) (by decide) (Nat.le_of_ble_eq_true rfl) (tX8_gain l hp5  h) (fun r7 μ7 hp7 h => ?_)
        refine qa_goto (tgt := 39) dX8_gets_33 (by decide) ?_
        exact qa_iret rfl dX8_gets_39 ⟨rfl, rfl⟩ ⟨rfl, hp7, _, rfl, h⟩
def wX8_gold_18 : Nat → Int32 → Int32 → Int32 → qa_M → (Int32 → qa_M → Prop) → Prop
  | 0, _, _, _, _, _ => False
  | n + 1, v1, v2, v3, μ0, Q => (((μ0.1 (μ0.2.2 1 2) 5) ≤ v3 → Q v2 μ0) ∧ (¬ (μ0.1 (μ0.2.2 1 2) 5) ≤ v3 → wX7_sunTo n 32 (μ0.2.2 1 2) v3 (μ0.1 (μ0.2.2 1 2) 1) μ0 (fun r4 μ4 => wX7_sunTo n 32 (μ4.2.2 1 2) v1 (μ4.1 (μ4.2.2 1 2) 1) μ4 (fun r5 μ5 => ((¬ r4 = r5 → wX8_gold_18 n v1 v2 (v3 + (1 : Int32)) μ5 Q) ∧ (r4 = r5 → ∀ x7, x7 = (v2 ||| ((1 : Int32) <<< (v3 &&& 31))) → wX8_gold_18 n v1 x7 (v3 + (1 : Int32)) μ5 Q))))))
def wX8_gold (n : Nat)  (μ0 : qa_M) (Q : Int32 → qa_M → Prop) : Prop := wX8_brown n  μ0 (fun r1 μ1 => ((¬ r1 = (-2 : Int32) → wX8_gold_18 n r1 (0 : Int32) (0 : Int32) μ1  Q) ∧ (r1 = (-2 : Int32) → Q (-2 : Int32) μ1)))
theorem tX8_gold_18 (l : Launch)  {Q : Int32 → qa_M → Prop}  : ∀ (n : Nat) (v1 : Int32) (v2 : Int32) (v3 : Int32) (μ0 : qa_M), qa_PP μ0.2.2 → wX8_gold_18 n v1 v2 v3 μ0  Q → qa_G l yX8_gold cX8_gold 4 (some .int) 3 0 0 (qa_pI Q) 0 0 18 [some (.ref 1), some (.int v1), some (.int v2), some (.int v3)] [] 113 μ0 := by
  intro n
  induction n with
  | zero =>
    intro v1 v2 v3 μ0 hp0  h
    rw [wX8_gold_18] at h
    exact h.elim
  | succ n ih =>
    intro v1 v2 v3 μ0 hp0  h
    rw [wX8_gold_18] at h
    refine qa_ild3 dX8_gold_18 ?_
    refine qa_ald0 dX8_gold_19 ?_
    refine qa_getR dX8_gold_20 lf_X8_19 rfl sh_1 (by decide) rfl (qa_tw0 hp0.2.1) ?_
    refine qa_getI dX8_gold_23 lf_X8_158 (Or.inl rfl) (st_0 hp0.2.1) (tle_0 hp0.2.1) ?_
    refine qa_icmp_ge (tgt := 82) dX8_gold_26 (by decide) (fun c3 => ?_) (fun c3 => ?_)
    · have h := h.1 c3
      refine qa_ild2 dX8_gold_82 ?_
      exact qa_iret rfl dX8_gold_83 ⟨rfl, rfl⟩ ⟨rfl, hp0, _, rfl, h⟩
    · have h := h.2 c3
      refine qa_ald0 dX8_gold_29 ?_
      refine qa_getR dX8_gold_30 lf_X8_47 rfl sh_1 (by decide) (pp_1_9 hp0) (by decide) ?_
      refine qa_ald0 dX8_gold_33 ?_
      refine qa_getR dX8_gold_34 lf_X8_19 rfl sh_1 (by decide) rfl (qa_tw0 hp0.2.1) ?_
      refine qa_ild3 dX8_gold_37 ?_
      refine qa_ald0 dX8_gold_38 ?_
      refine qa_getR dX8_gold_39 lf_X8_19 rfl sh_1 (by decide) rfl (qa_tw0 hp0.2.1) ?_
      refine qa_getI dX8_gold_42 lf_X8_145 (Or.inl rfl) (st_0 hp0.2.1) (tle_0 hp0.2.1) ?_
      refine qa_V3I dX8_gold_45 lm_X8_185 (sy_0 (Or.inl rfl)) rfl (yle_0 (Or.inl rfl)) (by decide) (Nat.le_of_ble_eq_true rfl) (tX7_sunTo l hp0 (Or.inl rfl) hp0.2.1 h) (fun r4 μ4 hp4 h => ?_)
      refine qa_ald0 dX8_gold_48 ?_
      refine qa_getR dX8_gold_49 lf_X8_47 rfl sh_1 (by decide) (pp_1_9 hp4) (by decide) ?_
      refine qa_ald0 dX8_gold_52 ?_
      refine qa_getR dX8_gold_53 lf_X8_19 rfl sh_1 (by decide) rfl (qa_tw0 hp4.2.1) ?_
      refine qa_ild1 dX8_gold_56 ?_
      refine qa_ald0 dX8_gold_57 ?_
      refine qa_getR dX8_gold_58 lf_X8_19 rfl sh_1 (by decide) rfl (qa_tw0 hp4.2.1) ?_
      refine qa_getI dX8_gold_61 lf_X8_145 (Or.inl rfl) (st_0 hp4.2.1) (tle_0 hp4.2.1) ?_
      refine qa_V3I dX8_gold_64 lm_X8_185 (sy_0 (Or.inl rfl)) rfl (yle_0 (Or.inl rfl)) (by decide) (Nat.le_of_ble_eq_true rfl) (tX7_sunTo l hp4 (Or.inl rfl) hp4.2.1 h) (fun r5 μ5 hp5 h => ?_)
      refine qa_icmp_ne (tgt := 76) dX8_gold_67 (by decide) (fun c6 => ?_) (fun c6 => ?_)
      · have h := h.1 c6
        refine qa_inc3 dX8_gold_76 (qa_io1 _) ?_
        refine qa_goto (tgt := 18) dX8_gold_79 (by decide) ?_
        refine qa_fgt (L' := [some (.ref 1), some (.int v1), some (.int v2), some (.int (v3 + (1 : Int32)))]) (⟨rfl, ⟨rfl, ⟨rfl, ⟨rfl, trivial⟩⟩⟩⟩) ?_
        exact ih v1 v2 (v3 + (1 : Int32)) μ5 hp5  h
      · have h := h.2 c6
        refine qa_ild2 dX8_gold_70 ?_
        refine qa_iconst (v := 1) dX8_gold_71 (by decide) ?_
        refine qa_ild3 dX8_gold_72 ?_
        refine qa_ishl dX8_gold_73 ?_
        refine qa_ior dX8_gold_74 ?_
        refine qa_nmI (fun x7 e7 => ?_)
        have h := h x7 e7
        refine qa_ist2 dX8_gold_75 ?_
        refine qa_inc3 dX8_gold_76 (qa_io1 _) ?_
        refine qa_goto (tgt := 18) dX8_gold_79 (by decide) ?_
        refine qa_fgt (L' := [some (.ref 1), some (.int v1), some (.int x7), some (.int (v3 + (1 : Int32)))]) (⟨rfl, ⟨rfl, ⟨rfl, ⟨rfl, trivial⟩⟩⟩⟩) ?_
        exact ih v1 x7 (v3 + (1 : Int32)) μ5 hp5  h
theorem tX8_gold (l : Launch) {n : Nat}  {μ0 : qa_M} {Q : Int32 → qa_M → Prop} (hp0 : qa_PP μ0.2.2)  (h : wX8_gold n  μ0 Q) : qa_Met l yX8_gold cX8_gold 4 (some .int) 3 0 0 [.ref 1] 113 μ0 (qa_pI Q) := by
  refine qa_ofG (by decide) (Nat.le_of_ble_eq_true rfl) ?_
  unfold wX8_gold at h
  change qa_G l yX8_gold cX8_gold 4 (some .int) 3 0 0 (qa_pI Q) 0 0 0 [some (.ref 1), none, none, none] [] 113 μ0
  refine qa_ald0 dX8_gold_0 ?_
  refine qa_V0I dX8_gold_1 lm_X8_209 sh_1 rfl (by decide) (by decide) (Nat.le_of_ble_eq_true rfl) (tX8_brown l hp0  h) (fun r1 μ1 hp1 h => ?_)
  refine qa_ist1 dX8_gold_4 ?_
  refine qa_ild1 dX8_gold_5 ?_
  refine qa_bipush (v := -2) dX8_gold_6 (by decide) ?_
  refine qa_icmp_ne (tgt := 14) dX8_gold_8 (by decide) (fun c2 => ?_) (fun c2 => ?_)
  · have h := h.1 c2
    refine qa_iconst (v := 0) dX8_gold_14 (by decide) ?_
    refine qa_ist2 dX8_gold_15 ?_
    refine qa_iconst (v := 0) dX8_gold_16 (by decide) ?_
    refine qa_ist3 dX8_gold_17 ?_
    refine qa_fgt (L' := [some (.ref 1), some (.int r1), some (.int (0 : Int32)), some (.int (0 : Int32))]) (⟨rfl, ⟨rfl, ⟨rfl, ⟨rfl, trivial⟩⟩⟩⟩) ?_
    refine tX8_gold_18 l  n r1 (0 : Int32) (0 : Int32) μ1 hp1  h
  · have h := h.2 c2
    refine qa_bipush (v := -2) dX8_gold_11 (by decide) ?_
    exact qa_iret rfl dX8_gold_13 ⟨rfl, rfl⟩ ⟨rfl, hp1, _, rfl, h⟩
def wX8_home_12 : Nat → Int32 → qa_M → (Int32 → qa_M → Prop) → Prop
  | 0, _, _, _ => False
  | n + 1, v1, μ0, Q => (((μ0.1 (μ0.2.2 1 2) 1) < v1 → Q (-1 : Int32) μ0) ∧ (¬ (μ0.1 (μ0.2.2 1 2) 1) < v1 → wX8_backHomeBits n v1 μ0 (fun r4 μ4 => wX8_lowBits n (μ4.1 (μ4.2.2 1 2) 5) μ4 (fun r5 μ5 => ((¬ r4 = r5 → wX8_home_12 n (v1 + (1 : Int32)) μ5 Q) ∧ (r4 = r5 → Q v1 μ5))))))
def wX8_home (n : Nat)  (μ0 : qa_M) (Q : Int32 → qa_M → Prop) : Prop := wX8_hasTown n  μ0 (fun r1 μ1 => ((¬ r1 = 0 → wX8_home_12 n (1 : Int32) μ1  Q) ∧ (r1 = 0 → Q (-2 : Int32) μ1)))
theorem tX8_home_12 (l : Launch)  {Q : Int32 → qa_M → Prop}  : ∀ (n : Nat) (v1 : Int32) (μ0 : qa_M), qa_PP μ0.2.2 → wX8_home_12 n v1 μ0  Q → qa_G l yX8_home cX8_home 2 (some .int) 2 0 0 (qa_pI Q) 0 0 12 [some (.ref 1), some (.int v1)] [] 113 μ0 := by
  intro n
  induction n with
  | zero =>
    intro v1 μ0 hp0  h
    rw [wX8_home_12] at h
    exact h.elim
  | succ n ih =>
    intro v1 μ0 hp0  h
    rw [wX8_home_12] at h
    refine qa_ild1 dX8_home_12 ?_
    refine qa_ald0 dX8_home_13 ?_
    refine qa_getR dX8_home_14 lf_X8_19 rfl sh_1 (by decide) rfl (qa_tw0 hp0.2.1) ?_
    refine qa_getI dX8_home_17 lf_X8_145 (Or.inl rfl) (st_0 hp0.2.1) (tle_0 hp0.2.1) ?_
    refine qa_icmp_gt (tgt := 49) dX8_home_20 (by decide) (fun c3 => ?_) (fun c3 => ?_)
    · have h := h.1 c3
      refine qa_iconst (v := -1) dX8_home_49 (by decide) ?_
      exact qa_iret rfl dX8_home_50 ⟨rfl, rfl⟩ ⟨rfl, hp0, _, rfl, h⟩
    · have h := h.2 c3
      refine qa_ald0 dX8_home_23 ?_
      refine qa_ild1 dX8_home_24 ?_
      refine qa_V1I dX8_home_25 lm_X8_193 sh_1 rfl (by decide) (by decide) (Nat.le_of_ble_eq_true rfl) (tX8_backHomeBits l hp0  h) (fun r4 μ4 hp4 h => ?_)
      refine qa_ald0 dX8_home_28 ?_
      refine qa_getR dX8_home_29 lf_X8_19 rfl sh_1 (by decide) rfl (qa_tw0 hp4.2.1) ?_
      refine qa_getI dX8_home_32 lf_X8_158 (Or.inl rfl) (st_0 hp4.2.1) (tle_0 hp4.2.1) ?_
      refine qa_S1I dX8_home_35 lm_X8_148  (by decide) (Nat.le_of_ble_eq_true rfl) (tX8_lowBits l hp4  h) (fun r5 μ5 hp5 h => ?_)
      refine qa_icmp_ne (tgt := 43) dX8_home_38 (by decide) (fun c6 => ?_) (fun c6 => ?_)
      · have h := h.1 c6
        refine qa_inc1 dX8_home_43 (qa_io1 _) ?_
        refine qa_goto (tgt := 12) dX8_home_46 (by decide) ?_
        refine qa_fgt (L' := [some (.ref 1), some (.int (v1 + (1 : Int32)))]) (⟨rfl, ⟨rfl, trivial⟩⟩) ?_
        exact ih (v1 + (1 : Int32)) μ5 hp5  h
      · have h := h.2 c6
        refine qa_ild1 dX8_home_41 ?_
        exact qa_iret rfl dX8_home_42 ⟨rfl, rfl⟩ ⟨rfl, hp5, _, rfl, h⟩
theorem tX8_home (l : Launch) {n : Nat}  {μ0 : qa_M} {Q : Int32 → qa_M → Prop} (hp0 : qa_PP μ0.2.2)  (h : wX8_home n  μ0 Q) : qa_Met l yX8_home cX8_home 2 (some .int) 2 0 0 [.ref 1] 113 μ0 (qa_pI Q) := by
  refine qa_ofG (by decide) (Nat.le_of_ble_eq_true rfl) ?_
  unfold wX8_home at h
  change qa_G l yX8_home cX8_home 2 (some .int) 2 0 0 (qa_pI Q) 0 0 0 [some (.ref 1), none] [] 113 μ0
  refine qa_ald0 dX8_home_0 ?_
  refine qa_V0I dX8_home_1 lm_X8_138 sh_1 rfl (by decide) (by decide) (Nat.le_of_ble_eq_true rfl) (tX8_hasTown l hp0  h) (fun r1 μ1 hp1 h => ?_)
  refine qa_if_ne (tgt := 10) dX8_home_4 (by decide) (fun c2 => ?_) (fun c2 => ?_)
  · have h := h.1 c2
    refine qa_iconst (v := 1) dX8_home_10 (by decide) ?_
    refine qa_ist1 dX8_home_11 ?_
    refine qa_fgt (L' := [some (.ref 1), some (.int (1 : Int32))]) (⟨rfl, ⟨rfl, trivial⟩⟩) ?_
    refine tX8_home_12 l  n (1 : Int32) μ1 hp1  h
  · have h := h.2 c2
    refine qa_bipush (v := -2) dX8_home_7 (by decide) ?_
    exact qa_iret rfl dX8_home_9 ⟨rfl, rfl⟩ ⟨rfl, hp1, _, rfl, h⟩
def wX8_house (n : Nat) (v1 : Int32) (v2 : Int32) (μ0 : qa_M) (Q : Int32 → qa_M → Prop) : Prop := wX8_isHouse n v1 μ0 (fun r1 μ1 => ((¬ r1 = 0 → ((¬ v2 = 0 → ((¬ v2 = (1 : Int32) → Q (-2 : Int32) μ1) ∧ (v2 = (1 : Int32) → wX8_bitOf n (μ1.1 (μ1.2.2 1 2) 9) v1 μ1 (fun r5 μ5 => Q r5 μ5)))) ∧ (v2 = 0 → vp_in v1 8 ∧ Q (μ1.1 ((μ1.2.2 1 2) + 1) v1.toNatClampNeg) μ1))) ∧ (r1 = 0 → Q (-2 : Int32) μ1)))
theorem tX8_house (l : Launch) {n : Nat} {v1 : Int32} {v2 : Int32} {μ0 : qa_M} {Q : Int32 → qa_M → Prop} (hp0 : qa_PP μ0.2.2)  (h : wX8_house n v1 v2 μ0 Q) : qa_Met l yX8_house cX8_house 3 (some .int) 1 0 0 [.ref 1, .int v1, .int v2] 113 μ0 (qa_pI Q) := by
  refine qa_ofG (by decide) (Nat.le_of_ble_eq_true rfl) ?_
  unfold wX8_house at h
  change qa_G l yX8_house cX8_house 3 (some .int) 1 0 0 (qa_pI Q) 0 0 0 [some (.ref 1), some (.int v1), some (.int v2)] [] 113 μ0
  refine qa_ald0 dX8_house_0 ?_
  refine qa_ild1 dX8_house_1 ?_
  refine qa_V1I dX8_house_2 lm_X8_103 sh_1 rfl (by decide) (by decide) (Nat.le_of_ble_eq_true rfl) (tX8_isHouse l hp0  h) (fun r1 μ1 hp1 h => ?_)
  refine qa_if_ne (tgt := 11) dX8_house_5 (by decide) (fun c2 => ?_) (fun c2 => ?_)
  · have h := h.1 c2
    refine qa_ild2 dX8_house_11 ?_
    refine qa_if_ne (tgt := 25) dX8_house_12 (by decide) (fun c3 => ?_) (fun c3 => ?_)
    · have h := h.1 c3
      refine qa_ild2 dX8_house_25 ?_
      refine qa_iconst (v := 1) dX8_house_26 (by decide) ?_
      refine qa_icmp_ne (tgt := 44) dX8_house_27 (by decide) (fun c4 => ?_) (fun c4 => ?_)
      · have h := h.1 c4
        refine qa_bipush (v := -2) dX8_house_44 (by decide) ?_
        exact qa_iret rfl dX8_house_46 ⟨rfl, rfl⟩ ⟨rfl, hp1, _, rfl, h⟩
      · have h := h.2 c4
        refine qa_ald0 dX8_house_30 ?_
        refine qa_getR dX8_house_31 lf_X8_19 rfl sh_1 (by decide) rfl (qa_tw0 hp1.2.1) ?_
        refine qa_getI dX8_house_34 lf_X8_110 (Or.inl rfl) (st_0 hp1.2.1) (tle_0 hp1.2.1) ?_
        refine qa_ild1 dX8_house_37 ?_
        refine qa_S2I dX8_house_38 lm_X8_113  (by decide) (Nat.le_of_ble_eq_true rfl) (tX8_bitOf l hp1  h) (fun r5 μ5 hp5 h => ?_)
        refine qa_goto (tgt := 46) dX8_house_41 (by decide) ?_
        exact qa_iret rfl dX8_house_46 ⟨rfl, rfl⟩ ⟨rfl, hp5, _, rfl, h⟩
    · have h := h.2 c3
      refine qa_ald0 dX8_house_15 ?_
      refine qa_getR dX8_house_16 lf_X8_19 rfl sh_1 (by decide) rfl (qa_tw0 hp1.2.1) ?_
      refine qa_getR dX8_house_19 lf_X8_107 rfl (st_0 hp1.2.1) (tle_0 hp1.2.1) (pt_11 hp1 hp1.2.1) (Nat.succ_pos _) ?_
      refine qa_ild1 dX8_house_22 ?_
      refine qa_iald dX8_house_23 (st_1 hp1.2.1) (tle_1 hp1.2.1) h.1 ?_
      have h := h.2
      exact qa_iret rfl dX8_house_24 ⟨rfl, rfl⟩ ⟨rfl, hp1, _, rfl, h⟩
  · have h := h.2 c2
    refine qa_bipush (v := -2) dX8_house_8 (by decide) ?_
    exact qa_iret rfl dX8_house_10 ⟨rfl, rfl⟩ ⟨rfl, hp1, _, rfl, h⟩
def wX8_idle_15 : Nat → Int32 → Int32 → Int32 → qa_M → (Int32 → qa_M → Prop) → Prop
  | 0, _, _, _, _, _ => False
  | n + 1, v1, v2, v3, μ0, Q => (((μ0.1 (μ0.2.2 1 2) 5) ≤ v3 → Q v2 μ0) ∧ (¬ (μ0.1 (μ0.2.2 1 2) 5) ≤ v3 → wX7_effort n 32 v3 v1 μ0 (fun r4 μ4 => ((¬ r4 = 0 → wX8_idle_15 n v1 v2 (v3 + (1 : Int32)) μ4 Q) ∧ (r4 = 0 → ∀ x6, x6 = (v2 ||| ((1 : Int32) <<< (v3 &&& 31))) → wX8_idle_15 n v1 x6 (v3 + (1 : Int32)) μ4 Q)))))
def wX8_idle (n : Nat) (v1 : Int32) (μ0 : qa_M) (Q : Int32 → qa_M → Prop) : Prop := wX8_isTurningWeek n v1 μ0 (fun r1 μ1 => ((¬ r1 = 0 → wX8_idle_15 n v1 (0 : Int32) (0 : Int32) μ1  Q) ∧ (r1 = 0 → Q (-2 : Int32) μ1)))
theorem tX8_idle_15 (l : Launch)  {Q : Int32 → qa_M → Prop}  : ∀ (n : Nat) (v1 : Int32) (v2 : Int32) (v3 : Int32) (μ0 : qa_M), qa_PP μ0.2.2 → wX8_idle_15 n v1 v2 v3 μ0  Q → qa_G l yX8_idle cX8_idle 4 (some .int) 2 0 0 (qa_pI Q) 0 0 15 [some (.ref 1), some (.int v1), some (.int v2), some (.int v3)] [] 113 μ0 := by
  intro n
  induction n with
  | zero =>
    intro v1 v2 v3 μ0 hp0  h
    rw [wX8_idle_15] at h
    exact h.elim
  | succ n ih =>
    intro v1 v2 v3 μ0 hp0  h
    rw [wX8_idle_15] at h
    refine qa_ild3 dX8_idle_15 ?_
    refine qa_ald0 dX8_idle_16 ?_
    refine qa_getR dX8_idle_17 lf_X8_19 rfl sh_1 (by decide) rfl (qa_tw0 hp0.2.1) ?_
    refine qa_getI dX8_idle_20 lf_X8_158 (Or.inl rfl) (st_0 hp0.2.1) (tle_0 hp0.2.1) ?_
    refine qa_icmp_ge (tgt := 50) dX8_idle_23 (by decide) (fun c3 => ?_) (fun c3 => ?_)
    · have h := h.1 c3
      refine qa_ild2 dX8_idle_50 ?_
      exact qa_iret rfl dX8_idle_51 ⟨rfl, rfl⟩ ⟨rfl, hp0, _, rfl, h⟩
    · have h := h.2 c3
      refine qa_ald0 dX8_idle_26 ?_
      refine qa_getR dX8_idle_27 lf_X8_47 rfl sh_1 (by decide) (pp_1_9 hp0) (by decide) ?_
      refine qa_ild3 dX8_idle_30 ?_
      refine qa_ild1 dX8_idle_31 ?_
      refine qa_V2I dX8_idle_32 lm_X8_168 (sy_0 (Or.inl rfl)) rfl (yle_0 (Or.inl rfl)) (by decide) (Nat.le_of_ble_eq_true rfl) (tX7_effort l hp0 (Or.inl rfl) h) (fun r4 μ4 hp4 h => ?_)
      refine qa_if_ne (tgt := 44) dX8_idle_35 (by decide) (fun c5 => ?_) (fun c5 => ?_)
      · have h := h.1 c5
        refine qa_inc3 dX8_idle_44 (qa_io1 _) ?_
        refine qa_goto (tgt := 15) dX8_idle_47 (by decide) ?_
        refine qa_fgt (L' := [some (.ref 1), some (.int v1), some (.int v2), some (.int (v3 + (1 : Int32)))]) (⟨rfl, ⟨rfl, ⟨rfl, ⟨rfl, trivial⟩⟩⟩⟩) ?_
        exact ih v1 v2 (v3 + (1 : Int32)) μ4 hp4  h
      · have h := h.2 c5
        refine qa_ild2 dX8_idle_38 ?_
        refine qa_iconst (v := 1) dX8_idle_39 (by decide) ?_
        refine qa_ild3 dX8_idle_40 ?_
        refine qa_ishl dX8_idle_41 ?_
        refine qa_ior dX8_idle_42 ?_
        refine qa_nmI (fun x6 e6 => ?_)
        have h := h x6 e6
        refine qa_ist2 dX8_idle_43 ?_
        refine qa_inc3 dX8_idle_44 (qa_io1 _) ?_
        refine qa_goto (tgt := 15) dX8_idle_47 (by decide) ?_
        refine qa_fgt (L' := [some (.ref 1), some (.int v1), some (.int x6), some (.int (v3 + (1 : Int32)))]) (⟨rfl, ⟨rfl, ⟨rfl, ⟨rfl, trivial⟩⟩⟩⟩) ?_
        exact ih v1 x6 (v3 + (1 : Int32)) μ4 hp4  h
theorem tX8_idle (l : Launch) {n : Nat} {v1 : Int32} {μ0 : qa_M} {Q : Int32 → qa_M → Prop} (hp0 : qa_PP μ0.2.2)  (h : wX8_idle n v1 μ0 Q) : qa_Met l yX8_idle cX8_idle 4 (some .int) 2 0 0 [.ref 1, .int v1] 113 μ0 (qa_pI Q) := by
  refine qa_ofG (by decide) (Nat.le_of_ble_eq_true rfl) ?_
  unfold wX8_idle at h
  change qa_G l yX8_idle cX8_idle 4 (some .int) 2 0 0 (qa_pI Q) 0 0 0 [some (.ref 1), some (.int v1), none, none] [] 113 μ0
  refine qa_ald0 dX8_idle_0 ?_
  refine qa_ild1 dX8_idle_1 ?_
  refine qa_V1I dX8_idle_2 lm_X8_165 sh_1 rfl (by decide) (by decide) (Nat.le_of_ble_eq_true rfl) (tX8_isTurningWeek l hp0  h) (fun r1 μ1 hp1 h => ?_)
  refine qa_if_ne (tgt := 11) dX8_idle_5 (by decide) (fun c2 => ?_) (fun c2 => ?_)
  · have h := h.1 c2
    refine qa_iconst (v := 0) dX8_idle_11 (by decide) ?_
    refine qa_ist2 dX8_idle_12 ?_
    refine qa_iconst (v := 0) dX8_idle_13 (by decide) ?_
    refine qa_ist3 dX8_idle_14 ?_
    refine qa_fgt (L' := [some (.ref 1), some (.int v1), some (.int (0 : Int32)), some (.int (0 : Int32))]) (⟨rfl, ⟨rfl, ⟨rfl, ⟨rfl, trivial⟩⟩⟩⟩) ?_
    refine tX8_idle_15 l  n v1 (0 : Int32) (0 : Int32) μ1 hp1  h
  · have h := h.2 c2
    refine qa_bipush (v := -2) dX8_idle_8 (by decide) ?_
    exact qa_iret rfl dX8_idle_10 ⟨rfl, rfl⟩ ⟨rfl, hp1, _, rfl, h⟩
def wX8_image (n : Nat) (v1 : Int32) (μ0 : qa_M) (Q : Int32 → qa_M → Prop) : Prop := ((v1 < 0 → Q (-2 : Int32) μ0) ∧ (¬ v1 < 0 → ((v1 < (3 : Int32) → vp_in v1 3 ∧ wX6_copyFrom n (47 + 12 * v1.toNatClampNeg) (μ0.2.2 1 2) μ0 (fun μ4 => vp_in v1 3 ∧ ∀ μ5, μ5 = qa_uI μ4 29 v1.toNatClampNeg (1 : Int32) → Q (0 : Int32) μ5)) ∧ (¬ v1 < (3 : Int32) → Q (-2 : Int32) μ0))))
theorem tX8_image (l : Launch) {n : Nat} {v1 : Int32} {μ0 : qa_M} {Q : Int32 → qa_M → Prop} (hp0 : qa_PP μ0.2.2)  (h : wX8_image n v1 μ0 Q) : qa_Met l yX8_image cX8_image 2 (some .int) 4 0 0 [.ref 1, .int v1] 113 μ0 (qa_pI Q) := by
  refine qa_ofG (by decide) (Nat.le_of_ble_eq_true rfl) ?_
  unfold wX8_image at h
  change qa_G l yX8_image cX8_image 2 (some .int) 4 0 0 (qa_pI Q) 0 0 0 [some (.ref 1), some (.int v1)] [] 113 μ0
  refine qa_ild1 dX8_image_0 ?_
  refine qa_if_lt (tgt := 9) dX8_image_1 (by decide) (fun c1 => ?_) (fun c1 => ?_)
  · have h := h.1 c1
    refine qa_bipush (v := -2) dX8_image_9 (by decide) ?_
    exact qa_iret rfl dX8_image_11 ⟨rfl, rfl⟩ ⟨rfl, hp0, _, rfl, h⟩
  · have h := h.2 c1
    refine qa_ild1 dX8_image_4 ?_
    refine qa_iconst (v := 3) dX8_image_5 (by decide) ?_
    refine qa_icmp_lt (tgt := 12) dX8_image_6 (by decide) (fun c2 => ?_) (fun c2 => ?_)
    · have h := h.1 c2
      refine qa_ald0 dX8_image_12 ?_
      refine qa_getR dX8_image_13 lf_X8_23 rfl sh_1 (by decide) (pp_1_5 hp0) (by decide) ?_
      refine qa_ild1 dX8_image_16 ?_
      have b3 := h.1
      have h := h.2
      refine qa_aald (t := 5) dX8_image_17 sh_28 rfl (by decide) b3 (pim hp0 b3) (qa_tw0 (qa_twi b3)) ?_
      refine qa_ald0 dX8_image_18 ?_
      refine qa_getR dX8_image_19 lf_X8_19 rfl sh_1 (by decide) rfl (qa_tw0 hp0.2.1) ?_
      refine qa_V1V dX8_image_22 lm_X8_428 (st_0 (qa_twi b3)) rfl (tle_0 (qa_twi b3)) (by decide) (Nat.le_of_ble_eq_true rfl) (tX6_copyFrom l hp0 (qa_twi b3) hp0.2.1 h) (fun μ4 hp4 h => ?_)
      refine qa_ald0 dX8_image_25 ?_
      refine qa_getR dX8_image_26 lf_X8_27 rfl sh_1 (by decide) (pp_1_6 hp4) (by decide) ?_
      refine qa_ild1 dX8_image_29 ?_
      refine qa_iconst (v := 1) dX8_image_30 (by decide) ?_
      refine qa_zast dX8_image_31 sh_29 (by decide) h.1 (Or.inr rfl) ?_
      have h := h.2
      refine qa_nmM (fun μ5 em5 => ?_)
      have h := h μ5 em5
      have hp5 : qa_PP μ5.2.2 := by rw [em5]; exact hp4
      refine qa_iconst (v := 0) dX8_image_32 (by decide) ?_
      exact qa_iret rfl dX8_image_33 ⟨rfl, rfl⟩ ⟨rfl, hp5, _, rfl, h⟩
    · have h := h.2 c2
      refine qa_bipush (v := -2) dX8_image_9 (by decide) ?_
      exact qa_iret rfl dX8_image_11 ⟨rfl, rfl⟩ ⟨rfl, hp0, _, rfl, h⟩
def wX8_isLetter (n : Nat) (v1 : Int32) (μ0 : qa_M) (Q : Int32 → qa_M → Prop) : Prop := ((v1 < 0 → Q (0 : Int32) μ0) ∧ (¬ v1 < 0 → (((μ0.1 (μ0.2.2 1 2) 8) ≤ v1 → Q (0 : Int32) μ0) ∧ (¬ (μ0.1 (μ0.2.2 1 2) 8) ≤ v1 → Q (1 : Int32) μ0))))
theorem tX8_isLetter (l : Launch) {n : Nat} {v1 : Int32} {μ0 : qa_M} {Q : Int32 → qa_M → Prop} (hp0 : qa_PP μ0.2.2)  (h : wX8_isLetter n v1 μ0 Q) : qa_Met l yX8_isLetter cX8_isLetter 2 (some .boolean) 0 0 0 [.ref 1, .int v1] 113 μ0 (qa_pI Q) := by
  refine qa_ofG (by decide) (Nat.le_of_ble_eq_true rfl) ?_
  unfold wX8_isLetter at h
  change qa_G l yX8_isLetter cX8_isLetter 2 (some .boolean) 0 0 0 (qa_pI Q) 0 0 0 [some (.ref 1), some (.int v1)] [] 113 μ0
  refine qa_ild1 dX8_isLetter_0 ?_
  refine qa_if_lt (tgt := 19) dX8_isLetter_1 (by decide) (fun c1 => ?_) (fun c1 => ?_)
  · have h := h.1 c1
    refine qa_iconst (v := 0) dX8_isLetter_19 (by decide) ?_
    exact qa_zret rfl rfl dX8_isLetter_20 ⟨rfl, rfl⟩ ⟨rfl, hp0, _, rfl, h⟩
  · have h := h.2 c1
    refine qa_ild1 dX8_isLetter_4 ?_
    refine qa_ald0 dX8_isLetter_5 ?_
    refine qa_getR dX8_isLetter_6 lf_X8_19 rfl sh_1 (by decide) rfl (qa_tw0 hp0.2.1) ?_
    refine qa_getI dX8_isLetter_9 lf_X8_422 (Or.inl rfl) (st_0 hp0.2.1) (tle_0 hp0.2.1) ?_
    refine qa_icmp_ge (tgt := 19) dX8_isLetter_12 (by decide) (fun c2 => ?_) (fun c2 => ?_)
    · have h := h.1 c2
      refine qa_iconst (v := 0) dX8_isLetter_19 (by decide) ?_
      exact qa_zret rfl rfl dX8_isLetter_20 ⟨rfl, rfl⟩ ⟨rfl, hp0, _, rfl, h⟩
    · have h := h.2 c2
      refine qa_iconst (v := 1) dX8_isLetter_15 (by decide) ?_
      refine qa_goto (tgt := 20) dX8_isLetter_16 (by decide) ?_
      exact qa_zret rfl rfl dX8_isLetter_20 ⟨rfl, rfl⟩ ⟨rfl, hp0, _, rfl, h⟩
def wX8_isTurn (n : Nat) (v0 : Int32) (μ0 : qa_M) (Q : Int32 → qa_M → Prop) : Prop := ((v0 < (-400 : Int32) → Q (0 : Int32) μ0) ∧ (¬ v0 < (-400 : Int32) → (((400 : Int32) < v0 → Q (0 : Int32) μ0) ∧ (¬ (400 : Int32) < v0 → Q (1 : Int32) μ0))))
theorem tX8_isTurn (l : Launch) {n : Nat} {v0 : Int32} {μ0 : qa_M} {Q : Int32 → qa_M → Prop} (hp0 : qa_PP μ0.2.2)  (h : wX8_isTurn n v0 μ0 Q) : qa_Met l yX8_isTurn cX8_isTurn 1 (some .boolean) 0 0 0 [.int v0] 113 μ0 (qa_pI Q) := by
  refine qa_ofG (by decide) (Nat.le_of_ble_eq_true rfl) ?_
  unfold wX8_isTurn at h
  change qa_G l yX8_isTurn cX8_isTurn 1 (some .boolean) 0 0 0 (qa_pI Q) 0 0 0 [some (.int v0)] [] 113 μ0
  refine qa_ild0 dX8_isTurn_0 ?_
  refine qa_sipush (v := -400) dX8_isTurn_1 (by decide) ?_
  refine qa_icmp_lt (tgt := 18) dX8_isTurn_4 (by decide) (fun c1 => ?_) (fun c1 => ?_)
  · have h := h.1 c1
    refine qa_iconst (v := 0) dX8_isTurn_18 (by decide) ?_
    exact qa_zret rfl rfl dX8_isTurn_19 ⟨rfl, rfl⟩ ⟨rfl, hp0, _, rfl, h⟩
  · have h := h.2 c1
    refine qa_ild0 dX8_isTurn_7 ?_
    refine qa_sipush (v := 400) dX8_isTurn_8 (by decide) ?_
    refine qa_icmp_gt (tgt := 18) dX8_isTurn_11 (by decide) (fun c2 => ?_) (fun c2 => ?_)
    · have h := h.1 c2
      refine qa_iconst (v := 0) dX8_isTurn_18 (by decide) ?_
      exact qa_zret rfl rfl dX8_isTurn_19 ⟨rfl, rfl⟩ ⟨rfl, hp0, _, rfl, h⟩
    · have h := h.2 c2
      refine qa_iconst (v := 1) dX8_isTurn_14 (by decide) ?_
      refine qa_goto (tgt := 19) dX8_isTurn_15 (by decide) ?_
      exact qa_zret rfl rfl dX8_isTurn_19 ⟨rfl, rfl⟩ ⟨rfl, hp0, _, rfl, h⟩
def wX8_jerk_14 : Nat → Int32 → Int32 → qa_M → (Int32 → qa_M → Prop) → Prop
  | 0, _, _, _, _ => False
  | n + 1, v1, v2, μ0, Q => (((μ0.1 (μ0.2.2 1 2) 1) ≤ v2 → Q v1 μ0) ∧ (¬ (μ0.1 (μ0.2.2 1 2) 1) ≤ v2 → vp_in v2 20 ∧ wJ9_abs_0f7a4 n (μ0.1 36 v2.toNatClampNeg) μ0 (fun r4 μ4 => vp_in v1 20 ∧ wJ9_abs_0f7a4 n (μ4.1 36 v1.toNatClampNeg) μ4 (fun r5 μ5 => ((r4 ≤ r5 → wX8_jerk_14 n v1 (v2 + (1 : Int32)) μ5 Q) ∧ (¬ r4 ≤ r5 → wX8_jerk_14 n v2 (v2 + (1 : Int32)) μ5 Q))))))
def wX8_jerk (n : Nat)  (μ0 : qa_M) (Q : Int32 → qa_M → Prop) : Prop := wX8_hasTown n  μ0 (fun r1 μ1 => ((¬ r1 = 0 → wX8_jerk_14 n (0 : Int32) (1 : Int32) μ1  Q) ∧ (r1 = 0 → Q (-2 : Int32) μ1)))
theorem tX8_jerk_14 (l : Launch)  {Q : Int32 → qa_M → Prop}  : ∀ (n : Nat) (v1 : Int32) (v2 : Int32) (μ0 : qa_M), qa_PP μ0.2.2 → wX8_jerk_14 n v1 v2 μ0  Q → qa_G l yX8_jerk cX8_jerk 3 (some .int) 1 0 0 (qa_pI Q) 0 0 14 [some (.ref 1), some (.int v1), some (.int v2)] [] 113 μ0 := by
  intro n
  induction n with
  | zero =>
    intro v1 v2 μ0 hp0  h
    rw [wX8_jerk_14] at h
    exact h.elim
  | succ n ih =>
    intro v1 v2 μ0 hp0  h
    rw [wX8_jerk_14] at h
    refine qa_ild2 dX8_jerk_14 ?_
    refine qa_ald0 dX8_jerk_15 ?_
    refine qa_getR dX8_jerk_16 lf_X8_19 rfl sh_1 (by decide) rfl (qa_tw0 hp0.2.1) ?_
    refine qa_getI dX8_jerk_19 lf_X8_145 (Or.inl rfl) (st_0 hp0.2.1) (tle_0 hp0.2.1) ?_
    refine qa_icmp_ge (tgt := 60) dX8_jerk_22 (by decide) (fun c3 => ?_) (fun c3 => ?_)
    · have h := h.1 c3
      refine qa_ild1 dX8_jerk_60 ?_
      exact qa_iret rfl dX8_jerk_61 ⟨rfl, rfl⟩ ⟨rfl, hp0, _, rfl, h⟩
    · have h := h.2 c3
      refine qa_ald0 dX8_jerk_25 ?_
      refine qa_getR dX8_jerk_26 lf_X8_47 rfl sh_1 (by decide) (pp_1_9 hp0) (by decide) ?_
      refine qa_getR dX8_jerk_29 lf_X8_174 rfl (sy_0 (Or.inl rfl)) (yle_0 (Or.inl rfl)) (pp_32_3 hp0) (by decide) ?_
      refine qa_ild2 dX8_jerk_32 ?_
      refine qa_iald dX8_jerk_33 sh_36 (by decide) h.1 ?_
      have h := h.2
      refine qa_S1I dX8_jerk_34 lm_X8_180  (by decide) (Nat.le_of_ble_eq_true rfl) (tJ9_abs_0f7a4 l hp0  h) (fun r4 μ4 hp4 h => ?_)
      refine qa_ald0 dX8_jerk_37 ?_
      refine qa_getR dX8_jerk_38 lf_X8_47 rfl sh_1 (by decide) (pp_1_9 hp4) (by decide) ?_
      refine qa_getR dX8_jerk_41 lf_X8_174 rfl (sy_0 (Or.inl rfl)) (yle_0 (Or.inl rfl)) (pp_32_3 hp4) (by decide) ?_
      refine qa_ild1 dX8_jerk_44 ?_
      refine qa_iald dX8_jerk_45 sh_36 (by decide) h.1 ?_
      have h := h.2
      refine qa_S1I dX8_jerk_46 lm_X8_180  (by decide) (Nat.le_of_ble_eq_true rfl) (tJ9_abs_0f7a4 l hp4  h) (fun r5 μ5 hp5 h => ?_)
      refine qa_icmp_le (tgt := 54) dX8_jerk_49 (by decide) (fun c6 => ?_) (fun c6 => ?_)
      · have h := h.1 c6
        refine qa_inc2 dX8_jerk_54 (qa_io1 _) ?_
        refine qa_goto (tgt := 14) dX8_jerk_57 (by decide) ?_
        refine qa_fgt (L' := [some (.ref 1), some (.int v1), some (.int (v2 + (1 : Int32)))]) (⟨rfl, ⟨rfl, ⟨rfl, trivial⟩⟩⟩) ?_
        exact ih v1 (v2 + (1 : Int32)) μ5 hp5  h
      · have h := h.2 c6
        refine qa_ild2 dX8_jerk_52 ?_
        refine qa_ist1 dX8_jerk_53 ?_
        refine qa_inc2 dX8_jerk_54 (qa_io1 _) ?_
        refine qa_goto (tgt := 14) dX8_jerk_57 (by decide) ?_
        refine qa_fgt (L' := [some (.ref 1), some (.int v2), some (.int (v2 + (1 : Int32)))]) (⟨rfl, ⟨rfl, ⟨rfl, trivial⟩⟩⟩) ?_
        exact ih v2 (v2 + (1 : Int32)) μ5 hp5  h
theorem tX8_jerk (l : Launch) {n : Nat}  {μ0 : qa_M} {Q : Int32 → qa_M → Prop} (hp0 : qa_PP μ0.2.2)  (h : wX8_jerk n  μ0 Q) : qa_Met l yX8_jerk cX8_jerk 3 (some .int) 1 0 0 [.ref 1] 113 μ0 (qa_pI Q) := by
  refine qa_ofG (by decide) (Nat.le_of_ble_eq_true rfl) ?_
  unfold wX8_jerk at h
  change qa_G l yX8_jerk cX8_jerk 3 (some .int) 1 0 0 (qa_pI Q) 0 0 0 [some (.ref 1), none, none] [] 113 μ0
  refine qa_ald0 dX8_jerk_0 ?_
  refine qa_V0I dX8_jerk_1 lm_X8_138 sh_1 rfl (by decide) (by decide) (Nat.le_of_ble_eq_true rfl) (tX8_hasTown l hp0  h) (fun r1 μ1 hp1 h => ?_)
  refine qa_if_ne (tgt := 10) dX8_jerk_4 (by decide) (fun c2 => ?_) (fun c2 => ?_)
  · have h := h.1 c2
    refine qa_iconst (v := 0) dX8_jerk_10 (by decide) ?_
    refine qa_ist1 dX8_jerk_11 ?_
    refine qa_iconst (v := 1) dX8_jerk_12 (by decide) ?_
    refine qa_ist2 dX8_jerk_13 ?_
    refine qa_fgt (L' := [some (.ref 1), some (.int (0 : Int32)), some (.int (1 : Int32))]) (⟨rfl, ⟨rfl, ⟨rfl, trivial⟩⟩⟩) ?_
    refine tX8_jerk_14 l  n (0 : Int32) (1 : Int32) μ1 hp1  h
  · have h := h.2 c2
    refine qa_bipush (v := -2) dX8_jerk_7 (by decide) ?_
    exact qa_iret rfl dX8_jerk_9 ⟨rfl, rfl⟩ ⟨rfl, hp1, _, rfl, h⟩
def wX8_last_15 : Nat → Int32 → Int32 → Int32 → qa_M → (Int32 → qa_M → Prop) → Prop
  | 0, _, _, _, _, _ => False
  | n + 1, v1, v2, v3, μ0, Q => (((μ0.1 (μ0.2.2 1 2) 1) < v3 → Q v2 μ0) ∧ (¬ (μ0.1 (μ0.2.2 1 2) 1) < v3 → wX7_spot n 32 v1 v3 μ0 (fun r4 μ4 => wX7_spot n 32 v1 (0 : Int32) μ4 (fun r5 μ5 => ((¬ r4 = r5 → wX8_last_15 n v1 v2 (v3 + (1 : Int32)) μ5 Q) ∧ (r4 = r5 → wX8_last_15 n v1 v3 (v3 + (1 : Int32)) μ5 Q))))))
def wX8_last (n : Nat) (v1 : Int32) (μ0 : qa_M) (Q : Int32 → qa_M → Prop) : Prop := wX8_isHouse n v1 μ0 (fun r1 μ1 => ((¬ r1 = 0 → wX8_last_15 n v1 (0 : Int32) (1 : Int32) μ1  Q) ∧ (r1 = 0 → Q (-2 : Int32) μ1)))
theorem tX8_last_15 (l : Launch)  {Q : Int32 → qa_M → Prop}  : ∀ (n : Nat) (v1 : Int32) (v2 : Int32) (v3 : Int32) (μ0 : qa_M), qa_PP μ0.2.2 → wX8_last_15 n v1 v2 v3 μ0  Q → qa_G l yX8_last cX8_last 4 (some .int) 1 0 0 (qa_pI Q) 0 0 15 [some (.ref 1), some (.int v1), some (.int v2), some (.int v3)] [] 113 μ0 := by
  intro n
  induction n with
  | zero =>
    intro v1 v2 v3 μ0 hp0  h
    rw [wX8_last_15] at h
    exact h.elim
  | succ n ih =>
    intro v1 v2 v3 μ0 hp0  h
    rw [wX8_last_15] at h
    refine qa_ild3 dX8_last_15 ?_
    refine qa_ald0 dX8_last_16 ?_
    refine qa_getR dX8_last_17 lf_X8_19 rfl sh_1 (by decide) rfl (qa_tw0 hp0.2.1) ?_
    refine qa_getI dX8_last_20 lf_X8_145 (Or.inl rfl) (st_0 hp0.2.1) (tle_0 hp0.2.1) ?_
    refine qa_icmp_gt (tgt := 55) dX8_last_23 (by decide) (fun c3 => ?_) (fun c3 => ?_)
    · have h := h.1 c3
      refine qa_ild2 dX8_last_55 ?_
      exact qa_iret rfl dX8_last_56 ⟨rfl, rfl⟩ ⟨rfl, hp0, _, rfl, h⟩
    · have h := h.2 c3
      refine qa_ald0 dX8_last_26 ?_
      refine qa_getR dX8_last_27 lf_X8_47 rfl sh_1 (by decide) (pp_1_9 hp0) (by decide) ?_
      refine qa_ild1 dX8_last_30 ?_
      refine qa_ild3 dX8_last_31 ?_
      refine qa_V2I dX8_last_32 lm_X8_155 (sy_0 (Or.inl rfl)) rfl (yle_0 (Or.inl rfl)) (by decide) (Nat.le_of_ble_eq_true rfl) (tX7_spot l hp0 (Or.inl rfl) h) (fun r4 μ4 hp4 h => ?_)
      refine qa_ald0 dX8_last_35 ?_
      refine qa_getR dX8_last_36 lf_X8_47 rfl sh_1 (by decide) (pp_1_9 hp4) (by decide) ?_
      refine qa_ild1 dX8_last_39 ?_
      refine qa_iconst (v := 0) dX8_last_40 (by decide) ?_
      refine qa_V2I dX8_last_41 lm_X8_155 (sy_0 (Or.inl rfl)) rfl (yle_0 (Or.inl rfl)) (by decide) (Nat.le_of_ble_eq_true rfl) (tX7_spot l hp4 (Or.inl rfl) h) (fun r5 μ5 hp5 h => ?_)
      refine qa_icmp_ne (tgt := 49) dX8_last_44 (by decide) (fun c6 => ?_) (fun c6 => ?_)
      · have h := h.1 c6
        refine qa_inc3 dX8_last_49 (qa_io1 _) ?_
        refine qa_goto (tgt := 15) dX8_last_52 (by decide) ?_
        refine qa_fgt (L' := [some (.ref 1), some (.int v1), some (.int v2), some (.int (v3 + (1 : Int32)))]) (⟨rfl, ⟨rfl, ⟨rfl, ⟨rfl, trivial⟩⟩⟩⟩) ?_
        exact ih v1 v2 (v3 + (1 : Int32)) μ5 hp5  h
      · have h := h.2 c6
        refine qa_ild3 dX8_last_47 ?_
        refine qa_ist2 dX8_last_48 ?_
        refine qa_inc3 dX8_last_49 (qa_io1 _) ?_
        refine qa_goto (tgt := 15) dX8_last_52 (by decide) ?_
        refine qa_fgt (L' := [some (.ref 1), some (.int v1), some (.int v3), some (.int (v3 + (1 : Int32)))]) (⟨rfl, ⟨rfl, ⟨rfl, ⟨rfl, trivial⟩⟩⟩⟩) ?_
        exact ih v1 v3 (v3 + (1 : Int32)) μ5 hp5  h
theorem tX8_last (l : Launch) {n : Nat} {v1 : Int32} {μ0 : qa_M} {Q : Int32 → qa_M → Prop} (hp0 : qa_PP μ0.2.2)  (h : wX8_last n v1 μ0 Q) : qa_Met l yX8_last cX8_last 4 (some .int) 1 0 0 [.ref 1, .int v1] 113 μ0 (qa_pI Q) := by
  refine qa_ofG (by decide) (Nat.le_of_ble_eq_true rfl) ?_
  unfold wX8_last at h
  change qa_G l yX8_last cX8_last 4 (some .int) 1 0 0 (qa_pI Q) 0 0 0 [some (.ref 1), some (.int v1), none, none] [] 113 μ0
  refine qa_ald0 dX8_last_0 ?_
  refine qa_ild1 dX8_last_1 ?_
  refine qa_V1I dX8_last_2 lm_X8_103 sh_1 rfl (by decide) (by decide) (Nat.le_of_ble_eq_true rfl) (tX8_isHouse l hp0  h) (fun r1 μ1 hp1 h => ?_)
  refine qa_if_ne (tgt := 11) dX8_last_5 (by decide) (fun c2 => ?_) (fun c2 => ?_)
  · have h := h.1 c2
    refine qa_iconst (v := 0) dX8_last_11 (by decide) ?_
    refine qa_ist2 dX8_last_12 ?_
    refine qa_iconst (v := 1) dX8_last_13 (by decide) ?_
    refine qa_ist3 dX8_last_14 ?_
    refine qa_fgt (L' := [some (.ref 1), some (.int v1), some (.int (0 : Int32)), some (.int (1 : Int32))]) (⟨rfl, ⟨rfl, ⟨rfl, ⟨rfl, trivial⟩⟩⟩⟩) ?_
    refine tX8_last_15 l  n v1 (0 : Int32) (1 : Int32) μ1 hp1  h
  · have h := h.2 c2
    refine qa_bipush (v := -2) dX8_last_8 (by decide) ?_
    exact qa_iret rfl dX8_last_10 ⟨rfl, rfl⟩ ⟨rfl, hp1, _, rfl, h⟩
def wX8_late (n : Nat) (v1 : Int32) (μ0 : qa_M) (Q : Int32 → qa_M → Prop) : Prop := wX8_isLetter n v1 μ0 (fun r1 μ1 => ((¬ r1 = 0 → vp_in v1 8 ∧ vp_in v1 8 ∧ vp_in v1 8 ∧ wX8_firstWeekOn n (μ1.1 ((μ1.2.2 1 2) + 4) v1.toNatClampNeg) (μ1.1 ((μ1.2.2 1 2) + 5) v1.toNatClampNeg) (μ1.1 ((μ1.2.2 1 2) + 6) v1.toNatClampNeg) μ1 (fun r3 μ3 => Q r3 μ3)) ∧ (r1 = 0 → Q (-2 : Int32) μ1)))
theorem tX8_late (l : Launch) {n : Nat} {v1 : Int32} {μ0 : qa_M} {Q : Int32 → qa_M → Prop} (hp0 : qa_PP μ0.2.2)  (h : wX8_late n v1 μ0 Q) : qa_Met l yX8_late cX8_late 2 (some .int) 2 0 0 [.ref 1, .int v1] 113 μ0 (qa_pI Q) := by
  refine qa_ofG (by decide) (Nat.le_of_ble_eq_true rfl) ?_
  unfold wX8_late at h
  change qa_G l yX8_late cX8_late 2 (some .int) 2 0 0 (qa_pI Q) 0 0 0 [some (.ref 1), some (.int v1)] [] 113 μ0
  refine qa_ald0 dX8_late_0 ?_
  refine qa_ild1 dX8_late_1 ?_
  refine qa_V1I dX8_late_2 lm_X8_126 sh_1 rfl (by decide) (by decide) (Nat.le_of_ble_eq_true rfl) (tX8_isLetter l hp0  h) (fun r1 μ1 hp1 h => ?_)
  refine qa_if_ne (tgt := 11) dX8_late_5 (by decide) (fun c2 => ?_) (fun c2 => ?_)
  · have h := h.1 c2
    refine qa_ald0 dX8_late_11 ?_
    refine qa_ald0 dX8_late_12 ?_
    refine qa_getR dX8_late_13 lf_X8_19 rfl sh_1 (by decide) rfl (qa_tw0 hp1.2.1) ?_
    refine qa_getR dX8_late_16 lf_X8_129 rfl (st_0 hp1.2.1) (tle_0 hp1.2.1) (pt_14 hp1 hp1.2.1) (Nat.succ_pos _) ?_
    refine qa_ild1 dX8_late_19 ?_
    refine qa_iald dX8_late_20 (st_4 hp1.2.1) (tle_4 hp1.2.1) h.1 ?_
    have h := h.2
    refine qa_ald0 dX8_late_21 ?_
    refine qa_getR dX8_late_22 lf_X8_19 rfl sh_1 (by decide) rfl (qa_tw0 hp1.2.1) ?_
    refine qa_getR dX8_late_25 lf_X8_132 rfl (st_0 hp1.2.1) (tle_0 hp1.2.1) (pt_15 hp1 hp1.2.1) (Nat.succ_pos _) ?_
    refine qa_ild1 dX8_late_28 ?_
    refine qa_iald dX8_late_29 (st_5 hp1.2.1) (tle_5 hp1.2.1) h.1 ?_
    have h := h.2
    refine qa_ald0 dX8_late_30 ?_
    refine qa_getR dX8_late_31 lf_X8_19 rfl sh_1 (by decide) rfl (qa_tw0 hp1.2.1) ?_
    refine qa_getR dX8_late_34 lf_X8_135 rfl (st_0 hp1.2.1) (tle_0 hp1.2.1) (pt_16 hp1 hp1.2.1) (Nat.succ_pos _) ?_
    refine qa_ild1 dX8_late_37 ?_
    refine qa_iald dX8_late_38 (st_6 hp1.2.1) (tle_6 hp1.2.1) h.1 ?_
    have h := h.2
    refine qa_V3I dX8_late_39 lm_X8_196 sh_1 rfl (by decide) (by decide) (Nat.le_of_ble_eq_true rfl) (tX8_firstWeekOn l hp1  h) (fun r3 μ3 hp3 h => ?_)
    exact qa_iret rfl dX8_late_42 ⟨rfl, rfl⟩ ⟨rfl, hp3, _, rfl, h⟩
  · have h := h.2 c2
    refine qa_bipush (v := -2) dX8_late_8 (by decide) ?_
    exact qa_iret rfl dX8_late_10 ⟨rfl, rfl⟩ ⟨rfl, hp1, _, rfl, h⟩
def wX8_law_39 (n : Nat) (v3 : Int32) (v4 : Int32) (μ0 : qa_M) (K0 : Int32 → Int32 → Int32 → qa_M → Prop) (Q : Int32 → qa_M → Prop) : Prop := K0 v3 v4 (v3 + (1 : Int32)) μ0
def wX8_law_16 : Nat → Int32 → Int32 → Int32 → qa_M → (Int32 → qa_M → Prop) → Prop
  | 0, _, _, _, _, _ => False
  | n + 1, v1, v2, v3, μ0, Q => (((4 : Int32) ≤ v3 → Q v1 μ0) ∧ (¬ (4 : Int32) ≤ v3 → wX8_spreadBy n v3 μ0 (fun r4 μ4 => ((v1 = (-1 : Int32) → wX8_law_39 n v3 r4 μ4 (fun v1 v2 v3 μk => wX8_law_16 n v1 v2 v3 μk Q) Q) ∧ (¬ v1 = (-1 : Int32) → ((v2 ≤ r4 → wX8_law_16 n v1 v2 (v3 + (1 : Int32)) μ4 Q) ∧ (¬ v2 ≤ r4 → wX8_law_39 n v3 r4 μ4 (fun v1 v2 v3 μk => wX8_law_16 n v1 v2 v3 μk Q) Q)))))))
def wX8_law (n : Nat)  (μ0 : qa_M) (Q : Int32 → qa_M → Prop) : Prop := wX8_hasTown n  μ0 (fun r1 μ1 => ((¬ r1 = 0 → wX8_law_16 n (-1 : Int32) (0 : Int32) (0 : Int32) μ1  Q) ∧ (r1 = 0 → Q (-2 : Int32) μ1)))
theorem tX8_law_39 (l : Launch) {K0 : Int32 → Int32 → Int32 → qa_M → Prop} {Q : Int32 → qa_M → Prop} (hK0 : ∀ (v1 : Int32) (v2 : Int32) (v3 : Int32) (μ : qa_M), qa_PP μ.2.2 → K0 v1 v2 v3 μ → qa_G l yX8_law cX8_law 5 (some .int) 6 0 0 (qa_pI Q) 0 0 16 [some (.ref 1), some (.int v1), some (.int v2), some (.int v3), none] [] 113 μ) : ∀ (n : Nat) (v3 : Int32) (v4 : Int32) (μ0 : qa_M), qa_PP μ0.2.2 → wX8_law_39 n v3 v4 μ0 K0 Q → qa_G l yX8_law cX8_law 5 (some .int) 6 0 0 (qa_pI Q) 0 0 39 [some (.ref 1), none, none, some (.int v3), some (.int v4)] [] 113 μ0 := by
  intro n
  intro v3 v4 μ0 hp0  h
  unfold wX8_law_39 at h
  refine qa_ild4 dX8_law_39 ?_
  refine qa_ist2 dX8_law_41 ?_
  refine qa_ild3 dX8_law_42 ?_
  refine qa_ist1 dX8_law_43 ?_
  refine qa_inc3 dX8_law_44 (qa_io1 _) ?_
  refine qa_goto (tgt := 16) dX8_law_47 (by decide) ?_
  refine qa_fgt (L' := [some (.ref 1), some (.int v3), some (.int v4), some (.int (v3 + (1 : Int32))), none]) (⟨rfl, ⟨rfl, ⟨rfl, ⟨rfl, trivial⟩⟩⟩⟩) ?_
  exact hK0 v3 v4 (v3 + (1 : Int32)) μ0 hp0  h
theorem tX8_law_16 (l : Launch)  {Q : Int32 → qa_M → Prop}  : ∀ (n : Nat) (v1 : Int32) (v2 : Int32) (v3 : Int32) (μ0 : qa_M), qa_PP μ0.2.2 → wX8_law_16 n v1 v2 v3 μ0  Q → qa_G l yX8_law cX8_law 5 (some .int) 6 0 0 (qa_pI Q) 0 0 16 [some (.ref 1), some (.int v1), some (.int v2), some (.int v3), none] [] 113 μ0 := by
  intro n
  induction n with
  | zero =>
    intro v1 v2 v3 μ0 hp0  h
    rw [wX8_law_16] at h
    exact h.elim
  | succ n ih =>
    intro v1 v2 v3 μ0 hp0  h
    rw [wX8_law_16] at h
    refine qa_ild3 dX8_law_16 ?_
    refine qa_iconst (v := 4) dX8_law_17 (by decide) ?_
    refine qa_icmp_ge (tgt := 50) dX8_law_18 (by decide) (fun c3 => ?_) (fun c3 => ?_)
    · have h := h.1 c3
      refine qa_ild1 dX8_law_50 ?_
      exact qa_iret rfl dX8_law_51 ⟨rfl, rfl⟩ ⟨rfl, hp0, _, rfl, h⟩
    · have h := h.2 c3
      refine qa_ald0 dX8_law_21 ?_
      refine qa_ild3 dX8_law_22 ?_
      refine qa_V1I dX8_law_23 lm_X8_255 sh_1 rfl (by decide) (by decide) (Nat.le_of_ble_eq_true rfl) (tX8_spreadBy l hp0  h) (fun r4 μ4 hp4 h => ?_)
      refine qa_ist4 dX8_law_26 ?_
      refine qa_ild1 dX8_law_28 ?_
      refine qa_iconst (v := -1) dX8_law_29 (by decide) ?_
      refine qa_icmp_eq (tgt := 39) dX8_law_30 (by decide) (fun c5 => ?_) (fun c5 => ?_)
      · have h := h.1 c5
        refine qa_fgt (L' := [some (.ref 1), none, none, some (.int v3), some (.int r4)]) (⟨rfl, ⟨rfl, ⟨rfl, trivial⟩⟩⟩) ?_
        refine tX8_law_39 l ih n v3 r4 μ4 hp4  h
      · have h := h.2 c5
        refine qa_ild4 dX8_law_33 ?_
        refine qa_ild2 dX8_law_35 ?_
        refine qa_icmp_ge (tgt := 44) dX8_law_36 (by decide) (fun c6 => ?_) (fun c6 => ?_)
        · have h := h.1 c6
          refine qa_inc3 dX8_law_44 (qa_io1 _) ?_
          refine qa_goto (tgt := 16) dX8_law_47 (by decide) ?_
          refine qa_fgt (L' := [some (.ref 1), some (.int v1), some (.int v2), some (.int (v3 + (1 : Int32))), none]) (⟨rfl, ⟨rfl, ⟨rfl, ⟨rfl, trivial⟩⟩⟩⟩) ?_
          exact ih v1 v2 (v3 + (1 : Int32)) μ4 hp4  h
        · have h := h.2 c6
          refine qa_fgt (L' := [some (.ref 1), none, none, some (.int v3), some (.int r4)]) (⟨rfl, ⟨rfl, ⟨rfl, trivial⟩⟩⟩) ?_
          refine tX8_law_39 l ih n v3 r4 μ4 hp4  h
theorem tX8_law (l : Launch) {n : Nat}  {μ0 : qa_M} {Q : Int32 → qa_M → Prop} (hp0 : qa_PP μ0.2.2)  (h : wX8_law n  μ0 Q) : qa_Met l yX8_law cX8_law 5 (some .int) 6 0 0 [.ref 1] 113 μ0 (qa_pI Q) := by
  refine qa_ofG (by decide) (Nat.le_of_ble_eq_true rfl) ?_
  unfold wX8_law at h
  change qa_G l yX8_law cX8_law 5 (some .int) 6 0 0 (qa_pI Q) 0 0 0 [some (.ref 1), none, none, none, none] [] 113 μ0
  refine qa_ald0 dX8_law_0 ?_
  refine qa_V0I dX8_law_1 lm_X8_138 sh_1 rfl (by decide) (by decide) (Nat.le_of_ble_eq_true rfl) (tX8_hasTown l hp0  h) (fun r1 μ1 hp1 h => ?_)
  refine qa_if_ne (tgt := 10) dX8_law_4 (by decide) (fun c2 => ?_) (fun c2 => ?_)
  · have h := h.1 c2
    refine qa_iconst (v := -1) dX8_law_10 (by decide) ?_
    refine qa_ist1 dX8_law_11 ?_
    refine qa_iconst (v := 0) dX8_law_12 (by decide) ?_
    refine qa_ist2 dX8_law_13 ?_
    refine qa_iconst (v := 0) dX8_law_14 (by decide) ?_
    refine qa_ist3 dX8_law_15 ?_
    refine qa_fgt (L' := [some (.ref 1), some (.int (-1 : Int32)), some (.int (0 : Int32)), some (.int (0 : Int32)), none]) (⟨rfl, ⟨rfl, ⟨rfl, ⟨rfl, trivial⟩⟩⟩⟩) ?_
    refine tX8_law_16 l  n (-1 : Int32) (0 : Int32) (0 : Int32) μ1 hp1  h
  · have h := h.2 c2
    refine qa_bipush (v := -2) dX8_law_7 (by decide) ?_
    exact qa_iret rfl dX8_law_9 ⟨rfl, rfl⟩ ⟨rfl, hp1, _, rfl, h⟩
def wX8_laws_34 : Nat → Int32 → Int32 → Int32 → qa_M → (Int32 → qa_M → Prop) → Prop
  | 0, _, _, _, _, _ => False
  | n + 1, v1, v3, v4, μ0, Q => (((4 : Int32) ≤ v4 → Q v3 μ0) ∧ (¬ (4 : Int32) ≤ v4 → wX8_followLaw n v4 μ0 (fun μ4 => vp_in v1 4 ∧ wX8_gateBits n (83 + 2 * v1.toNatClampNeg) 37 μ4 (fun r6 μ6 => ((r6 = 0 → wX8_laws_34 n v1 v3 (v4 + (1 : Int32)) μ6 Q) ∧ (¬ r6 = 0 → ∀ x8, x8 = (v3 ||| ((1 : Int32) <<< (v4 &&& 31))) → wX8_laws_34 n v1 x8 (v4 + (1 : Int32)) μ6 Q))))))
def wX8_laws (n : Nat) (v1 : Int32) (μ0 : qa_M) (Q : Int32 → qa_M → Prop) : Prop := wX8_refusePairs n v1 (μ0.1 (μ0.2.2 1 2) 1) (0 : Int32) ((μ0.1 (μ0.2.2 1 2) 5) - (1 : Int32)) μ0 (fun r1 μ1 => ((r1 = 0 → wX8_laws_34 n v1 (0 : Int32) (0 : Int32) μ1  Q) ∧ (¬ r1 = 0 → Q r1 μ1)))
theorem tX8_laws_34 (l : Launch)  {Q : Int32 → qa_M → Prop}  : ∀ (n : Nat) (v1 : Int32) (v3 : Int32) (v4 : Int32) (μ0 : qa_M), qa_PP μ0.2.2 → wX8_laws_34 n v1 v3 v4 μ0  Q → qa_G l yX8_laws cX8_laws 5 (some .int) 5 0 0 (qa_pI Q) 0 0 34 [some (.ref 1), some (.int v1), none, some (.int v3), some (.int v4)] [] 113 μ0 := by
  intro n
  induction n with
  | zero =>
    intro v1 v3 v4 μ0 hp0  h
    rw [wX8_laws_34] at h
    exact h.elim
  | succ n ih =>
    intro v1 v3 v4 μ0 hp0  h
    rw [wX8_laws_34] at h
    refine qa_ild4 dX8_laws_34 ?_
    refine qa_iconst (v := 4) dX8_laws_36 (by decide) ?_
    refine qa_icmp_ge (tgt := 76) dX8_laws_37 (by decide) (fun c3 => ?_) (fun c3 => ?_)
    · have h := h.1 c3
      refine qa_ild3 dX8_laws_76 ?_
      exact qa_iret rfl dX8_laws_77 ⟨rfl, rfl⟩ ⟨rfl, hp0, _, rfl, h⟩
    · have h := h.2 c3
      refine qa_ald0 dX8_laws_40 ?_
      refine qa_ild4 dX8_laws_41 ?_
      refine qa_V1V dX8_laws_43 lm_X8_271 sh_1 rfl (by decide) (by decide) (Nat.le_of_ble_eq_true rfl) (tX8_followLaw l hp0  h) (fun μ4 hp4 h => ?_)
      refine qa_ald0 dX8_laws_46 ?_
      refine qa_ald0 dX8_laws_47 ?_
      refine qa_getR dX8_laws_48 lf_X8_33 rfl sh_1 (by decide) (pp_1_7 hp4) (by decide) ?_
      refine qa_ild1 dX8_laws_51 ?_
      have b5 := h.1
      have h := h.2
      refine qa_aald (t := 6) dX8_laws_52 sh_30 rfl (by decide) b5 (psl hp4 b5) (qa_rw0 (qa_rwi b5)) ?_
      refine qa_ald0 dX8_laws_53 ?_
      refine qa_getR dX8_laws_54 lf_X8_51 rfl sh_1 (by decide) (pp_1_10 hp4) (by decide) ?_
      refine qa_V2I dX8_laws_57 lm_X8_331 sh_1 rfl (by decide) (by decide) (Nat.le_of_ble_eq_true rfl) (tX8_gateBits l hp4 (qa_rwi b5) (Or.inr rfl) h) (fun r6 μ6 hp6 h => ?_)
      refine qa_if_eq (tgt := 70) dX8_laws_60 (by decide) (fun c7 => ?_) (fun c7 => ?_)
      · have h := h.1 c7
        refine qa_inc4 dX8_laws_70 (qa_io1 _) ?_
        refine qa_goto (tgt := 34) dX8_laws_73 (by decide) ?_
        refine qa_fgt (L' := [some (.ref 1), some (.int v1), none, some (.int v3), some (.int (v4 + (1 : Int32)))]) (⟨rfl, ⟨rfl, ⟨rfl, ⟨rfl, trivial⟩⟩⟩⟩) ?_
        exact ih v1 v3 (v4 + (1 : Int32)) μ6 hp6  h
      · have h := h.2 c7
        refine qa_ild3 dX8_laws_63 ?_
        refine qa_iconst (v := 1) dX8_laws_64 (by decide) ?_
        refine qa_ild4 dX8_laws_65 ?_
        refine qa_ishl dX8_laws_67 ?_
        refine qa_ior dX8_laws_68 ?_
        refine qa_nmI (fun x8 e8 => ?_)
        have h := h x8 e8
        refine qa_ist3 dX8_laws_69 ?_
        refine qa_inc4 dX8_laws_70 (qa_io1 _) ?_
        refine qa_goto (tgt := 34) dX8_laws_73 (by decide) ?_
        refine qa_fgt (L' := [some (.ref 1), some (.int v1), none, some (.int x8), some (.int (v4 + (1 : Int32)))]) (⟨rfl, ⟨rfl, ⟨rfl, ⟨rfl, trivial⟩⟩⟩⟩) ?_
        exact ih v1 x8 (v4 + (1 : Int32)) μ6 hp6  h
theorem tX8_laws (l : Launch) {n : Nat} {v1 : Int32} {μ0 : qa_M} {Q : Int32 → qa_M → Prop} (hp0 : qa_PP μ0.2.2)  (h : wX8_laws n v1 μ0 Q) : qa_Met l yX8_laws cX8_laws 5 (some .int) 5 0 0 [.ref 1, .int v1] 113 μ0 (qa_pI Q) := by
  refine qa_ofG (by decide) (Nat.le_of_ble_eq_true rfl) ?_
  unfold wX8_laws at h
  change qa_G l yX8_laws cX8_laws 5 (some .int) 5 0 0 (qa_pI Q) 0 0 0 [some (.ref 1), some (.int v1), none, none, none] [] 113 μ0
  refine qa_ald0 dX8_laws_0 ?_
  refine qa_ild1 dX8_laws_1 ?_
  refine qa_ald0 dX8_laws_2 ?_
  refine qa_getR dX8_laws_3 lf_X8_19 rfl sh_1 (by decide) rfl (qa_tw0 hp0.2.1) ?_
  refine qa_getI dX8_laws_6 lf_X8_145 (Or.inl rfl) (st_0 hp0.2.1) (tle_0 hp0.2.1) ?_
  refine qa_iconst (v := 0) dX8_laws_9 (by decide) ?_
  refine qa_ald0 dX8_laws_10 ?_
  refine qa_getR dX8_laws_11 lf_X8_19 rfl sh_1 (by decide) rfl (qa_tw0 hp0.2.1) ?_
  refine qa_getI dX8_laws_14 lf_X8_158 (Or.inl rfl) (st_0 hp0.2.1) (tle_0 hp0.2.1) ?_
  refine qa_iconst (v := 1) dX8_laws_17 (by decide) ?_
  refine qa_isub dX8_laws_18 ?_
  refine qa_V4I dX8_laws_19 lm_X8_306 sh_1 rfl (by decide) (by decide) (Nat.le_of_ble_eq_true rfl) (tX8_refusePairs l hp0  h) (fun r1 μ1 hp1 h => ?_)
  refine qa_ist2 dX8_laws_22 ?_
  refine qa_ild2 dX8_laws_23 ?_
  refine qa_if_eq (tgt := 29) dX8_laws_24 (by decide) (fun c2 => ?_) (fun c2 => ?_)
  · have h := h.1 c2
    refine qa_iconst (v := 0) dX8_laws_29 (by decide) ?_
    refine qa_ist3 dX8_laws_30 ?_
    refine qa_iconst (v := 0) dX8_laws_31 (by decide) ?_
    refine qa_ist4 dX8_laws_32 ?_
    refine qa_fgt (L' := [some (.ref 1), some (.int v1), none, some (.int (0 : Int32)), some (.int (0 : Int32))]) (⟨rfl, ⟨rfl, ⟨rfl, ⟨rfl, trivial⟩⟩⟩⟩) ?_
    refine tX8_laws_34 l  n v1 (0 : Int32) (0 : Int32) μ1 hp1  h
  · have h := h.2 c2
    refine qa_ild2 dX8_laws_27 ?_
    exact qa_iret rfl dX8_laws_28 ⟨rfl, rfl⟩ ⟨rfl, hp1, _, rfl, h⟩
def wX8_leans (n : Nat) (v1 : Int32) (μ0 : qa_M) (Q : Int32 → qa_M → Prop) : Prop := wX8_refuseTurns n v1 μ0 (fun r1 μ1 => ((r1 = 0 → vp_in v1 4 ∧ wX8_seek n (83 + 2 * v1.toNatClampNeg) μ1 (fun μ4 => Q (μ4.1 42 0) μ4)) ∧ (¬ r1 = 0 → Q r1 μ1)))
theorem tX8_leans (l : Launch) {n : Nat} {v1 : Int32} {μ0 : qa_M} {Q : Int32 → qa_M → Prop} (hp0 : qa_PP μ0.2.2)  (h : wX8_leans n v1 μ0 Q) : qa_Met l yX8_leans cX8_leans 3 (some .int) 5 0 0 [.ref 1, .int v1] 113 μ0 (qa_pI Q) := by
  refine qa_ofG (by decide) (Nat.le_of_ble_eq_true rfl) ?_
  unfold wX8_leans at h
  change qa_G l yX8_leans cX8_leans 3 (some .int) 5 0 0 (qa_pI Q) 0 0 0 [some (.ref 1), some (.int v1), none] [] 113 μ0
  refine qa_ald0 dX8_leans_0 ?_
  refine qa_ild1 dX8_leans_1 ?_
  refine qa_V1I dX8_leans_2 lm_X8_283 sh_1 rfl (by decide) (by decide) (Nat.le_of_ble_eq_true rfl) (tX8_refuseTurns l hp0  h) (fun r1 μ1 hp1 h => ?_)
  refine qa_ist2 dX8_leans_5 ?_
  refine qa_ild2 dX8_leans_6 ?_
  refine qa_if_eq (tgt := 12) dX8_leans_7 (by decide) (fun c2 => ?_) (fun c2 => ?_)
  · have h := h.1 c2
    refine qa_ald0 dX8_leans_12 ?_
    refine qa_ald0 dX8_leans_13 ?_
    refine qa_getR dX8_leans_14 lf_X8_33 rfl sh_1 (by decide) (pp_1_7 hp1) (by decide) ?_
    refine qa_ild1 dX8_leans_17 ?_
    have b3 := h.1
    have h := h.2
    refine qa_aald (t := 6) dX8_leans_18 sh_30 rfl (by decide) b3 (psl hp1 b3) (qa_rw0 (qa_rwi b3)) ?_
    refine qa_V1V dX8_leans_19 lm_X8_286 sh_1 rfl (by decide) (by decide) (Nat.le_of_ble_eq_true rfl) (tX8_seek l hp1 (qa_rwi b3) h) (fun μ4 hp4 h => ?_)
    refine qa_ald0 dX8_leans_22 ?_
    refine qa_getR dX8_leans_23 lf_X8_57 rfl sh_1 (by decide) (pp_1_11 hp4) (by decide) ?_
    refine qa_getI dX8_leans_26 lf_X8_290 (Or.inl rfl) sh_42 (by decide) ?_
    exact qa_iret rfl dX8_leans_29 ⟨rfl, rfl⟩ ⟨rfl, hp4, _, rfl, h⟩
  · have h := h.2 c2
    refine qa_ild2 dX8_leans_10 ?_
    exact qa_iret rfl dX8_leans_11 ⟨rfl, rfl⟩ ⟨rfl, hp1, _, rfl, h⟩
def wX8_turnedBy_51 : Nat → Int32 → Int32 → qa_M → (Int32 → qa_M → Prop) → Prop
  | 0, _, _, _, _ => False
  | n + 1, v2, v3, μ0, Q => (((μ0.1 (μ0.2.2 1 2) 1) ≤ v3 → Q v2 μ0) ∧ (¬ (μ0.1 (μ0.2.2 1 2) 1) ≤ v3 → vp_in v3 20 ∧ wJ9_abs_0f7a4 n (μ0.1 41 v3.toNatClampNeg) μ0 (fun r6 μ6 => ∀ x7, x7 = (v2 + r6) → wX8_turnedBy_51 n x7 (v3 + (1 : Int32)) μ6 Q)))
def wX8_turnedBy (n : Nat) (v1 : Int32) (μ0 : qa_M) (Q : Int32 → qa_M → Prop) : Prop := wX1_asTold n (μ0.2.2 1 2) μ0 (fun μ1 => wX8_lowBits n (μ1.1 (μ1.2.2 1 2) 5) μ1 (fun r2 μ2 => ∀ μ3, μ3 = qa_uI μ2 31 4 (r2 &&& (v1 ^^^ (-1 : Int32))) → wX7_follow n 37 (μ3.2.2 1 2) μ3 (fun μ4 => wX8_turnedBy_51 n (0 : Int32) (0 : Int32) μ4  Q)))
theorem tX8_turnedBy_51 (l : Launch)  {Q : Int32 → qa_M → Prop}  : ∀ (n : Nat) (v2 : Int32) (v3 : Int32) (μ0 : qa_M), qa_PP μ0.2.2 → wX8_turnedBy_51 n v2 v3 μ0  Q → qa_G l yX8_turnedBy cX8_turnedBy 4 (some .int) 4 0 0 (qa_pI Q) 0 0 51 [some (.ref 1), none, some (.int v2), some (.int v3)] [] 113 μ0 := by
  intro n
  induction n with
  | zero =>
    intro v2 v3 μ0 hp0  h
    rw [wX8_turnedBy_51] at h
    exact h.elim
  | succ n ih =>
    intro v2 v3 μ0 hp0  h
    rw [wX8_turnedBy_51] at h
    refine qa_ild3 dX8_turnedBy_51 ?_
    refine qa_ald0 dX8_turnedBy_52 ?_
    refine qa_getR dX8_turnedBy_53 lf_X8_19 rfl sh_1 (by decide) rfl (qa_tw0 hp0.2.1) ?_
    refine qa_getI dX8_turnedBy_56 lf_X8_145 (Or.inl rfl) (st_0 hp0.2.1) (tle_0 hp0.2.1) ?_
    refine qa_icmp_ge (tgt := 83) dX8_turnedBy_59 (by decide) (fun c5 => ?_) (fun c5 => ?_)
    · have h := h.1 c5
      refine qa_ild2 dX8_turnedBy_83 ?_
      exact qa_iret rfl dX8_turnedBy_84 ⟨rfl, rfl⟩ ⟨rfl, hp0, _, rfl, h⟩
    · have h := h.2 c5
      refine qa_ild2 dX8_turnedBy_62 ?_
      refine qa_ald0 dX8_turnedBy_63 ?_
      refine qa_getR dX8_turnedBy_64 lf_X8_51 rfl sh_1 (by decide) (pp_1_10 hp0) (by decide) ?_
      refine qa_getR dX8_turnedBy_67 lf_X8_174 rfl (sy_0 (Or.inr rfl)) (yle_0 (Or.inr rfl)) (pp_37_3 hp0) (by decide) ?_
      refine qa_ild3 dX8_turnedBy_70 ?_
      refine qa_iald dX8_turnedBy_71 sh_41 (by decide) h.1 ?_
      have h := h.2
      refine qa_S1I dX8_turnedBy_72 lm_X8_180  (by decide) (Nat.le_of_ble_eq_true rfl) (tJ9_abs_0f7a4 l hp0  h) (fun r6 μ6 hp6 h => ?_)
      refine qa_iadd dX8_turnedBy_75 ?_
      refine qa_nmI (fun x7 e7 => ?_)
      have h := h x7 e7
      refine qa_ist2 dX8_turnedBy_76 ?_
      refine qa_inc3 dX8_turnedBy_77 (qa_io1 _) ?_
      refine qa_goto (tgt := 51) dX8_turnedBy_80 (by decide) ?_
      refine qa_fgt (L' := [some (.ref 1), none, some (.int x7), some (.int (v3 + (1 : Int32)))]) (⟨rfl, ⟨rfl, ⟨rfl, trivial⟩⟩⟩) ?_
      exact ih x7 (v3 + (1 : Int32)) μ6 hp6  h
theorem tX8_turnedBy (l : Launch) {n : Nat} {v1 : Int32} {μ0 : qa_M} {Q : Int32 → qa_M → Prop} (hp0 : qa_PP μ0.2.2)  (h : wX8_turnedBy n v1 μ0 Q) : qa_Met l yX8_turnedBy cX8_turnedBy 4 (some .int) 4 0 0 [.ref 1, .int v1] 113 μ0 (qa_pI Q) := by
  refine qa_ofG (by decide) (Nat.le_of_ble_eq_true rfl) ?_
  unfold wX8_turnedBy at h
  change qa_G l yX8_turnedBy cX8_turnedBy 4 (some .int) 4 0 0 (qa_pI Q) 0 0 0 [some (.ref 1), some (.int v1), none, none] [] 113 μ0
  refine qa_ald0 dX8_turnedBy_0 ?_
  refine qa_getR dX8_turnedBy_1 lf_X8_40 rfl sh_1 (by decide) (pp_1_8 hp0) (by decide) ?_
  refine qa_ald0 dX8_turnedBy_4 ?_
  refine qa_getR dX8_turnedBy_5 lf_X8_19 rfl sh_1 (by decide) rfl (qa_tw0 hp0.2.1) ?_
  refine qa_V1V dX8_turnedBy_8 lm_X8_261 sh_31 rfl (by decide) (by decide) (Nat.le_of_ble_eq_true rfl) (tX1_asTold l hp0 hp0.2.1 h) (fun μ1 hp1 h => ?_)
  refine qa_ald0 dX8_turnedBy_11 ?_
  refine qa_getR dX8_turnedBy_12 lf_X8_40 rfl sh_1 (by decide) (pp_1_8 hp1) (by decide) ?_
  refine qa_ald0 dX8_turnedBy_15 ?_
  refine qa_getR dX8_turnedBy_16 lf_X8_19 rfl sh_1 (by decide) rfl (qa_tw0 hp1.2.1) ?_
  refine qa_getI dX8_turnedBy_19 lf_X8_158 (Or.inl rfl) (st_0 hp1.2.1) (tle_0 hp1.2.1) ?_
  refine qa_S1I dX8_turnedBy_22 lm_X8_148  (by decide) (Nat.le_of_ble_eq_true rfl) (tX8_lowBits l hp1  h) (fun r2 μ2 hp2 h => ?_)
  refine qa_ild1 dX8_turnedBy_25 ?_
  refine qa_iconst (v := -1) dX8_turnedBy_26 (by decide) ?_
  refine qa_ixor dX8_turnedBy_27 ?_
  refine qa_iand dX8_turnedBy_28 ?_
  refine qa_putI dX8_turnedBy_29 lf_X8_355 rfl sh_31 (by decide) rfl ?_
  refine qa_nmM (fun μ3 em3 => ?_)
  have h := h μ3 em3
  have hp3 : qa_PP μ3.2.2 := by rw [em3]; exact hp2
  refine qa_ald0 dX8_turnedBy_32 ?_
  refine qa_getR dX8_turnedBy_33 lf_X8_51 rfl sh_1 (by decide) (pp_1_10 hp3) (by decide) ?_
  refine qa_ald0 dX8_turnedBy_36 ?_
  refine qa_getR dX8_turnedBy_37 lf_X8_19 rfl sh_1 (by decide) rfl (qa_tw0 hp3.2.1) ?_
  refine qa_ald0 dX8_turnedBy_40 ?_
  refine qa_getR dX8_turnedBy_41 lf_X8_40 rfl sh_1 (by decide) (pp_1_8 hp3) (by decide) ?_
  refine qa_V2V dX8_turnedBy_44 lm_X8_266 (sy_0 (Or.inr rfl)) rfl (yle_0 (Or.inr rfl)) (by decide) (Nat.le_of_ble_eq_true rfl) (tX7_follow l hp3 (Or.inr rfl) hp3.2.1 h) (fun μ4 hp4 h => ?_)
  refine qa_iconst (v := 0) dX8_turnedBy_47 (by decide) ?_
  refine qa_ist2 dX8_turnedBy_48 ?_
  refine qa_iconst (v := 0) dX8_turnedBy_49 (by decide) ?_
  refine qa_ist3 dX8_turnedBy_50 ?_
  refine qa_fgt (L' := [some (.ref 1), none, some (.int (0 : Int32)), some (.int (0 : Int32))]) (⟨rfl, ⟨rfl, ⟨rfl, trivial⟩⟩⟩) ?_
  refine tX8_turnedBy_51 l  n (0 : Int32) (0 : Int32) μ4 hp4  h
def wX8_learnWorths_10 : Nat → Int32 → qa_M → (qa_M → Prop) → Prop
  | 0, _, _, _ => False
  | n + 1, v1, μ0, Q => wX8_lowBits n (μ0.1 (μ0.2.2 1 2) 5) μ0 (fun r2 μ2 => ((r2 < v1 → ∀ μ4, μ4 = qa_uI μ2 1 4 (1 : Int32) → Q μ4) ∧ (¬ r2 < v1 → wX8_turnedBy n v1 μ2 (fun r5 μ5 => vp_in v1 256 ∧ ∀ μ6, μ6 = qa_uI μ5 46 v1.toNatClampNeg r5 → wX8_learnWorths_10 n (v1 + (1 : Int32)) μ6 Q))))
def wX8_learnWorths (n : Nat)  (μ0 : qa_M) (Q : qa_M → Prop) : Prop := (((μ0.1 1 4) = 0 → wX8_learnWorths_10 n (0 : Int32) μ0  Q) ∧ (¬ (μ0.1 1 4) = 0 → Q μ0))
theorem tX8_learnWorths_10 (l : Launch)  {Q : qa_M → Prop}  : ∀ (n : Nat) (v1 : Int32) (μ0 : qa_M), qa_PP μ0.2.2 → wX8_learnWorths_10 n v1 μ0  Q → qa_G l yX8_learnWorths cX8_learnWorths 2 none 5 0 0 (qa_pV Q) 0 0 10 [some (.ref 1), some (.int v1)] [] 113 μ0 := by
  intro n
  induction n with
  | zero =>
    intro v1 μ0 hp0  h
    rw [wX8_learnWorths_10] at h
    exact h.elim
  | succ n ih =>
    intro v1 μ0 hp0  h
    rw [wX8_learnWorths_10] at h
    refine qa_ild1 dX8_learnWorths_10 ?_
    refine qa_ald0 dX8_learnWorths_11 ?_
    refine qa_getR dX8_learnWorths_12 lf_X8_19 rfl sh_1 (by decide) rfl (qa_tw0 hp0.2.1) ?_
    refine qa_getI dX8_learnWorths_15 lf_X8_158 (Or.inl rfl) (st_0 hp0.2.1) (tle_0 hp0.2.1) ?_
    refine qa_S1I dX8_learnWorths_18 lm_X8_148  (by decide) (Nat.le_of_ble_eq_true rfl) (tX8_lowBits l hp0  h) (fun r2 μ2 hp2 h => ?_)
    refine qa_icmp_gt (tgt := 41) dX8_learnWorths_21 (by decide) (fun c3 => ?_) (fun c3 => ?_)
    · have h := h.1 c3
      refine qa_ald0 dX8_learnWorths_41 ?_
      refine qa_iconst (v := 1) dX8_learnWorths_42 (by decide) ?_
      refine qa_putZ dX8_learnWorths_43 lf_X8_72 rfl (Or.inr rfl) sh_1 (by decide) rfl ?_
      refine qa_nmM (fun μ4 em4 => ?_)
      have h := h μ4 em4
      have hp4 : qa_PP μ4.2.2 := by rw [em4]; exact hp2
      exact qa_vret rfl dX8_learnWorths_46 ⟨rfl, rfl⟩ ⟨rfl, hp4, rfl, h⟩
    · have h := h.2 c3
      refine qa_ald0 dX8_learnWorths_24 ?_
      refine qa_getR dX8_learnWorths_25 lf_X8_68 rfl sh_1 (by decide) (pp_1_3 hp2) (by decide) ?_
      refine qa_ild1 dX8_learnWorths_28 ?_
      refine qa_ald0 dX8_learnWorths_29 ?_
      refine qa_ild1 dX8_learnWorths_30 ?_
      refine qa_V1I dX8_learnWorths_31 lm_X8_339 sh_1 rfl (by decide) (by decide) (Nat.le_of_ble_eq_true rfl) (tX8_turnedBy l hp2  h) (fun r5 μ5 hp5 h => ?_)
      refine qa_iast dX8_learnWorths_34 sh_46 (by decide) h.1 ?_
      have h := h.2
      refine qa_nmM (fun μ6 em6 => ?_)
      have h := h μ6 em6
      have hp6 : qa_PP μ6.2.2 := by rw [em6]; exact hp5
      refine qa_inc1 dX8_learnWorths_35 (qa_io1 _) ?_
      refine qa_goto (tgt := 10) dX8_learnWorths_38 (by decide) ?_
      refine qa_fgt (L' := [some (.ref 1), some (.int (v1 + (1 : Int32)))]) (⟨rfl, ⟨rfl, trivial⟩⟩) ?_
      exact ih (v1 + (1 : Int32)) μ6 hp6  h
theorem tX8_learnWorths (l : Launch) {n : Nat}  {μ0 : qa_M} {Q : qa_M → Prop} (hp0 : qa_PP μ0.2.2)  (h : wX8_learnWorths n  μ0 Q) : qa_Met l yX8_learnWorths cX8_learnWorths 2 none 5 0 0 [.ref 1] 113 μ0 (qa_pV Q) := by
  refine qa_ofG (by decide) (Nat.le_of_ble_eq_true rfl) ?_
  unfold wX8_learnWorths at h
  change qa_G l yX8_learnWorths cX8_learnWorths 2 none 5 0 0 (qa_pV Q) 0 0 0 [some (.ref 1), none] [] 113 μ0
  refine qa_ald0 dX8_learnWorths_0 ?_
  refine qa_getI dX8_learnWorths_1 lf_X8_72 (Or.inr rfl) sh_1 (by decide) ?_
  refine qa_if_eq (tgt := 8) dX8_learnWorths_4 (by decide) (fun c1 => ?_) (fun c1 => ?_)
  · have h := h.1 c1
    refine qa_iconst (v := 0) dX8_learnWorths_8 (by decide) ?_
    refine qa_ist1 dX8_learnWorths_9 ?_
    refine qa_fgt (L' := [some (.ref 1), some (.int (0 : Int32))]) (⟨rfl, ⟨rfl, trivial⟩⟩) ?_
    refine tX8_learnWorths_10 l  n (0 : Int32) μ0 hp0  h
  · have h := h.2 c1
    exact qa_vret rfl dX8_learnWorths_7 ⟨rfl, rfl⟩ ⟨rfl, hp0, rfl, h⟩
def wX8_leaves (n : Nat) (v1 : Int32) (μ0 : qa_M) (Q : Int32 → qa_M → Prop) : Prop := wX8_refuseTurns n v1 μ0 (fun r1 μ1 => ((r1 = 0 → vp_in v1 4 ∧ wX8_seek n (83 + 2 * v1.toNatClampNeg) μ1 (fun μ4 => wX8_weekToAsk n  μ4 (fun r5 μ5 => ((¬ r5 = (-1 : Int32) → wX4_worst n r5 μ5 (fun r7 μ7 => Q r7 μ7)) ∧ (r5 = (-1 : Int32) → Q (μ5.1 42 0) μ5))))) ∧ (¬ r1 = 0 → Q r1 μ1)))
theorem tX8_leaves (l : Launch) {n : Nat} {v1 : Int32} {μ0 : qa_M} {Q : Int32 → qa_M → Prop} (hp0 : qa_PP μ0.2.2)  (h : wX8_leaves n v1 μ0 Q) : qa_Met l yX8_leaves cX8_leaves 4 (some .int) 5 0 0 [.ref 1, .int v1] 113 μ0 (qa_pI Q) := by
  refine qa_ofG (by decide) (Nat.le_of_ble_eq_true rfl) ?_
  unfold wX8_leaves at h
  change qa_G l yX8_leaves cX8_leaves 4 (some .int) 5 0 0 (qa_pI Q) 0 0 0 [some (.ref 1), some (.int v1), none, none] [] 113 μ0
  refine qa_ald0 dX8_leaves_0 ?_
  refine qa_ild1 dX8_leaves_1 ?_
  refine qa_V1I dX8_leaves_2 lm_X8_283 sh_1 rfl (by decide) (by decide) (Nat.le_of_ble_eq_true rfl) (tX8_refuseTurns l hp0  h) (fun r1 μ1 hp1 h => ?_)
  refine qa_ist2 dX8_leaves_5 ?_
  refine qa_ild2 dX8_leaves_6 ?_
  refine qa_if_eq (tgt := 12) dX8_leaves_7 (by decide) (fun c2 => ?_) (fun c2 => ?_)
  · have h := h.1 c2
    refine qa_ald0 dX8_leaves_12 ?_
    refine qa_ald0 dX8_leaves_13 ?_
    refine qa_getR dX8_leaves_14 lf_X8_33 rfl sh_1 (by decide) (pp_1_7 hp1) (by decide) ?_
    refine qa_ild1 dX8_leaves_17 ?_
    have b3 := h.1
    have h := h.2
    refine qa_aald (t := 6) dX8_leaves_18 sh_30 rfl (by decide) b3 (psl hp1 b3) (qa_rw0 (qa_rwi b3)) ?_
    refine qa_V1V dX8_leaves_19 lm_X8_286 sh_1 rfl (by decide) (by decide) (Nat.le_of_ble_eq_true rfl) (tX8_seek l hp1 (qa_rwi b3) h) (fun μ4 hp4 h => ?_)
    refine qa_ald0 dX8_leaves_22 ?_
    refine qa_V0I dX8_leaves_23 lm_X8_299 sh_1 rfl (by decide) (by decide) (Nat.le_of_ble_eq_true rfl) (tX8_weekToAsk l hp4  h) (fun r5 μ5 hp5 h => ?_)
    refine qa_ist3 dX8_leaves_26 ?_
    refine qa_ild3 dX8_leaves_27 ?_
    refine qa_iconst (v := -1) dX8_leaves_28 (by decide) ?_
    refine qa_icmp_ne (tgt := 42) dX8_leaves_29 (by decide) (fun c6 => ?_) (fun c6 => ?_)
    · have h := h.1 c6
      refine qa_ald0 dX8_leaves_42 ?_
      refine qa_getR dX8_leaves_43 lf_X8_57 rfl sh_1 (by decide) (pp_1_11 hp5) (by decide) ?_
      refine qa_ild3 dX8_leaves_46 ?_
      refine qa_ald0 dX8_leaves_47 ?_
      refine qa_getR dX8_leaves_48 lf_X8_64 rfl sh_1 (by decide) (pp_1_1 hp5) (by decide) ?_
      refine qa_V2I dX8_leaves_51 lm_X8_302 sh_42 rfl (by decide) (by decide) (Nat.le_of_ble_eq_true rfl) (tX4_worst l hp5  h) (fun r7 μ7 hp7 h => ?_)
      exact qa_iret rfl dX8_leaves_54 ⟨rfl, rfl⟩ ⟨rfl, hp7, _, rfl, h⟩
    · have h := h.2 c6
      refine qa_ald0 dX8_leaves_32 ?_
      refine qa_getR dX8_leaves_33 lf_X8_57 rfl sh_1 (by decide) (pp_1_11 hp5) (by decide) ?_
      refine qa_getI dX8_leaves_36 lf_X8_290 (Or.inl rfl) sh_42 (by decide) ?_
      refine qa_goto (tgt := 54) dX8_leaves_39 (by decide) ?_
      exact qa_iret rfl dX8_leaves_54 ⟨rfl, rfl⟩ ⟨rfl, hp5, _, rfl, h⟩
  · have h := h.2 c2
    refine qa_ild2 dX8_leaves_10 ?_
    exact qa_iret rfl dX8_leaves_11 ⟨rfl, rfl⟩ ⟨rfl, hp1, _, rfl, h⟩
def wX8_letter (n : Nat) (v1 : Int32) (v2 : Int32) (μ0 : qa_M) (Q : Int32 → qa_M → Prop) : Prop := wX8_isLetter n v1 μ0 (fun r1 μ1 => ((¬ r1 = 0 → ((v2 = (0 : Int32) → vp_in v1 8 ∧ Q (μ1.1 ((μ1.2.2 1 2) + 4) v1.toNatClampNeg) μ1) ∧ (¬ v2 = (0 : Int32) → ((v2 = (1 : Int32) → vp_in v1 8 ∧ Q (μ1.1 ((μ1.2.2 1 2) + 5) v1.toNatClampNeg) μ1) ∧ (¬ v2 = (1 : Int32) → ((v2 = (2 : Int32) → vp_in v1 8 ∧ Q (μ1.1 ((μ1.2.2 1 2) + 6) v1.toNatClampNeg) μ1) ∧ (¬ v2 = (2 : Int32) → Q (-2 : Int32) μ1))))))) ∧ (r1 = 0 → Q (-2 : Int32) μ1)))
theorem tX8_letter (l : Launch) {n : Nat} {v1 : Int32} {v2 : Int32} {μ0 : qa_M} {Q : Int32 → qa_M → Prop} (hp0 : qa_PP μ0.2.2)  (h : wX8_letter n v1 v2 μ0 Q) : qa_Met l yX8_letter cX8_letter 3 (some .int) 1 0 0 [.ref 1, .int v1, .int v2] 113 μ0 (qa_pI Q) := by
  refine qa_ofG (by decide) (Nat.le_of_ble_eq_true rfl) ?_
  unfold wX8_letter at h
  change qa_G l yX8_letter cX8_letter 3 (some .int) 1 0 0 (qa_pI Q) 0 0 0 [some (.ref 1), some (.int v1), some (.int v2)] [] 113 μ0
  refine qa_ald0 dX8_letter_0 ?_
  refine qa_ild1 dX8_letter_1 ?_
  refine qa_V1I dX8_letter_2 lm_X8_126 sh_1 rfl (by decide) (by decide) (Nat.le_of_ble_eq_true rfl) (tX8_isLetter l hp0  h) (fun r1 μ1 hp1 h => ?_)
  refine qa_if_ne (tgt := 11) dX8_letter_5 (by decide) (fun c2 => ?_) (fun c2 => ?_)
  · have h := h.1 c2
    refine qa_ild2 dX8_letter_11 ?_
    by_cases c3 : v2 = (0 : Int32)
    · have h := h.1 c3
      refine qa_tabIn (tgt := 40) dX8_letter_12 (by rw [c3]; decide) (by rw [c3]; decide) (by rw [c3]; rfl) (by decide) ?_
      refine qa_ald0 dX8_letter_40 ?_
      refine qa_getR dX8_letter_41 lf_X8_19 rfl sh_1 (by decide) rfl (qa_tw0 hp1.2.1) ?_
      refine qa_getR dX8_letter_44 lf_X8_129 rfl (st_0 hp1.2.1) (tle_0 hp1.2.1) (pt_14 hp1 hp1.2.1) (Nat.succ_pos _) ?_
      refine qa_ild1 dX8_letter_47 ?_
      refine qa_iald dX8_letter_48 (st_4 hp1.2.1) (tle_4 hp1.2.1) h.1 ?_
      have h := h.2
      exact qa_iret rfl dX8_letter_49 ⟨rfl, rfl⟩ ⟨rfl, hp1, _, rfl, h⟩
    have h := h.2 c3
    by_cases c4 : v2 = (1 : Int32)
    · have h := h.1 c4
      refine qa_tabIn (tgt := 50) dX8_letter_12 (by rw [c4]; decide) (by rw [c4]; decide) (by rw [c4]; rfl) (by decide) ?_
      refine qa_ald0 dX8_letter_50 ?_
      refine qa_getR dX8_letter_51 lf_X8_19 rfl sh_1 (by decide) rfl (qa_tw0 hp1.2.1) ?_
      refine qa_getR dX8_letter_54 lf_X8_132 rfl (st_0 hp1.2.1) (tle_0 hp1.2.1) (pt_15 hp1 hp1.2.1) (Nat.succ_pos _) ?_
      refine qa_ild1 dX8_letter_57 ?_
      refine qa_iald dX8_letter_58 (st_5 hp1.2.1) (tle_5 hp1.2.1) h.1 ?_
      have h := h.2
      exact qa_iret rfl dX8_letter_59 ⟨rfl, rfl⟩ ⟨rfl, hp1, _, rfl, h⟩
    have h := h.2 c4
    by_cases c5 : v2 = (2 : Int32)
    · have h := h.1 c5
      refine qa_tabIn (tgt := 60) dX8_letter_12 (by rw [c5]; decide) (by rw [c5]; decide) (by rw [c5]; rfl) (by decide) ?_
      refine qa_ald0 dX8_letter_60 ?_
      refine qa_getR dX8_letter_61 lf_X8_19 rfl sh_1 (by decide) rfl (qa_tw0 hp1.2.1) ?_
      refine qa_getR dX8_letter_64 lf_X8_135 rfl (st_0 hp1.2.1) (tle_0 hp1.2.1) (pt_16 hp1 hp1.2.1) (Nat.succ_pos _) ?_
      refine qa_ild1 dX8_letter_67 ?_
      refine qa_iald dX8_letter_68 (st_6 hp1.2.1) (tle_6 hp1.2.1) h.1 ?_
      have h := h.2
      exact qa_iret rfl dX8_letter_69 ⟨rfl, rfl⟩ ⟨rfl, hp1, _, rfl, h⟩
    have h := h.2 c5
    have o6 : v2.toInt < 0 ∨ 2 < v2.toInt := by
      have qc3 : v2.toInt ≠ 0 := fun q => c3 (Int32.toInt_inj.mp (q.trans rfl))
      have qc4 : v2.toInt ≠ 1 := fun q => c4 (Int32.toInt_inj.mp (q.trans rfl))
      have qc5 : v2.toInt ≠ 2 := fun q => c5 (Int32.toInt_inj.mp (q.trans rfl))
      omega
    refine qa_tabOut (tgt := 70) dX8_letter_12 o6 (by decide) ?_
    refine qa_bipush (v := -2) dX8_letter_70 (by decide) ?_
    exact qa_iret rfl dX8_letter_72 ⟨rfl, rfl⟩ ⟨rfl, hp1, _, rfl, h⟩
  · have h := h.2 c2
    refine qa_bipush (v := -2) dX8_letter_8 (by decide) ?_
    exact qa_iret rfl dX8_letter_10 ⟨rfl, rfl⟩ ⟨rfl, hp1, _, rfl, h⟩
def wX8_loose_15 : Nat → Int32 → Int32 → Int32 → qa_M → (Int32 → qa_M → Prop) → Prop
  | 0, _, _, _, _, _ => False
  | n + 1, v1, v2, v3, μ0, Q => (((μ0.1 (μ0.2.2 1 2) 1) ≤ v3 → Q v2 μ0) ∧ (¬ (μ0.1 (μ0.2.2 1 2) 1) ≤ v3 → wX7_houseOn n 32 v1 v3 (μ0.1 (μ0.2.2 1 2) 5) μ0 (fun r4 μ4 => ((r4 = (-1 : Int32) → wX8_loose_15 n v1 v2 (v3 + (1 : Int32)) μ4 Q) ∧ (¬ r4 = (-1 : Int32) → wX7_effort n 32 r4 v3 μ4 (fun r6 μ6 => ((¬ r6 = 0 → wX8_loose_15 n v1 v2 (v3 + (1 : Int32)) μ6 Q) ∧ (r6 = 0 → ∀ x8, x8 = (v2 ||| ((1 : Int32) <<< (v3 &&& 31))) → wX8_loose_15 n v1 x8 (v3 + (1 : Int32)) μ6 Q))))))))
def wX8_loose (n : Nat) (v1 : Int32) (μ0 : qa_M) (Q : Int32 → qa_M → Prop) : Prop := wX8_isPlace n v1 μ0 (fun r1 μ1 => ((¬ r1 = 0 → wX8_loose_15 n v1 (0 : Int32) (0 : Int32) μ1  Q) ∧ (r1 = 0 → Q (-2 : Int32) μ1)))
theorem tX8_loose_15 (l : Launch)  {Q : Int32 → qa_M → Prop}  : ∀ (n : Nat) (v1 : Int32) (v2 : Int32) (v3 : Int32) (μ0 : qa_M), qa_PP μ0.2.2 → wX8_loose_15 n v1 v2 v3 μ0  Q → qa_G l yX8_loose cX8_loose 5 (some .int) 2 0 0 (qa_pI Q) 0 0 15 [some (.ref 1), some (.int v1), some (.int v2), some (.int v3), none] [] 113 μ0 := by
  intro n
  induction n with
  | zero =>
    intro v1 v2 v3 μ0 hp0  h
    rw [wX8_loose_15] at h
    exact h.elim
  | succ n ih =>
    intro v1 v2 v3 μ0 hp0  h
    rw [wX8_loose_15] at h
    refine qa_ild3 dX8_loose_15 ?_
    refine qa_ald0 dX8_loose_16 ?_
    refine qa_getR dX8_loose_17 lf_X8_19 rfl sh_1 (by decide) rfl (qa_tw0 hp0.2.1) ?_
    refine qa_getI dX8_loose_20 lf_X8_145 (Or.inl rfl) (st_0 hp0.2.1) (tle_0 hp0.2.1) ?_
    refine qa_icmp_ge (tgt := 75) dX8_loose_23 (by decide) (fun c3 => ?_) (fun c3 => ?_)
    · have h := h.1 c3
      refine qa_ild2 dX8_loose_75 ?_
      exact qa_iret rfl dX8_loose_76 ⟨rfl, rfl⟩ ⟨rfl, hp0, _, rfl, h⟩
    · have h := h.2 c3
      refine qa_ald0 dX8_loose_26 ?_
      refine qa_getR dX8_loose_27 lf_X8_47 rfl sh_1 (by decide) (pp_1_9 hp0) (by decide) ?_
      refine qa_ild1 dX8_loose_30 ?_
      refine qa_ild3 dX8_loose_31 ?_
      refine qa_ald0 dX8_loose_32 ?_
      refine qa_getR dX8_loose_33 lf_X8_19 rfl sh_1 (by decide) rfl (qa_tw0 hp0.2.1) ?_
      refine qa_getI dX8_loose_36 lf_X8_158 (Or.inl rfl) (st_0 hp0.2.1) (tle_0 hp0.2.1) ?_
      refine qa_V3I dX8_loose_39 lm_X8_161 (sy_0 (Or.inl rfl)) rfl (yle_0 (Or.inl rfl)) (by decide) (Nat.le_of_ble_eq_true rfl) (tX7_houseOn l hp0 (Or.inl rfl) h) (fun r4 μ4 hp4 h => ?_)
      refine qa_ist4 dX8_loose_42 ?_
      refine qa_ild4 dX8_loose_44 ?_
      refine qa_iconst (v := -1) dX8_loose_46 (by decide) ?_
      refine qa_icmp_eq (tgt := 69) dX8_loose_47 (by decide) (fun c5 => ?_) (fun c5 => ?_)
      · have h := h.1 c5
        refine qa_inc3 dX8_loose_69 (qa_io1 _) ?_
        refine qa_goto (tgt := 15) dX8_loose_72 (by decide) ?_
        refine qa_fgt (L' := [some (.ref 1), some (.int v1), some (.int v2), some (.int (v3 + (1 : Int32))), none]) (⟨rfl, ⟨rfl, ⟨rfl, ⟨rfl, trivial⟩⟩⟩⟩) ?_
        exact ih v1 v2 (v3 + (1 : Int32)) μ4 hp4  h
      · have h := h.2 c5
        refine qa_ald0 dX8_loose_50 ?_
        refine qa_getR dX8_loose_51 lf_X8_47 rfl sh_1 (by decide) (pp_1_9 hp4) (by decide) ?_
        refine qa_ild4 dX8_loose_54 ?_
        refine qa_ild3 dX8_loose_56 ?_
        refine qa_V2I dX8_loose_57 lm_X8_168 (sy_0 (Or.inl rfl)) rfl (yle_0 (Or.inl rfl)) (by decide) (Nat.le_of_ble_eq_true rfl) (tX7_effort l hp4 (Or.inl rfl) h) (fun r6 μ6 hp6 h => ?_)
        refine qa_if_ne (tgt := 69) dX8_loose_60 (by decide) (fun c7 => ?_) (fun c7 => ?_)
        · have h := h.1 c7
          refine qa_inc3 dX8_loose_69 (qa_io1 _) ?_
          refine qa_goto (tgt := 15) dX8_loose_72 (by decide) ?_
          refine qa_fgt (L' := [some (.ref 1), some (.int v1), some (.int v2), some (.int (v3 + (1 : Int32))), none]) (⟨rfl, ⟨rfl, ⟨rfl, ⟨rfl, trivial⟩⟩⟩⟩) ?_
          exact ih v1 v2 (v3 + (1 : Int32)) μ6 hp6  h
        · have h := h.2 c7
          refine qa_ild2 dX8_loose_63 ?_
          refine qa_iconst (v := 1) dX8_loose_64 (by decide) ?_
          refine qa_ild3 dX8_loose_65 ?_
          refine qa_ishl dX8_loose_66 ?_
          refine qa_ior dX8_loose_67 ?_
          refine qa_nmI (fun x8 e8 => ?_)
          have h := h x8 e8
          refine qa_ist2 dX8_loose_68 ?_
          refine qa_inc3 dX8_loose_69 (qa_io1 _) ?_
          refine qa_goto (tgt := 15) dX8_loose_72 (by decide) ?_
          refine qa_fgt (L' := [some (.ref 1), some (.int v1), some (.int x8), some (.int (v3 + (1 : Int32))), none]) (⟨rfl, ⟨rfl, ⟨rfl, ⟨rfl, trivial⟩⟩⟩⟩) ?_
          exact ih v1 x8 (v3 + (1 : Int32)) μ6 hp6  h
theorem tX8_loose (l : Launch) {n : Nat} {v1 : Int32} {μ0 : qa_M} {Q : Int32 → qa_M → Prop} (hp0 : qa_PP μ0.2.2)  (h : wX8_loose n v1 μ0 Q) : qa_Met l yX8_loose cX8_loose 5 (some .int) 2 0 0 [.ref 1, .int v1] 113 μ0 (qa_pI Q) := by
  refine qa_ofG (by decide) (Nat.le_of_ble_eq_true rfl) ?_
  unfold wX8_loose at h
  change qa_G l yX8_loose cX8_loose 5 (some .int) 2 0 0 (qa_pI Q) 0 0 0 [some (.ref 1), some (.int v1), none, none, none] [] 113 μ0
  refine qa_ald0 dX8_loose_0 ?_
  refine qa_ild1 dX8_loose_1 ?_
  refine qa_V1I dX8_loose_2 lm_X8_117 sh_1 rfl (by decide) (by decide) (Nat.le_of_ble_eq_true rfl) (tX8_isPlace l hp0  h) (fun r1 μ1 hp1 h => ?_)
  refine qa_if_ne (tgt := 11) dX8_loose_5 (by decide) (fun c2 => ?_) (fun c2 => ?_)
  · have h := h.1 c2
    refine qa_iconst (v := 0) dX8_loose_11 (by decide) ?_
    refine qa_ist2 dX8_loose_12 ?_
    refine qa_iconst (v := 0) dX8_loose_13 (by decide) ?_
    refine qa_ist3 dX8_loose_14 ?_
    refine qa_fgt (L' := [some (.ref 1), some (.int v1), some (.int (0 : Int32)), some (.int (0 : Int32)), none]) (⟨rfl, ⟨rfl, ⟨rfl, ⟨rfl, trivial⟩⟩⟩⟩) ?_
    refine tX8_loose_15 l  n v1 (0 : Int32) (0 : Int32) μ1 hp1  h
  · have h := h.2 c2
    refine qa_bipush (v := -2) dX8_loose_8 (by decide) ?_
    exact qa_iret rfl dX8_loose_10 ⟨rfl, rfl⟩ ⟨rfl, hp1, _, rfl, h⟩
def wX8_luck_35 : Nat → Int32 → Int32 → Int32 → Int32 → Int32 → qa_M → (Int32 → qa_M → Prop) → Prop
  | 0, _, _, _, _, _, _, _ => False
  | n + 1, v1, v2, v3, v4, v5, μ0, Q => ((v2 ≤ v5 → Q v4 μ0) ∧ (¬ v2 ≤ v5 → wX8_drawnSnows n (v1 + v5) μ0 (fun r8 μ8 => wX8_followSnows n r8 (μ8.1 (μ8.2.2 1 2) 1) μ8 (fun μ9 => wX7_reaches n 37 (μ9.2.2 1 2) v3 μ9 (fun r10 μ10 => ((r10 = 0 → wX8_luck_35 n v1 v2 v3 v4 (v5 + (1 : Int32)) μ10 Q) ∧ (¬ r10 = 0 → wX8_luck_35 n v1 v2 v3 (v4 + (1 : Int32)) (v5 + (1 : Int32)) μ10 Q)))))))
def wX8_luck (n : Nat) (v1 : Int32) (v2 : Int32) (v3 : Int32) (μ0 : qa_M) (Q : Int32 → qa_M → Prop) : Prop := wX8_isSeed n v1 μ0 (fun r1 μ1 => ((r1 = 0 → Q (-2 : Int32) μ1) ∧ (¬ r1 = 0 → ((v2 < (1 : Int32) → Q (-2 : Int32) μ1) ∧ (¬ v2 < (1 : Int32) → (((20 : Int32) < v2 → Q (-2 : Int32) μ1) ∧ (¬ (20 : Int32) < v2 → wX8_isLetter n v3 μ1 (fun r5 μ5 => ((¬ r5 = 0 → wX8_luck_35 n v1 v2 v3 (0 : Int32) (0 : Int32) μ5  Q) ∧ (r5 = 0 → Q (-2 : Int32) μ5))))))))))
theorem tX8_luck_35 (l : Launch)  {Q : Int32 → qa_M → Prop}  : ∀ (n : Nat) (v1 : Int32) (v2 : Int32) (v3 : Int32) (v4 : Int32) (v5 : Int32) (μ0 : qa_M), qa_PP μ0.2.2 → wX8_luck_35 n v1 v2 v3 v4 v5 μ0  Q → qa_G l yX8_luck cX8_luck 6 (some .int) 5 0 0 (qa_pI Q) 0 0 35 [some (.ref 1), some (.int v1), some (.int v2), some (.int v3), some (.int v4), some (.int v5)] [] 113 μ0 := by
  intro n
  induction n with
  | zero =>
    intro v1 v2 v3 v4 v5 μ0 hp0  h
    rw [wX8_luck_35] at h
    exact h.elim
  | succ n ih =>
    intro v1 v2 v3 v4 v5 μ0 hp0  h
    rw [wX8_luck_35] at h
    refine qa_ild5 dX8_luck_35 ?_
    refine qa_ild2 dX8_luck_37 ?_
    refine qa_icmp_ge (tgt := 84) dX8_luck_38 (by decide) (fun c7 => ?_) (fun c7 => ?_)
    · have h := h.1 c7
      refine qa_ild4 dX8_luck_84 ?_
      exact qa_iret rfl dX8_luck_86 ⟨rfl, rfl⟩ ⟨rfl, hp0, _, rfl, h⟩
    · have h := h.2 c7
      refine qa_ald0 dX8_luck_41 ?_
      refine qa_ald0 dX8_luck_42 ?_
      refine qa_ild1 dX8_luck_43 ?_
      refine qa_ild5 dX8_luck_44 ?_
      refine qa_iadd dX8_luck_46 ?_
      refine qa_V1I dX8_luck_47 lm_X8_403 sh_1 rfl (by decide) (by decide) (Nat.le_of_ble_eq_true rfl) (tX8_drawnSnows l hp0  h) (fun r8 μ8 hp8 h => ?_)
      refine qa_ald0 dX8_luck_50 ?_
      refine qa_getR dX8_luck_51 lf_X8_19 rfl sh_1 (by decide) rfl (qa_tw0 hp8.2.1) ?_
      refine qa_getI dX8_luck_54 lf_X8_145 (Or.inl rfl) (st_0 hp8.2.1) (tle_0 hp8.2.1) ?_
      refine qa_V2V dX8_luck_57 lm_X8_370 sh_1 rfl (by decide) (by decide) (Nat.le_of_ble_eq_true rfl) (tX8_followSnows l hp8  h) (fun μ9 hp9 h => ?_)
      refine qa_ald0 dX8_luck_60 ?_
      refine qa_getR dX8_luck_61 lf_X8_51 rfl sh_1 (by decide) (pp_1_10 hp9) (by decide) ?_
      refine qa_ald0 dX8_luck_64 ?_
      refine qa_getR dX8_luck_65 lf_X8_19 rfl sh_1 (by decide) rfl (qa_tw0 hp9.2.1) ?_
      refine qa_ild3 dX8_luck_68 ?_
      refine qa_V2I dX8_luck_69 lm_X8_213 (sy_0 (Or.inr rfl)) rfl (yle_0 (Or.inr rfl)) (by decide) (Nat.le_of_ble_eq_true rfl) (tX7_reaches l hp9 (Or.inr rfl) hp9.2.1 h) (fun r10 μ10 hp10 h => ?_)
      refine qa_if_eq (tgt := 78) dX8_luck_72 (by decide) (fun c11 => ?_) (fun c11 => ?_)
      · have h := h.1 c11
        refine qa_inc5 dX8_luck_78 (qa_io1 _) ?_
        refine qa_goto (tgt := 35) dX8_luck_81 (by decide) ?_
        refine qa_fgt (L' := [some (.ref 1), some (.int v1), some (.int v2), some (.int v3), some (.int v4), some (.int (v5 + (1 : Int32)))]) (⟨rfl, ⟨rfl, ⟨rfl, ⟨rfl, ⟨rfl, ⟨rfl, trivial⟩⟩⟩⟩⟩⟩) ?_
        exact ih v1 v2 v3 v4 (v5 + (1 : Int32)) μ10 hp10  h
      · have h := h.2 c11
        refine qa_inc4 dX8_luck_75 (qa_io1 _) ?_
        refine qa_inc5 dX8_luck_78 (qa_io1 _) ?_
        refine qa_goto (tgt := 35) dX8_luck_81 (by decide) ?_
        refine qa_fgt (L' := [some (.ref 1), some (.int v1), some (.int v2), some (.int v3), some (.int (v4 + (1 : Int32))), some (.int (v5 + (1 : Int32)))]) (⟨rfl, ⟨rfl, ⟨rfl, ⟨rfl, ⟨rfl, ⟨rfl, trivial⟩⟩⟩⟩⟩⟩) ?_
        exact ih v1 v2 v3 (v4 + (1 : Int32)) (v5 + (1 : Int32)) μ10 hp10  h
theorem tX8_luck (l : Launch) {n : Nat} {v1 : Int32} {v2 : Int32} {v3 : Int32} {μ0 : qa_M} {Q : Int32 → qa_M → Prop} (hp0 : qa_PP μ0.2.2)  (h : wX8_luck n v1 v2 v3 μ0 Q) : qa_Met l yX8_luck cX8_luck 6 (some .int) 5 0 0 [.ref 1, .int v1, .int v2, .int v3] 113 μ0 (qa_pI Q) := by
  refine qa_ofG (by decide) (Nat.le_of_ble_eq_true rfl) ?_
  unfold wX8_luck at h
  change qa_G l yX8_luck cX8_luck 6 (some .int) 5 0 0 (qa_pI Q) 0 0 0 [some (.ref 1), some (.int v1), some (.int v2), some (.int v3), none, none] [] 113 μ0
  refine qa_ild1 dX8_luck_0 ?_
  refine qa_S1I dX8_luck_1 lm_X8_400  (by decide) (Nat.le_of_ble_eq_true rfl) (tX8_isSeed l hp0  h) (fun r1 μ1 hp1 h => ?_)
  refine qa_if_eq (tgt := 26) dX8_luck_4 (by decide) (fun c2 => ?_) (fun c2 => ?_)
  · have h := h.1 c2
    refine qa_bipush (v := -2) dX8_luck_26 (by decide) ?_
    exact qa_iret rfl dX8_luck_28 ⟨rfl, rfl⟩ ⟨rfl, hp1, _, rfl, h⟩
  · have h := h.2 c2
    refine qa_ild2 dX8_luck_7 ?_
    refine qa_iconst (v := 1) dX8_luck_8 (by decide) ?_
    refine qa_icmp_lt (tgt := 26) dX8_luck_9 (by decide) (fun c3 => ?_) (fun c3 => ?_)
    · have h := h.1 c3
      refine qa_bipush (v := -2) dX8_luck_26 (by decide) ?_
      exact qa_iret rfl dX8_luck_28 ⟨rfl, rfl⟩ ⟨rfl, hp1, _, rfl, h⟩
    · have h := h.2 c3
      refine qa_ild2 dX8_luck_12 ?_
      refine qa_bipush (v := 20) dX8_luck_13 (by decide) ?_
      refine qa_icmp_gt (tgt := 26) dX8_luck_15 (by decide) (fun c4 => ?_) (fun c4 => ?_)
      · have h := h.1 c4
        refine qa_bipush (v := -2) dX8_luck_26 (by decide) ?_
        exact qa_iret rfl dX8_luck_28 ⟨rfl, rfl⟩ ⟨rfl, hp1, _, rfl, h⟩
      · have h := h.2 c4
        refine qa_ald0 dX8_luck_18 ?_
        refine qa_ild3 dX8_luck_19 ?_
        refine qa_V1I dX8_luck_20 lm_X8_126 sh_1 rfl (by decide) (by decide) (Nat.le_of_ble_eq_true rfl) (tX8_isLetter l hp1  h) (fun r5 μ5 hp5 h => ?_)
        refine qa_if_ne (tgt := 29) dX8_luck_23 (by decide) (fun c6 => ?_) (fun c6 => ?_)
        · have h := h.1 c6
          refine qa_iconst (v := 0) dX8_luck_29 (by decide) ?_
          refine qa_ist4 dX8_luck_30 ?_
          refine qa_iconst (v := 0) dX8_luck_32 (by decide) ?_
          refine qa_ist5 dX8_luck_33 ?_
          refine qa_fgt (L' := [some (.ref 1), some (.int v1), some (.int v2), some (.int v3), some (.int (0 : Int32)), some (.int (0 : Int32))]) (⟨rfl, ⟨rfl, ⟨rfl, ⟨rfl, ⟨rfl, ⟨rfl, trivial⟩⟩⟩⟩⟩⟩) ?_
          refine tX8_luck_35 l  n v1 v2 v3 (0 : Int32) (0 : Int32) μ5 hp5  h
        · have h := h.2 c6
          refine qa_bipush (v := -2) dX8_luck_26 (by decide) ?_
          exact qa_iret rfl dX8_luck_28 ⟨rfl, rfl⟩ ⟨rfl, hp5, _, rfl, h⟩
def wX8_neighbour (n : Nat) (v1 : Int32) (v2 : Int32) (v3 : Int32) (μ0 : qa_M) (Q : Int32 → qa_M → Prop) : Prop := wX7_spot n 32 v1 v3 μ0 (fun r1 μ1 => wX8_round n (r1 + v2) (μ1.1 (μ1.2.2 1 2) 5) μ1 (fun r2 μ2 => wX7_houseOn n 32 r2 v3 (μ2.1 (μ2.2.2 1 2) 5) μ2 (fun r3 μ3 => Q r3 μ3)))
theorem tX8_neighbour (l : Launch) {n : Nat} {v1 : Int32} {v2 : Int32} {v3 : Int32} {μ0 : qa_M} {Q : Int32 → qa_M → Prop} (hp0 : qa_PP μ0.2.2)  (h : wX8_neighbour n v1 v2 v3 μ0 Q) : qa_Met l yX8_neighbour cX8_neighbour 4 (some .int) 2 0 0 [.ref 1, .int v1, .int v2, .int v3] 113 μ0 (qa_pI Q) := by
  refine qa_ofG (by decide) (Nat.le_of_ble_eq_true rfl) ?_
  unfold wX8_neighbour at h
  change qa_G l yX8_neighbour cX8_neighbour 4 (some .int) 2 0 0 (qa_pI Q) 0 0 0 [some (.ref 1), some (.int v1), some (.int v2), some (.int v3)] [] 113 μ0
  refine qa_ald0 dX8_neighbour_0 ?_
  refine qa_getR dX8_neighbour_1 lf_X8_47 rfl sh_1 (by decide) (pp_1_9 hp0) (by decide) ?_
  refine qa_ald0 dX8_neighbour_4 ?_
  refine qa_getR dX8_neighbour_5 lf_X8_47 rfl sh_1 (by decide) (pp_1_9 hp0) (by decide) ?_
  refine qa_ild1 dX8_neighbour_8 ?_
  refine qa_ild3 dX8_neighbour_9 ?_
  refine qa_V2I dX8_neighbour_10 lm_X8_155 (sy_0 (Or.inl rfl)) rfl (yle_0 (Or.inl rfl)) (by decide) (Nat.le_of_ble_eq_true rfl) (tX7_spot l hp0 (Or.inl rfl) h) (fun r1 μ1 hp1 h => ?_)
  refine qa_ild2 dX8_neighbour_13 ?_
  refine qa_iadd dX8_neighbour_14 ?_
  refine qa_ald0 dX8_neighbour_15 ?_
  refine qa_getR dX8_neighbour_16 lf_X8_19 rfl sh_1 (by decide) rfl (qa_tw0 hp1.2.1) ?_
  refine qa_getI dX8_neighbour_19 lf_X8_158 (Or.inl rfl) (st_0 hp1.2.1) (tle_0 hp1.2.1) ?_
  refine qa_S2I dX8_neighbour_22 lm_X8_177  (by decide) (Nat.le_of_ble_eq_true rfl) (tX8_round l hp1  h) (fun r2 μ2 hp2 h => ?_)
  refine qa_ild3 dX8_neighbour_25 ?_
  refine qa_ald0 dX8_neighbour_26 ?_
  refine qa_getR dX8_neighbour_27 lf_X8_19 rfl sh_1 (by decide) rfl (qa_tw0 hp2.2.1) ?_
  refine qa_getI dX8_neighbour_30 lf_X8_158 (Or.inl rfl) (st_0 hp2.2.1) (tle_0 hp2.2.1) ?_
  refine qa_V3I dX8_neighbour_33 lm_X8_161 (sy_0 (Or.inl rfl)) rfl (yle_0 (Or.inl rfl)) (by decide) (Nat.le_of_ble_eq_true rfl) (tX7_houseOn l hp2 (Or.inl rfl) h) (fun r3 μ3 hp3 h => ?_)
  exact qa_iret rfl dX8_neighbour_36 ⟨rfl, rfl⟩ ⟨rfl, hp3, _, rfl, h⟩
def wX8_mates (n : Nat) (v1 : Int32) (v2 : Int32) (μ0 : qa_M) (Q : Int32 → qa_M → Prop) : Prop := wX8_isHouse n v1 μ0 (fun r1 μ1 => ((r1 = 0 → Q (-2 : Int32) μ1) ∧ (¬ r1 = 0 → wX8_isWeek n v2 μ1 (fun r3 μ3 => ((¬ r3 = 0 → wX8_neighbour n v1 (1 : Int32) v2 μ3 (fun r5 μ5 => wX8_neighbour n v1 (-1 : Int32) v2 μ5 (fun r6 μ6 => Q (((1 : Int32) <<< (r5 &&& 31)) ||| ((1 : Int32) <<< (r6 &&& 31))) μ6))) ∧ (r3 = 0 → Q (-2 : Int32) μ3))))))
theorem tX8_mates (l : Launch) {n : Nat} {v1 : Int32} {v2 : Int32} {μ0 : qa_M} {Q : Int32 → qa_M → Prop} (hp0 : qa_PP μ0.2.2)  (h : wX8_mates n v1 v2 μ0 Q) : qa_Met l yX8_mates cX8_mates 3 (some .int) 3 0 0 [.ref 1, .int v1, .int v2] 113 μ0 (qa_pI Q) := by
  refine qa_ofG (by decide) (Nat.le_of_ble_eq_true rfl) ?_
  unfold wX8_mates at h
  change qa_G l yX8_mates cX8_mates 3 (some .int) 3 0 0 (qa_pI Q) 0 0 0 [some (.ref 1), some (.int v1), some (.int v2)] [] 113 μ0
  refine qa_ald0 dX8_mates_0 ?_
  refine qa_ild1 dX8_mates_1 ?_
  refine qa_V1I dX8_mates_2 lm_X8_103 sh_1 rfl (by decide) (by decide) (Nat.le_of_ble_eq_true rfl) (tX8_isHouse l hp0  h) (fun r1 μ1 hp1 h => ?_)
  refine qa_if_eq (tgt := 16) dX8_mates_5 (by decide) (fun c2 => ?_) (fun c2 => ?_)
  · have h := h.1 c2
    refine qa_bipush (v := -2) dX8_mates_16 (by decide) ?_
    exact qa_iret rfl dX8_mates_18 ⟨rfl, rfl⟩ ⟨rfl, hp1, _, rfl, h⟩
  · have h := h.2 c2
    refine qa_ald0 dX8_mates_8 ?_
    refine qa_ild2 dX8_mates_9 ?_
    refine qa_V1I dX8_mates_10 lm_X8_152 sh_1 rfl (by decide) (by decide) (Nat.le_of_ble_eq_true rfl) (tX8_isWeek l hp1  h) (fun r3 μ3 hp3 h => ?_)
    refine qa_if_ne (tgt := 19) dX8_mates_13 (by decide) (fun c4 => ?_) (fun c4 => ?_)
    · have h := h.1 c4
      refine qa_iconst (v := 1) dX8_mates_19 (by decide) ?_
      refine qa_ald0 dX8_mates_20 ?_
      refine qa_ild1 dX8_mates_21 ?_
      refine qa_iconst (v := 1) dX8_mates_22 (by decide) ?_
      refine qa_ild2 dX8_mates_23 ?_
      refine qa_V3I dX8_mates_24 lm_X8_206 sh_1 rfl (by decide) (by decide) (Nat.le_of_ble_eq_true rfl) (tX8_neighbour l hp3  h) (fun r5 μ5 hp5 h => ?_)
      refine qa_ishl dX8_mates_27 ?_
      refine qa_iconst (v := 1) dX8_mates_28 (by decide) ?_
      refine qa_ald0 dX8_mates_29 ?_
      refine qa_ild1 dX8_mates_30 ?_
      refine qa_iconst (v := -1) dX8_mates_31 (by decide) ?_
      refine qa_ild2 dX8_mates_32 ?_
      refine qa_V3I dX8_mates_33 lm_X8_206 sh_1 rfl (by decide) (by decide) (Nat.le_of_ble_eq_true rfl) (tX8_neighbour l hp5  h) (fun r6 μ6 hp6 h => ?_)
      refine qa_ishl dX8_mates_36 ?_
      refine qa_ior dX8_mates_37 ?_
      exact qa_iret rfl dX8_mates_38 ⟨rfl, rfl⟩ ⟨rfl, hp6, _, rfl, h⟩
    · have h := h.2 c4
      refine qa_bipush (v := -2) dX8_mates_16 (by decide) ?_
      exact qa_iret rfl dX8_mates_18 ⟨rfl, rfl⟩ ⟨rfl, hp3, _, rfl, h⟩
def wX8_mean_33 : Nat → Int32 → Int32 → Int32 → Int64 → Int32 → qa_M → (Int32 → Int32 → Int64 → qa_M → Prop) → (Int64 → qa_M → Prop) → Prop
  | 0, _, _, _, _, _, _, _, _ => False
  | n + 1, v1, v2, v3, v4, v6, μ0, K0, Q => wX8_lowBits n (v2 + (1 : Int32)) μ0 (fun r7 μ7 => ((r7 < v6 → K0 v2 v3 v4 μ7) ∧ (¬ r7 < v6 → wX8_weightOf n v6 (v2 + (1 : Int32)) μ7 (fun r9 μ9 => wX8_followSnows n v6 (v2 + (1 : Int32)) μ9 (fun μ10 => wX7_sunTo n 37 (μ10.2.2 1 2) v1 (v2 + (1 : Int32)) μ10 (fun r11 μ11 => ∀ x12, x12 = (v4 + (r9 * r11.toInt64)) → wX8_mean_33 n v1 v2 v3 x12 (v6 + (1 : Int32)) μ11 K0 Q))))))
def wX8_mean (n : Nat) (v1 : Int32) (v2 : Int32) (v3 : Int32) (μ0 : qa_M) (Q : Int64 → qa_M → Prop) : Prop := wX8_isHouse n v1 μ0 (fun r1 μ1 => ((r1 = 0 → Q (-2 : Int64) μ1) ∧ (¬ r1 = 0 → wX8_isChanceWeek n v2 μ1 (fun r3 μ3 => ((r3 = 0 → Q (-2 : Int64) μ3) ∧ (¬ r3 = 0 → wX8_isPart n v3 μ3 (fun r5 μ5 => ((¬ r5 = 0 → wX8_mean_33 n v1 v2 v3 (0 : Int64) (0 : Int32) μ5 (fun v2_14 v3_14 v4_14 μ13 => wX8_power n (10 : Int32) (v2_14 + (1 : Int32)) μ13 (fun r15 μ15 => wX8_fractionPart n v4_14 r15 v3_14 μ15 (fun r16 μ16 => Q r16 μ16))) Q) ∧ (r5 = 0 → Q (-2 : Int64) μ5)))))))))
theorem tX8_mean_33 (l : Launch) {K0 : Int32 → Int32 → Int64 → qa_M → Prop} {Q : Int64 → qa_M → Prop} (hK0 : ∀ (v2 : Int32) (v3 : Int32) (v4 : Int64) (μ : qa_M), qa_PP μ.2.2 → K0 v2 v3 v4 μ → qa_G l yX8_mean cX8_mean 9 (some .long) 5 0 0 (qa_pJ Q) 0 0 94 [none, none, some (.int v2), some (.int v3), some (.long v4), none, none, none, none] [] 113 μ) : ∀ (n : Nat) (v1 : Int32) (v2 : Int32) (v3 : Int32) (v4 : Int64) (v6 : Int32) (μ0 : qa_M), qa_PP μ0.2.2 → wX8_mean_33 n v1 v2 v3 v4 v6 μ0 K0 Q → qa_G l yX8_mean cX8_mean 9 (some .long) 5 0 0 (qa_pJ Q) 0 0 33 [some (.ref 1), some (.int v1), some (.int v2), some (.int v3), some (.long v4), none, some (.int v6), none, none] [] 113 μ0 := by
  intro n
  induction n with
  | zero =>
    intro v1 v2 v3 v4 v6 μ0 hp0  h
    rw [wX8_mean_33] at h
    exact h.elim
  | succ n ih =>
    intro v1 v2 v3 v4 v6 μ0 hp0  h
    rw [wX8_mean_33] at h
    refine qa_ild6 dX8_mean_33 ?_
    refine qa_ild2 dX8_mean_35 ?_
    refine qa_iconst (v := 1) dX8_mean_36 (by decide) ?_
    refine qa_iadd dX8_mean_37 ?_
    refine qa_S1I dX8_mean_38 lm_X8_148  (by decide) (Nat.le_of_ble_eq_true rfl) (tX8_lowBits l hp0  h) (fun r7 μ7 hp7 h => ?_)
    refine qa_icmp_gt (tgt := 94) dX8_mean_41 (by decide) (fun c8 => ?_) (fun c8 => ?_)
    · have h := h.1 c8
      refine qa_fgt (L' := [none, none, some (.int v2), some (.int v3), some (.long v4), none, none, none, none]) (⟨rfl, ⟨rfl, ⟨rfl, trivial⟩⟩⟩) ?_
      exact hK0 v2 v3 v4 μ7 hp7  h
    · have h := h.2 c8
      refine qa_ald0 dX8_mean_44 ?_
      refine qa_ild6 dX8_mean_45 ?_
      refine qa_ild2 dX8_mean_47 ?_
      refine qa_iconst (v := 1) dX8_mean_48 (by decide) ?_
      refine qa_iadd dX8_mean_49 ?_
      refine qa_V2J dX8_mean_50 lm_X8_366 sh_1 rfl (by decide) (by decide) (Nat.le_of_ble_eq_true rfl) (tX8_weightOf l hp7  h) (fun r9 μ9 hp9 h => ?_)
      refine qa_lst7 dX8_mean_53 ?_
      refine qa_ald0 dX8_mean_55 ?_
      refine qa_ild6 dX8_mean_56 ?_
      refine qa_ild2 dX8_mean_58 ?_
      refine qa_iconst (v := 1) dX8_mean_59 (by decide) ?_
      refine qa_iadd dX8_mean_60 ?_
      refine qa_V2V dX8_mean_61 lm_X8_370 sh_1 rfl (by decide) (by decide) (Nat.le_of_ble_eq_true rfl) (tX8_followSnows l hp9  h) (fun μ10 hp10 h => ?_)
      refine qa_lld4 dX8_mean_64 ?_
      refine qa_lld7 dX8_mean_66 ?_
      refine qa_ald0 dX8_mean_68 ?_
      refine qa_getR dX8_mean_69 lf_X8_51 rfl sh_1 (by decide) (pp_1_10 hp10) (by decide) ?_
      refine qa_ald0 dX8_mean_72 ?_
      refine qa_getR dX8_mean_73 lf_X8_19 rfl sh_1 (by decide) rfl (qa_tw0 hp10.2.1) ?_
      refine qa_ild1 dX8_mean_76 ?_
      refine qa_ild2 dX8_mean_77 ?_
      refine qa_iconst (v := 1) dX8_mean_78 (by decide) ?_
      refine qa_iadd dX8_mean_79 ?_
      refine qa_V3I dX8_mean_80 lm_X8_185 (sy_0 (Or.inr rfl)) rfl (yle_0 (Or.inr rfl)) (by decide) (Nat.le_of_ble_eq_true rfl) (tX7_sunTo l hp10 (Or.inr rfl) hp10.2.1 h) (fun r11 μ11 hp11 h => ?_)
      refine qa_i2l dX8_mean_83 ?_
      refine qa_lmul dX8_mean_84 ?_
      refine qa_ladd dX8_mean_85 ?_
      refine qa_nmL (fun x12 e12 => ?_)
      have h := h x12 e12
      refine qa_lst4 dX8_mean_86 ?_
      refine qa_inc6 dX8_mean_88 (qa_io1 _) ?_
      refine qa_goto (tgt := 33) dX8_mean_91 (by decide) ?_
      refine qa_fgt (L' := [some (.ref 1), some (.int v1), some (.int v2), some (.int v3), some (.long x12), none, some (.int (v6 + (1 : Int32))), none, none]) (⟨rfl, ⟨rfl, ⟨rfl, ⟨rfl, ⟨rfl, ⟨rfl, trivial⟩⟩⟩⟩⟩⟩) ?_
      exact ih v1 v2 v3 x12 (v6 + (1 : Int32)) μ11 hp11  h
theorem tX8_mean (l : Launch) {n : Nat} {v1 : Int32} {v2 : Int32} {v3 : Int32} {μ0 : qa_M} {Q : Int64 → qa_M → Prop} (hp0 : qa_PP μ0.2.2)  (h : wX8_mean n v1 v2 v3 μ0 Q) : qa_Met l yX8_mean cX8_mean 9 (some .long) 5 0 0 [.ref 1, .int v1, .int v2, .int v3] 113 μ0 (qa_pJ Q) := by
  refine qa_ofG (by decide) (Nat.le_of_ble_eq_true rfl) ?_
  unfold wX8_mean at h
  change qa_G l yX8_mean cX8_mean 9 (some .long) 5 0 0 (qa_pJ Q) 0 0 0 [some (.ref 1), some (.int v1), some (.int v2), some (.int v3), none, none, none, none, none] [] 113 μ0
  refine qa_ald0 dX8_mean_0 ?_
  refine qa_ild1 dX8_mean_1 ?_
  refine qa_V1I dX8_mean_2 lm_X8_103 sh_1 rfl (by decide) (by decide) (Nat.le_of_ble_eq_true rfl) (tX8_isHouse l hp0  h) (fun r1 μ1 hp1 h => ?_)
  refine qa_if_eq (tgt := 23) dX8_mean_5 (by decide) (fun c2 => ?_) (fun c2 => ?_)
  · have h := h.1 c2
    refine qa_ldc2 dX8_mean_23 lk_X8_364 ?_
    exact qa_lret rfl dX8_mean_26 ⟨rfl, rfl⟩ ⟨rfl, hp1, _, rfl, h⟩
  · have h := h.2 c2
    refine qa_ald0 dX8_mean_8 ?_
    refine qa_ild2 dX8_mean_9 ?_
    refine qa_V1I dX8_mean_10 lm_X8_361 sh_1 rfl (by decide) (by decide) (Nat.le_of_ble_eq_true rfl) (tX8_isChanceWeek l hp1  h) (fun r3 μ3 hp3 h => ?_)
    refine qa_if_eq (tgt := 23) dX8_mean_13 (by decide) (fun c4 => ?_) (fun c4 => ?_)
    · have h := h.1 c4
      refine qa_ldc2 dX8_mean_23 lk_X8_364 ?_
      exact qa_lret rfl dX8_mean_26 ⟨rfl, rfl⟩ ⟨rfl, hp3, _, rfl, h⟩
    · have h := h.2 c4
      refine qa_ild3 dX8_mean_16 ?_
      refine qa_S1I dX8_mean_17 lm_X8_342  (by decide) (Nat.le_of_ble_eq_true rfl) (tX8_isPart l hp3  h) (fun r5 μ5 hp5 h => ?_)
      refine qa_if_ne (tgt := 27) dX8_mean_20 (by decide) (fun c6 => ?_) (fun c6 => ?_)
      · have h := h.1 c6
        refine qa_lconst (v := 0) dX8_mean_27 (by decide) ?_
        refine qa_lst4 dX8_mean_28 ?_
        refine qa_iconst (v := 0) dX8_mean_30 (by decide) ?_
        refine qa_ist6 dX8_mean_31 ?_
        refine qa_fgt (L' := [some (.ref 1), some (.int v1), some (.int v2), some (.int v3), some (.long (0 : Int64)), none, some (.int (0 : Int32)), none, none]) (⟨rfl, ⟨rfl, ⟨rfl, ⟨rfl, ⟨rfl, ⟨rfl, trivial⟩⟩⟩⟩⟩⟩) ?_
        refine tX8_mean_33 l ?_ n v1 v2 v3 (0 : Int64) (0 : Int32) μ5 hp5  h
        · intro v2_14 v3_14 v4_14 μ13 hp13  h
          refine qa_lld4 dX8_mean_94 ?_
          refine qa_bipush (v := 10) dX8_mean_96 (by decide) ?_
          refine qa_ild2 dX8_mean_98 ?_
          refine qa_iconst (v := 1) dX8_mean_99 (by decide) ?_
          refine qa_iadd dX8_mean_100 ?_
          refine qa_S2J dX8_mean_101 lm_X8_374  (by decide) (Nat.le_of_ble_eq_true rfl) (tX8_power l hp13  h) (fun r15 μ15 hp15 h => ?_)
          refine qa_ild3 dX8_mean_104 ?_
          refine qa_S3J dX8_mean_105 lm_X8_351  (by decide) (Nat.le_of_ble_eq_true rfl) (tX8_fractionPart l hp15  h) (fun r16 μ16 hp16 h => ?_)
          exact qa_lret rfl dX8_mean_108 ⟨rfl, rfl⟩ ⟨rfl, hp16, _, rfl, h⟩
      · have h := h.2 c6
        refine qa_ldc2 dX8_mean_23 lk_X8_364 ?_
        exact qa_lret rfl dX8_mean_26 ⟨rfl, rfl⟩ ⟨rfl, hp5, _, rfl, h⟩
def wX8_moves_22 : Nat → Int32 → Int32 → Int32 → qa_M → (Int32 → qa_M → Prop) → Prop
  | 0, _, _, _, _, _ => False
  | n + 1, v1, v2, v3, μ0, Q => wX8_lowBits n (μ0.1 (μ0.2.2 1 2) 5) μ0 (fun r4 μ4 => ((r4 < v3 → Q v2 μ4) ∧ (¬ r4 < v3 → wX8_turnWithout n v1 v3 μ4 (fun r6 μ6 => wX5_add n r6 μ6 (fun r7 μ7 => ((¬ r7 = (1 : Int32) → wX8_moves_22 n v1 v2 (v3 + (1 : Int32)) μ7 Q) ∧ (r7 = (1 : Int32) → wX8_moves_22 n v1 (v2 + (1 : Int32)) (v3 + (1 : Int32)) μ7 Q)))))))
def wX8_moves (n : Nat) (v1 : Int32) (μ0 : qa_M) (Q : Int32 → qa_M → Prop) : Prop := wX8_isTurningWeek n v1 μ0 (fun r1 μ1 => ((¬ r1 = 0 → wX5_clear n  μ1 (fun μ3 => wX8_moves_22 n v1 (0 : Int32) (0 : Int32) μ3  Q)) ∧ (r1 = 0 → Q (-2 : Int32) μ1)))
theorem tX8_moves_22 (l : Launch)  {Q : Int32 → qa_M → Prop}  : ∀ (n : Nat) (v1 : Int32) (v2 : Int32) (v3 : Int32) (μ0 : qa_M), qa_PP μ0.2.2 → wX8_moves_22 n v1 v2 v3 μ0  Q → qa_G l yX8_moves cX8_moves 4 (some .int) 4 0 0 (qa_pI Q) 0 0 22 [some (.ref 1), some (.int v1), some (.int v2), some (.int v3)] [] 113 μ0 := by
  intro n
  induction n with
  | zero =>
    intro v1 v2 v3 μ0 hp0  h
    rw [wX8_moves_22] at h
    exact h.elim
  | succ n ih =>
    intro v1 v2 v3 μ0 hp0  h
    rw [wX8_moves_22] at h
    refine qa_ild3 dX8_moves_22 ?_
    refine qa_ald0 dX8_moves_23 ?_
    refine qa_getR dX8_moves_24 lf_X8_19 rfl sh_1 (by decide) rfl (qa_tw0 hp0.2.1) ?_
    refine qa_getI dX8_moves_27 lf_X8_158 (Or.inl rfl) (st_0 hp0.2.1) (tle_0 hp0.2.1) ?_
    refine qa_S1I dX8_moves_30 lm_X8_148  (by decide) (Nat.le_of_ble_eq_true rfl) (tX8_lowBits l hp0  h) (fun r4 μ4 hp4 h => ?_)
    refine qa_icmp_gt (tgt := 62) dX8_moves_33 (by decide) (fun c5 => ?_) (fun c5 => ?_)
    · have h := h.1 c5
      refine qa_ild2 dX8_moves_62 ?_
      exact qa_iret rfl dX8_moves_63 ⟨rfl, rfl⟩ ⟨rfl, hp4, _, rfl, h⟩
    · have h := h.2 c5
      refine qa_ald0 dX8_moves_36 ?_
      refine qa_getR dX8_moves_37 lf_X8_64 rfl sh_1 (by decide) (pp_1_1 hp4) (by decide) ?_
      refine qa_ald0 dX8_moves_40 ?_
      refine qa_ild1 dX8_moves_41 ?_
      refine qa_ild3 dX8_moves_42 ?_
      refine qa_V2I dX8_moves_43 lm_X8_234 sh_1 rfl (by decide) (by decide) (Nat.le_of_ble_eq_true rfl) (tX8_turnWithout l hp4  h) (fun r6 μ6 hp6 h => ?_)
      refine qa_V1I dX8_moves_46 lm_X8_237 sh_44 rfl (by decide) (by decide) (Nat.le_of_ble_eq_true rfl) (tX5_add l hp6  h) (fun r7 μ7 hp7 h => ?_)
      refine qa_iconst (v := 1) dX8_moves_49 (by decide) ?_
      refine qa_icmp_ne (tgt := 56) dX8_moves_50 (by decide) (fun c8 => ?_) (fun c8 => ?_)
      · have h := h.1 c8
        refine qa_inc3 dX8_moves_56 (qa_io1 _) ?_
        refine qa_goto (tgt := 22) dX8_moves_59 (by decide) ?_
        refine qa_fgt (L' := [some (.ref 1), some (.int v1), some (.int v2), some (.int (v3 + (1 : Int32)))]) (⟨rfl, ⟨rfl, ⟨rfl, ⟨rfl, trivial⟩⟩⟩⟩) ?_
        exact ih v1 v2 (v3 + (1 : Int32)) μ7 hp7  h
      · have h := h.2 c8
        refine qa_inc2 dX8_moves_53 (qa_io1 _) ?_
        refine qa_inc3 dX8_moves_56 (qa_io1 _) ?_
        refine qa_goto (tgt := 22) dX8_moves_59 (by decide) ?_
        refine qa_fgt (L' := [some (.ref 1), some (.int v1), some (.int (v2 + (1 : Int32))), some (.int (v3 + (1 : Int32)))]) (⟨rfl, ⟨rfl, ⟨rfl, ⟨rfl, trivial⟩⟩⟩⟩) ?_
        exact ih v1 (v2 + (1 : Int32)) (v3 + (1 : Int32)) μ7 hp7  h
theorem tX8_moves (l : Launch) {n : Nat} {v1 : Int32} {μ0 : qa_M} {Q : Int32 → qa_M → Prop} (hp0 : qa_PP μ0.2.2)  (h : wX8_moves n v1 μ0 Q) : qa_Met l yX8_moves cX8_moves 4 (some .int) 4 0 0 [.ref 1, .int v1] 113 μ0 (qa_pI Q) := by
  refine qa_ofG (by decide) (Nat.le_of_ble_eq_true rfl) ?_
  unfold wX8_moves at h
  change qa_G l yX8_moves cX8_moves 4 (some .int) 4 0 0 (qa_pI Q) 0 0 0 [some (.ref 1), some (.int v1), none, none] [] 113 μ0
  refine qa_ald0 dX8_moves_0 ?_
  refine qa_ild1 dX8_moves_1 ?_
  refine qa_V1I dX8_moves_2 lm_X8_165 sh_1 rfl (by decide) (by decide) (Nat.le_of_ble_eq_true rfl) (tX8_isTurningWeek l hp0  h) (fun r1 μ1 hp1 h => ?_)
  refine qa_if_ne (tgt := 11) dX8_moves_5 (by decide) (fun c2 => ?_) (fun c2 => ?_)
  · have h := h.1 c2
    refine qa_ald0 dX8_moves_11 ?_
    refine qa_getR dX8_moves_12 lf_X8_64 rfl sh_1 (by decide) (pp_1_1 hp1) (by decide) ?_
    refine qa_V0V dX8_moves_15 lm_X8_231 sh_44 rfl (by decide) (by decide) (Nat.le_of_ble_eq_true rfl) (tX5_clear l hp1  h) (fun μ3 hp3 h => ?_)
    refine qa_iconst (v := 0) dX8_moves_18 (by decide) ?_
    refine qa_ist2 dX8_moves_19 ?_
    refine qa_iconst (v := 0) dX8_moves_20 (by decide) ?_
    refine qa_ist3 dX8_moves_21 ?_
    refine qa_fgt (L' := [some (.ref 1), some (.int v1), some (.int (0 : Int32)), some (.int (0 : Int32))]) (⟨rfl, ⟨rfl, ⟨rfl, ⟨rfl, trivial⟩⟩⟩⟩) ?_
    refine tX8_moves_22 l  n v1 (0 : Int32) (0 : Int32) μ3 hp3  h
  · have h := h.2 c2
    refine qa_bipush (v := -2) dX8_moves_8 (by decide) ?_
    exact qa_iret rfl dX8_moves_10 ⟨rfl, rfl⟩ ⟨rfl, hp1, _, rfl, h⟩
def wX8_never (n : Nat) (v1 : Int32) (μ0 : qa_M) (Q : Int32 → qa_M → Prop) : Prop := wX8_refuseTurns n v1 μ0 (fun r1 μ1 => ((r1 = 0 → vp_in v1 4 ∧ wX8_seek n (83 + 2 * v1.toNatClampNeg) μ1 (fun μ4 => ((¬ (μ4.1 42 0) = 0 → wX8_lowBits n (μ4.1 (μ4.2.2 1 2) 5) μ4 (fun r6 μ6 => Q (r6 &&& ((μ6.1 42 2) ^^^ (-1 : Int32))) μ6)) ∧ ((μ4.1 42 0) = 0 → Q (-1 : Int32) μ4)))) ∧ (¬ r1 = 0 → Q r1 μ1)))
theorem tX8_never (l : Launch) {n : Nat} {v1 : Int32} {μ0 : qa_M} {Q : Int32 → qa_M → Prop} (hp0 : qa_PP μ0.2.2)  (h : wX8_never n v1 μ0 Q) : qa_Met l yX8_never cX8_never 3 (some .int) 5 0 0 [.ref 1, .int v1] 113 μ0 (qa_pI Q) := by
  refine qa_ofG (by decide) (Nat.le_of_ble_eq_true rfl) ?_
  unfold wX8_never at h
  change qa_G l yX8_never cX8_never 3 (some .int) 5 0 0 (qa_pI Q) 0 0 0 [some (.ref 1), some (.int v1), none] [] 113 μ0
  refine qa_ald0 dX8_never_0 ?_
  refine qa_ild1 dX8_never_1 ?_
  refine qa_V1I dX8_never_2 lm_X8_283 sh_1 rfl (by decide) (by decide) (Nat.le_of_ble_eq_true rfl) (tX8_refuseTurns l hp0  h) (fun r1 μ1 hp1 h => ?_)
  refine qa_ist2 dX8_never_5 ?_
  refine qa_ild2 dX8_never_6 ?_
  refine qa_if_eq (tgt := 12) dX8_never_7 (by decide) (fun c2 => ?_) (fun c2 => ?_)
  · have h := h.1 c2
    refine qa_ald0 dX8_never_12 ?_
    refine qa_ald0 dX8_never_13 ?_
    refine qa_getR dX8_never_14 lf_X8_33 rfl sh_1 (by decide) (pp_1_7 hp1) (by decide) ?_
    refine qa_ild1 dX8_never_17 ?_
    have b3 := h.1
    have h := h.2
    refine qa_aald (t := 6) dX8_never_18 sh_30 rfl (by decide) b3 (psl hp1 b3) (qa_rw0 (qa_rwi b3)) ?_
    refine qa_V1V dX8_never_19 lm_X8_286 sh_1 rfl (by decide) (by decide) (Nat.le_of_ble_eq_true rfl) (tX8_seek l hp1 (qa_rwi b3) h) (fun μ4 hp4 h => ?_)
    refine qa_ald0 dX8_never_22 ?_
    refine qa_getR dX8_never_23 lf_X8_57 rfl sh_1 (by decide) (pp_1_11 hp4) (by decide) ?_
    refine qa_getI dX8_never_26 lf_X8_290 (Or.inl rfl) sh_42 (by decide) ?_
    refine qa_if_ne (tgt := 36) dX8_never_29 (by decide) (fun c5 => ?_) (fun c5 => ?_)
    · have h := h.1 c5
      refine qa_ald0 dX8_never_36 ?_
      refine qa_getR dX8_never_37 lf_X8_19 rfl sh_1 (by decide) rfl (qa_tw0 hp4.2.1) ?_
      refine qa_getI dX8_never_40 lf_X8_158 (Or.inl rfl) (st_0 hp4.2.1) (tle_0 hp4.2.1) ?_
      refine qa_S1I dX8_never_43 lm_X8_148  (by decide) (Nat.le_of_ble_eq_true rfl) (tX8_lowBits l hp4  h) (fun r6 μ6 hp6 h => ?_)
      refine qa_ald0 dX8_never_46 ?_
      refine qa_getR dX8_never_47 lf_X8_57 rfl sh_1 (by decide) (pp_1_11 hp6) (by decide) ?_
      refine qa_getI dX8_never_50 lf_X8_296 (Or.inl rfl) sh_42 (by decide) ?_
      refine qa_iconst (v := -1) dX8_never_53 (by decide) ?_
      refine qa_ixor dX8_never_54 ?_
      refine qa_iand dX8_never_55 ?_
      exact qa_iret rfl dX8_never_56 ⟨rfl, rfl⟩ ⟨rfl, hp6, _, rfl, h⟩
    · have h := h.2 c5
      refine qa_iconst (v := -1) dX8_never_32 (by decide) ?_
      refine qa_goto (tgt := 56) dX8_never_33 (by decide) ?_
      exact qa_iret rfl dX8_never_56 ⟨rfl, rfl⟩ ⟨rfl, hp4, _, rfl, h⟩
  · have h := h.2 c2
    refine qa_ild2 dX8_never_10 ?_
    exact qa_iret rfl dX8_never_11 ⟨rfl, rfl⟩ ⟨rfl, hp1, _, rfl, h⟩
def wX8_noon_18 : Nat → Int32 → Int32 → Int32 → Int32 → qa_M → (Int32 → qa_M → Prop) → Prop
  | 0, _, _, _, _, _, _ => False
  | n + 1, v1, v2, v3, v4, μ0, Q => (((μ0.1 (μ0.2.2 1 2) 5) ≤ v4 → Q v2 μ0) ∧ (¬ (μ0.1 (μ0.2.2 1 2) 5) ≤ v4 → wX7_spot n 32 v4 v1 μ0 (fun r4 μ4 => vp_in r4 8 ∧ ∀ x5, x5 = (μ4.1 ((μ0.2.2 1 2) + 2) r4.toNatClampNeg) → ((x5 ≤ v3 → wX8_noon_18 n v1 v2 v3 (v4 + (1 : Int32)) μ4 Q) ∧ (¬ x5 ≤ v3 → wX8_noon_18 n v1 v4 x5 (v4 + (1 : Int32)) μ4 Q)))))
def wX8_noon (n : Nat) (v1 : Int32) (μ0 : qa_M) (Q : Int32 → qa_M → Prop) : Prop := wX8_isWeek n v1 μ0 (fun r1 μ1 => ((¬ r1 = 0 → wX8_noon_18 n v1 (-1 : Int32) (-1 : Int32) (0 : Int32) μ1  Q) ∧ (r1 = 0 → Q (-2 : Int32) μ1)))
theorem tX8_noon_18 (l : Launch)  {Q : Int32 → qa_M → Prop}  : ∀ (n : Nat) (v1 : Int32) (v2 : Int32) (v3 : Int32) (v4 : Int32) (μ0 : qa_M), qa_PP μ0.2.2 → wX8_noon_18 n v1 v2 v3 v4 μ0  Q → qa_G l yX8_noon cX8_noon 6 (some .int) 2 0 0 (qa_pI Q) 0 0 18 [some (.ref 1), some (.int v1), some (.int v2), some (.int v3), some (.int v4), none] [] 113 μ0 := by
  intro n
  induction n with
  | zero =>
    intro v1 v2 v3 v4 μ0 hp0  h
    rw [wX8_noon_18] at h
    exact h.elim
  | succ n ih =>
    intro v1 v2 v3 v4 μ0 hp0  h
    rw [wX8_noon_18] at h
    refine qa_ild4 dX8_noon_18 ?_
    refine qa_ald0 dX8_noon_20 ?_
    refine qa_getR dX8_noon_21 lf_X8_19 rfl sh_1 (by decide) rfl (qa_tw0 hp0.2.1) ?_
    refine qa_getI dX8_noon_24 lf_X8_158 (Or.inl rfl) (st_0 hp0.2.1) (tle_0 hp0.2.1) ?_
    refine qa_icmp_ge (tgt := 68) dX8_noon_27 (by decide) (fun c3 => ?_) (fun c3 => ?_)
    · have h := h.1 c3
      refine qa_ild2 dX8_noon_68 ?_
      exact qa_iret rfl dX8_noon_69 ⟨rfl, rfl⟩ ⟨rfl, hp0, _, rfl, h⟩
    · have h := h.2 c3
      refine qa_ald0 dX8_noon_30 ?_
      refine qa_getR dX8_noon_31 lf_X8_19 rfl sh_1 (by decide) rfl (qa_tw0 hp0.2.1) ?_
      refine qa_getR dX8_noon_34 lf_X8_120 rfl (st_0 hp0.2.1) (tle_0 hp0.2.1) (pt_12 hp0 hp0.2.1) (Nat.succ_pos _) ?_
      refine qa_ald0 dX8_noon_37 ?_
      refine qa_getR dX8_noon_38 lf_X8_47 rfl sh_1 (by decide) (pp_1_9 hp0) (by decide) ?_
      refine qa_ild4 dX8_noon_41 ?_
      refine qa_ild1 dX8_noon_43 ?_
      refine qa_V2I dX8_noon_44 lm_X8_155 (sy_0 (Or.inl rfl)) rfl (yle_0 (Or.inl rfl)) (by decide) (Nat.le_of_ble_eq_true rfl) (tX7_spot l hp0 (Or.inl rfl) h) (fun r4 μ4 hp4 h => ?_)
      refine qa_iald dX8_noon_47 (st_2 hp0.2.1) (tle_2 hp0.2.1) h.1 ?_
      have h := h.2
      refine qa_nmI (fun x5 e5 => ?_)
      have h := h x5 e5
      refine qa_ist5 dX8_noon_48 ?_
      refine qa_ild5 dX8_noon_50 ?_
      refine qa_ild3 dX8_noon_52 ?_
      refine qa_icmp_le (tgt := 62) dX8_noon_53 (by decide) (fun c6 => ?_) (fun c6 => ?_)
      · have h := h.1 c6
        refine qa_inc4 dX8_noon_62 (qa_io1 _) ?_
        refine qa_goto (tgt := 18) dX8_noon_65 (by decide) ?_
        refine qa_fgt (L' := [some (.ref 1), some (.int v1), some (.int v2), some (.int v3), some (.int (v4 + (1 : Int32))), none]) (⟨rfl, ⟨rfl, ⟨rfl, ⟨rfl, ⟨rfl, trivial⟩⟩⟩⟩⟩) ?_
        exact ih v1 v2 v3 (v4 + (1 : Int32)) μ4 hp4  h
      · have h := h.2 c6
        refine qa_ild5 dX8_noon_56 ?_
        refine qa_ist3 dX8_noon_58 ?_
        refine qa_ild4 dX8_noon_59 ?_
        refine qa_ist2 dX8_noon_61 ?_
        refine qa_inc4 dX8_noon_62 (qa_io1 _) ?_
        refine qa_goto (tgt := 18) dX8_noon_65 (by decide) ?_
        refine qa_fgt (L' := [some (.ref 1), some (.int v1), some (.int v4), some (.int x5), some (.int (v4 + (1 : Int32))), none]) (⟨rfl, ⟨rfl, ⟨rfl, ⟨rfl, ⟨rfl, trivial⟩⟩⟩⟩⟩) ?_
        exact ih v1 v4 x5 (v4 + (1 : Int32)) μ4 hp4  h
theorem tX8_noon (l : Launch) {n : Nat} {v1 : Int32} {μ0 : qa_M} {Q : Int32 → qa_M → Prop} (hp0 : qa_PP μ0.2.2)  (h : wX8_noon n v1 μ0 Q) : qa_Met l yX8_noon cX8_noon 6 (some .int) 2 0 0 [.ref 1, .int v1] 113 μ0 (qa_pI Q) := by
  refine qa_ofG (by decide) (Nat.le_of_ble_eq_true rfl) ?_
  unfold wX8_noon at h
  change qa_G l yX8_noon cX8_noon 6 (some .int) 2 0 0 (qa_pI Q) 0 0 0 [some (.ref 1), some (.int v1), none, none, none, none] [] 113 μ0
  refine qa_ald0 dX8_noon_0 ?_
  refine qa_ild1 dX8_noon_1 ?_
  refine qa_V1I dX8_noon_2 lm_X8_152 sh_1 rfl (by decide) (by decide) (Nat.le_of_ble_eq_true rfl) (tX8_isWeek l hp0  h) (fun r1 μ1 hp1 h => ?_)
  refine qa_if_ne (tgt := 11) dX8_noon_5 (by decide) (fun c2 => ?_) (fun c2 => ?_)
  · have h := h.1 c2
    refine qa_iconst (v := -1) dX8_noon_11 (by decide) ?_
    refine qa_ist2 dX8_noon_12 ?_
    refine qa_iconst (v := -1) dX8_noon_13 (by decide) ?_
    refine qa_ist3 dX8_noon_14 ?_
    refine qa_iconst (v := 0) dX8_noon_15 (by decide) ?_
    refine qa_ist4 dX8_noon_16 ?_
    refine qa_fgt (L' := [some (.ref 1), some (.int v1), some (.int (-1 : Int32)), some (.int (-1 : Int32)), some (.int (0 : Int32)), none]) (⟨rfl, ⟨rfl, ⟨rfl, ⟨rfl, ⟨rfl, trivial⟩⟩⟩⟩⟩) ?_
    refine tX8_noon_18 l  n v1 (-1 : Int32) (-1 : Int32) (0 : Int32) μ1 hp1  h
  · have h := h.2 c2
    refine qa_bipush (v := -2) dX8_noon_8 (by decide) ?_
    exact qa_iret rfl dX8_noon_10 ⟨rfl, rfl⟩ ⟨rfl, hp1, _, rfl, h⟩
def wX8_nose_15 : Nat → Int32 → Int32 → Int32 → qa_M → (Int32 → qa_M → Prop) → Prop
  | 0, _, _, _, _, _ => False
  | n + 1, v1, v2, v3, μ0, Q => (((μ0.1 (μ0.2.2 1 2) 1) < v3 → Q v2 μ0) ∧ (¬ (μ0.1 (μ0.2.2 1 2) 1) < v3 → wX7_spot n 32 v1 v3 μ0 (fun r4 μ4 => vp_in r4 8 ∧ ∀ x5, x5 = (v2 + (μ4.1 ((μ0.2.2 1 2) + 3) r4.toNatClampNeg)) → wX8_nose_15 n v1 x5 (v3 + (1 : Int32)) μ4 Q)))
def wX8_nose (n : Nat) (v1 : Int32) (μ0 : qa_M) (Q : Int32 → qa_M → Prop) : Prop := wX8_isHouse n v1 μ0 (fun r1 μ1 => ((¬ r1 = 0 → wX8_nose_15 n v1 (0 : Int32) (0 : Int32) μ1  Q) ∧ (r1 = 0 → Q (-2 : Int32) μ1)))
theorem tX8_nose_15 (l : Launch)  {Q : Int32 → qa_M → Prop}  : ∀ (n : Nat) (v1 : Int32) (v2 : Int32) (v3 : Int32) (μ0 : qa_M), qa_PP μ0.2.2 → wX8_nose_15 n v1 v2 v3 μ0  Q → qa_G l yX8_nose cX8_nose 4 (some .int) 1 0 0 (qa_pI Q) 0 0 15 [some (.ref 1), some (.int v1), some (.int v2), some (.int v3)] [] 113 μ0 := by
  intro n
  induction n with
  | zero =>
    intro v1 v2 v3 μ0 hp0  h
    rw [wX8_nose_15] at h
    exact h.elim
  | succ n ih =>
    intro v1 v2 v3 μ0 hp0  h
    rw [wX8_nose_15] at h
    refine qa_ild3 dX8_nose_15 ?_
    refine qa_ald0 dX8_nose_16 ?_
    refine qa_getR dX8_nose_17 lf_X8_19 rfl sh_1 (by decide) rfl (qa_tw0 hp0.2.1) ?_
    refine qa_getI dX8_nose_20 lf_X8_145 (Or.inl rfl) (st_0 hp0.2.1) (tle_0 hp0.2.1) ?_
    refine qa_icmp_gt (tgt := 52) dX8_nose_23 (by decide) (fun c3 => ?_) (fun c3 => ?_)
    · have h := h.1 c3
      refine qa_ild2 dX8_nose_52 ?_
      exact qa_iret rfl dX8_nose_53 ⟨rfl, rfl⟩ ⟨rfl, hp0, _, rfl, h⟩
    · have h := h.2 c3
      refine qa_ild2 dX8_nose_26 ?_
      refine qa_ald0 dX8_nose_27 ?_
      refine qa_getR dX8_nose_28 lf_X8_19 rfl sh_1 (by decide) rfl (qa_tw0 hp0.2.1) ?_
      refine qa_getR dX8_nose_31 lf_X8_123 rfl (st_0 hp0.2.1) (tle_0 hp0.2.1) (pt_13 hp0 hp0.2.1) (Nat.succ_pos _) ?_
      refine qa_ald0 dX8_nose_34 ?_
      refine qa_getR dX8_nose_35 lf_X8_47 rfl sh_1 (by decide) (pp_1_9 hp0) (by decide) ?_
      refine qa_ild1 dX8_nose_38 ?_
      refine qa_ild3 dX8_nose_39 ?_
      refine qa_V2I dX8_nose_40 lm_X8_155 (sy_0 (Or.inl rfl)) rfl (yle_0 (Or.inl rfl)) (by decide) (Nat.le_of_ble_eq_true rfl) (tX7_spot l hp0 (Or.inl rfl) h) (fun r4 μ4 hp4 h => ?_)
      refine qa_iald dX8_nose_43 (st_3 hp0.2.1) (tle_3 hp0.2.1) h.1 ?_
      have h := h.2
      refine qa_iadd dX8_nose_44 ?_
      refine qa_nmI (fun x5 e5 => ?_)
      have h := h x5 e5
      refine qa_ist2 dX8_nose_45 ?_
      refine qa_inc3 dX8_nose_46 (qa_io1 _) ?_
      refine qa_goto (tgt := 15) dX8_nose_49 (by decide) ?_
      refine qa_fgt (L' := [some (.ref 1), some (.int v1), some (.int x5), some (.int (v3 + (1 : Int32)))]) (⟨rfl, ⟨rfl, ⟨rfl, ⟨rfl, trivial⟩⟩⟩⟩) ?_
      exact ih v1 x5 (v3 + (1 : Int32)) μ4 hp4  h
theorem tX8_nose (l : Launch) {n : Nat} {v1 : Int32} {μ0 : qa_M} {Q : Int32 → qa_M → Prop} (hp0 : qa_PP μ0.2.2)  (h : wX8_nose n v1 μ0 Q) : qa_Met l yX8_nose cX8_nose 4 (some .int) 1 0 0 [.ref 1, .int v1] 113 μ0 (qa_pI Q) := by
  refine qa_ofG (by decide) (Nat.le_of_ble_eq_true rfl) ?_
  unfold wX8_nose at h
  change qa_G l yX8_nose cX8_nose 4 (some .int) 1 0 0 (qa_pI Q) 0 0 0 [some (.ref 1), some (.int v1), none, none] [] 113 μ0
  refine qa_ald0 dX8_nose_0 ?_
  refine qa_ild1 dX8_nose_1 ?_
  refine qa_V1I dX8_nose_2 lm_X8_103 sh_1 rfl (by decide) (by decide) (Nat.le_of_ble_eq_true rfl) (tX8_isHouse l hp0  h) (fun r1 μ1 hp1 h => ?_)
  refine qa_if_ne (tgt := 11) dX8_nose_5 (by decide) (fun c2 => ?_) (fun c2 => ?_)
  · have h := h.1 c2
    refine qa_iconst (v := 0) dX8_nose_11 (by decide) ?_
    refine qa_ist2 dX8_nose_12 ?_
    refine qa_iconst (v := 0) dX8_nose_13 (by decide) ?_
    refine qa_ist3 dX8_nose_14 ?_
    refine qa_fgt (L' := [some (.ref 1), some (.int v1), some (.int (0 : Int32)), some (.int (0 : Int32))]) (⟨rfl, ⟨rfl, ⟨rfl, ⟨rfl, trivial⟩⟩⟩⟩) ?_
    refine tX8_nose_15 l  n v1 (0 : Int32) (0 : Int32) μ1 hp1  h
  · have h := h.2 c2
    refine qa_bipush (v := -2) dX8_nose_8 (by decide) ?_
    exact qa_iret rfl dX8_nose_10 ⟨rfl, rfl⟩ ⟨rfl, hp1, _, rfl, h⟩
def wX8_often_24 : Nat → Int32 → Int32 → Int32 → Int32 → qa_M → (Int32 → qa_M → Prop) → Prop
  | 0, _, _, _, _, _, _ => False
  | n + 1, v1, v2, v3, v4, μ0, Q => (((μ0.1 (μ0.2.2 1 2) 1) < v4 → Q v3 μ0) ∧ (¬ (μ0.1 (μ0.2.2 1 2) 1) < v4 → wX7_spot n 32 v1 v4 μ0 (fun r6 μ6 => ((¬ r6 = v2 → wX8_often_24 n v1 v2 v3 (v4 + (1 : Int32)) μ6 Q) ∧ (r6 = v2 → wX8_often_24 n v1 v2 (v3 + (1 : Int32)) (v4 + (1 : Int32)) μ6 Q)))))
def wX8_often (n : Nat) (v1 : Int32) (v2 : Int32) (μ0 : qa_M) (Q : Int32 → qa_M → Prop) : Prop := wX8_isHouse n v1 μ0 (fun r1 μ1 => ((r1 = 0 → Q (-2 : Int32) μ1) ∧ (¬ r1 = 0 → wX8_isPlace n v2 μ1 (fun r3 μ3 => ((¬ r3 = 0 → wX8_often_24 n v1 v2 (0 : Int32) (0 : Int32) μ3  Q) ∧ (r3 = 0 → Q (-2 : Int32) μ3))))))
theorem tX8_often_24 (l : Launch)  {Q : Int32 → qa_M → Prop}  : ∀ (n : Nat) (v1 : Int32) (v2 : Int32) (v3 : Int32) (v4 : Int32) (μ0 : qa_M), qa_PP μ0.2.2 → wX8_often_24 n v1 v2 v3 v4 μ0  Q → qa_G l yX8_often cX8_often 5 (some .int) 1 0 0 (qa_pI Q) 0 0 24 [some (.ref 1), some (.int v1), some (.int v2), some (.int v3), some (.int v4)] [] 113 μ0 := by
  intro n
  induction n with
  | zero =>
    intro v1 v2 v3 v4 μ0 hp0  h
    rw [wX8_often_24] at h
    exact h.elim
  | succ n ih =>
    intro v1 v2 v3 v4 μ0 hp0  h
    rw [wX8_often_24] at h
    refine qa_ild4 dX8_often_24 ?_
    refine qa_ald0 dX8_often_26 ?_
    refine qa_getR dX8_often_27 lf_X8_19 rfl sh_1 (by decide) rfl (qa_tw0 hp0.2.1) ?_
    refine qa_getI dX8_often_30 lf_X8_145 (Or.inl rfl) (st_0 hp0.2.1) (tle_0 hp0.2.1) ?_
    refine qa_icmp_gt (tgt := 59) dX8_often_33 (by decide) (fun c5 => ?_) (fun c5 => ?_)
    · have h := h.1 c5
      refine qa_ild3 dX8_often_59 ?_
      exact qa_iret rfl dX8_often_60 ⟨rfl, rfl⟩ ⟨rfl, hp0, _, rfl, h⟩
    · have h := h.2 c5
      refine qa_ald0 dX8_often_36 ?_
      refine qa_getR dX8_often_37 lf_X8_47 rfl sh_1 (by decide) (pp_1_9 hp0) (by decide) ?_
      refine qa_ild1 dX8_often_40 ?_
      refine qa_ild4 dX8_often_41 ?_
      refine qa_V2I dX8_often_43 lm_X8_155 (sy_0 (Or.inl rfl)) rfl (yle_0 (Or.inl rfl)) (by decide) (Nat.le_of_ble_eq_true rfl) (tX7_spot l hp0 (Or.inl rfl) h) (fun r6 μ6 hp6 h => ?_)
      refine qa_ild2 dX8_often_46 ?_
      refine qa_icmp_ne (tgt := 53) dX8_often_47 (by decide) (fun c7 => ?_) (fun c7 => ?_)
      · have h := h.1 c7
        refine qa_inc4 dX8_often_53 (qa_io1 _) ?_
        refine qa_goto (tgt := 24) dX8_often_56 (by decide) ?_
        refine qa_fgt (L' := [some (.ref 1), some (.int v1), some (.int v2), some (.int v3), some (.int (v4 + (1 : Int32)))]) (⟨rfl, ⟨rfl, ⟨rfl, ⟨rfl, ⟨rfl, trivial⟩⟩⟩⟩⟩) ?_
        exact ih v1 v2 v3 (v4 + (1 : Int32)) μ6 hp6  h
      · have h := h.2 c7
        refine qa_inc3 dX8_often_50 (qa_io1 _) ?_
        refine qa_inc4 dX8_often_53 (qa_io1 _) ?_
        refine qa_goto (tgt := 24) dX8_often_56 (by decide) ?_
        refine qa_fgt (L' := [some (.ref 1), some (.int v1), some (.int v2), some (.int (v3 + (1 : Int32))), some (.int (v4 + (1 : Int32)))]) (⟨rfl, ⟨rfl, ⟨rfl, ⟨rfl, ⟨rfl, trivial⟩⟩⟩⟩⟩) ?_
        exact ih v1 v2 (v3 + (1 : Int32)) (v4 + (1 : Int32)) μ6 hp6  h
theorem tX8_often (l : Launch) {n : Nat} {v1 : Int32} {v2 : Int32} {μ0 : qa_M} {Q : Int32 → qa_M → Prop} (hp0 : qa_PP μ0.2.2)  (h : wX8_often n v1 v2 μ0 Q) : qa_Met l yX8_often cX8_often 5 (some .int) 1 0 0 [.ref 1, .int v1, .int v2] 113 μ0 (qa_pI Q) := by
  refine qa_ofG (by decide) (Nat.le_of_ble_eq_true rfl) ?_
  unfold wX8_often at h
  change qa_G l yX8_often cX8_often 5 (some .int) 1 0 0 (qa_pI Q) 0 0 0 [some (.ref 1), some (.int v1), some (.int v2), none, none] [] 113 μ0
  refine qa_ald0 dX8_often_0 ?_
  refine qa_ild1 dX8_often_1 ?_
  refine qa_V1I dX8_often_2 lm_X8_103 sh_1 rfl (by decide) (by decide) (Nat.le_of_ble_eq_true rfl) (tX8_isHouse l hp0  h) (fun r1 μ1 hp1 h => ?_)
  refine qa_if_eq (tgt := 16) dX8_often_5 (by decide) (fun c2 => ?_) (fun c2 => ?_)
  · have h := h.1 c2
    refine qa_bipush (v := -2) dX8_often_16 (by decide) ?_
    exact qa_iret rfl dX8_often_18 ⟨rfl, rfl⟩ ⟨rfl, hp1, _, rfl, h⟩
  · have h := h.2 c2
    refine qa_ald0 dX8_often_8 ?_
    refine qa_ild2 dX8_often_9 ?_
    refine qa_V1I dX8_often_10 lm_X8_117 sh_1 rfl (by decide) (by decide) (Nat.le_of_ble_eq_true rfl) (tX8_isPlace l hp1  h) (fun r3 μ3 hp3 h => ?_)
    refine qa_if_ne (tgt := 19) dX8_often_13 (by decide) (fun c4 => ?_) (fun c4 => ?_)
    · have h := h.1 c4
      refine qa_iconst (v := 0) dX8_often_19 (by decide) ?_
      refine qa_ist3 dX8_often_20 ?_
      refine qa_iconst (v := 0) dX8_often_21 (by decide) ?_
      refine qa_ist4 dX8_often_22 ?_
      refine qa_fgt (L' := [some (.ref 1), some (.int v1), some (.int v2), some (.int (0 : Int32)), some (.int (0 : Int32))]) (⟨rfl, ⟨rfl, ⟨rfl, ⟨rfl, ⟨rfl, trivial⟩⟩⟩⟩⟩) ?_
      refine tX8_often_24 l  n v1 v2 (0 : Int32) (0 : Int32) μ3 hp3  h
    · have h := h.2 c4
      refine qa_bipush (v := -2) dX8_often_16 (by decide) ?_
      exact qa_iret rfl dX8_often_18 ⟨rfl, rfl⟩ ⟨rfl, hp3, _, rfl, h⟩
def wX8_pale_59 (n : Nat) (v3 : Int32) (v4 : Int32) (μ0 : qa_M) (K0 : Int32 → Int32 → Int32 → qa_M → Prop) (Q : Int32 → qa_M → Prop) : Prop := K0 v3 v4 (v3 + (1 : Int32)) μ0
def wX8_pale_16 : Nat → Int32 → Int32 → Int32 → qa_M → (Int32 → qa_M → Prop) → Prop
  | 0, _, _, _, _, _ => False
  | n + 1, v1, v2, v3, μ0, Q => (((μ0.1 (μ0.2.2 1 2) 5) ≤ v3 → Q v1 μ0) ∧ (¬ (μ0.1 (μ0.2.2 1 2) 5) ≤ v3 → wX7_sunTo n 32 (μ0.2.2 1 2) v3 (μ0.1 (μ0.2.2 1 2) 1) μ0 (fun r4 μ4 => ((v1 = (-1 : Int32) → wX8_pale_59 n v3 r4 μ4 (fun v1 v2 v3 μk => wX8_pale_16 n v1 v2 v3 μk Q) Q) ∧ (¬ v1 = (-1 : Int32) → ((v2 ≤ r4 → wX8_pale_16 n v1 v2 (v3 + (1 : Int32)) μ4 Q) ∧ (¬ v2 ≤ r4 → wX8_pale_59 n v3 r4 μ4 (fun v1 v2 v3 μk => wX8_pale_16 n v1 v2 v3 μk Q) Q)))))))
def wX8_pale (n : Nat)  (μ0 : qa_M) (Q : Int32 → qa_M → Prop) : Prop := wX8_hasTown n  μ0 (fun r1 μ1 => ((¬ r1 = 0 → wX8_pale_16 n (-1 : Int32) (0 : Int32) (0 : Int32) μ1  Q) ∧ (r1 = 0 → Q (-2 : Int32) μ1)))
theorem tX8_pale_59 (l : Launch) {K0 : Int32 → Int32 → Int32 → qa_M → Prop} {Q : Int32 → qa_M → Prop} (hK0 : ∀ (v1 : Int32) (v2 : Int32) (v3 : Int32) (μ : qa_M), qa_PP μ.2.2 → K0 v1 v2 v3 μ → qa_G l yX8_pale cX8_pale 5 (some .int) 2 0 0 (qa_pI Q) 0 0 16 [some (.ref 1), some (.int v1), some (.int v2), some (.int v3), none] [] 113 μ) : ∀ (n : Nat) (v3 : Int32) (v4 : Int32) (μ0 : qa_M), qa_PP μ0.2.2 → wX8_pale_59 n v3 v4 μ0 K0 Q → qa_G l yX8_pale cX8_pale 5 (some .int) 2 0 0 (qa_pI Q) 0 0 59 [some (.ref 1), none, none, some (.int v3), some (.int v4)] [] 113 μ0 := by
  intro n
  intro v3 v4 μ0 hp0  h
  unfold wX8_pale_59 at h
  refine qa_ild4 dX8_pale_59 ?_
  refine qa_ist2 dX8_pale_61 ?_
  refine qa_ild3 dX8_pale_62 ?_
  refine qa_ist1 dX8_pale_63 ?_
  refine qa_inc3 dX8_pale_64 (qa_io1 _) ?_
  refine qa_goto (tgt := 16) dX8_pale_67 (by decide) ?_
  refine qa_fgt (L' := [some (.ref 1), some (.int v3), some (.int v4), some (.int (v3 + (1 : Int32))), none]) (⟨rfl, ⟨rfl, ⟨rfl, ⟨rfl, trivial⟩⟩⟩⟩) ?_
  exact hK0 v3 v4 (v3 + (1 : Int32)) μ0 hp0  h
theorem tX8_pale_16 (l : Launch)  {Q : Int32 → qa_M → Prop}  : ∀ (n : Nat) (v1 : Int32) (v2 : Int32) (v3 : Int32) (μ0 : qa_M), qa_PP μ0.2.2 → wX8_pale_16 n v1 v2 v3 μ0  Q → qa_G l yX8_pale cX8_pale 5 (some .int) 2 0 0 (qa_pI Q) 0 0 16 [some (.ref 1), some (.int v1), some (.int v2), some (.int v3), none] [] 113 μ0 := by
  intro n
  induction n with
  | zero =>
    intro v1 v2 v3 μ0 hp0  h
    rw [wX8_pale_16] at h
    exact h.elim
  | succ n ih =>
    intro v1 v2 v3 μ0 hp0  h
    rw [wX8_pale_16] at h
    refine qa_ild3 dX8_pale_16 ?_
    refine qa_ald0 dX8_pale_17 ?_
    refine qa_getR dX8_pale_18 lf_X8_19 rfl sh_1 (by decide) rfl (qa_tw0 hp0.2.1) ?_
    refine qa_getI dX8_pale_21 lf_X8_158 (Or.inl rfl) (st_0 hp0.2.1) (tle_0 hp0.2.1) ?_
    refine qa_icmp_ge (tgt := 70) dX8_pale_24 (by decide) (fun c3 => ?_) (fun c3 => ?_)
    · have h := h.1 c3
      refine qa_ild1 dX8_pale_70 ?_
      exact qa_iret rfl dX8_pale_71 ⟨rfl, rfl⟩ ⟨rfl, hp0, _, rfl, h⟩
    · have h := h.2 c3
      refine qa_ald0 dX8_pale_27 ?_
      refine qa_getR dX8_pale_28 lf_X8_47 rfl sh_1 (by decide) (pp_1_9 hp0) (by decide) ?_
      refine qa_ald0 dX8_pale_31 ?_
      refine qa_getR dX8_pale_32 lf_X8_19 rfl sh_1 (by decide) rfl (qa_tw0 hp0.2.1) ?_
      refine qa_ild3 dX8_pale_35 ?_
      refine qa_ald0 dX8_pale_36 ?_
      refine qa_getR dX8_pale_37 lf_X8_19 rfl sh_1 (by decide) rfl (qa_tw0 hp0.2.1) ?_
      refine qa_getI dX8_pale_40 lf_X8_145 (Or.inl rfl) (st_0 hp0.2.1) (tle_0 hp0.2.1) ?_
      refine qa_V3I dX8_pale_43 lm_X8_185 (sy_0 (Or.inl rfl)) rfl (yle_0 (Or.inl rfl)) (by decide) (Nat.le_of_ble_eq_true rfl) (tX7_sunTo l hp0 (Or.inl rfl) hp0.2.1 h) (fun r4 μ4 hp4 h => ?_)
      refine qa_ist4 dX8_pale_46 ?_
      refine qa_ild1 dX8_pale_48 ?_
      refine qa_iconst (v := -1) dX8_pale_49 (by decide) ?_
      refine qa_icmp_eq (tgt := 59) dX8_pale_50 (by decide) (fun c5 => ?_) (fun c5 => ?_)
      · have h := h.1 c5
        refine qa_fgt (L' := [some (.ref 1), none, none, some (.int v3), some (.int r4)]) (⟨rfl, ⟨rfl, ⟨rfl, trivial⟩⟩⟩) ?_
        refine tX8_pale_59 l ih n v3 r4 μ4 hp4  h
      · have h := h.2 c5
        refine qa_ild4 dX8_pale_53 ?_
        refine qa_ild2 dX8_pale_55 ?_
        refine qa_icmp_ge (tgt := 64) dX8_pale_56 (by decide) (fun c6 => ?_) (fun c6 => ?_)
        · have h := h.1 c6
          refine qa_inc3 dX8_pale_64 (qa_io1 _) ?_
          refine qa_goto (tgt := 16) dX8_pale_67 (by decide) ?_
          refine qa_fgt (L' := [some (.ref 1), some (.int v1), some (.int v2), some (.int (v3 + (1 : Int32))), none]) (⟨rfl, ⟨rfl, ⟨rfl, ⟨rfl, trivial⟩⟩⟩⟩) ?_
          exact ih v1 v2 (v3 + (1 : Int32)) μ4 hp4  h
        · have h := h.2 c6
          refine qa_fgt (L' := [some (.ref 1), none, none, some (.int v3), some (.int r4)]) (⟨rfl, ⟨rfl, ⟨rfl, trivial⟩⟩⟩) ?_
          refine tX8_pale_59 l ih n v3 r4 μ4 hp4  h
theorem tX8_pale (l : Launch) {n : Nat}  {μ0 : qa_M} {Q : Int32 → qa_M → Prop} (hp0 : qa_PP μ0.2.2)  (h : wX8_pale n  μ0 Q) : qa_Met l yX8_pale cX8_pale 5 (some .int) 2 0 0 [.ref 1] 113 μ0 (qa_pI Q) := by
  refine qa_ofG (by decide) (Nat.le_of_ble_eq_true rfl) ?_
  unfold wX8_pale at h
  change qa_G l yX8_pale cX8_pale 5 (some .int) 2 0 0 (qa_pI Q) 0 0 0 [some (.ref 1), none, none, none, none] [] 113 μ0
  refine qa_ald0 dX8_pale_0 ?_
  refine qa_V0I dX8_pale_1 lm_X8_138 sh_1 rfl (by decide) (by decide) (Nat.le_of_ble_eq_true rfl) (tX8_hasTown l hp0  h) (fun r1 μ1 hp1 h => ?_)
  refine qa_if_ne (tgt := 10) dX8_pale_4 (by decide) (fun c2 => ?_) (fun c2 => ?_)
  · have h := h.1 c2
    refine qa_iconst (v := -1) dX8_pale_10 (by decide) ?_
    refine qa_ist1 dX8_pale_11 ?_
    refine qa_iconst (v := 0) dX8_pale_12 (by decide) ?_
    refine qa_ist2 dX8_pale_13 ?_
    refine qa_iconst (v := 0) dX8_pale_14 (by decide) ?_
    refine qa_ist3 dX8_pale_15 ?_
    refine qa_fgt (L' := [some (.ref 1), some (.int (-1 : Int32)), some (.int (0 : Int32)), some (.int (0 : Int32)), none]) (⟨rfl, ⟨rfl, ⟨rfl, ⟨rfl, trivial⟩⟩⟩⟩) ?_
    refine tX8_pale_16 l  n (-1 : Int32) (0 : Int32) (0 : Int32) μ1 hp1  h
  · have h := h.2 c2
    refine qa_bipush (v := -2) dX8_pale_7 (by decide) ?_
    exact qa_iret rfl dX8_pale_9 ⟨rfl, rfl⟩ ⟨rfl, hp1, _, rfl, h⟩
def wX8_paste (n : Nat) (v1 : Int32) (v2 : Int32) (v3 : Int32) (v4 : Int32) (v5 : Int32) (μ0 : qa_M) (Q : Int32 → qa_M → Prop) : Prop := wX8_isSlot n v1 μ0 (fun r1 μ1 => ((r1 = 0 → Q (-2 : Int32) μ1) ∧ (¬ r1 = 0 → wX8_isSlot n v3 μ1 (fun r3 μ3 => ((¬ r3 = 0 → vp_in v1 4 ∧ vp_in v3 4 ∧ wX3_isThere n (83 + 2 * v1.toNatClampNeg) μ3 (fun r7 μ7 => ((r7 = 0 → Q (-6 : Int32) μ7) ∧ (¬ r7 = 0 → wX3_isThere n (83 + 2 * v3.toNatClampNeg) μ7 (fun r9 μ9 => ((¬ r9 = 0 → (((μ9.1 (83 + 2 * v1.toNatClampNeg) 1) = (μ9.1 (83 + 2 * v3.toNatClampNeg) 1) → wX3_spans n (83 + 2 * v1.toNatClampNeg) v2 v5 μ9 (fun r12 μ12 => ((r12 = 0 → Q (-7 : Int32) μ12) ∧ (¬ r12 = 0 → wX3_spans n (83 + 2 * v3.toNatClampNeg) v4 v5 μ12 (fun r14 μ14 => ((¬ r14 = 0 → ¬ v2 < 0 ∧ ¬ v4 < 0 ∧ ¬ v5 < 0 ∧ v2.toNatClampNeg + v5.toNatClampNeg ≤ 60 ∧ v4.toNatClampNeg + v5.toNatClampNeg ≤ 60 ∧ ∀ μ21, μ21 = qa_cpJ μ14 ((83 + 2 * v1.toNatClampNeg) + 1) ((83 + 2 * v3.toNatClampNeg) + 1) v2.toNatClampNeg v4.toNatClampNeg v5.toNatClampNeg → Q (0 : Int32) μ21) ∧ (r14 = 0 → Q (-7 : Int32) μ14))))))) ∧ (¬ (μ9.1 (83 + 2 * v1.toNatClampNeg) 1) = (μ9.1 (83 + 2 * v3.toNatClampNeg) 1) → Q (-8 : Int32) μ9))) ∧ (r9 = 0 → Q (-6 : Int32) μ9))))))) ∧ (r3 = 0 → Q (-2 : Int32) μ3))))))
theorem tX8_paste (l : Launch) {n : Nat} {v1 : Int32} {v2 : Int32} {v3 : Int32} {v4 : Int32} {v5 : Int32} {μ0 : qa_M} {Q : Int32 → qa_M → Prop} (hp0 : qa_PP μ0.2.2)  (h : wX8_paste n v1 v2 v3 v4 v5 μ0 Q) : qa_Met l yX8_paste cX8_paste 8 (some .int) 1 0 0 [.ref 1, .int v1, .int v2, .int v3, .int v4, .int v5] 113 μ0 (qa_pI Q) := by
  refine qa_ofG (by decide) (Nat.le_of_ble_eq_true rfl) ?_
  unfold wX8_paste at h
  change qa_G l yX8_paste cX8_paste 8 (some .int) 1 0 0 (qa_pI Q) 0 0 0 [some (.ref 1), some (.int v1), some (.int v2), some (.int v3), some (.int v4), some (.int v5), none, none] [] 113 μ0
  refine qa_ild1 dX8_paste_0 ?_
  refine qa_S1I dX8_paste_1 lm_X8_310  (by decide) (Nat.le_of_ble_eq_true rfl) (tX8_isSlot l hp0  h) (fun r1 μ1 hp1 h => ?_)
  refine qa_if_eq (tgt := 14) dX8_paste_4 (by decide) (fun c2 => ?_) (fun c2 => ?_)
  · have h := h.1 c2
    refine qa_bipush (v := -2) dX8_paste_14 (by decide) ?_
    exact qa_iret rfl dX8_paste_16 ⟨rfl, rfl⟩ ⟨rfl, hp1, _, rfl, h⟩
  · have h := h.2 c2
    refine qa_ild3 dX8_paste_7 ?_
    refine qa_S1I dX8_paste_8 lm_X8_310  (by decide) (Nat.le_of_ble_eq_true rfl) (tX8_isSlot l hp1  h) (fun r3 μ3 hp3 h => ?_)
    refine qa_if_ne (tgt := 17) dX8_paste_11 (by decide) (fun c4 => ?_) (fun c4 => ?_)
    · have h := h.1 c4
      refine qa_ald0 dX8_paste_17 ?_
      refine qa_getR dX8_paste_18 lf_X8_33 rfl sh_1 (by decide) (pp_1_7 hp3) (by decide) ?_
      refine qa_ild1 dX8_paste_21 ?_
      have b5 := h.1
      have h := h.2
      refine qa_aald (t := 6) dX8_paste_22 sh_30 rfl (by decide) b5 (psl hp3 b5) (qa_rw0 (qa_rwi b5)) ?_
      refine qa_ast6 dX8_paste_23 ?_
      refine qa_ald0 dX8_paste_25 ?_
      refine qa_getR dX8_paste_26 lf_X8_33 rfl sh_1 (by decide) (pp_1_7 hp3) (by decide) ?_
      refine qa_ild3 dX8_paste_29 ?_
      have b6 := h.1
      have h := h.2
      refine qa_aald (t := 6) dX8_paste_30 sh_30 rfl (by decide) b6 (psl hp3 b6) (qa_rw0 (qa_rwi b6)) ?_
      refine qa_ast7 dX8_paste_31 ?_
      refine qa_ald6 dX8_paste_33 ?_
      refine qa_V0I dX8_paste_35 lm_X8_313 (sr_0 (qa_rwi b5)) rfl (rle_0 (qa_rwi b5)) (by decide) (Nat.le_of_ble_eq_true rfl) (tX3_isThere l hp3 (qa_rwi b5) h) (fun r7 μ7 hp7 h => ?_)
      refine qa_if_eq (tgt := 49) dX8_paste_38 (by decide) (fun c8 => ?_) (fun c8 => ?_)
      · have h := h.1 c8
        refine qa_bipush (v := -6) dX8_paste_49 (by decide) ?_
        exact qa_iret rfl dX8_paste_51 ⟨rfl, rfl⟩ ⟨rfl, hp7, _, rfl, h⟩
      · have h := h.2 c8
        refine qa_ald7 dX8_paste_41 ?_
        refine qa_V0I dX8_paste_43 lm_X8_313 (sr_0 (qa_rwi b6)) rfl (rle_0 (qa_rwi b6)) (by decide) (Nat.le_of_ble_eq_true rfl) (tX3_isThere l hp7 (qa_rwi b6) h) (fun r9 μ9 hp9 h => ?_)
        refine qa_if_ne (tgt := 52) dX8_paste_46 (by decide) (fun c10 => ?_) (fun c10 => ?_)
        · have h := h.1 c10
          refine qa_ald6 dX8_paste_52 ?_
          refine qa_getI dX8_paste_54 lf_X8_438 (Or.inl rfl) (sr_0 (qa_rwi b5)) (rle_0 (qa_rwi b5)) ?_
          refine qa_ald7 dX8_paste_57 ?_
          refine qa_getI dX8_paste_59 lf_X8_438 (Or.inl rfl) (sr_0 (qa_rwi b6)) (rle_0 (qa_rwi b6)) ?_
          refine qa_icmp_eq (tgt := 68) dX8_paste_62 (by decide) (fun c11 => ?_) (fun c11 => ?_)
          · have h := h.1 c11
            refine qa_ald6 dX8_paste_68 ?_
            refine qa_ild2 dX8_paste_70 ?_
            refine qa_ild5 dX8_paste_71 ?_
            refine qa_V2I dX8_paste_73 lm_X8_445 (sr_0 (qa_rwi b5)) rfl (rle_0 (qa_rwi b5)) (by decide) (Nat.le_of_ble_eq_true rfl) (tX3_spans l hp9 (qa_rwi b5) h) (fun r12 μ12 hp12 h => ?_)
            refine qa_if_eq (tgt := 91) dX8_paste_76 (by decide) (fun c13 => ?_) (fun c13 => ?_)
            · have h := h.1 c13
              refine qa_bipush (v := -7) dX8_paste_91 (by decide) ?_
              exact qa_iret rfl dX8_paste_93 ⟨rfl, rfl⟩ ⟨rfl, hp12, _, rfl, h⟩
            · have h := h.2 c13
              refine qa_ald7 dX8_paste_79 ?_
              refine qa_ild4 dX8_paste_81 ?_
              refine qa_ild5 dX8_paste_83 ?_
              refine qa_V2I dX8_paste_85 lm_X8_445 (sr_0 (qa_rwi b6)) rfl (rle_0 (qa_rwi b6)) (by decide) (Nat.le_of_ble_eq_true rfl) (tX3_spans l hp12 (qa_rwi b6) h) (fun r14 μ14 hp14 h => ?_)
              refine qa_if_ne (tgt := 94) dX8_paste_88 (by decide) (fun c15 => ?_) (fun c15 => ?_)
              · have h := h.1 c15
                refine qa_ald6 dX8_paste_94 ?_
                refine qa_getR dX8_paste_96 lf_X8_434 rfl (sr_0 (qa_rwi b5)) (rle_0 (qa_rwi b5)) (pr_0 hp14 (qa_rwi b5)) (Nat.succ_pos _) ?_
                refine qa_ild2 dX8_paste_99 ?_
                refine qa_ald7 dX8_paste_100 ?_
                refine qa_getR dX8_paste_102 lf_X8_434 rfl (sr_0 (qa_rwi b6)) (rle_0 (qa_rwi b6)) (pr_0 hp14 (qa_rwi b6)) (Nat.succ_pos _) ?_
                refine qa_ild4 dX8_paste_105 ?_
                refine qa_ild5 dX8_paste_107 ?_
                have b16 := h.1
                have h := h.2
                have b17 := h.1
                have h := h.2
                have b18 := h.1
                have h := h.2
                have b19 := h.1
                have h := h.2
                have b20 := h.1
                have h := h.2
                refine qa_copyJ dX8_paste_109 lac_X8_448 lac_n lac_s lac_i (sr_1 (qa_rwi b5)) (sr_1 (qa_rwi b6)) (rle_1 (qa_rwi b5)) (rle_1 (qa_rwi b6)) b16 b17 b18 b19 b20 (by decide) ?_
                refine qa_nmM (fun μ21 em21 => ?_)
                have h := h μ21 em21
                have hp21 : qa_PP μ21.2.2 := by rw [em21]; exact hp14
                refine qa_iconst (v := 0) dX8_paste_112 (by decide) ?_
                exact qa_iret rfl dX8_paste_113 ⟨rfl, rfl⟩ ⟨rfl, hp21, _, rfl, h⟩
              · have h := h.2 c15
                refine qa_bipush (v := -7) dX8_paste_91 (by decide) ?_
                exact qa_iret rfl dX8_paste_93 ⟨rfl, rfl⟩ ⟨rfl, hp14, _, rfl, h⟩
          · have h := h.2 c11
            refine qa_bipush (v := -8) dX8_paste_65 (by decide) ?_
            exact qa_iret rfl dX8_paste_67 ⟨rfl, rfl⟩ ⟨rfl, hp9, _, rfl, h⟩
        · have h := h.2 c10
          refine qa_bipush (v := -6) dX8_paste_49 (by decide) ?_
          exact qa_iret rfl dX8_paste_51 ⟨rfl, rfl⟩ ⟨rfl, hp9, _, rfl, h⟩
    · have h := h.2 c4
      refine qa_bipush (v := -2) dX8_paste_14 (by decide) ?_
      exact qa_iret rfl dX8_paste_16 ⟨rfl, rfl⟩ ⟨rfl, hp3, _, rfl, h⟩
def wX8_place (n : Nat) (v1 : Int32) (v2 : Int32) (μ0 : qa_M) (Q : Int32 → qa_M → Prop) : Prop := wX8_isPlace n v1 μ0 (fun r1 μ1 => ((¬ r1 = 0 → ((¬ v2 = 0 → ((¬ v2 = (1 : Int32) → Q (-2 : Int32) μ1) ∧ (v2 = (1 : Int32) → vp_in v1 8 ∧ Q (μ1.1 ((μ1.2.2 1 2) + 3) v1.toNatClampNeg) μ1))) ∧ (v2 = 0 → vp_in v1 8 ∧ Q (μ1.1 ((μ1.2.2 1 2) + 2) v1.toNatClampNeg) μ1))) ∧ (r1 = 0 → Q (-2 : Int32) μ1)))
theorem tX8_place (l : Launch) {n : Nat} {v1 : Int32} {v2 : Int32} {μ0 : qa_M} {Q : Int32 → qa_M → Prop} (hp0 : qa_PP μ0.2.2)  (h : wX8_place n v1 v2 μ0 Q) : qa_Met l yX8_place cX8_place 3 (some .int) 1 0 0 [.ref 1, .int v1, .int v2] 113 μ0 (qa_pI Q) := by
  refine qa_ofG (by decide) (Nat.le_of_ble_eq_true rfl) ?_
  unfold wX8_place at h
  change qa_G l yX8_place cX8_place 3 (some .int) 1 0 0 (qa_pI Q) 0 0 0 [some (.ref 1), some (.int v1), some (.int v2)] [] 113 μ0
  refine qa_ald0 dX8_place_0 ?_
  refine qa_ild1 dX8_place_1 ?_
  refine qa_V1I dX8_place_2 lm_X8_117 sh_1 rfl (by decide) (by decide) (Nat.le_of_ble_eq_true rfl) (tX8_isPlace l hp0  h) (fun r1 μ1 hp1 h => ?_)
  refine qa_if_ne (tgt := 11) dX8_place_5 (by decide) (fun c2 => ?_) (fun c2 => ?_)
  · have h := h.1 c2
    refine qa_ild2 dX8_place_11 ?_
    refine qa_if_ne (tgt := 25) dX8_place_12 (by decide) (fun c3 => ?_) (fun c3 => ?_)
    · have h := h.1 c3
      refine qa_ild2 dX8_place_25 ?_
      refine qa_iconst (v := 1) dX8_place_26 (by decide) ?_
      refine qa_icmp_ne (tgt := 42) dX8_place_27 (by decide) (fun c4 => ?_) (fun c4 => ?_)
      · have h := h.1 c4
        refine qa_bipush (v := -2) dX8_place_42 (by decide) ?_
        exact qa_iret rfl dX8_place_44 ⟨rfl, rfl⟩ ⟨rfl, hp1, _, rfl, h⟩
      · have h := h.2 c4
        refine qa_ald0 dX8_place_30 ?_
        refine qa_getR dX8_place_31 lf_X8_19 rfl sh_1 (by decide) rfl (qa_tw0 hp1.2.1) ?_
        refine qa_getR dX8_place_34 lf_X8_123 rfl (st_0 hp1.2.1) (tle_0 hp1.2.1) (pt_13 hp1 hp1.2.1) (Nat.succ_pos _) ?_
        refine qa_ild1 dX8_place_37 ?_
        refine qa_iald dX8_place_38 (st_3 hp1.2.1) (tle_3 hp1.2.1) h.1 ?_
        have h := h.2
        refine qa_goto (tgt := 44) dX8_place_39 (by decide) ?_
        exact qa_iret rfl dX8_place_44 ⟨rfl, rfl⟩ ⟨rfl, hp1, _, rfl, h⟩
    · have h := h.2 c3
      refine qa_ald0 dX8_place_15 ?_
      refine qa_getR dX8_place_16 lf_X8_19 rfl sh_1 (by decide) rfl (qa_tw0 hp1.2.1) ?_
      refine qa_getR dX8_place_19 lf_X8_120 rfl (st_0 hp1.2.1) (tle_0 hp1.2.1) (pt_12 hp1 hp1.2.1) (Nat.succ_pos _) ?_
      refine qa_ild1 dX8_place_22 ?_
      refine qa_iald dX8_place_23 (st_2 hp1.2.1) (tle_2 hp1.2.1) h.1 ?_
      have h := h.2
      exact qa_iret rfl dX8_place_24 ⟨rfl, rfl⟩ ⟨rfl, hp1, _, rfl, h⟩
  · have h := h.2 c2
    refine qa_bipush (v := -2) dX8_place_8 (by decide) ?_
    exact qa_iret rfl dX8_place_10 ⟨rfl, rfl⟩ ⟨rfl, hp1, _, rfl, h⟩
