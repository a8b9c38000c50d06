def wX8_post_54 (n : Nat) (v3 : Int32) (v4 : Int32) (μ0 : qa_M) (K0 : Int32 → Int32 → Int32 → qa_M → Prop) (Q : Int32 → qa_M → Prop) : Prop := K0 v3 v4 (v3 + (1 : Int32)) μ0
def wX8_post_16 : Nat → Int32 → Int32 → Int32 → qa_M → (Int32 → qa_M → Prop) → Prop
  | 0, _, _, _, _, _ => False
  | n + 1, v1, v2, v3, μ0, Q => (((30 : Int32) < v3 → Q v1 μ0) ∧ (¬ (30 : Int32) < v3 → wX8_followHeavy n v3 μ0 (fun μ4 => wX7_reachedBits n 37 (μ4.2.2 1 2) μ4 (fun r5 μ5 => wJ6_bitCount_0f7a4 n r5 μ5 (fun r6 μ6 => ((v1 = (-1 : Int32) → wX8_post_54 n v3 r6 μ6 (fun v1 v2 v3 μk => wX8_post_16 n v1 v2 v3 μk Q) Q) ∧ (¬ v1 = (-1 : Int32) → ((r6 ≤ v2 → wX8_post_16 n v1 v2 (v3 + (1 : Int32)) μ6 Q) ∧ (¬ r6 ≤ v2 → wX8_post_54 n v3 r6 μ6 (fun v1 v2 v3 μk => wX8_post_16 n v1 v2 v3 μk Q) Q)))))))))
def wX8_post (n : Nat)  (μ0 : qa_M) (Q : Int32 → qa_M → Prop) : Prop := wX8_hasTown n  μ0 (fun r1 μ1 => ((¬ r1 = 0 → wX8_post_16 n (-1 : Int32) (0 : Int32) (1 : Int32) μ1  Q) ∧ (r1 = 0 → Q (-2 : Int32) μ1)))
theorem tX8_post_54 (l : Launch) {K0 : Int32 → Int32 → Int32 → qa_M → Prop} {Q : Int32 → qa_M → Prop} (hK0 : ∀ (v1 : Int32) (v2 : Int32) (v3 : Int32) (μ : qa_M), qa_PP μ.2.2 → K0 v1 v2 v3 μ → qa_G l yX8_post cX8_post 5 (some .int) 5 0 0 (qa_pI Q) 0 0 16 [some (.ref 1), some (.int v1), some (.int v2), some (.int v3), none] [] 113 μ) : ∀ (n : Nat) (v3 : Int32) (v4 : Int32) (μ0 : qa_M), qa_PP μ0.2.2 → wX8_post_54 n v3 v4 μ0 K0 Q → qa_G l yX8_post cX8_post 5 (some .int) 5 0 0 (qa_pI Q) 0 0 54 [some (.ref 1), none, none, some (.int v3), some (.int v4)] [] 113 μ0 := by
  intro n
  intro v3 v4 μ0 hp0  h
  unfold wX8_post_54 at h
  refine qa_ild4 dX8_post_54 ?_
  refine qa_ist2 dX8_post_56 ?_
  refine qa_ild3 dX8_post_57 ?_
  refine qa_ist1 dX8_post_58 ?_
  refine qa_inc3 dX8_post_59 (qa_io1 _) ?_
  refine qa_goto (tgt := 16) dX8_post_62 (by decide) ?_
  refine qa_fgt (L' := [some (.ref 1), some (.int v3), some (.int v4), some (.int (v3 + (1 : Int32))), none]) (⟨rfl, ⟨rfl, ⟨rfl, ⟨rfl, trivial⟩⟩⟩⟩) ?_
  exact hK0 v3 v4 (v3 + (1 : Int32)) μ0 hp0  h
theorem tX8_post_16 (l : Launch)  {Q : Int32 → qa_M → Prop}  : ∀ (n : Nat) (v1 : Int32) (v2 : Int32) (v3 : Int32) (μ0 : qa_M), qa_PP μ0.2.2 → wX8_post_16 n v1 v2 v3 μ0  Q → qa_G l yX8_post cX8_post 5 (some .int) 5 0 0 (qa_pI Q) 0 0 16 [some (.ref 1), some (.int v1), some (.int v2), some (.int v3), none] [] 113 μ0 := by
  intro n
  induction n with
  | zero =>
    intro v1 v2 v3 μ0 hp0  h
    rw [wX8_post_16] at h
    exact h.elim
  | succ n ih =>
    intro v1 v2 v3 μ0 hp0  h
    rw [wX8_post_16] at h
    refine qa_ild3 dX8_post_16 ?_
    refine qa_bipush (v := 30) dX8_post_17 (by decide) ?_
    refine qa_icmp_gt (tgt := 65) dX8_post_19 (by decide) (fun c3 => ?_) (fun c3 => ?_)
    · have h := h.1 c3
      refine qa_ild1 dX8_post_65 ?_
      exact qa_iret rfl dX8_post_66 ⟨rfl, rfl⟩ ⟨rfl, hp0, _, rfl, h⟩
    · have h := h.2 c3
      refine qa_ald0 dX8_post_22 ?_
      refine qa_ild3 dX8_post_23 ?_
      refine qa_V1V dX8_post_24 lm_X8_252 sh_1 rfl (by decide) (by decide) (Nat.le_of_ble_eq_true rfl) (tX8_followHeavy l hp0  h) (fun μ4 hp4 h => ?_)
      refine qa_ald0 dX8_post_27 ?_
      refine qa_getR dX8_post_28 lf_X8_51 rfl sh_1 (by decide) (pp_1_10 hp4) (by decide) ?_
      refine qa_ald0 dX8_post_31 ?_
      refine qa_getR dX8_post_32 lf_X8_19 rfl sh_1 (by decide) rfl (qa_tw0 hp4.2.1) ?_
      refine qa_V1I dX8_post_35 lm_X8_217 (sy_0 (Or.inr rfl)) rfl (yle_0 (Or.inr rfl)) (by decide) (Nat.le_of_ble_eq_true rfl) (tX7_reachedBits l hp4 (Or.inr rfl) hp4.2.1 h) (fun r5 μ5 hp5 h => ?_)
      refine qa_S1I dX8_post_38 lm_X8_226  (by decide) (Nat.le_of_ble_eq_true rfl) (tJ6_bitCount_0f7a4 l hp5  h) (fun r6 μ6 hp6 h => ?_)
      refine qa_ist4 dX8_post_41 ?_
      refine qa_ild1 dX8_post_43 ?_
      refine qa_iconst (v := -1) dX8_post_44 (by decide) ?_
      refine qa_icmp_eq (tgt := 54) dX8_post_45 (by decide) (fun c7 => ?_) (fun c7 => ?_)
      · have h := h.1 c7
        refine qa_fgt (L' := [some (.ref 1), none, none, some (.int v3), some (.int r6)]) (⟨rfl, ⟨rfl, ⟨rfl, trivial⟩⟩⟩) ?_
        refine tX8_post_54 l ih n v3 r6 μ6 hp6  h
      · have h := h.2 c7
        refine qa_ild4 dX8_post_48 ?_
        refine qa_ild2 dX8_post_50 ?_
        refine qa_icmp_le (tgt := 59) dX8_post_51 (by decide) (fun c8 => ?_) (fun c8 => ?_)
        · have h := h.1 c8
          refine qa_inc3 dX8_post_59 (qa_io1 _) ?_
          refine qa_goto (tgt := 16) dX8_post_62 (by decide) ?_
          refine qa_fgt (L' := [some (.ref 1), some (.int v1), some (.int v2), some (.int (v3 + (1 : Int32))), none]) (⟨rfl, ⟨rfl, ⟨rfl, ⟨rfl, trivial⟩⟩⟩⟩) ?_
          exact ih v1 v2 (v3 + (1 : Int32)) μ6 hp6  h
        · have h := h.2 c8
          refine qa_fgt (L' := [some (.ref 1), none, none, some (.int v3), some (.int r6)]) (⟨rfl, ⟨rfl, ⟨rfl, trivial⟩⟩⟩) ?_
          refine tX8_post_54 l ih n v3 r6 μ6 hp6  h
theorem tX8_post (l : Launch) {n : Nat}  {μ0 : qa_M} {Q : Int32 → qa_M → Prop} (hp0 : qa_PP μ0.2.2)  (h : wX8_post n  μ0 Q) : qa_Met l yX8_post cX8_post 5 (some .int) 5 0 0 [.ref 1] 113 μ0 (qa_pI Q) := by
  refine qa_ofG (by decide) (Nat.le_of_ble_eq_true rfl) ?_
  unfold wX8_post at h
  change qa_G l yX8_post cX8_post 5 (some .int) 5 0 0 (qa_pI Q) 0 0 0 [some (.ref 1), none, none, none, none] [] 113 μ0
  refine qa_ald0 dX8_post_0 ?_
  refine qa_V0I dX8_post_1 lm_X8_138 sh_1 rfl (by decide) (by decide) (Nat.le_of_ble_eq_true rfl) (tX8_hasTown l hp0  h) (fun r1 μ1 hp1 h => ?_)
  refine qa_if_ne (tgt := 10) dX8_post_4 (by decide) (fun c2 => ?_) (fun c2 => ?_)
  · have h := h.1 c2
    refine qa_iconst (v := -1) dX8_post_10 (by decide) ?_
    refine qa_ist1 dX8_post_11 ?_
    refine qa_iconst (v := 0) dX8_post_12 (by decide) ?_
    refine qa_ist2 dX8_post_13 ?_
    refine qa_iconst (v := 1) dX8_post_14 (by decide) ?_
    refine qa_ist3 dX8_post_15 ?_
    refine qa_fgt (L' := [some (.ref 1), some (.int (-1 : Int32)), some (.int (0 : Int32)), some (.int (1 : Int32)), none]) (⟨rfl, ⟨rfl, ⟨rfl, ⟨rfl, trivial⟩⟩⟩⟩) ?_
    refine tX8_post_16 l  n (-1 : Int32) (0 : Int32) (1 : Int32) μ1 hp1  h
  · have h := h.2 c2
    refine qa_bipush (v := -2) dX8_post_7 (by decide) ?_
    exact qa_iret rfl dX8_post_9 ⟨rfl, rfl⟩ ⟨rfl, hp1, _, rfl, h⟩
def wX8_pushes (n : Nat) (v1 : Int32) (v2 : Int32) (μ0 : qa_M) (Q : Int32 → qa_M → Prop) : Prop := wX8_isHouse n v1 μ0 (fun r1 μ1 => ((r1 = 0 → Q (-2 : Int32) μ1) ∧ (¬ r1 = 0 → wX8_isTurningWeek n v2 μ1 (fun r3 μ3 => ((r3 = 0 → Q (-2 : Int32) μ3) ∧ (¬ r3 = 0 → wX7_effort n 32 v1 v2 μ3 (fun r5 μ5 => Q r5 μ5)))))))
theorem tX8_pushes (l : Launch) {n : Nat} {v1 : Int32} {v2 : Int32} {μ0 : qa_M} {Q : Int32 → qa_M → Prop} (hp0 : qa_PP μ0.2.2)  (h : wX8_pushes n v1 v2 μ0 Q) : qa_Met l yX8_pushes cX8_pushes 3 (some .int) 2 0 0 [.ref 1, .int v1, .int v2] 113 μ0 (qa_pI Q) := by
  refine qa_ofG (by decide) (Nat.le_of_ble_eq_true rfl) ?_
  unfold wX8_pushes at h
  change qa_G l yX8_pushes cX8_pushes 3 (some .int) 2 0 0 (qa_pI Q) 0 0 0 [some (.ref 1), some (.int v1), some (.int v2)] [] 113 μ0
  refine qa_ald0 dX8_pushes_0 ?_
  refine qa_ild1 dX8_pushes_1 ?_
  refine qa_V1I dX8_pushes_2 lm_X8_103 sh_1 rfl (by decide) (by decide) (Nat.le_of_ble_eq_true rfl) (tX8_isHouse l hp0  h) (fun r1 μ1 hp1 h => ?_)
  refine qa_if_eq (tgt := 28) dX8_pushes_5 (by decide) (fun c2 => ?_) (fun c2 => ?_)
  · have h := h.1 c2
    refine qa_bipush (v := -2) dX8_pushes_28 (by decide) ?_
    exact qa_iret rfl dX8_pushes_30 ⟨rfl, rfl⟩ ⟨rfl, hp1, _, rfl, h⟩
  · have h := h.2 c2
    refine qa_ald0 dX8_pushes_8 ?_
    refine qa_ild2 dX8_pushes_9 ?_
    refine qa_V1I dX8_pushes_10 lm_X8_165 sh_1 rfl (by decide) (by decide) (Nat.le_of_ble_eq_true rfl) (tX8_isTurningWeek l hp1  h) (fun r3 μ3 hp3 h => ?_)
    refine qa_if_eq (tgt := 28) dX8_pushes_13 (by decide) (fun c4 => ?_) (fun c4 => ?_)
    · have h := h.1 c4
      refine qa_bipush (v := -2) dX8_pushes_28 (by decide) ?_
      exact qa_iret rfl dX8_pushes_30 ⟨rfl, rfl⟩ ⟨rfl, hp3, _, rfl, h⟩
    · have h := h.2 c4
      refine qa_ald0 dX8_pushes_16 ?_
      refine qa_getR dX8_pushes_17 lf_X8_47 rfl sh_1 (by decide) (pp_1_9 hp3) (by decide) ?_
      refine qa_ild1 dX8_pushes_20 ?_
      refine qa_ild2 dX8_pushes_21 ?_
      refine qa_V2I dX8_pushes_22 lm_X8_168 (sy_0 (Or.inl rfl)) rfl (yle_0 (Or.inl rfl)) (by decide) (Nat.le_of_ble_eq_true rfl) (tX7_effort l hp3 (Or.inl rfl) h) (fun r5 μ5 hp5 h => ?_)
      refine qa_goto (tgt := 30) dX8_pushes_25 (by decide) ?_
      exact qa_iret rfl dX8_pushes_30 ⟨rfl, rfl⟩ ⟨rfl, hp5, _, rfl, h⟩
def wX8_rate (n : Nat) (v1 : Int32) (v2 : Int32) (μ0 : qa_M) (Q : Int32 → qa_M → Prop) : Prop := wX8_isHouse n v1 μ0 (fun r1 μ1 => ((r1 = 0 → Q (-2 : Int32) μ1) ∧ (¬ r1 = 0 → ((v2 < 0 → Q (-2 : Int32) μ1) ∧ (¬ v2 < 0 → ((v2 ≤ (40 : Int32) → (((μ1.1 ((μ1.2.2 1 2) + 7) 0) ≤ 0 → vp_in v1 8 ∧ ∀ x6, x6 = (μ1.1 ((μ1.2.2 1 2) + 1) v1.toNatClampNeg) → vp_in v1 8 ∧ ∀ μ7, μ7 = qa_uI μ1 ((μ1.2.2 1 2) + 1) v1.toNatClampNeg v2 → wX8_renew n  μ7 (fun μ8 => Q x6 μ8)) ∧ (¬ (μ1.1 ((μ1.2.2 1 2) + 7) 0) ≤ 0 → Q (-5 : Int32) μ1))) ∧ (¬ v2 ≤ (40 : Int32) → Q (-2 : Int32) μ1)))))))
theorem tX8_rate (l : Launch) {n : Nat} {v1 : Int32} {v2 : Int32} {μ0 : qa_M} {Q : Int32 → qa_M → Prop} (hp0 : qa_PP μ0.2.2)  (h : wX8_rate n v1 v2 μ0 Q) : qa_Met l yX8_rate cX8_rate 4 (some .int) 5 0 0 [.ref 1, .int v1, .int v2] 113 μ0 (qa_pI Q) := by
  refine qa_ofG (by decide) (Nat.le_of_ble_eq_true rfl) ?_
  unfold wX8_rate at h
  change qa_G l yX8_rate cX8_rate 4 (some .int) 5 0 0 (qa_pI Q) 0 0 0 [some (.ref 1), some (.int v1), some (.int v2), none] [] 113 μ0
  refine qa_ald0 dX8_rate_0 ?_
  refine qa_ild1 dX8_rate_1 ?_
  refine qa_V1I dX8_rate_2 lm_X8_103 sh_1 rfl (by decide) (by decide) (Nat.le_of_ble_eq_true rfl) (tX8_isHouse l hp0  h) (fun r1 μ1 hp1 h => ?_)
  refine qa_if_eq (tgt := 18) dX8_rate_5 (by decide) (fun c2 => ?_) (fun c2 => ?_)
  · have h := h.1 c2
    refine qa_bipush (v := -2) dX8_rate_18 (by decide) ?_
    exact qa_iret rfl dX8_rate_20 ⟨rfl, rfl⟩ ⟨rfl, hp1, _, rfl, h⟩
  · have h := h.2 c2
    refine qa_ild2 dX8_rate_8 ?_
    refine qa_if_lt (tgt := 18) dX8_rate_9 (by decide) (fun c3 => ?_) (fun c3 => ?_)
    · have h := h.1 c3
      refine qa_bipush (v := -2) dX8_rate_18 (by decide) ?_
      exact qa_iret rfl dX8_rate_20 ⟨rfl, rfl⟩ ⟨rfl, hp1, _, rfl, h⟩
    · have h := h.2 c3
      refine qa_ild2 dX8_rate_12 ?_
      refine qa_bipush (v := 40) dX8_rate_13 (by decide) ?_
      refine qa_icmp_le (tgt := 21) dX8_rate_15 (by decide) (fun c4 => ?_) (fun c4 => ?_)
      · have h := h.1 c4
        refine qa_ald0 dX8_rate_21 ?_
        refine qa_getR dX8_rate_22 lf_X8_19 rfl sh_1 (by decide) rfl (qa_tw0 hp1.2.1) ?_
        refine qa_getR dX8_rate_25 lf_X8_387 rfl (st_0 hp1.2.1) (tle_0 hp1.2.1) (pt_17 hp1 hp1.2.1) (Nat.succ_pos _) ?_
        refine qa_getI dX8_rate_28 lf_X8_391 (Or.inl rfl) (st_7 hp1.2.1) (tle_7 hp1.2.1) ?_
        refine qa_if_le (tgt := 37) dX8_rate_31 (by decide) (fun c5 => ?_) (fun c5 => ?_)
        · have h := h.1 c5
          refine qa_ald0 dX8_rate_37 ?_
          refine qa_getR dX8_rate_38 lf_X8_19 rfl sh_1 (by decide) rfl (qa_tw0 hp1.2.1) ?_
          refine qa_getR dX8_rate_41 lf_X8_107 rfl (st_0 hp1.2.1) (tle_0 hp1.2.1) (pt_11 hp1 hp1.2.1) (Nat.succ_pos _) ?_
          refine qa_ild1 dX8_rate_44 ?_
          refine qa_iald dX8_rate_45 (st_1 hp1.2.1) (tle_1 hp1.2.1) h.1 ?_
          have h := h.2
          refine qa_nmI (fun x6 e6 => ?_)
          have h := h x6 e6
          refine qa_ist3 dX8_rate_46 ?_
          refine qa_ald0 dX8_rate_47 ?_
          refine qa_getR dX8_rate_48 lf_X8_19 rfl sh_1 (by decide) rfl (qa_tw0 hp1.2.1) ?_
          refine qa_getR dX8_rate_51 lf_X8_107 rfl (st_0 hp1.2.1) (tle_0 hp1.2.1) (pt_11 hp1 hp1.2.1) (Nat.succ_pos _) ?_
          refine qa_ild1 dX8_rate_54 ?_
          refine qa_ild2 dX8_rate_55 ?_
          refine qa_iast dX8_rate_56 (st_1 hp1.2.1) (tle_1 hp1.2.1) h.1 ?_
          have h := h.2
          refine qa_nmM (fun μ7 em7 => ?_)
          have h := h μ7 em7
          have hp7 : qa_PP μ7.2.2 := by rw [em7]; exact hp1
          refine qa_ald0 dX8_rate_57 ?_
          refine qa_V0V dX8_rate_58 lm_X8_94 sh_1 rfl (by decide) (by decide) (Nat.le_of_ble_eq_true rfl) (tX8_renew l hp7  h) (fun μ8 hp8 h => ?_)
          refine qa_ild3 dX8_rate_61 ?_
          exact qa_iret rfl dX8_rate_62 ⟨rfl, rfl⟩ ⟨rfl, hp8, _, rfl, h⟩
        · have h := h.2 c5
          refine qa_bipush (v := -5) dX8_rate_34 (by decide) ?_
          exact qa_iret rfl dX8_rate_36 ⟨rfl, rfl⟩ ⟨rfl, hp1, _, rfl, h⟩
      · have h := h.2 c4
        refine qa_bipush (v := -2) dX8_rate_18 (by decide) ?_
        exact qa_iret rfl dX8_rate_20 ⟨rfl, rfl⟩ ⟨rfl, hp1, _, rfl, h⟩
def wX8_rest (n : Nat) (v1 : Int32) (v2 : Int32) (μ0 : qa_M) (Q : Int32 → qa_M → Prop) : Prop := wX8_isHouse n v1 μ0 (fun r1 μ1 => ((r1 = 0 → Q (-2 : Int32) μ1) ∧ (¬ r1 = 0 → wX8_isTurningWeek n v2 μ1 (fun r3 μ3 => ((¬ r3 = 0 → wX8_act n v1 (-1 : Int32) v2 μ3 (fun r5 μ5 => Q r5 μ5)) ∧ (r3 = 0 → Q (-2 : Int32) μ3))))))
theorem tX8_rest (l : Launch) {n : Nat} {v1 : Int32} {v2 : Int32} {μ0 : qa_M} {Q : Int32 → qa_M → Prop} (hp0 : qa_PP μ0.2.2)  (h : wX8_rest n v1 v2 μ0 Q) : qa_Met l yX8_rest cX8_rest 3 (some .int) 6 0 0 [.ref 1, .int v1, .int v2] 113 μ0 (qa_pI Q) := by
  refine qa_ofG (by decide) (Nat.le_of_ble_eq_true rfl) ?_
  unfold wX8_rest at h
  change qa_G l yX8_rest cX8_rest 3 (some .int) 6 0 0 (qa_pI Q) 0 0 0 [some (.ref 1), some (.int v1), some (.int v2)] [] 113 μ0
  refine qa_ald0 dX8_rest_0 ?_
  refine qa_ild1 dX8_rest_1 ?_
  refine qa_V1I dX8_rest_2 lm_X8_103 sh_1 rfl (by decide) (by decide) (Nat.le_of_ble_eq_true rfl) (tX8_isHouse l hp0  h) (fun r1 μ1 hp1 h => ?_)
  refine qa_if_eq (tgt := 16) dX8_rest_5 (by decide) (fun c2 => ?_) (fun c2 => ?_)
  · have h := h.1 c2
    refine qa_bipush (v := -2) dX8_rest_16 (by decide) ?_
    exact qa_iret rfl dX8_rest_18 ⟨rfl, rfl⟩ ⟨rfl, hp1, _, rfl, h⟩
  · have h := h.2 c2
    refine qa_ald0 dX8_rest_8 ?_
    refine qa_ild2 dX8_rest_9 ?_
    refine qa_V1I dX8_rest_10 lm_X8_165 sh_1 rfl (by decide) (by decide) (Nat.le_of_ble_eq_true rfl) (tX8_isTurningWeek l hp1  h) (fun r3 μ3 hp3 h => ?_)
    refine qa_if_ne (tgt := 19) dX8_rest_13 (by decide) (fun c4 => ?_) (fun c4 => ?_)
    · have h := h.1 c4
      refine qa_ald0 dX8_rest_19 ?_
      refine qa_ild1 dX8_rest_20 ?_
      refine qa_iconst (v := -1) dX8_rest_21 (by decide) ?_
      refine qa_ild2 dX8_rest_22 ?_
      refine qa_V3I dX8_rest_23 lm_X8_384 sh_1 rfl (by decide) (by decide) (Nat.le_of_ble_eq_true rfl) (tX8_act l hp3  h) (fun r5 μ5 hp5 h => ?_)
      exact qa_iret rfl dX8_rest_26 ⟨rfl, rfl⟩ ⟨rfl, hp5, _, rfl, h⟩
    · have h := h.2 c4
      refine qa_bipush (v := -2) dX8_rest_16 (by decide) ?_
      exact qa_iret rfl dX8_rest_18 ⟨rfl, rfl⟩ ⟨rfl, hp3, _, rfl, h⟩
def wX8_rests_65 (n : Nat) (v1 : Int32) (v2 : Int32) (v3 : Int32) (v4 : Int32) (v5 : Int32) (v6 : Int32) (s0 : Int32) (μ0 : qa_M) (K0 : Int32 → Int32 → Int32 → Int32 → qa_M → Prop) (Q : Int32 → qa_M → Prop) : Prop := ((s0 = 0 → K0 v1 v2 v3 (v4 + (1 : Int32)) μ0) ∧ (¬ s0 = 0 → wX8_gain n v2 v1 v6 v5 μ0 (fun r10 μ10 => wX8_gain n v2 v1 ((1 : Int32) - v6) v5 μ10 (fun r11 μ11 => ((r10 < r11 → K0 v1 v2 v3 (v4 + (1 : Int32)) μ11) ∧ (¬ r10 < r11 → ∀ x13, x13 = (v3 ||| ((1 : Int32) <<< (v4 &&& 31))) → K0 v1 v2 x13 (v4 + (1 : Int32)) μ11))))))
def wX8_rests_17 : Nat → Int32 → Int32 → Int32 → Int32 → qa_M → (Int32 → qa_M → Prop) → Prop
  | 0, _, _, _, _, _, _ => False
  | n + 1, v1, v2, v3, v4, μ0, Q => (((4 : Int32) ≤ v4 → Q v3 μ0) ∧ (¬ (4 : Int32) ≤ v4 → ∀ x4, x4 = (v4 &&& (1 : Int32)) → ∀ x5, x5 = (v4 >>> ((1 : Int32) &&& 31)) → wX8_gain n v1 v2 x4 x5 μ0 (fun r6 μ6 => wX8_gain n v1 v2 ((1 : Int32) - x4) x5 μ6 (fun r7 μ7 => ((r6 < r7 → wX8_rests_65 n v1 v2 v3 v4 x4 x5 (0 : Int32) μ7 (fun v1 v2 v3 v4 μk => wX8_rests_17 n v1 v2 v3 v4 μk Q) Q) ∧ (¬ r6 < r7 → wX8_rests_65 n v1 v2 v3 v4 x4 x5 (1 : Int32) μ7 (fun v1 v2 v3 v4 μk => wX8_rests_17 n v1 v2 v3 v4 μk Q) Q))))))
def wX8_rests (n : Nat) (v1 : Int32) (v2 : Int32) (μ0 : qa_M) (Q : Int32 → qa_M → Prop) : Prop := wX8_isPair n v1 v2 μ0 (fun r1 μ1 => ((¬ r1 = 0 → wX8_rests_17 n v1 v2 (0 : Int32) (0 : Int32) μ1  Q) ∧ (r1 = 0 → Q (-2 : Int32) μ1)))
theorem tX8_rests_65 (l : Launch) {K0 : Int32 → Int32 → Int32 → Int32 → qa_M → Prop} {Q : Int32 → qa_M → Prop} (hK0 : ∀ (v1 : Int32) (v2 : Int32) (v3 : Int32) (v4 : Int32) (μ : qa_M), qa_PP μ.2.2 → K0 v1 v2 v3 v4 μ → qa_G l yX8_rests cX8_rests 8 (some .int) 5 0 0 (qa_pI Q) 0 0 17 [some (.ref 1), some (.int v1), some (.int v2), some (.int v3), some (.int v4), none, none, none] [] 113 μ) : ∀ (n : Nat) (v1 : Int32) (v2 : Int32) (v3 : Int32) (v4 : Int32) (v5 : Int32) (v6 : Int32) (s0 : Int32) (μ0 : qa_M), qa_PP μ0.2.2 → wX8_rests_65 n v1 v2 v3 v4 v5 v6 s0 μ0 K0 Q → qa_G l yX8_rests cX8_rests 8 (some .int) 5 0 0 (qa_pI Q) 0 0 65 [some (.ref 1), some (.int v1), some (.int v2), some (.int v3), some (.int v4), some (.int v5), some (.int v6), none] [.int s0] 113 μ0 := by
  intro n
  intro v1 v2 v3 v4 v5 v6 s0 μ0 hp0  h
  unfold wX8_rests_65 at h
  refine qa_ist7 dX8_rests_65 ?_
  refine qa_ild7 dX8_rests_67 ?_
  refine qa_if_eq (tgt := 104) dX8_rests_69 (by decide) (fun c9 => ?_) (fun c9 => ?_)
  · have h := h.1 c9
    refine qa_inc4 dX8_rests_104 (qa_io1 _) ?_
    refine qa_goto (tgt := 17) dX8_rests_107 (by decide) ?_
    refine qa_fgt (L' := [some (.ref 1), some (.int v1), some (.int v2), some (.int v3), some (.int (v4 + (1 : Int32))), none, none, none]) (⟨rfl, ⟨rfl, ⟨rfl, ⟨rfl, ⟨rfl, trivial⟩⟩⟩⟩⟩) ?_
    exact hK0 v1 v2 v3 (v4 + (1 : Int32)) μ0 hp0  h
  · have h := h.2 c9
    refine qa_ald0 dX8_rests_72 ?_
    refine qa_ild2 dX8_rests_73 ?_
    refine qa_ild1 dX8_rests_74 ?_
    refine qa_ild6 dX8_rests_75 ?_
    refine qa_ild5 dX8_rests_77 ?_
    refine qa_V4I dX8_rests_79 lm_X8_358 sh_1 rfl (by decide) (by decide) (Nat.le_of_ble_eq_true rfl) (tX8_gain l hp0  h) (fun r10 μ10 hp10 h => ?_)
    refine qa_ald0 dX8_rests_82 ?_
    refine qa_ild2 dX8_rests_83 ?_
    refine qa_ild1 dX8_rests_84 ?_
    refine qa_iconst (v := 1) dX8_rests_85 (by decide) ?_
    refine qa_ild6 dX8_rests_86 ?_
    refine qa_isub dX8_rests_88 ?_
    refine qa_ild5 dX8_rests_89 ?_
    refine qa_V4I dX8_rests_91 lm_X8_358 sh_1 rfl (by decide) (by decide) (Nat.le_of_ble_eq_true rfl) (tX8_gain l hp10  h) (fun r11 μ11 hp11 h => ?_)
    refine qa_icmp_lt (tgt := 104) dX8_rests_94 (by decide) (fun c12 => ?_) (fun c12 => ?_)
    · have h := h.1 c12
      refine qa_inc4 dX8_rests_104 (qa_io1 _) ?_
      refine qa_goto (tgt := 17) dX8_rests_107 (by decide) ?_
      refine qa_fgt (L' := [some (.ref 1), some (.int v1), some (.int v2), some (.int v3), some (.int (v4 + (1 : Int32))), none, none, none]) (⟨rfl, ⟨rfl, ⟨rfl, ⟨rfl, ⟨rfl, trivial⟩⟩⟩⟩⟩) ?_
      exact hK0 v1 v2 v3 (v4 + (1 : Int32)) μ11 hp11  h
    · have h := h.2 c12
      refine qa_ild3 dX8_rests_97 ?_
      refine qa_iconst (v := 1) dX8_rests_98 (by decide) ?_
      refine qa_ild4 dX8_rests_99 ?_
      refine qa_ishl dX8_rests_101 ?_
      refine qa_ior dX8_rests_102 ?_
      refine qa_nmI (fun x13 e13 => ?_)
      have h := h x13 e13
      refine qa_ist3 dX8_rests_103 ?_
      refine qa_inc4 dX8_rests_104 (qa_io1 _) ?_
      refine qa_goto (tgt := 17) dX8_rests_107 (by decide) ?_
      refine qa_fgt (L' := [some (.ref 1), some (.int v1), some (.int v2), some (.int x13), some (.int (v4 + (1 : Int32))), none, none, none]) (⟨rfl, ⟨rfl, ⟨rfl, ⟨rfl, ⟨rfl, trivial⟩⟩⟩⟩⟩) ?_
      exact hK0 v1 v2 x13 (v4 + (1 : Int32)) μ11 hp11  h
theorem tX8_rests_17 (l : Launch)  {Q : Int32 → qa_M → Prop}  : ∀ (n : Nat) (v1 : Int32) (v2 : Int32) (v3 : Int32) (v4 : Int32) (μ0 : qa_M), qa_PP μ0.2.2 → wX8_rests_17 n v1 v2 v3 v4 μ0  Q → qa_G l yX8_rests cX8_rests 8 (some .int) 5 0 0 (qa_pI Q) 0 0 17 [some (.ref 1), some (.int v1), some (.int v2), some (.int v3), some (.int v4), none, none, none] [] 113 μ0 := by
  intro n
  induction n with
  | zero =>
    intro v1 v2 v3 v4 μ0 hp0  h
    rw [wX8_rests_17] at h
    exact h.elim
  | succ n ih =>
    intro v1 v2 v3 v4 μ0 hp0  h
    rw [wX8_rests_17] at h
    refine qa_ild4 dX8_rests_17 ?_
    refine qa_iconst (v := 4) dX8_rests_19 (by decide) ?_
    refine qa_icmp_ge (tgt := 110) dX8_rests_20 (by decide) (fun c3 => ?_) (fun c3 => ?_)
    · have h := h.1 c3
      refine qa_ild3 dX8_rests_110 ?_
      exact qa_iret rfl dX8_rests_111 ⟨rfl, rfl⟩ ⟨rfl, hp0, _, rfl, h⟩
    · have h := h.2 c3
      refine qa_ild4 dX8_rests_23 ?_
      refine qa_iconst (v := 1) dX8_rests_25 (by decide) ?_
      refine qa_iand dX8_rests_26 ?_
      refine qa_nmI (fun x4 e4 => ?_)
      have h := h x4 e4
      refine qa_ist5 dX8_rests_27 ?_
      refine qa_ild4 dX8_rests_29 ?_
      refine qa_iconst (v := 1) dX8_rests_31 (by decide) ?_
      refine qa_ishr dX8_rests_32 ?_
      refine qa_nmI (fun x5 e5 => ?_)
      have h := h x5 e5
      refine qa_ist6 dX8_rests_33 ?_
      refine qa_ald0 dX8_rests_35 ?_
      refine qa_ild1 dX8_rests_36 ?_
      refine qa_ild2 dX8_rests_37 ?_
      refine qa_ild5 dX8_rests_38 ?_
      refine qa_ild6 dX8_rests_40 ?_
      refine qa_V4I dX8_rests_42 lm_X8_358 sh_1 rfl (by decide) (by decide) (Nat.le_of_ble_eq_true rfl) (tX8_gain l hp0  h) (fun r6 μ6 hp6 h => ?_)
      refine qa_ald0 dX8_rests_45 ?_
      refine qa_ild1 dX8_rests_46 ?_
      refine qa_ild2 dX8_rests_47 ?_
      refine qa_iconst (v := 1) dX8_rests_48 (by decide) ?_
      refine qa_ild5 dX8_rests_49 ?_
      refine qa_isub dX8_rests_51 ?_
      refine qa_ild6 dX8_rests_52 ?_
      refine qa_V4I dX8_rests_54 lm_X8_358 sh_1 rfl (by decide) (by decide) (Nat.le_of_ble_eq_true rfl) (tX8_gain l hp6  h) (fun r7 μ7 hp7 h => ?_)
      refine qa_icmp_lt (tgt := 64) dX8_rests_57 (by decide) (fun c8 => ?_) (fun c8 => ?_)
      · have h := h.1 c8
        refine qa_iconst (v := 0) dX8_rests_64 (by decide) ?_
        refine qa_fgt (L' := [some (.ref 1), some (.int v1), some (.int v2), some (.int v3), some (.int v4), some (.int x4), some (.int x5), none]) (⟨rfl, ⟨rfl, ⟨rfl, ⟨rfl, ⟨rfl, ⟨rfl, ⟨rfl, trivial⟩⟩⟩⟩⟩⟩⟩) ?_
        refine tX8_rests_65 l ih n v1 v2 v3 v4 x4 x5 (0 : Int32) μ7 hp7  h
      · have h := h.2 c8
        refine qa_iconst (v := 1) dX8_rests_60 (by decide) ?_
        refine qa_goto (tgt := 65) dX8_rests_61 (by decide) ?_
        refine qa_fgt (L' := [some (.ref 1), some (.int v1), some (.int v2), some (.int v3), some (.int v4), some (.int x4), some (.int x5), none]) (⟨rfl, ⟨rfl, ⟨rfl, ⟨rfl, ⟨rfl, ⟨rfl, ⟨rfl, trivial⟩⟩⟩⟩⟩⟩⟩) ?_
        refine tX8_rests_65 l ih n v1 v2 v3 v4 x4 x5 (1 : Int32) μ7 hp7  h
theorem tX8_rests (l : Launch) {n : Nat} {v1 : Int32} {v2 : Int32} {μ0 : qa_M} {Q : Int32 → qa_M → Prop} (hp0 : qa_PP μ0.2.2)  (h : wX8_rests n v1 v2 μ0 Q) : qa_Met l yX8_rests cX8_rests 8 (some .int) 5 0 0 [.ref 1, .int v1, .int v2] 113 μ0 (qa_pI Q) := by
  refine qa_ofG (by decide) (Nat.le_of_ble_eq_true rfl) ?_
  unfold wX8_rests at h
  change qa_G l yX8_rests cX8_rests 8 (some .int) 5 0 0 (qa_pI Q) 0 0 0 [some (.ref 1), some (.int v1), some (.int v2), none, none, none, none, none] [] 113 μ0
  refine qa_ald0 dX8_rests_0 ?_
  refine qa_ild1 dX8_rests_1 ?_
  refine qa_ild2 dX8_rests_2 ?_
  refine qa_V2I dX8_rests_3 lm_X8_202 sh_1 rfl (by decide) (by decide) (Nat.le_of_ble_eq_true rfl) (tX8_isPair l hp0  h) (fun r1 μ1 hp1 h => ?_)
  refine qa_if_ne (tgt := 12) dX8_rests_6 (by decide) (fun c2 => ?_) (fun c2 => ?_)
  · have h := h.1 c2
    refine qa_iconst (v := 0) dX8_rests_12 (by decide) ?_
    refine qa_ist3 dX8_rests_13 ?_
    refine qa_iconst (v := 0) dX8_rests_14 (by decide) ?_
    refine qa_ist4 dX8_rests_15 ?_
    refine qa_fgt (L' := [some (.ref 1), some (.int v1), some (.int v2), some (.int (0 : Int32)), some (.int (0 : Int32)), none, none, none]) (⟨rfl, ⟨rfl, ⟨rfl, ⟨rfl, ⟨rfl, trivial⟩⟩⟩⟩⟩) ?_
    refine tX8_rests_17 l  n v1 v2 (0 : Int32) (0 : Int32) μ1 hp1  h
  · have h := h.2 c2
    refine qa_bipush (v := -2) dX8_rests_9 (by decide) ?_
    exact qa_iret rfl dX8_rests_11 ⟨rfl, rfl⟩ ⟨rfl, hp1, _, rfl, h⟩
def wX8_right (n : Nat) (v1 : Int32) (μ0 : qa_M) (Q : Int32 → qa_M → Prop) : Prop := wX8_isLetter n v1 μ0 (fun r1 μ1 => ((¬ r1 = 0 → wX7_reaches n 32 (μ1.2.2 1 2) v1 μ1 (fun r3 μ3 => ((r3 = 0 → Q (0 : Int32) μ3) ∧ (¬ r3 = 0 → Q (1 : Int32) μ3)))) ∧ (r1 = 0 → Q (-2 : Int32) μ1)))
theorem tX8_right (l : Launch) {n : Nat} {v1 : Int32} {μ0 : qa_M} {Q : Int32 → qa_M → Prop} (hp0 : qa_PP μ0.2.2)  (h : wX8_right n v1 μ0 Q) : qa_Met l yX8_right cX8_right 2 (some .int) 2 0 0 [.ref 1, .int v1] 113 μ0 (qa_pI Q) := by
  refine qa_ofG (by decide) (Nat.le_of_ble_eq_true rfl) ?_
  unfold wX8_right at h
  change qa_G l yX8_right cX8_right 2 (some .int) 2 0 0 (qa_pI Q) 0 0 0 [some (.ref 1), some (.int v1)] [] 113 μ0
  refine qa_ald0 dX8_right_0 ?_
  refine qa_ild1 dX8_right_1 ?_
  refine qa_V1I dX8_right_2 lm_X8_126 sh_1 rfl (by decide) (by decide) (Nat.le_of_ble_eq_true rfl) (tX8_isLetter l hp0  h) (fun r1 μ1 hp1 h => ?_)
  refine qa_if_ne (tgt := 11) dX8_right_5 (by decide) (fun c2 => ?_) (fun c2 => ?_)
  · have h := h.1 c2
    refine qa_ald0 dX8_right_11 ?_
    refine qa_getR dX8_right_12 lf_X8_47 rfl sh_1 (by decide) (pp_1_9 hp1) (by decide) ?_
    refine qa_ald0 dX8_right_15 ?_
    refine qa_getR dX8_right_16 lf_X8_19 rfl sh_1 (by decide) rfl (qa_tw0 hp1.2.1) ?_
    refine qa_ild1 dX8_right_19 ?_
    refine qa_V2I dX8_right_20 lm_X8_213 (sy_0 (Or.inl rfl)) rfl (yle_0 (Or.inl rfl)) (by decide) (Nat.le_of_ble_eq_true rfl) (tX7_reaches l hp1 (Or.inl rfl) hp1.2.1 h) (fun r3 μ3 hp3 h => ?_)
    refine qa_if_eq (tgt := 30) dX8_right_23 (by decide) (fun c4 => ?_) (fun c4 => ?_)
    · have h := h.1 c4
      refine qa_iconst (v := 0) dX8_right_30 (by decide) ?_
      exact qa_iret rfl dX8_right_31 ⟨rfl, rfl⟩ ⟨rfl, hp3, _, rfl, h⟩
    · have h := h.2 c4
      refine qa_iconst (v := 1) dX8_right_26 (by decide) ?_
      refine qa_goto (tgt := 31) dX8_right_27 (by decide) ?_
      exact qa_iret rfl dX8_right_31 ⟨rfl, rfl⟩ ⟨rfl, hp3, _, rfl, h⟩
  · have h := h.2 c2
    refine qa_bipush (v := -2) dX8_right_8 (by decide) ?_
    exact qa_iret rfl dX8_right_10 ⟨rfl, rfl⟩ ⟨rfl, hp1, _, rfl, h⟩
def wX8_rights (n : Nat)  (μ0 : qa_M) (Q : Int32 → qa_M → Prop) : Prop := wX8_hasTown n  μ0 (fun r1 μ1 => ((r1 = 0 → Q (-2 : Int32) μ1) ∧ (¬ r1 = 0 → wX7_reachedBits n 32 (μ1.2.2 1 2) μ1 (fun r3 μ3 => Q r3 μ3))))
theorem tX8_rights (l : Launch) {n : Nat}  {μ0 : qa_M} {Q : Int32 → qa_M → Prop} (hp0 : qa_PP μ0.2.2)  (h : wX8_rights n  μ0 Q) : qa_Met l yX8_rights cX8_rights 1 (some .int) 3 0 0 [.ref 1] 113 μ0 (qa_pI Q) := by
  refine qa_ofG (by decide) (Nat.le_of_ble_eq_true rfl) ?_
  unfold wX8_rights at h
  change qa_G l yX8_rights cX8_rights 1 (some .int) 3 0 0 (qa_pI Q) 0 0 0 [some (.ref 1)] [] 113 μ0
  refine qa_ald0 dX8_rights_0 ?_
  refine qa_V0I dX8_rights_1 lm_X8_138 sh_1 rfl (by decide) (by decide) (Nat.le_of_ble_eq_true rfl) (tX8_hasTown l hp0  h) (fun r1 μ1 hp1 h => ?_)
  refine qa_if_eq (tgt := 21) dX8_rights_4 (by decide) (fun c2 => ?_) (fun c2 => ?_)
  · have h := h.1 c2
    refine qa_bipush (v := -2) dX8_rights_21 (by decide) ?_
    exact qa_iret rfl dX8_rights_23 ⟨rfl, rfl⟩ ⟨rfl, hp1, _, rfl, h⟩
  · have h := h.2 c2
    refine qa_ald0 dX8_rights_7 ?_
    refine qa_getR dX8_rights_8 lf_X8_47 rfl sh_1 (by decide) (pp_1_9 hp1) (by decide) ?_
    refine qa_ald0 dX8_rights_11 ?_
    refine qa_getR dX8_rights_12 lf_X8_19 rfl sh_1 (by decide) rfl (qa_tw0 hp1.2.1) ?_
    refine qa_V1I dX8_rights_15 lm_X8_217 (sy_0 (Or.inl rfl)) rfl (yle_0 (Or.inl rfl)) (by decide) (Nat.le_of_ble_eq_true rfl) (tX7_reachedBits l hp1 (Or.inl rfl) hp1.2.1 h) (fun r3 μ3 hp3 h => ?_)
    refine qa_goto (tgt := 23) dX8_rights_18 (by decide) ?_
    exact qa_iret rfl dX8_rights_23 ⟨rfl, rfl⟩ ⟨rfl, hp3, _, rfl, h⟩
def wX8_row (n : Nat) (v1 : Int32) (v2 : Int32) (v3 : Int32) (μ0 : qa_M) (Q : Int32 → qa_M → Prop) : Prop := wX8_isSlot n v1 μ0 (fun r1 μ1 => ((r1 = 0 → Q (-2 : Int32) μ1) ∧ (¬ r1 = 0 → ((v2 < 0 → Q (-2 : Int32) μ1) ∧ (¬ v2 < 0 → (((4 : Int32) ≤ v2 → Q (-2 : Int32) μ1) ∧ (¬ (4 : Int32) ≤ v2 → ((v3 ≤ (60 : Int32) → ((0 ≤ v3 → vp_in v1 4 ∧ wX3_begin n (83 + 2 * v1.toNatClampNeg) v2 v3 μ1 (fun μ8 => Q (0 : Int32) μ8)) ∧ (¬ 0 ≤ v3 → Q (-3 : Int32) μ1))) ∧ (¬ v3 ≤ (60 : Int32) → Q (-2 : Int32) μ1)))))))))
theorem tX8_row (l : Launch) {n : Nat} {v1 : Int32} {v2 : Int32} {v3 : Int32} {μ0 : qa_M} {Q : Int32 → qa_M → Prop} (hp0 : qa_PP μ0.2.2)  (h : wX8_row n v1 v2 v3 μ0 Q) : qa_Met l yX8_row cX8_row 4 (some .int) 2 0 0 [.ref 1, .int v1, .int v2, .int v3] 113 μ0 (qa_pI Q) := by
  refine qa_ofG (by decide) (Nat.le_of_ble_eq_true rfl) ?_
  unfold wX8_row at h
  change qa_G l yX8_row cX8_row 4 (some .int) 2 0 0 (qa_pI Q) 0 0 0 [some (.ref 1), some (.int v1), some (.int v2), some (.int v3)] [] 113 μ0
  refine qa_ild1 dX8_row_0 ?_
  refine qa_S1I dX8_row_1 lm_X8_310  (by decide) (Nat.le_of_ble_eq_true rfl) (tX8_isSlot l hp0  h) (fun r1 μ1 hp1 h => ?_)
  refine qa_if_eq (tgt := 22) dX8_row_4 (by decide) (fun c2 => ?_) (fun c2 => ?_)
  · have h := h.1 c2
    refine qa_bipush (v := -2) dX8_row_22 (by decide) ?_
    exact qa_iret rfl dX8_row_24 ⟨rfl, rfl⟩ ⟨rfl, hp1, _, rfl, h⟩
  · have h := h.2 c2
    refine qa_ild2 dX8_row_7 ?_
    refine qa_if_lt (tgt := 22) dX8_row_8 (by decide) (fun c3 => ?_) (fun c3 => ?_)
    · have h := h.1 c3
      refine qa_bipush (v := -2) dX8_row_22 (by decide) ?_
      exact qa_iret rfl dX8_row_24 ⟨rfl, rfl⟩ ⟨rfl, hp1, _, rfl, h⟩
    · have h := h.2 c3
      refine qa_ild2 dX8_row_11 ?_
      refine qa_iconst (v := 4) dX8_row_12 (by decide) ?_
      refine qa_icmp_ge (tgt := 22) dX8_row_13 (by decide) (fun c4 => ?_) (fun c4 => ?_)
      · have h := h.1 c4
        refine qa_bipush (v := -2) dX8_row_22 (by decide) ?_
        exact qa_iret rfl dX8_row_24 ⟨rfl, rfl⟩ ⟨rfl, hp1, _, rfl, h⟩
      · have h := h.2 c4
        refine qa_ild3 dX8_row_16 ?_
        refine qa_bipush (v := 60) dX8_row_17 (by decide) ?_
        refine qa_icmp_le (tgt := 25) dX8_row_19 (by decide) (fun c5 => ?_) (fun c5 => ?_)
        · have h := h.1 c5
          refine qa_ild3 dX8_row_25 ?_
          refine qa_if_ge (tgt := 32) dX8_row_26 (by decide) (fun c6 => ?_) (fun c6 => ?_)
          · have h := h.1 c6
            refine qa_ald0 dX8_row_32 ?_
            refine qa_getR dX8_row_33 lf_X8_33 rfl sh_1 (by decide) (pp_1_7 hp1) (by decide) ?_
            refine qa_ild1 dX8_row_36 ?_
            have b7 := h.1
            have h := h.2
            refine qa_aald (t := 6) dX8_row_37 sh_30 rfl (by decide) b7 (psl hp1 b7) (qa_rw0 (qa_rwi b7)) ?_
            refine qa_ild2 dX8_row_38 ?_
            refine qa_ild3 dX8_row_39 ?_
            refine qa_V2V dX8_row_40 lm_X8_431 (sr_0 (qa_rwi b7)) rfl (rle_0 (qa_rwi b7)) (by decide) (Nat.le_of_ble_eq_true rfl) (tX3_begin l hp1 (qa_rwi b7) h) (fun μ8 hp8 h => ?_)
            refine qa_iconst (v := 0) dX8_row_43 (by decide) ?_
            exact qa_iret rfl dX8_row_44 ⟨rfl, rfl⟩ ⟨rfl, hp8, _, rfl, h⟩
          · have h := h.2 c6
            refine qa_bipush (v := -3) dX8_row_29 (by decide) ?_
            exact qa_iret rfl dX8_row_31 ⟨rfl, rfl⟩ ⟨rfl, hp1, _, rfl, h⟩
        · have h := h.2 c5
          refine qa_bipush (v := -2) dX8_row_22 (by decide) ?_
          exact qa_iret rfl dX8_row_24 ⟨rfl, rfl⟩ ⟨rfl, hp1, _, rfl, h⟩
def wX8_same (n : Nat) (v1 : Int32) (μ0 : qa_M) (Q : Int32 → qa_M → Prop) : Prop := wX8_isWeek n v1 μ0 (fun r1 μ1 => ((r1 = 0 → Q (-2 : Int32) μ1) ∧ (¬ r1 = 0 → wX8_backHomeBits n v1 μ1 (fun r3 μ3 => Q r3 μ3))))
theorem tX8_same (l : Launch) {n : Nat} {v1 : Int32} {μ0 : qa_M} {Q : Int32 → qa_M → Prop} (hp0 : qa_PP μ0.2.2)  (h : wX8_same n v1 μ0 Q) : qa_Met l yX8_same cX8_same 2 (some .int) 2 0 0 [.ref 1, .int v1] 113 μ0 (qa_pI Q) := by
  refine qa_ofG (by decide) (Nat.le_of_ble_eq_true rfl) ?_
  unfold wX8_same at h
  change qa_G l yX8_same cX8_same 2 (some .int) 2 0 0 (qa_pI Q) 0 0 0 [some (.ref 1), some (.int v1)] [] 113 μ0
  refine qa_ald0 dX8_same_0 ?_
  refine qa_ild1 dX8_same_1 ?_
  refine qa_V1I dX8_same_2 lm_X8_152 sh_1 rfl (by decide) (by decide) (Nat.le_of_ble_eq_true rfl) (tX8_isWeek l hp0  h) (fun r1 μ1 hp1 h => ?_)
  refine qa_if_eq (tgt := 16) dX8_same_5 (by decide) (fun c2 => ?_) (fun c2 => ?_)
  · have h := h.1 c2
    refine qa_bipush (v := -2) dX8_same_16 (by decide) ?_
    exact qa_iret rfl dX8_same_18 ⟨rfl, rfl⟩ ⟨rfl, hp1, _, rfl, h⟩
  · have h := h.2 c2
    refine qa_ald0 dX8_same_8 ?_
    refine qa_ild1 dX8_same_9 ?_
    refine qa_V1I dX8_same_10 lm_X8_193 sh_1 rfl (by decide) (by decide) (Nat.le_of_ble_eq_true rfl) (tX8_backHomeBits l hp1  h) (fun r3 μ3 hp3 h => ?_)
    refine qa_goto (tgt := 18) dX8_same_13 (by decide) ?_
    exact qa_iret rfl dX8_same_18 ⟨rfl, rfl⟩ ⟨rfl, hp3, _, rfl, h⟩
def wX8_sees_15 : Nat → Int32 → Int32 → Int32 → qa_M → (Int32 → qa_M → Prop) → Prop
  | 0, _, _, _, _, _ => False
  | n + 1, v1, v2, v3, μ0, Q => (((μ0.1 (μ0.2.2 1 2) 1) < v3 → Q v2 μ0) ∧ (¬ (μ0.1 (μ0.2.2 1 2) 1) < v3 → wX7_spot n 32 v1 v3 μ0 (fun r4 μ4 => ∀ x5, x5 = (v2 ||| ((1 : Int32) <<< (r4 &&& 31))) → wX8_sees_15 n v1 x5 (v3 + (1 : Int32)) μ4 Q)))
def wX8_sees (n : Nat) (v1 : Int32) (μ0 : qa_M) (Q : Int32 → qa_M → Prop) : Prop := wX8_isHouse n v1 μ0 (fun r1 μ1 => ((¬ r1 = 0 → wX8_sees_15 n v1 (0 : Int32) (0 : Int32) μ1  Q) ∧ (r1 = 0 → Q (-2 : Int32) μ1)))
theorem tX8_sees_15 (l : Launch)  {Q : Int32 → qa_M → Prop}  : ∀ (n : Nat) (v1 : Int32) (v2 : Int32) (v3 : Int32) (μ0 : qa_M), qa_PP μ0.2.2 → wX8_sees_15 n v1 v2 v3 μ0  Q → qa_G l yX8_sees cX8_sees 4 (some .int) 1 0 0 (qa_pI Q) 0 0 15 [some (.ref 1), some (.int v1), some (.int v2), some (.int v3)] [] 113 μ0 := by
  intro n
  induction n with
  | zero =>
    intro v1 v2 v3 μ0 hp0  h
    rw [wX8_sees_15] at h
    exact h.elim
  | succ n ih =>
    intro v1 v2 v3 μ0 hp0  h
    rw [wX8_sees_15] at h
    refine qa_ild3 dX8_sees_15 ?_
    refine qa_ald0 dX8_sees_16 ?_
    refine qa_getR dX8_sees_17 lf_X8_19 rfl sh_1 (by decide) rfl (qa_tw0 hp0.2.1) ?_
    refine qa_getI dX8_sees_20 lf_X8_145 (Or.inl rfl) (st_0 hp0.2.1) (tle_0 hp0.2.1) ?_
    refine qa_icmp_gt (tgt := 46) dX8_sees_23 (by decide) (fun c3 => ?_) (fun c3 => ?_)
    · have h := h.1 c3
      refine qa_ild2 dX8_sees_46 ?_
      exact qa_iret rfl dX8_sees_47 ⟨rfl, rfl⟩ ⟨rfl, hp0, _, rfl, h⟩
    · have h := h.2 c3
      refine qa_ild2 dX8_sees_26 ?_
      refine qa_iconst (v := 1) dX8_sees_27 (by decide) ?_
      refine qa_ald0 dX8_sees_28 ?_
      refine qa_getR dX8_sees_29 lf_X8_47 rfl sh_1 (by decide) (pp_1_9 hp0) (by decide) ?_
      refine qa_ild1 dX8_sees_32 ?_
      refine qa_ild3 dX8_sees_33 ?_
      refine qa_V2I dX8_sees_34 lm_X8_155 (sy_0 (Or.inl rfl)) rfl (yle_0 (Or.inl rfl)) (by decide) (Nat.le_of_ble_eq_true rfl) (tX7_spot l hp0 (Or.inl rfl) h) (fun r4 μ4 hp4 h => ?_)
      refine qa_ishl dX8_sees_37 ?_
      refine qa_ior dX8_sees_38 ?_
      refine qa_nmI (fun x5 e5 => ?_)
      have h := h x5 e5
      refine qa_ist2 dX8_sees_39 ?_
      refine qa_inc3 dX8_sees_40 (qa_io1 _) ?_
      refine qa_goto (tgt := 15) dX8_sees_43 (by decide) ?_
      refine qa_fgt (L' := [some (.ref 1), some (.int v1), some (.int x5), some (.int (v3 + (1 : Int32)))]) (⟨rfl, ⟨rfl, ⟨rfl, ⟨rfl, trivial⟩⟩⟩⟩) ?_
      exact ih v1 x5 (v3 + (1 : Int32)) μ4 hp4  h
theorem tX8_sees (l : Launch) {n : Nat} {v1 : Int32} {μ0 : qa_M} {Q : Int32 → qa_M → Prop} (hp0 : qa_PP μ0.2.2)  (h : wX8_sees n v1 μ0 Q) : qa_Met l yX8_sees cX8_sees 4 (some .int) 1 0 0 [.ref 1, .int v1] 113 μ0 (qa_pI Q) := by
  refine qa_ofG (by decide) (Nat.le_of_ble_eq_true rfl) ?_
  unfold wX8_sees at h
  change qa_G l yX8_sees cX8_sees 4 (some .int) 1 0 0 (qa_pI Q) 0 0 0 [some (.ref 1), some (.int v1), none, none] [] 113 μ0
  refine qa_ald0 dX8_sees_0 ?_
  refine qa_ild1 dX8_sees_1 ?_
  refine qa_V1I dX8_sees_2 lm_X8_103 sh_1 rfl (by decide) (by decide) (Nat.le_of_ble_eq_true rfl) (tX8_isHouse l hp0  h) (fun r1 μ1 hp1 h => ?_)
  refine qa_if_ne (tgt := 11) dX8_sees_5 (by decide) (fun c2 => ?_) (fun c2 => ?_)
  · have h := h.1 c2
    refine qa_iconst (v := 0) dX8_sees_11 (by decide) ?_
    refine qa_ist2 dX8_sees_12 ?_
    refine qa_iconst (v := 0) dX8_sees_13 (by decide) ?_
    refine qa_ist3 dX8_sees_14 ?_
    refine qa_fgt (L' := [some (.ref 1), some (.int v1), some (.int (0 : Int32)), some (.int (0 : Int32))]) (⟨rfl, ⟨rfl, ⟨rfl, ⟨rfl, trivial⟩⟩⟩⟩) ?_
    refine tX8_sees_15 l  n v1 (0 : Int32) (0 : Int32) μ1 hp1  h
  · have h := h.2 c2
    refine qa_bipush (v := -2) dX8_sees_8 (by decide) ?_
    exact qa_iret rfl dX8_sees_10 ⟨rfl, rfl⟩ ⟨rfl, hp1, _, rfl, h⟩
def wX8_share_27 : Nat → Int32 → Int32 → Int64 → Int32 → qa_M → (Int32 → Int64 → qa_M → Prop) → (Int32 → qa_M → Prop) → Prop
  | 0, _, _, _, _, _, _, _ => False
  | n + 1, v1, v2, v3, v5, μ0, K0, Q => wX8_lowBits n (μ0.1 (μ0.2.2 1 2) 5) μ0 (fun r6 μ6 => ((r6 < v5 → K0 v2 v3 μ6) ∧ (¬ r6 < v5 → wX8_bitOf n v5 v1 μ6 (fun r8 μ8 => ((¬ r8 = 0 → wX8_share_27 n v1 v2 v3 (v5 + (1 : Int32)) μ8 K0 Q) ∧ (r8 = 0 → wJ6_bitCount_0f7a4 n v5 μ8 (fun r10 μ10 => vp_in r10 9 ∧ vp_in (((μ10.1 (μ10.2.2 1 2) 5) - (1 : Int32)) - r10) 9 ∧ ∀ x11, x11 = ((qa_fac.getD r10.toNatClampNeg 0).toInt64 * (qa_fac.getD (((μ10.1 (μ10.2.2 1 2) 5) - (1 : Int32)) - r10).toNatClampNeg 0).toInt64) → vp_in (v5 ||| ((1 : Int32) <<< (v1 &&& 31))) 256 ∧ vp_in v5 256 ∧ ∀ x12, x12 = (v3 + (x11 * ((μ10.1 46 (v5 ||| ((1 : Int32) <<< (v1 &&& 31))).toNatClampNeg) - (μ10.1 46 v5.toNatClampNeg)).toInt64)) → wX8_share_27 n v1 v2 x12 (v5 + (1 : Int32)) μ10 K0 Q)))))))
def wX8_share (n : Nat) (v1 : Int32) (v2 : Int32) (μ0 : qa_M) (Q : Int32 → qa_M → Prop) : Prop := wX8_isHouse n v1 μ0 (fun r1 μ1 => ((r1 = 0 → Q (-2 : Int32) μ1) ∧ (¬ r1 = 0 → wX8_isPart n v2 μ1 (fun r3 μ3 => ((¬ r3 = 0 → wX8_learnWorths n  μ3 (fun μ5 => wX8_share_27 n v1 v2 (0 : Int64) (0 : Int32) μ5 (fun v2_14 v3_14 μ13 => vp_in (μ13.1 (μ13.2.2 1 2) 5) 9 ∧ wX8_fractionPart n v3_14 (qa_fac.getD (μ13.1 (μ13.2.2 1 2) 5).toNatClampNeg 0).toInt64 v2_14 μ13 (fun r15 μ15 => Q r15.toInt32 μ15)) Q)) ∧ (r3 = 0 → Q (-2 : Int32) μ3))))))
theorem tX8_share_27 (l : Launch) {K0 : Int32 → Int64 → qa_M → Prop} {Q : Int32 → qa_M → Prop} (hK0 : ∀ (v2 : Int32) (v3 : Int64) (μ : qa_M), qa_PP μ.2.2 → K0 v2 v3 μ → qa_G l yX8_share cX8_share 9 (some .int) 6 0 0 (qa_pI Q) 0 0 117 [some (.ref 1), none, some (.int v2), some (.long v3), none, none, none, none, none] [] 113 μ) : ∀ (n : Nat) (v1 : Int32) (v2 : Int32) (v3 : Int64) (v5 : Int32) (μ0 : qa_M), qa_PP μ0.2.2 → wX8_share_27 n v1 v2 v3 v5 μ0 K0 Q → qa_G l yX8_share cX8_share 9 (some .int) 6 0 0 (qa_pI Q) 0 0 27 [some (.ref 1), some (.int v1), some (.int v2), some (.long v3), none, some (.int v5), none, none, none] [] 113 μ0 := by
  intro n
  induction n with
  | zero =>
    intro v1 v2 v3 v5 μ0 hp0  h
    rw [wX8_share_27] at h
    exact h.elim
  | succ n ih =>
    intro v1 v2 v3 v5 μ0 hp0  h
    rw [wX8_share_27] at h
    refine qa_ild5 dX8_share_27 ?_
    refine qa_ald0 dX8_share_29 ?_
    refine qa_getR dX8_share_30 lf_X8_19 rfl sh_1 (by decide) rfl (qa_tw0 hp0.2.1) ?_
    refine qa_getI dX8_share_33 lf_X8_158 (Or.inl rfl) (st_0 hp0.2.1) (tle_0 hp0.2.1) ?_
    refine qa_S1I dX8_share_36 lm_X8_148  (by decide) (Nat.le_of_ble_eq_true rfl) (tX8_lowBits l hp0  h) (fun r6 μ6 hp6 h => ?_)
    refine qa_icmp_gt (tgt := 117) dX8_share_39 (by decide) (fun c7 => ?_) (fun c7 => ?_)
    · have h := h.1 c7
      refine qa_fgt (L' := [some (.ref 1), none, some (.int v2), some (.long v3), none, none, none, none, none]) (⟨rfl, ⟨rfl, ⟨rfl, trivial⟩⟩⟩) ?_
      exact hK0 v2 v3 μ6 hp6  h
    · have h := h.2 c7
      refine qa_ild5 dX8_share_42 ?_
      refine qa_ild1 dX8_share_44 ?_
      refine qa_S2I dX8_share_45 lm_X8_113  (by decide) (Nat.le_of_ble_eq_true rfl) (tX8_bitOf l hp6  h) (fun r8 μ8 hp8 h => ?_)
      refine qa_if_ne (tgt := 111) dX8_share_48 (by decide) (fun c9 => ?_) (fun c9 => ?_)
      · have h := h.1 c9
        refine qa_inc5 dX8_share_111 (qa_io1 _) ?_
        refine qa_goto (tgt := 27) dX8_share_114 (by decide) ?_
        refine qa_fgt (L' := [some (.ref 1), some (.int v1), some (.int v2), some (.long v3), none, some (.int (v5 + (1 : Int32))), none, none, none]) (⟨rfl, ⟨rfl, ⟨rfl, ⟨rfl, ⟨rfl, trivial⟩⟩⟩⟩⟩) ?_
        exact ih v1 v2 v3 (v5 + (1 : Int32)) μ8 hp8  h
      · have h := h.2 c9
        refine qa_ild5 dX8_share_51 ?_
        refine qa_S1I dX8_share_53 lm_X8_226  (by decide) (Nat.le_of_ble_eq_true rfl) (tJ6_bitCount_0f7a4 l hp8  h) (fun r10 μ10 hp10 h => ?_)
        refine qa_ist6 dX8_share_56 ?_
        refine qa_gsF dX8_share_58 lg_X8_348 ?_
        refine qa_ild6 dX8_share_61 ?_
        refine qa_ialdF dX8_share_63 h.1 ?_
        have h := h.2
        refine qa_i2l dX8_share_64 ?_
        refine qa_gsF dX8_share_65 lg_X8_348 ?_
        refine qa_ald0 dX8_share_68 ?_
        refine qa_getR dX8_share_69 lf_X8_19 rfl sh_1 (by decide) rfl (qa_tw0 hp10.2.1) ?_
        refine qa_getI dX8_share_72 lf_X8_158 (Or.inl rfl) (st_0 hp10.2.1) (tle_0 hp10.2.1) ?_
        refine qa_iconst (v := 1) dX8_share_75 (by decide) ?_
        refine qa_isub dX8_share_76 ?_
        refine qa_ild6 dX8_share_77 ?_
        refine qa_isub dX8_share_79 ?_
        refine qa_ialdF dX8_share_80 h.1 ?_
        have h := h.2
        refine qa_i2l dX8_share_81 ?_
        refine qa_lmul dX8_share_82 ?_
        refine qa_nmL (fun x11 e11 => ?_)
        have h := h x11 e11
        refine qa_lst7 dX8_share_83 ?_
        refine qa_lld3 dX8_share_85 ?_
        refine qa_lld7 dX8_share_86 ?_
        refine qa_ald0 dX8_share_88 ?_
        refine qa_getR dX8_share_89 lf_X8_68 rfl sh_1 (by decide) (pp_1_3 hp10) (by decide) ?_
        refine qa_ild5 dX8_share_92 ?_
        refine qa_iconst (v := 1) dX8_share_94 (by decide) ?_
        refine qa_ild1 dX8_share_95 ?_
        refine qa_ishl dX8_share_96 ?_
        refine qa_ior dX8_share_97 ?_
        refine qa_iald dX8_share_98 sh_46 (by decide) h.1 ?_
        have h := h.2
        refine qa_ald0 dX8_share_99 ?_
        refine qa_getR dX8_share_100 lf_X8_68 rfl sh_1 (by decide) (pp_1_3 hp10) (by decide) ?_
        refine qa_ild5 dX8_share_103 ?_
        refine qa_iald dX8_share_105 sh_46 (by decide) h.1 ?_
        have h := h.2
        refine qa_isub dX8_share_106 ?_
        refine qa_i2l dX8_share_107 ?_
        refine qa_lmul dX8_share_108 ?_
        refine qa_ladd dX8_share_109 ?_
        refine qa_nmL (fun x12 e12 => ?_)
        have h := h x12 e12
        refine qa_lst3 dX8_share_110 ?_
        refine qa_inc5 dX8_share_111 (qa_io1 _) ?_
        refine qa_goto (tgt := 27) dX8_share_114 (by decide) ?_
        refine qa_fgt (L' := [some (.ref 1), some (.int v1), some (.int v2), some (.long x12), none, some (.int (v5 + (1 : Int32))), none, none, none]) (⟨rfl, ⟨rfl, ⟨rfl, ⟨rfl, ⟨rfl, trivial⟩⟩⟩⟩⟩) ?_
        exact ih v1 v2 x12 (v5 + (1 : Int32)) μ10 hp10  h
theorem tX8_share (l : Launch) {n : Nat} {v1 : Int32} {v2 : Int32} {μ0 : qa_M} {Q : Int32 → qa_M → Prop} (hp0 : qa_PP μ0.2.2)  (h : wX8_share n v1 v2 μ0 Q) : qa_Met l yX8_share cX8_share 9 (some .int) 6 0 0 [.ref 1, .int v1, .int v2] 113 μ0 (qa_pI Q) := by
  refine qa_ofG (by decide) (Nat.le_of_ble_eq_true rfl) ?_
  unfold wX8_share at h
  change qa_G l yX8_share cX8_share 9 (some .int) 6 0 0 (qa_pI Q) 0 0 0 [some (.ref 1), some (.int v1), some (.int v2), none, none, none, none, none, none] [] 113 μ0
  refine qa_ald0 dX8_share_0 ?_
  refine qa_ild1 dX8_share_1 ?_
  refine qa_V1I dX8_share_2 lm_X8_103 sh_1 rfl (by decide) (by decide) (Nat.le_of_ble_eq_true rfl) (tX8_isHouse l hp0  h) (fun r1 μ1 hp1 h => ?_)
  refine qa_if_eq (tgt := 15) dX8_share_5 (by decide) (fun c2 => ?_) (fun c2 => ?_)
  · have h := h.1 c2
    refine qa_bipush (v := -2) dX8_share_15 (by decide) ?_
    exact qa_iret rfl dX8_share_17 ⟨rfl, rfl⟩ ⟨rfl, hp1, _, rfl, h⟩
  · have h := h.2 c2
    refine qa_ild2 dX8_share_8 ?_
    refine qa_S1I dX8_share_9 lm_X8_342  (by decide) (Nat.le_of_ble_eq_true rfl) (tX8_isPart l hp1  h) (fun r3 μ3 hp3 h => ?_)
    refine qa_if_ne (tgt := 18) dX8_share_12 (by decide) (fun c4 => ?_) (fun c4 => ?_)
    · have h := h.1 c4
      refine qa_ald0 dX8_share_18 ?_
      refine qa_V0V dX8_share_19 lm_X8_345 sh_1 rfl (by decide) (by decide) (Nat.le_of_ble_eq_true rfl) (tX8_learnWorths l hp3  h) (fun μ5 hp5 h => ?_)
      refine qa_lconst (v := 0) dX8_share_22 (by decide) ?_
      refine qa_lst3 dX8_share_23 ?_
      refine qa_iconst (v := 0) dX8_share_24 (by decide) ?_
      refine qa_ist5 dX8_share_25 ?_
      refine qa_fgt (L' := [some (.ref 1), some (.int v1), some (.int v2), some (.long (0 : Int64)), none, some (.int (0 : Int32)), none, none, none]) (⟨rfl, ⟨rfl, ⟨rfl, ⟨rfl, ⟨rfl, trivial⟩⟩⟩⟩⟩) ?_
      refine tX8_share_27 l ?_ n v1 v2 (0 : Int64) (0 : Int32) μ5 hp5  h
      · intro v2_14 v3_14 μ13 hp13  h
        refine qa_lld3 dX8_share_117 ?_
        refine qa_gsF dX8_share_118 lg_X8_348 ?_
        refine qa_ald0 dX8_share_121 ?_
        refine qa_getR dX8_share_122 lf_X8_19 rfl sh_1 (by decide) rfl (qa_tw0 hp13.2.1) ?_
        refine qa_getI dX8_share_125 lf_X8_158 (Or.inl rfl) (st_0 hp13.2.1) (tle_0 hp13.2.1) ?_
        refine qa_ialdF dX8_share_128 h.1 ?_
        have h := h.2
        refine qa_i2l dX8_share_129 ?_
        refine qa_ild2 dX8_share_130 ?_
        refine qa_S3J dX8_share_131 lm_X8_351  (by decide) (Nat.le_of_ble_eq_true rfl) (tX8_fractionPart l hp13  h) (fun r15 μ15 hp15 h => ?_)
        refine qa_l2i dX8_share_134 ?_
        exact qa_iret rfl dX8_share_135 ⟨rfl, rfl⟩ ⟨rfl, hp15, _, rfl, h⟩
    · have h := h.2 c4
      refine qa_bipush (v := -2) dX8_share_15 (by decide) ?_
      exact qa_iret rfl dX8_share_17 ⟨rfl, rfl⟩ ⟨rfl, hp3, _, rfl, h⟩
def wX8_snows (n : Nat)  (μ0 : qa_M) (Q : Int32 → qa_M → Prop) : Prop := wX8_hasTown n  μ0 (fun r1 μ1 => ((r1 = 0 → Q (-2 : Int32) μ1) ∧ (¬ r1 = 0 → wX8_lowBits n (μ1.1 (μ1.2.2 1 2) 1) μ1 (fun r3 μ3 => Q ((μ1.1 (μ1.2.2 1 2) 10) &&& r3) μ3))))
theorem tX8_snows (l : Launch) {n : Nat}  {μ0 : qa_M} {Q : Int32 → qa_M → Prop} (hp0 : qa_PP μ0.2.2)  (h : wX8_snows n  μ0 Q) : qa_Met l yX8_snows cX8_snows 1 (some .int) 1 0 0 [.ref 1] 113 μ0 (qa_pI Q) := by
  refine qa_ofG (by decide) (Nat.le_of_ble_eq_true rfl) ?_
  unfold wX8_snows at h
  change qa_G l yX8_snows cX8_snows 1 (some .int) 1 0 0 (qa_pI Q) 0 0 0 [some (.ref 1)] [] 113 μ0
  refine qa_ald0 dX8_snows_0 ?_
  refine qa_V0I dX8_snows_1 lm_X8_138 sh_1 rfl (by decide) (by decide) (Nat.le_of_ble_eq_true rfl) (tX8_hasTown l hp0  h) (fun r1 μ1 hp1 h => ?_)
  refine qa_if_eq (tgt := 28) dX8_snows_4 (by decide) (fun c2 => ?_) (fun c2 => ?_)
  · have h := h.1 c2
    refine qa_bipush (v := -2) dX8_snows_28 (by decide) ?_
    exact qa_iret rfl dX8_snows_30 ⟨rfl, rfl⟩ ⟨rfl, hp1, _, rfl, h⟩
  · have h := h.2 c2
    refine qa_ald0 dX8_snows_7 ?_
    refine qa_getR dX8_snows_8 lf_X8_19 rfl sh_1 (by decide) rfl (qa_tw0 hp1.2.1) ?_
    refine qa_getI dX8_snows_11 lf_X8_142 (Or.inl rfl) (st_0 hp1.2.1) (tle_0 hp1.2.1) ?_
    refine qa_ald0 dX8_snows_14 ?_
    refine qa_getR dX8_snows_15 lf_X8_19 rfl sh_1 (by decide) rfl (qa_tw0 hp1.2.1) ?_
    refine qa_getI dX8_snows_18 lf_X8_145 (Or.inl rfl) (st_0 hp1.2.1) (tle_0 hp1.2.1) ?_
    refine qa_S1I dX8_snows_21 lm_X8_148  (by decide) (Nat.le_of_ble_eq_true rfl) (tX8_lowBits l hp1  h) (fun r3 μ3 hp3 h => ?_)
    refine qa_iand dX8_snows_24 ?_
    refine qa_goto (tgt := 30) dX8_snows_25 (by decide) ?_
    exact qa_iret rfl dX8_snows_30 ⟨rfl, rfl⟩ ⟨rfl, hp3, _, rfl, h⟩
def wX8_span (n : Nat)  (μ0 : qa_M) (Q : Int32 → qa_M → Prop) : Prop := wX8_hasTown n  μ0 (fun r1 μ1 => ((r1 = 0 → Q (-2 : Int32) μ1) ∧ (¬ r1 = 0 → wX7_spread n 32 (μ1.2.2 1 2) μ1 (fun r3 μ3 => Q r3 μ3))))
theorem tX8_span (l : Launch) {n : Nat}  {μ0 : qa_M} {Q : Int32 → qa_M → Prop} (hp0 : qa_PP μ0.2.2)  (h : wX8_span n  μ0 Q) : qa_Met l yX8_span cX8_span 1 (some .int) 3 0 0 [.ref 1] 113 μ0 (qa_pI Q) := by
  refine qa_ofG (by decide) (Nat.le_of_ble_eq_true rfl) ?_
  unfold wX8_span at h
  change qa_G l yX8_span cX8_span 1 (some .int) 3 0 0 (qa_pI Q) 0 0 0 [some (.ref 1)] [] 113 μ0
  refine qa_ald0 dX8_span_0 ?_
  refine qa_V0I dX8_span_1 lm_X8_138 sh_1 rfl (by decide) (by decide) (Nat.le_of_ble_eq_true rfl) (tX8_hasTown l hp0  h) (fun r1 μ1 hp1 h => ?_)
  refine qa_if_eq (tgt := 21) dX8_span_4 (by decide) (fun c2 => ?_) (fun c2 => ?_)
  · have h := h.1 c2
    refine qa_bipush (v := -2) dX8_span_21 (by decide) ?_
    exact qa_iret rfl dX8_span_23 ⟨rfl, rfl⟩ ⟨rfl, hp1, _, rfl, h⟩
  · have h := h.2 c2
    refine qa_ald0 dX8_span_7 ?_
    refine qa_getR dX8_span_8 lf_X8_47 rfl sh_1 (by decide) (pp_1_9 hp1) (by decide) ?_
    refine qa_ald0 dX8_span_11 ?_
    refine qa_getR dX8_span_12 lf_X8_19 rfl sh_1 (by decide) rfl (qa_tw0 hp1.2.1) ?_
    refine qa_V1I dX8_span_15 lm_X8_189 (sy_0 (Or.inl rfl)) rfl (yle_0 (Or.inl rfl)) (by decide) (Nat.le_of_ble_eq_true rfl) (tX7_spread l hp1 (Or.inl rfl) hp1.2.1 h) (fun r3 μ3 hp3 h => ?_)
    refine qa_goto (tgt := 23) dX8_span_18 (by decide) ?_
    exact qa_iret rfl dX8_span_23 ⟨rfl, rfl⟩ ⟨rfl, hp3, _, rfl, h⟩
def wX8_stands_15 : Nat → Int32 → Int32 → Int32 → qa_M → (Int32 → qa_M → Prop) → Prop
  | 0, _, _, _, _, _ => False
  | n + 1, v1, v2, v3, μ0, Q => ((v1 ≤ v3 → wX8_round n v2 (μ0.1 (μ0.2.2 1 2) 5) μ0 (fun r4 μ4 => Q r4 μ4)) ∧ (¬ v1 ≤ v3 → vp_in v3 20 ∧ ∀ x5, x5 = (v2 + (μ0.1 36 v3.toNatClampNeg)) → wX8_stands_15 n v1 x5 (v3 + (1 : Int32)) μ0 Q))
def wX8_stands (n : Nat) (v1 : Int32) (μ0 : qa_M) (Q : Int32 → qa_M → Prop) : Prop := wX8_isWeek n v1 μ0 (fun r1 μ1 => ((¬ r1 = 0 → wX8_stands_15 n v1 (0 : Int32) (0 : Int32) μ1  Q) ∧ (r1 = 0 → Q (-2 : Int32) μ1)))
theorem tX8_stands_15 (l : Launch)  {Q : Int32 → qa_M → Prop}  : ∀ (n : Nat) (v1 : Int32) (v2 : Int32) (v3 : Int32) (μ0 : qa_M), qa_PP μ0.2.2 → wX8_stands_15 n v1 v2 v3 μ0  Q → qa_G l yX8_stands cX8_stands 4 (some .int) 2 0 0 (qa_pI Q) 0 0 15 [some (.ref 1), some (.int v1), some (.int v2), some (.int v3)] [] 113 μ0 := by
  intro n
  induction n with
  | zero =>
    intro v1 v2 v3 μ0 hp0  h
    rw [wX8_stands_15] at h
    exact h.elim
  | succ n ih =>
    intro v1 v2 v3 μ0 hp0  h
    rw [wX8_stands_15] at h
    refine qa_ild3 dX8_stands_15 ?_
    refine qa_ild1 dX8_stands_16 ?_
    refine qa_icmp_ge (tgt := 38) dX8_stands_17 (by decide) (fun c3 => ?_) (fun c3 => ?_)
    · have h := h.1 c3
      refine qa_ild2 dX8_stands_38 ?_
      refine qa_ald0 dX8_stands_39 ?_
      refine qa_getR dX8_stands_40 lf_X8_19 rfl sh_1 (by decide) rfl (qa_tw0 hp0.2.1) ?_
      refine qa_getI dX8_stands_43 lf_X8_158 (Or.inl rfl) (st_0 hp0.2.1) (tle_0 hp0.2.1) ?_
      refine qa_S2I dX8_stands_46 lm_X8_177  (by decide) (Nat.le_of_ble_eq_true rfl) (tX8_round l hp0  h) (fun r4 μ4 hp4 h => ?_)
      exact qa_iret rfl dX8_stands_49 ⟨rfl, rfl⟩ ⟨rfl, hp4, _, rfl, h⟩
    · have h := h.2 c3
      refine qa_ild2 dX8_stands_20 ?_
      refine qa_ald0 dX8_stands_21 ?_
      refine qa_getR dX8_stands_22 lf_X8_47 rfl sh_1 (by decide) (pp_1_9 hp0) (by decide) ?_
      refine qa_getR dX8_stands_25 lf_X8_174 rfl (sy_0 (Or.inl rfl)) (yle_0 (Or.inl rfl)) (pp_32_3 hp0) (by decide) ?_
      refine qa_ild3 dX8_stands_28 ?_
      refine qa_iald dX8_stands_29 sh_36 (by decide) h.1 ?_
      have h := h.2
      refine qa_iadd dX8_stands_30 ?_
      refine qa_nmI (fun x5 e5 => ?_)
      have h := h x5 e5
      refine qa_ist2 dX8_stands_31 ?_
      refine qa_inc3 dX8_stands_32 (qa_io1 _) ?_
      refine qa_goto (tgt := 15) dX8_stands_35 (by decide) ?_
      refine qa_fgt (L' := [some (.ref 1), some (.int v1), some (.int x5), some (.int (v3 + (1 : Int32)))]) (⟨rfl, ⟨rfl, ⟨rfl, ⟨rfl, trivial⟩⟩⟩⟩) ?_
      exact ih v1 x5 (v3 + (1 : Int32)) μ0 hp0  h
theorem tX8_stands (l : Launch) {n : Nat} {v1 : Int32} {μ0 : qa_M} {Q : Int32 → qa_M → Prop} (hp0 : qa_PP μ0.2.2)  (h : wX8_stands n v1 μ0 Q) : qa_Met l yX8_stands cX8_stands 4 (some .int) 2 0 0 [.ref 1, .int v1] 113 μ0 (qa_pI Q) := by
  refine qa_ofG (by decide) (Nat.le_of_ble_eq_true rfl) ?_
  unfold wX8_stands at h
  change qa_G l yX8_stands cX8_stands 4 (some .int) 2 0 0 (qa_pI Q) 0 0 0 [some (.ref 1), some (.int v1), none, none] [] 113 μ0
  refine qa_ald0 dX8_stands_0 ?_
  refine qa_ild1 dX8_stands_1 ?_
  refine qa_V1I dX8_stands_2 lm_X8_152 sh_1 rfl (by decide) (by decide) (Nat.le_of_ble_eq_true rfl) (tX8_isWeek l hp0  h) (fun r1 μ1 hp1 h => ?_)
  refine qa_if_ne (tgt := 11) dX8_stands_5 (by decide) (fun c2 => ?_) (fun c2 => ?_)
  · have h := h.1 c2
    refine qa_iconst (v := 0) dX8_stands_11 (by decide) ?_
    refine qa_ist2 dX8_stands_12 ?_
    refine qa_iconst (v := 0) dX8_stands_13 (by decide) ?_
    refine qa_ist3 dX8_stands_14 ?_
    refine qa_fgt (L' := [some (.ref 1), some (.int v1), some (.int (0 : Int32)), some (.int (0 : Int32))]) (⟨rfl, ⟨rfl, ⟨rfl, ⟨rfl, trivial⟩⟩⟩⟩) ?_
    refine tX8_stands_15 l  n v1 (0 : Int32) (0 : Int32) μ1 hp1  h
  · have h := h.2 c2
    refine qa_bipush (v := -2) dX8_stands_8 (by decide) ?_
    exact qa_iret rfl dX8_stands_10 ⟨rfl, rfl⟩ ⟨rfl, hp1, _, rfl, h⟩
def wX8_stay (n : Nat) (v1 : Int32) (v2 : Int32) (μ0 : qa_M) (Q : Int32 → qa_M → Prop) : Prop := wX8_isTurningWeek n v1 μ0 (fun r1 μ1 => ((r1 = 0 → Q (-2 : Int32) μ1) ∧ (¬ r1 = 0 → wX8_isTurn n v2 μ1 (fun r3 μ3 => ((¬ r3 = 0 → wX8_fewestStaying n v1 v2 μ3 (fun r5 μ5 => ((¬ r5 = (-1 : Int32) → wJ6_bitCount_0f7a4 n r5 μ5 (fun r7 μ7 => Q r7 μ7)) ∧ (r5 = (-1 : Int32) → Q (-1 : Int32) μ5)))) ∧ (r3 = 0 → Q (-2 : Int32) μ3))))))
theorem tX8_stay (l : Launch) {n : Nat} {v1 : Int32} {v2 : Int32} {μ0 : qa_M} {Q : Int32 → qa_M → Prop} (hp0 : qa_PP μ0.2.2)  (h : wX8_stay n v1 v2 μ0 Q) : qa_Met l yX8_stay cX8_stay 4 (some .int) 5 0 0 [.ref 1, .int v1, .int v2] 113 μ0 (qa_pI Q) := by
  refine qa_ofG (by decide) (Nat.le_of_ble_eq_true rfl) ?_
  unfold wX8_stay at h
  change qa_G l yX8_stay cX8_stay 4 (some .int) 5 0 0 (qa_pI Q) 0 0 0 [some (.ref 1), some (.int v1), some (.int v2), none] [] 113 μ0
  refine qa_ald0 dX8_stay_0 ?_
  refine qa_ild1 dX8_stay_1 ?_
  refine qa_V1I dX8_stay_2 lm_X8_165 sh_1 rfl (by decide) (by decide) (Nat.le_of_ble_eq_true rfl) (tX8_isTurningWeek l hp0  h) (fun r1 μ1 hp1 h => ?_)
  refine qa_if_eq (tgt := 15) dX8_stay_5 (by decide) (fun c2 => ?_) (fun c2 => ?_)
  · have h := h.1 c2
    refine qa_bipush (v := -2) dX8_stay_15 (by decide) ?_
    exact qa_iret rfl dX8_stay_17 ⟨rfl, rfl⟩ ⟨rfl, hp1, _, rfl, h⟩
  · have h := h.2 c2
    refine qa_ild2 dX8_stay_8 ?_
    refine qa_S1I dX8_stay_9 lm_X8_220  (by decide) (Nat.le_of_ble_eq_true rfl) (tX8_isTurn l hp1  h) (fun r3 μ3 hp3 h => ?_)
    refine qa_if_ne (tgt := 18) dX8_stay_12 (by decide) (fun c4 => ?_) (fun c4 => ?_)
    · have h := h.1 c4
      refine qa_ald0 dX8_stay_18 ?_
      refine qa_ild1 dX8_stay_19 ?_
      refine qa_ild2 dX8_stay_20 ?_
      refine qa_V2I dX8_stay_21 lm_X8_223 sh_1 rfl (by decide) (by decide) (Nat.le_of_ble_eq_true rfl) (tX8_fewestStaying l hp3  h) (fun r5 μ5 hp5 h => ?_)
      refine qa_ist3 dX8_stay_24 ?_
      refine qa_ild3 dX8_stay_25 ?_
      refine qa_iconst (v := -1) dX8_stay_26 (by decide) ?_
      refine qa_icmp_ne (tgt := 34) dX8_stay_27 (by decide) (fun c6 => ?_) (fun c6 => ?_)
      · have h := h.1 c6
        refine qa_ild3 dX8_stay_34 ?_
        refine qa_S1I dX8_stay_35 lm_X8_226  (by decide) (Nat.le_of_ble_eq_true rfl) (tJ6_bitCount_0f7a4 l hp5  h) (fun r7 μ7 hp7 h => ?_)
        exact qa_iret rfl dX8_stay_38 ⟨rfl, rfl⟩ ⟨rfl, hp7, _, rfl, h⟩
      · have h := h.2 c6
        refine qa_iconst (v := -1) dX8_stay_30 (by decide) ?_
        refine qa_goto (tgt := 38) dX8_stay_31 (by decide) ?_
        exact qa_iret rfl dX8_stay_38 ⟨rfl, rfl⟩ ⟨rfl, hp5, _, rfl, h⟩
    · have h := h.2 c4
      refine qa_bipush (v := -2) dX8_stay_15 (by decide) ?_
      exact qa_iret rfl dX8_stay_17 ⟨rfl, rfl⟩ ⟨rfl, hp3, _, rfl, h⟩
def wX8_stays (n : Nat) (v1 : Int32) (v2 : Int32) (μ0 : qa_M) (Q : Int32 → qa_M → Prop) : Prop := wX8_isTurningWeek n v1 μ0 (fun r1 μ1 => ((r1 = 0 → Q (-2 : Int32) μ1) ∧ (¬ r1 = 0 → wX8_isTurn n v2 μ1 (fun r3 μ3 => ((r3 = 0 → Q (-2 : Int32) μ3) ∧ (¬ r3 = 0 → wX8_fewestStaying n v1 v2 μ3 (fun r5 μ5 => Q r5 μ5)))))))
theorem tX8_stays (l : Launch) {n : Nat} {v1 : Int32} {v2 : Int32} {μ0 : qa_M} {Q : Int32 → qa_M → Prop} (hp0 : qa_PP μ0.2.2)  (h : wX8_stays n v1 v2 μ0 Q) : qa_Met l yX8_stays cX8_stays 3 (some .int) 5 0 0 [.ref 1, .int v1, .int v2] 113 μ0 (qa_pI Q) := by
  refine qa_ofG (by decide) (Nat.le_of_ble_eq_true rfl) ?_
  unfold wX8_stays at h
  change qa_G l yX8_stays cX8_stays 3 (some .int) 5 0 0 (qa_pI Q) 0 0 0 [some (.ref 1), some (.int v1), some (.int v2)] [] 113 μ0
  refine qa_ald0 dX8_stays_0 ?_
  refine qa_ild1 dX8_stays_1 ?_
  refine qa_V1I dX8_stays_2 lm_X8_165 sh_1 rfl (by decide) (by decide) (Nat.le_of_ble_eq_true rfl) (tX8_isTurningWeek l hp0  h) (fun r1 μ1 hp1 h => ?_)
  refine qa_if_eq (tgt := 24) dX8_stays_5 (by decide) (fun c2 => ?_) (fun c2 => ?_)
  · have h := h.1 c2
    refine qa_bipush (v := -2) dX8_stays_24 (by decide) ?_
    exact qa_iret rfl dX8_stays_26 ⟨rfl, rfl⟩ ⟨rfl, hp1, _, rfl, h⟩
  · have h := h.2 c2
    refine qa_ild2 dX8_stays_8 ?_
    refine qa_S1I dX8_stays_9 lm_X8_220  (by decide) (Nat.le_of_ble_eq_true rfl) (tX8_isTurn l hp1  h) (fun r3 μ3 hp3 h => ?_)
    refine qa_if_eq (tgt := 24) dX8_stays_12 (by decide) (fun c4 => ?_) (fun c4 => ?_)
    · have h := h.1 c4
      refine qa_bipush (v := -2) dX8_stays_24 (by decide) ?_
      exact qa_iret rfl dX8_stays_26 ⟨rfl, rfl⟩ ⟨rfl, hp3, _, rfl, h⟩
    · have h := h.2 c4
      refine qa_ald0 dX8_stays_15 ?_
      refine qa_ild1 dX8_stays_16 ?_
      refine qa_ild2 dX8_stays_17 ?_
      refine qa_V2I dX8_stays_18 lm_X8_223 sh_1 rfl (by decide) (by decide) (Nat.le_of_ble_eq_true rfl) (tX8_fewestStaying l hp3  h) (fun r5 μ5 hp5 h => ?_)
      refine qa_goto (tgt := 26) dX8_stays_21 (by decide) ?_
      exact qa_iret rfl dX8_stays_26 ⟨rfl, rfl⟩ ⟨rfl, hp5, _, rfl, h⟩
def wX8_still_14 : Nat → Int32 → Int32 → qa_M → (Int32 → qa_M → Prop) → Prop
  | 0, _, _, _, _ => False
  | n + 1, v1, v2, μ0, Q => (((μ0.1 (μ0.2.2 1 2) 1) ≤ v2 → Q v1 μ0) ∧ (¬ (μ0.1 (μ0.2.2 1 2) 1) ≤ v2 → vp_in v2 20 ∧ ((¬ (μ0.1 36 v2.toNatClampNeg) = 0 → wX8_still_14 n v1 (v2 + (1 : Int32)) μ0 Q) ∧ ((μ0.1 36 v2.toNatClampNeg) = 0 → ∀ x5, x5 = (v1 ||| ((1 : Int32) <<< (v2 &&& 31))) → wX8_still_14 n x5 (v2 + (1 : Int32)) μ0 Q))))
def wX8_still (n : Nat)  (μ0 : qa_M) (Q : Int32 → qa_M → Prop) : Prop := wX8_hasTown n  μ0 (fun r1 μ1 => ((¬ r1 = 0 → wX8_still_14 n (0 : Int32) (0 : Int32) μ1  Q) ∧ (r1 = 0 → Q (-2 : Int32) μ1)))
theorem tX8_still_14 (l : Launch)  {Q : Int32 → qa_M → Prop}  : ∀ (n : Nat) (v1 : Int32) (v2 : Int32) (μ0 : qa_M), qa_PP μ0.2.2 → wX8_still_14 n v1 v2 μ0  Q → qa_G l yX8_still cX8_still 3 (some .int) 1 0 0 (qa_pI Q) 0 0 14 [some (.ref 1), some (.int v1), some (.int v2)] [] 113 μ0 := by
  intro n
  induction n with
  | zero =>
    intro v1 v2 μ0 hp0  h
    rw [wX8_still_14] at h
    exact h.elim
  | succ n ih =>
    intro v1 v2 μ0 hp0  h
    rw [wX8_still_14] at h
    refine qa_ild2 dX8_still_14 ?_
    refine qa_ald0 dX8_still_15 ?_
    refine qa_getR dX8_still_16 lf_X8_19 rfl sh_1 (by decide) rfl (qa_tw0 hp0.2.1) ?_
    refine qa_getI dX8_still_19 lf_X8_145 (Or.inl rfl) (st_0 hp0.2.1) (tle_0 hp0.2.1) ?_
    refine qa_icmp_ge (tgt := 49) dX8_still_22 (by decide) (fun c3 => ?_) (fun c3 => ?_)
    · have h := h.1 c3
      refine qa_ild1 dX8_still_49 ?_
      exact qa_iret rfl dX8_still_50 ⟨rfl, rfl⟩ ⟨rfl, hp0, _, rfl, h⟩
    · have h := h.2 c3
      refine qa_ald0 dX8_still_25 ?_
      refine qa_getR dX8_still_26 lf_X8_47 rfl sh_1 (by decide) (pp_1_9 hp0) (by decide) ?_
      refine qa_getR dX8_still_29 lf_X8_174 rfl (sy_0 (Or.inl rfl)) (yle_0 (Or.inl rfl)) (pp_32_3 hp0) (by decide) ?_
      refine qa_ild2 dX8_still_32 ?_
      refine qa_iald dX8_still_33 sh_36 (by decide) h.1 ?_
      have h := h.2
      refine qa_if_ne (tgt := 43) dX8_still_34 (by decide) (fun c4 => ?_) (fun c4 => ?_)
      · have h := h.1 c4
        refine qa_inc2 dX8_still_43 (qa_io1 _) ?_
        refine qa_goto (tgt := 14) dX8_still_46 (by decide) ?_
        refine qa_fgt (L' := [some (.ref 1), some (.int v1), some (.int (v2 + (1 : Int32)))]) (⟨rfl, ⟨rfl, ⟨rfl, trivial⟩⟩⟩) ?_
        exact ih v1 (v2 + (1 : Int32)) μ0 hp0  h
      · have h := h.2 c4
        refine qa_ild1 dX8_still_37 ?_
        refine qa_iconst (v := 1) dX8_still_38 (by decide) ?_
        refine qa_ild2 dX8_still_39 ?_
        refine qa_ishl dX8_still_40 ?_
        refine qa_ior dX8_still_41 ?_
        refine qa_nmI (fun x5 e5 => ?_)
        have h := h x5 e5
        refine qa_ist1 dX8_still_42 ?_
        refine qa_inc2 dX8_still_43 (qa_io1 _) ?_
        refine qa_goto (tgt := 14) dX8_still_46 (by decide) ?_
        refine qa_fgt (L' := [some (.ref 1), some (.int x5), some (.int (v2 + (1 : Int32)))]) (⟨rfl, ⟨rfl, ⟨rfl, trivial⟩⟩⟩) ?_
        exact ih x5 (v2 + (1 : Int32)) μ0 hp0  h
theorem tX8_still (l : Launch) {n : Nat}  {μ0 : qa_M} {Q : Int32 → qa_M → Prop} (hp0 : qa_PP μ0.2.2)  (h : wX8_still n  μ0 Q) : qa_Met l yX8_still cX8_still 3 (some .int) 1 0 0 [.ref 1] 113 μ0 (qa_pI Q) := by
  refine qa_ofG (by decide) (Nat.le_of_ble_eq_true rfl) ?_
  unfold wX8_still at h
  change qa_G l yX8_still cX8_still 3 (some .int) 1 0 0 (qa_pI Q) 0 0 0 [some (.ref 1), none, none] [] 113 μ0
  refine qa_ald0 dX8_still_0 ?_
  refine qa_V0I dX8_still_1 lm_X8_138 sh_1 rfl (by decide) (by decide) (Nat.le_of_ble_eq_true rfl) (tX8_hasTown l hp0  h) (fun r1 μ1 hp1 h => ?_)
  refine qa_if_ne (tgt := 10) dX8_still_4 (by decide) (fun c2 => ?_) (fun c2 => ?_)
  · have h := h.1 c2
    refine qa_iconst (v := 0) dX8_still_10 (by decide) ?_
    refine qa_ist1 dX8_still_11 ?_
    refine qa_iconst (v := 0) dX8_still_12 (by decide) ?_
    refine qa_ist2 dX8_still_13 ?_
    refine qa_fgt (L' := [some (.ref 1), some (.int (0 : Int32)), some (.int (0 : Int32))]) (⟨rfl, ⟨rfl, ⟨rfl, trivial⟩⟩⟩) ?_
    refine tX8_still_14 l  n (0 : Int32) (0 : Int32) μ1 hp1  h
  · have h := h.2 c2
    refine qa_bipush (v := -2) dX8_still_7 (by decide) ?_
    exact qa_iret rfl dX8_still_9 ⟨rfl, rfl⟩ ⟨rfl, hp1, _, rfl, h⟩
def wX8_strongest_18 : Nat → Int32 → Int32 → Int32 → Int32 → qa_M → (Int32 → qa_M → Prop) → Prop
  | 0, _, _, _, _, _, _ => False
  | n + 1, v1, v2, v3, v4, μ0, Q => (((μ0.1 (μ0.2.2 1 2) 5) ≤ v4 → Q v2 μ0) ∧ (¬ (μ0.1 (μ0.2.2 1 2) 5) ≤ v4 → wX7_effort n 32 v4 v1 μ0 (fun r4 μ4 => ((r4 ≤ v3 → wX8_strongest_18 n v1 v2 v3 (v4 + (1 : Int32)) μ4 Q) ∧ (¬ r4 ≤ v3 → wX7_effort n 32 v4 v1 μ4 (fun r6 μ6 => wX8_strongest_18 n v1 v4 r6 (v4 + (1 : Int32)) μ6 Q))))))
def wX8_strongest (n : Nat) (v1 : Int32) (μ0 : qa_M) (Q : Int32 → qa_M → Prop) : Prop := wX8_isTurningWeek n v1 μ0 (fun r1 μ1 => ((¬ r1 = 0 → wX8_strongest_18 n v1 (-1 : Int32) (0 : Int32) (0 : Int32) μ1  Q) ∧ (r1 = 0 → Q (-2 : Int32) μ1)))
theorem tX8_strongest_18 (l : Launch)  {Q : Int32 → qa_M → Prop}  : ∀ (n : Nat) (v1 : Int32) (v2 : Int32) (v3 : Int32) (v4 : Int32) (μ0 : qa_M), qa_PP μ0.2.2 → wX8_strongest_18 n v1 v2 v3 v4 μ0  Q → qa_G l yX8_strongest cX8_strongest 5 (some .int) 2 0 0 (qa_pI Q) 0 0 18 [some (.ref 1), some (.int v1), some (.int v2), some (.int v3), some (.int v4)] [] 113 μ0 := by
  intro n
  induction n with
  | zero =>
    intro v1 v2 v3 v4 μ0 hp0  h
    rw [wX8_strongest_18] at h
    exact h.elim
  | succ n ih =>
    intro v1 v2 v3 v4 μ0 hp0  h
    rw [wX8_strongest_18] at h
    refine qa_ild4 dX8_strongest_18 ?_
    refine qa_ald0 dX8_strongest_20 ?_
    refine qa_getR dX8_strongest_21 lf_X8_19 rfl sh_1 (by decide) rfl (qa_tw0 hp0.2.1) ?_
    refine qa_getI dX8_strongest_24 lf_X8_158 (Or.inl rfl) (st_0 hp0.2.1) (tle_0 hp0.2.1) ?_
    refine qa_icmp_ge (tgt := 64) dX8_strongest_27 (by decide) (fun c3 => ?_) (fun c3 => ?_)
    · have h := h.1 c3
      refine qa_ild2 dX8_strongest_64 ?_
      exact qa_iret rfl dX8_strongest_65 ⟨rfl, rfl⟩ ⟨rfl, hp0, _, rfl, h⟩
    · have h := h.2 c3
      refine qa_ald0 dX8_strongest_30 ?_
      refine qa_getR dX8_strongest_31 lf_X8_47 rfl sh_1 (by decide) (pp_1_9 hp0) (by decide) ?_
      refine qa_ild4 dX8_strongest_34 ?_
      refine qa_ild1 dX8_strongest_36 ?_
      refine qa_V2I dX8_strongest_37 lm_X8_168 (sy_0 (Or.inl rfl)) rfl (yle_0 (Or.inl rfl)) (by decide) (Nat.le_of_ble_eq_true rfl) (tX7_effort l hp0 (Or.inl rfl) h) (fun r4 μ4 hp4 h => ?_)
      refine qa_ild3 dX8_strongest_40 ?_
      refine qa_icmp_le (tgt := 58) dX8_strongest_41 (by decide) (fun c5 => ?_) (fun c5 => ?_)
      · have h := h.1 c5
        refine qa_inc4 dX8_strongest_58 (qa_io1 _) ?_
        refine qa_goto (tgt := 18) dX8_strongest_61 (by decide) ?_
        refine qa_fgt (L' := [some (.ref 1), some (.int v1), some (.int v2), some (.int v3), some (.int (v4 + (1 : Int32)))]) (⟨rfl, ⟨rfl, ⟨rfl, ⟨rfl, ⟨rfl, trivial⟩⟩⟩⟩⟩) ?_
        exact ih v1 v2 v3 (v4 + (1 : Int32)) μ4 hp4  h
      · have h := h.2 c5
        refine qa_ald0 dX8_strongest_44 ?_
        refine qa_getR dX8_strongest_45 lf_X8_47 rfl sh_1 (by decide) (pp_1_9 hp4) (by decide) ?_
        refine qa_ild4 dX8_strongest_48 ?_
        refine qa_ild1 dX8_strongest_50 ?_
        refine qa_V2I dX8_strongest_51 lm_X8_168 (sy_0 (Or.inl rfl)) rfl (yle_0 (Or.inl rfl)) (by decide) (Nat.le_of_ble_eq_true rfl) (tX7_effort l hp4 (Or.inl rfl) h) (fun r6 μ6 hp6 h => ?_)
        refine qa_ist3 dX8_strongest_54 ?_
        refine qa_ild4 dX8_strongest_55 ?_
        refine qa_ist2 dX8_strongest_57 ?_
        refine qa_inc4 dX8_strongest_58 (qa_io1 _) ?_
        refine qa_goto (tgt := 18) dX8_strongest_61 (by decide) ?_
        refine qa_fgt (L' := [some (.ref 1), some (.int v1), some (.int v4), some (.int r6), some (.int (v4 + (1 : Int32)))]) (⟨rfl, ⟨rfl, ⟨rfl, ⟨rfl, ⟨rfl, trivial⟩⟩⟩⟩⟩) ?_
        exact ih v1 v4 r6 (v4 + (1 : Int32)) μ6 hp6  h
theorem tX8_strongest (l : Launch) {n : Nat} {v1 : Int32} {μ0 : qa_M} {Q : Int32 → qa_M → Prop} (hp0 : qa_PP μ0.2.2)  (h : wX8_strongest n v1 μ0 Q) : qa_Met l yX8_strongest cX8_strongest 5 (some .int) 2 0 0 [.ref 1, .int v1] 113 μ0 (qa_pI Q) := by
  refine qa_ofG (by decide) (Nat.le_of_ble_eq_true rfl) ?_
  unfold wX8_strongest at h
  change qa_G l yX8_strongest cX8_strongest 5 (some .int) 2 0 0 (qa_pI Q) 0 0 0 [some (.ref 1), some (.int v1), none, none, none] [] 113 μ0
  refine qa_ald0 dX8_strongest_0 ?_
  refine qa_ild1 dX8_strongest_1 ?_
  refine qa_V1I dX8_strongest_2 lm_X8_165 sh_1 rfl (by decide) (by decide) (Nat.le_of_ble_eq_true rfl) (tX8_isTurningWeek l hp0  h) (fun r1 μ1 hp1 h => ?_)
  refine qa_if_ne (tgt := 11) dX8_strongest_5 (by decide) (fun c2 => ?_) (fun c2 => ?_)
  · have h := h.1 c2
    refine qa_iconst (v := -1) dX8_strongest_11 (by decide) ?_
    refine qa_ist2 dX8_strongest_12 ?_
    refine qa_iconst (v := 0) dX8_strongest_13 (by decide) ?_
    refine qa_ist3 dX8_strongest_14 ?_
    refine qa_iconst (v := 0) dX8_strongest_15 (by decide) ?_
    refine qa_ist4 dX8_strongest_16 ?_
    refine qa_fgt (L' := [some (.ref 1), some (.int v1), some (.int (-1 : Int32)), some (.int (0 : Int32)), some (.int (0 : Int32))]) (⟨rfl, ⟨rfl, ⟨rfl, ⟨rfl, ⟨rfl, trivial⟩⟩⟩⟩⟩) ?_
    refine tX8_strongest_18 l  n v1 (-1 : Int32) (0 : Int32) (0 : Int32) μ1 hp1  h
  · have h := h.2 c2
    refine qa_bipush (v := -2) dX8_strongest_8 (by decide) ?_
    exact qa_iret rfl dX8_strongest_10 ⟨rfl, rfl⟩ ⟨rfl, hp1, _, rfl, h⟩
def wX8_sun (n : Nat) (v1 : Int32) (v2 : Int32) (μ0 : qa_M) (Q : Int32 → qa_M → Prop) : Prop := wX8_isHouse n v1 μ0 (fun r1 μ1 => ((r1 = 0 → Q (-2 : Int32) μ1) ∧ (¬ r1 = 0 → wX8_isWeek n v2 μ1 (fun r3 μ3 => ((r3 = 0 → Q (-2 : Int32) μ3) ∧ (¬ r3 = 0 → wX7_sunTo n 32 (μ3.2.2 1 2) v1 v2 μ3 (fun r5 μ5 => Q r5 μ5)))))))
theorem tX8_sun (l : Launch) {n : Nat} {v1 : Int32} {v2 : Int32} {μ0 : qa_M} {Q : Int32 → qa_M → Prop} (hp0 : qa_PP μ0.2.2)  (h : wX8_sun n v1 v2 μ0 Q) : qa_Met l yX8_sun cX8_sun 3 (some .int) 2 0 0 [.ref 1, .int v1, .int v2] 113 μ0 (qa_pI Q) := by
  refine qa_ofG (by decide) (Nat.le_of_ble_eq_true rfl) ?_
  unfold wX8_sun at h
  change qa_G l yX8_sun cX8_sun 3 (some .int) 2 0 0 (qa_pI Q) 0 0 0 [some (.ref 1), some (.int v1), some (.int v2)] [] 113 μ0
  refine qa_ald0 dX8_sun_0 ?_
  refine qa_ild1 dX8_sun_1 ?_
  refine qa_V1I dX8_sun_2 lm_X8_103 sh_1 rfl (by decide) (by decide) (Nat.le_of_ble_eq_true rfl) (tX8_isHouse l hp0  h) (fun r1 μ1 hp1 h => ?_)
  refine qa_if_eq (tgt := 32) dX8_sun_5 (by decide) (fun c2 => ?_) (fun c2 => ?_)
  · have h := h.1 c2
    refine qa_bipush (v := -2) dX8_sun_32 (by decide) ?_
    exact qa_iret rfl dX8_sun_34 ⟨rfl, rfl⟩ ⟨rfl, hp1, _, rfl, h⟩
  · have h := h.2 c2
    refine qa_ald0 dX8_sun_8 ?_
    refine qa_ild2 dX8_sun_9 ?_
    refine qa_V1I dX8_sun_10 lm_X8_152 sh_1 rfl (by decide) (by decide) (Nat.le_of_ble_eq_true rfl) (tX8_isWeek l hp1  h) (fun r3 μ3 hp3 h => ?_)
    refine qa_if_eq (tgt := 32) dX8_sun_13 (by decide) (fun c4 => ?_) (fun c4 => ?_)
    · have h := h.1 c4
      refine qa_bipush (v := -2) dX8_sun_32 (by decide) ?_
      exact qa_iret rfl dX8_sun_34 ⟨rfl, rfl⟩ ⟨rfl, hp3, _, rfl, h⟩
    · have h := h.2 c4
      refine qa_ald0 dX8_sun_16 ?_
      refine qa_getR dX8_sun_17 lf_X8_47 rfl sh_1 (by decide) (pp_1_9 hp3) (by decide) ?_
      refine qa_ald0 dX8_sun_20 ?_
      refine qa_getR dX8_sun_21 lf_X8_19 rfl sh_1 (by decide) rfl (qa_tw0 hp3.2.1) ?_
      refine qa_ild1 dX8_sun_24 ?_
      refine qa_ild2 dX8_sun_25 ?_
      refine qa_V3I dX8_sun_26 lm_X8_185 (sy_0 (Or.inl rfl)) rfl (yle_0 (Or.inl rfl)) (by decide) (Nat.le_of_ble_eq_true rfl) (tX7_sunTo l hp3 (Or.inl rfl) hp3.2.1 h) (fun r5 μ5 hp5 h => ?_)
      refine qa_goto (tgt := 34) dX8_sun_29 (by decide) ?_
      exact qa_iret rfl dX8_sun_34 ⟨rfl, rfl⟩ ⟨rfl, hp5, _, rfl, h⟩
def wX8_surely (n : Nat) (v1 : Int32) (μ0 : qa_M) (Q : Int32 → qa_M → Prop) : Prop := wX8_refuseTurns n v1 μ0 (fun r1 μ1 => ((r1 = 0 → vp_in v1 4 ∧ wX8_seek n (83 + 2 * v1.toNatClampNeg) μ1 (fun μ4 => ((¬ (μ4.1 42 0) = 0 → Q (μ4.1 42 1) μ4) ∧ ((μ4.1 42 0) = 0 → Q (-1 : Int32) μ4)))) ∧ (¬ r1 = 0 → Q r1 μ1)))
theorem tX8_surely (l : Launch) {n : Nat} {v1 : Int32} {μ0 : qa_M} {Q : Int32 → qa_M → Prop} (hp0 : qa_PP μ0.2.2)  (h : wX8_surely n v1 μ0 Q) : qa_Met l yX8_surely cX8_surely 3 (some .int) 5 0 0 [.ref 1, .int v1] 113 μ0 (qa_pI Q) := by
  refine qa_ofG (by decide) (Nat.le_of_ble_eq_true rfl) ?_
  unfold wX8_surely at h
  change qa_G l yX8_surely cX8_surely 3 (some .int) 5 0 0 (qa_pI Q) 0 0 0 [some (.ref 1), some (.int v1), none] [] 113 μ0
  refine qa_ald0 dX8_surely_0 ?_
  refine qa_ild1 dX8_surely_1 ?_
  refine qa_V1I dX8_surely_2 lm_X8_283 sh_1 rfl (by decide) (by decide) (Nat.le_of_ble_eq_true rfl) (tX8_refuseTurns l hp0  h) (fun r1 μ1 hp1 h => ?_)
  refine qa_ist2 dX8_surely_5 ?_
  refine qa_ild2 dX8_surely_6 ?_
  refine qa_if_eq (tgt := 12) dX8_surely_7 (by decide) (fun c2 => ?_) (fun c2 => ?_)
  · have h := h.1 c2
    refine qa_ald0 dX8_surely_12 ?_
    refine qa_ald0 dX8_surely_13 ?_
    refine qa_getR dX8_surely_14 lf_X8_33 rfl sh_1 (by decide) (pp_1_7 hp1) (by decide) ?_
    refine qa_ild1 dX8_surely_17 ?_
    have b3 := h.1
    have h := h.2
    refine qa_aald (t := 6) dX8_surely_18 sh_30 rfl (by decide) b3 (psl hp1 b3) (qa_rw0 (qa_rwi b3)) ?_
    refine qa_V1V dX8_surely_19 lm_X8_286 sh_1 rfl (by decide) (by decide) (Nat.le_of_ble_eq_true rfl) (tX8_seek l hp1 (qa_rwi b3) h) (fun μ4 hp4 h => ?_)
    refine qa_ald0 dX8_surely_22 ?_
    refine qa_getR dX8_surely_23 lf_X8_57 rfl sh_1 (by decide) (pp_1_11 hp4) (by decide) ?_
    refine qa_getI dX8_surely_26 lf_X8_290 (Or.inl rfl) sh_42 (by decide) ?_
    refine qa_if_ne (tgt := 36) dX8_surely_29 (by decide) (fun c5 => ?_) (fun c5 => ?_)
    · have h := h.1 c5
      refine qa_ald0 dX8_surely_36 ?_
      refine qa_getR dX8_surely_37 lf_X8_57 rfl sh_1 (by decide) (pp_1_11 hp4) (by decide) ?_
      refine qa_getI dX8_surely_40 lf_X8_293 (Or.inl rfl) sh_42 (by decide) ?_
      exact qa_iret rfl dX8_surely_43 ⟨rfl, rfl⟩ ⟨rfl, hp4, _, rfl, h⟩
    · have h := h.2 c5
      refine qa_iconst (v := -1) dX8_surely_32 (by decide) ?_
      refine qa_goto (tgt := 43) dX8_surely_33 (by decide) ?_
      exact qa_iret rfl dX8_surely_43 ⟨rfl, rfl⟩ ⟨rfl, hp4, _, rfl, h⟩
  · have h := h.2 c2
    refine qa_ild2 dX8_surely_10 ?_
    exact qa_iret rfl dX8_surely_11 ⟨rfl, rfl⟩ ⟨rfl, hp1, _, rfl, h⟩
def wX8_swap (n : Nat) (v1 : Int32) (v2 : Int32) (v3 : Int32) (μ0 : qa_M) (Q : Int32 → qa_M → Prop) : Prop := wX8_isPair n v1 v2 μ0 (fun r1 μ1 => ((r1 = 0 → Q (-2 : Int32) μ1) ∧ (¬ r1 = 0 → wX8_isTurningWeek n v3 μ1 (fun r3 μ3 => ((¬ r3 = 0 → wX8_act n v1 v2 v3 μ3 (fun r5 μ5 => Q r5 μ5)) ∧ (r3 = 0 → Q (-2 : Int32) μ3))))))
theorem tX8_swap (l : Launch) {n : Nat} {v1 : Int32} {v2 : Int32} {v3 : Int32} {μ0 : qa_M} {Q : Int32 → qa_M → Prop} (hp0 : qa_PP μ0.2.2)  (h : wX8_swap n v1 v2 v3 μ0 Q) : qa_Met l yX8_swap cX8_swap 4 (some .int) 6 0 0 [.ref 1, .int v1, .int v2, .int v3] 113 μ0 (qa_pI Q) := by
  refine qa_ofG (by decide) (Nat.le_of_ble_eq_true rfl) ?_
  unfold wX8_swap at h
  change qa_G l yX8_swap cX8_swap 4 (some .int) 6 0 0 (qa_pI Q) 0 0 0 [some (.ref 1), some (.int v1), some (.int v2), some (.int v3)] [] 113 μ0
  refine qa_ald0 dX8_swap_0 ?_
  refine qa_ild1 dX8_swap_1 ?_
  refine qa_ild2 dX8_swap_2 ?_
  refine qa_V2I dX8_swap_3 lm_X8_202 sh_1 rfl (by decide) (by decide) (Nat.le_of_ble_eq_true rfl) (tX8_isPair l hp0  h) (fun r1 μ1 hp1 h => ?_)
  refine qa_if_eq (tgt := 17) dX8_swap_6 (by decide) (fun c2 => ?_) (fun c2 => ?_)
  · have h := h.1 c2
    refine qa_bipush (v := -2) dX8_swap_17 (by decide) ?_
    exact qa_iret rfl dX8_swap_19 ⟨rfl, rfl⟩ ⟨rfl, hp1, _, rfl, h⟩
  · have h := h.2 c2
    refine qa_ald0 dX8_swap_9 ?_
    refine qa_ild3 dX8_swap_10 ?_
    refine qa_V1I dX8_swap_11 lm_X8_165 sh_1 rfl (by decide) (by decide) (Nat.le_of_ble_eq_true rfl) (tX8_isTurningWeek l hp1  h) (fun r3 μ3 hp3 h => ?_)
    refine qa_if_ne (tgt := 20) dX8_swap_14 (by decide) (fun c4 => ?_) (fun c4 => ?_)
    · have h := h.1 c4
      refine qa_ald0 dX8_swap_20 ?_
      refine qa_ild1 dX8_swap_21 ?_
      refine qa_ild2 dX8_swap_22 ?_
      refine qa_ild3 dX8_swap_23 ?_
      refine qa_V3I dX8_swap_24 lm_X8_384 sh_1 rfl (by decide) (by decide) (Nat.le_of_ble_eq_true rfl) (tX8_act l hp3  h) (fun r5 μ5 hp5 h => ?_)
      exact qa_iret rfl dX8_swap_27 ⟨rfl, rfl⟩ ⟨rfl, hp5, _, rfl, h⟩
    · have h := h.2 c4
      refine qa_bipush (v := -2) dX8_swap_17 (by decide) ?_
      exact qa_iret rfl dX8_swap_19 ⟨rfl, rfl⟩ ⟨rfl, hp3, _, rfl, h⟩
def wX8_sweet_15 : Nat → Int32 → Int32 → Int32 → qa_M → (Int32 → qa_M → Prop) → Prop
  | 0, _, _, _, _, _ => False
  | n + 1, v1, v2, v3, μ0, Q => (((μ0.1 (μ0.2.2 1 2) 1) < v3 → Q v2 μ0) ∧ (¬ (μ0.1 (μ0.2.2 1 2) 1) < v3 → wX7_spot n 32 v1 v3 μ0 (fun r4 μ4 => vp_in r4 8 ∧ vp_in r4 8 ∧ (((μ4.1 ((μ4.2.2 1 2) + 2) r4.toNatClampNeg) ≤ (μ4.1 ((μ4.2.2 1 2) + 3) r4.toNatClampNeg) → wX8_sweet_15 n v1 v2 (v3 + (1 : Int32)) μ4 Q) ∧ (¬ (μ4.1 ((μ4.2.2 1 2) + 2) r4.toNatClampNeg) ≤ (μ4.1 ((μ4.2.2 1 2) + 3) r4.toNatClampNeg) → wX8_sweet_15 n v1 (v2 + (1 : Int32)) (v3 + (1 : Int32)) μ4 Q)))))
def wX8_sweet (n : Nat) (v1 : Int32) (μ0 : qa_M) (Q : Int32 → qa_M → Prop) : Prop := wX8_isHouse n v1 μ0 (fun r1 μ1 => ((¬ r1 = 0 → wX8_sweet_15 n v1 (0 : Int32) (0 : Int32) μ1  Q) ∧ (r1 = 0 → Q (-2 : Int32) μ1)))
theorem tX8_sweet_15 (l : Launch)  {Q : Int32 → qa_M → Prop}  : ∀ (n : Nat) (v1 : Int32) (v2 : Int32) (v3 : Int32) (μ0 : qa_M), qa_PP μ0.2.2 → wX8_sweet_15 n v1 v2 v3 μ0  Q → qa_G l yX8_sweet cX8_sweet 5 (some .int) 1 0 0 (qa_pI Q) 0 0 15 [some (.ref 1), some (.int v1), some (.int v2), some (.int v3), none] [] 113 μ0 := by
  intro n
  induction n with
  | zero =>
    intro v1 v2 v3 μ0 hp0  h
    rw [wX8_sweet_15] at h
    exact h.elim
  | succ n ih =>
    intro v1 v2 v3 μ0 hp0  h
    rw [wX8_sweet_15] at h
    refine qa_ild3 dX8_sweet_15 ?_
    refine qa_ald0 dX8_sweet_16 ?_
    refine qa_getR dX8_sweet_17 lf_X8_19 rfl sh_1 (by decide) rfl (qa_tw0 hp0.2.1) ?_
    refine qa_getI dX8_sweet_20 lf_X8_145 (Or.inl rfl) (st_0 hp0.2.1) (tle_0 hp0.2.1) ?_
    refine qa_icmp_gt (tgt := 69) dX8_sweet_23 (by decide) (fun c3 => ?_) (fun c3 => ?_)
    · have h := h.1 c3
      refine qa_ild2 dX8_sweet_69 ?_
      exact qa_iret rfl dX8_sweet_70 ⟨rfl, rfl⟩ ⟨rfl, hp0, _, rfl, h⟩
    · have h := h.2 c3
      refine qa_ald0 dX8_sweet_26 ?_
      refine qa_getR dX8_sweet_27 lf_X8_47 rfl sh_1 (by decide) (pp_1_9 hp0) (by decide) ?_
      refine qa_ild1 dX8_sweet_30 ?_
      refine qa_ild3 dX8_sweet_31 ?_
      refine qa_V2I dX8_sweet_32 lm_X8_155 (sy_0 (Or.inl rfl)) rfl (yle_0 (Or.inl rfl)) (by decide) (Nat.le_of_ble_eq_true rfl) (tX7_spot l hp0 (Or.inl rfl) h) (fun r4 μ4 hp4 h => ?_)
      refine qa_ist4 dX8_sweet_35 ?_
      refine qa_ald0 dX8_sweet_37 ?_
      refine qa_getR dX8_sweet_38 lf_X8_19 rfl sh_1 (by decide) rfl (qa_tw0 hp4.2.1) ?_
      refine qa_getR dX8_sweet_41 lf_X8_120 rfl (st_0 hp4.2.1) (tle_0 hp4.2.1) (pt_12 hp4 hp4.2.1) (Nat.succ_pos _) ?_
      refine qa_ild4 dX8_sweet_44 ?_
      refine qa_iald dX8_sweet_46 (st_2 hp4.2.1) (tle_2 hp4.2.1) h.1 ?_
      have h := h.2
      refine qa_ald0 dX8_sweet_47 ?_
      refine qa_getR dX8_sweet_48 lf_X8_19 rfl sh_1 (by decide) rfl (qa_tw0 hp4.2.1) ?_
      refine qa_getR dX8_sweet_51 lf_X8_123 rfl (st_0 hp4.2.1) (tle_0 hp4.2.1) (pt_13 hp4 hp4.2.1) (Nat.succ_pos _) ?_
      refine qa_ild4 dX8_sweet_54 ?_
      refine qa_iald dX8_sweet_56 (st_3 hp4.2.1) (tle_3 hp4.2.1) h.1 ?_
      have h := h.2
      refine qa_icmp_le (tgt := 63) dX8_sweet_57 (by decide) (fun c5 => ?_) (fun c5 => ?_)
      · have h := h.1 c5
        refine qa_inc3 dX8_sweet_63 (qa_io1 _) ?_
        refine qa_goto (tgt := 15) dX8_sweet_66 (by decide) ?_
        refine qa_fgt (L' := [some (.ref 1), some (.int v1), some (.int v2), some (.int (v3 + (1 : Int32))), none]) (⟨rfl, ⟨rfl, ⟨rfl, ⟨rfl, trivial⟩⟩⟩⟩) ?_
        exact ih v1 v2 (v3 + (1 : Int32)) μ4 hp4  h
      · have h := h.2 c5
        refine qa_inc2 dX8_sweet_60 (qa_io1 _) ?_
        refine qa_inc3 dX8_sweet_63 (qa_io1 _) ?_
        refine qa_goto (tgt := 15) dX8_sweet_66 (by decide) ?_
        refine qa_fgt (L' := [some (.ref 1), some (.int v1), some (.int (v2 + (1 : Int32))), some (.int (v3 + (1 : Int32))), none]) (⟨rfl, ⟨rfl, ⟨rfl, ⟨rfl, trivial⟩⟩⟩⟩) ?_
        exact ih v1 (v2 + (1 : Int32)) (v3 + (1 : Int32)) μ4 hp4  h
theorem tX8_sweet (l : Launch) {n : Nat} {v1 : Int32} {μ0 : qa_M} {Q : Int32 → qa_M → Prop} (hp0 : qa_PP μ0.2.2)  (h : wX8_sweet n v1 μ0 Q) : qa_Met l yX8_sweet cX8_sweet 5 (some .int) 1 0 0 [.ref 1, .int v1] 113 μ0 (qa_pI Q) := by
  refine qa_ofG (by decide) (Nat.le_of_ble_eq_true rfl) ?_
  unfold wX8_sweet at h
  change qa_G l yX8_sweet cX8_sweet 5 (some .int) 1 0 0 (qa_pI Q) 0 0 0 [some (.ref 1), some (.int v1), none, none, none] [] 113 μ0
  refine qa_ald0 dX8_sweet_0 ?_
  refine qa_ild1 dX8_sweet_1 ?_
  refine qa_V1I dX8_sweet_2 lm_X8_103 sh_1 rfl (by decide) (by decide) (Nat.le_of_ble_eq_true rfl) (tX8_isHouse l hp0  h) (fun r1 μ1 hp1 h => ?_)
  refine qa_if_ne (tgt := 11) dX8_sweet_5 (by decide) (fun c2 => ?_) (fun c2 => ?_)
  · have h := h.1 c2
    refine qa_iconst (v := 0) dX8_sweet_11 (by decide) ?_
    refine qa_ist2 dX8_sweet_12 ?_
    refine qa_iconst (v := 0) dX8_sweet_13 (by decide) ?_
    refine qa_ist3 dX8_sweet_14 ?_
    refine qa_fgt (L' := [some (.ref 1), some (.int v1), some (.int (0 : Int32)), some (.int (0 : Int32)), none]) (⟨rfl, ⟨rfl, ⟨rfl, ⟨rfl, trivial⟩⟩⟩⟩) ?_
    refine tX8_sweet_15 l  n v1 (0 : Int32) (0 : Int32) μ1 hp1  h
  · have h := h.2 c2
    refine qa_bipush (v := -2) dX8_sweet_8 (by decide) ?_
    exact qa_iret rfl dX8_sweet_10 ⟨rfl, rfl⟩ ⟨rfl, hp1, _, rfl, h⟩
def wX8_toil_15 : Nat → Int32 → Int32 → Int32 → qa_M → (Int32 → qa_M → Prop) → Prop
  | 0, _, _, _, _, _ => False
  | n + 1, v1, v2, v3, μ0, Q => (((μ0.1 (μ0.2.2 1 2) 1) ≤ v3 → Q v2 μ0) ∧ (¬ (μ0.1 (μ0.2.2 1 2) 1) ≤ v3 → wX7_effort n 32 v1 v3 μ0 (fun r4 μ4 => ∀ x5, x5 = (v2 + r4) → wX8_toil_15 n v1 x5 (v3 + (1 : Int32)) μ4 Q)))
def wX8_toil (n : Nat) (v1 : Int32) (μ0 : qa_M) (Q : Int32 → qa_M → Prop) : Prop := wX8_isHouse n v1 μ0 (fun r1 μ1 => ((¬ r1 = 0 → wX8_toil_15 n v1 (0 : Int32) (0 : Int32) μ1  Q) ∧ (r1 = 0 → Q (-2 : Int32) μ1)))
theorem tX8_toil_15 (l : Launch)  {Q : Int32 → qa_M → Prop}  : ∀ (n : Nat) (v1 : Int32) (v2 : Int32) (v3 : Int32) (μ0 : qa_M), qa_PP μ0.2.2 → wX8_toil_15 n v1 v2 v3 μ0  Q → qa_G l yX8_toil cX8_toil 4 (some .int) 1 0 0 (qa_pI Q) 0 0 15 [some (.ref 1), some (.int v1), some (.int v2), some (.int v3)] [] 113 μ0 := by
  intro n
  induction n with
  | zero =>
    intro v1 v2 v3 μ0 hp0  h
    rw [wX8_toil_15] at h
    exact h.elim
  | succ n ih =>
    intro v1 v2 v3 μ0 hp0  h
    rw [wX8_toil_15] at h
    refine qa_ild3 dX8_toil_15 ?_
    refine qa_ald0 dX8_toil_16 ?_
    refine qa_getR dX8_toil_17 lf_X8_19 rfl sh_1 (by decide) rfl (qa_tw0 hp0.2.1) ?_
    refine qa_getI dX8_toil_20 lf_X8_145 (Or.inl rfl) (st_0 hp0.2.1) (tle_0 hp0.2.1) ?_
    refine qa_icmp_ge (tgt := 44) dX8_toil_23 (by decide) (fun c3 => ?_) (fun c3 => ?_)
    · have h := h.1 c3
      refine qa_ild2 dX8_toil_44 ?_
      exact qa_iret rfl dX8_toil_45 ⟨rfl, rfl⟩ ⟨rfl, hp0, _, rfl, h⟩
    · have h := h.2 c3
      refine qa_ild2 dX8_toil_26 ?_
      refine qa_ald0 dX8_toil_27 ?_
      refine qa_getR dX8_toil_28 lf_X8_47 rfl sh_1 (by decide) (pp_1_9 hp0) (by decide) ?_
      refine qa_ild1 dX8_toil_31 ?_
      refine qa_ild3 dX8_toil_32 ?_
      refine qa_V2I dX8_toil_33 lm_X8_168 (sy_0 (Or.inl rfl)) rfl (yle_0 (Or.inl rfl)) (by decide) (Nat.le_of_ble_eq_true rfl) (tX7_effort l hp0 (Or.inl rfl) h) (fun r4 μ4 hp4 h => ?_)
      refine qa_iadd dX8_toil_36 ?_
      refine qa_nmI (fun x5 e5 => ?_)
      have h := h x5 e5
      refine qa_ist2 dX8_toil_37 ?_
      refine qa_inc3 dX8_toil_38 (qa_io1 _) ?_
      refine qa_goto (tgt := 15) dX8_toil_41 (by decide) ?_
      refine qa_fgt (L' := [some (.ref 1), some (.int v1), some (.int x5), some (.int (v3 + (1 : Int32)))]) (⟨rfl, ⟨rfl, ⟨rfl, ⟨rfl, trivial⟩⟩⟩⟩) ?_
      exact ih v1 x5 (v3 + (1 : Int32)) μ4 hp4  h
theorem tX8_toil (l : Launch) {n : Nat} {v1 : Int32} {μ0 : qa_M} {Q : Int32 → qa_M → Prop} (hp0 : qa_PP μ0.2.2)  (h : wX8_toil n v1 μ0 Q) : qa_Met l yX8_toil cX8_toil 4 (some .int) 1 0 0 [.ref 1, .int v1] 113 μ0 (qa_pI Q) := by
  refine qa_ofG (by decide) (Nat.le_of_ble_eq_true rfl) ?_
  unfold wX8_toil at h
  change qa_G l yX8_toil cX8_toil 4 (some .int) 1 0 0 (qa_pI Q) 0 0 0 [some (.ref 1), some (.int v1), none, none] [] 113 μ0
  refine qa_ald0 dX8_toil_0 ?_
  refine qa_ild1 dX8_toil_1 ?_
  refine qa_V1I dX8_toil_2 lm_X8_103 sh_1 rfl (by decide) (by decide) (Nat.le_of_ble_eq_true rfl) (tX8_isHouse l hp0  h) (fun r1 μ1 hp1 h => ?_)
  refine qa_if_ne (tgt := 11) dX8_toil_5 (by decide) (fun c2 => ?_) (fun c2 => ?_)
  · have h := h.1 c2
    refine qa_iconst (v := 0) dX8_toil_11 (by decide) ?_
    refine qa_ist2 dX8_toil_12 ?_
    refine qa_iconst (v := 0) dX8_toil_13 (by decide) ?_
    refine qa_ist3 dX8_toil_14 ?_
    refine qa_fgt (L' := [some (.ref 1), some (.int v1), some (.int (0 : Int32)), some (.int (0 : Int32))]) (⟨rfl, ⟨rfl, ⟨rfl, ⟨rfl, trivial⟩⟩⟩⟩) ?_
    refine tX8_toil_15 l  n v1 (0 : Int32) (0 : Int32) μ1 hp1  h
  · have h := h.2 c2
    refine qa_bipush (v := -2) dX8_toil_8 (by decide) ?_
    exact qa_iret rfl dX8_toil_10 ⟨rfl, rfl⟩ ⟨rfl, hp1, _, rfl, h⟩
def wX8_town (n : Nat)  (μ0 : qa_M) (Q : Int32 → qa_M → Prop) : Prop := wX2_read n  μ0 (fun μ1 => ∀ μ2, μ2 = qa_uI μ1 2 1 (0 : Int32) → (((μ2.1 2 7) = 0 → ∀ μ4, μ4 = qa_uP μ2 1 2 (μ2.2.2 2 2) → ∀ μ5, μ5 = qa_uP μ4 2 2 (μ2.2.2 1 2) → wX8_renew n  μ5 (fun μ6 => Q (μ6.1 (μ6.2.2 1 2) 0) μ6)) ∧ (¬ (μ2.1 2 7) = 0 → Q (-4 : Int32) μ2)))
theorem tX8_town (l : Launch) {n : Nat}  {μ0 : qa_M} {Q : Int32 → qa_M → Prop} (hp0 : qa_PP μ0.2.2)  (h : wX8_town n  μ0 Q) : qa_Met l yX8_town cX8_town 2 (some .int) 11 0 0 [.ref 1] 113 μ0 (qa_pI Q) := by
  refine qa_ofG (by decide) (Nat.le_of_ble_eq_true rfl) ?_
  unfold wX8_town at h
  change qa_G l yX8_town cX8_town 2 (some .int) 11 0 0 (qa_pI Q) 0 0 0 [some (.ref 1), none] [] 113 μ0
  refine qa_ald0 dX8_town_0 ?_
  refine qa_getR dX8_town_1 lf_X8_10 rfl sh_1 (by decide) (pp_1_0 hp0) (by decide) ?_
  refine qa_V0V dX8_town_4 lm_X8_85 sh_2 rfl (by decide) (by decide) (Nat.le_of_ble_eq_true rfl) (tX2_read l hp0  h) (fun μ1 hp1 h => ?_)
  refine qa_ald0 dX8_town_7 ?_
  refine qa_getR dX8_town_8 lf_X8_10 rfl sh_1 (by decide) (pp_1_0 hp1) (by decide) ?_
  refine qa_iconst (v := 0) dX8_town_11 (by decide) ?_
  refine qa_putI dX8_town_12 lf_X8_77 rfl sh_2 (by decide) rfl ?_
  refine qa_nmM (fun μ2 em2 => ?_)
  have h := h μ2 em2
  have hp2 : qa_PP μ2.2.2 := by rw [em2]; exact hp1
  refine qa_ald0 dX8_town_15 ?_
  refine qa_getR dX8_town_16 lf_X8_10 rfl sh_1 (by decide) (pp_1_0 hp2) (by decide) ?_
  refine qa_getI dX8_town_19 lf_X8_88 (Or.inl rfl) sh_2 (by decide) ?_
  refine qa_if_eq (tgt := 28) dX8_town_22 (by decide) (fun c3 => ?_) (fun c3 => ?_)
  · have h := h.1 c3
    refine qa_ald0 dX8_town_28 ?_
    refine qa_getR dX8_town_29 lf_X8_19 rfl sh_1 (by decide) rfl (qa_tw0 hp2.2.1) ?_
    refine qa_ast1 dX8_town_32 ?_
    refine qa_ald0 dX8_town_33 ?_
    refine qa_ald0 dX8_town_34 ?_
    refine qa_getR dX8_town_35 lf_X8_10 rfl sh_1 (by decide) (pp_1_0 hp2) (by decide) ?_
    refine qa_getR dX8_town_38 lf_X8_91 rfl sh_2 (by decide) rfl (qa_tw0 hp2.2.2) ?_
    refine qa_putR dX8_town_41 lf_X8_19 (Or.inr ⟨_, rfl⟩) sh_1 (by decide) (Or.inl rfl) (qa_tw0 hp2.2.2) ?_
    refine qa_nmM (fun μ4 em4 => ?_)
    have h := h μ4 em4
    have hp4 : qa_PP μ4.2.2 := by rw [em4]; exact qa_PP_1_2 hp2 hp2.2.2
    refine qa_ald0 dX8_town_44 ?_
    refine qa_getR dX8_town_45 lf_X8_10 rfl sh_1 (by decide) (pp_1_0 hp4) (by decide) ?_
    refine qa_ald1 dX8_town_48 ?_
    refine qa_putR dX8_town_49 lf_X8_91 (Or.inr ⟨_, rfl⟩) sh_2 (by decide) (Or.inl rfl) (qa_tw0 hp2.2.1) ?_
    refine qa_nmM (fun μ5 em5 => ?_)
    have h := h μ5 em5
    have hp5 : qa_PP μ5.2.2 := by rw [em5]; exact qa_PP_2_2 hp4 hp2.2.1
    refine qa_ald0 dX8_town_52 ?_
    refine qa_V0V dX8_town_53 lm_X8_94 sh_1 rfl (by decide) (by decide) (Nat.le_of_ble_eq_true rfl) (tX8_renew l hp5  h) (fun μ6 hp6 h => ?_)
    refine qa_ald0 dX8_town_56 ?_
    refine qa_getR dX8_town_57 lf_X8_19 rfl sh_1 (by decide) rfl (qa_tw0 hp6.2.1) ?_
    refine qa_getI dX8_town_60 lf_X8_97 (Or.inl rfl) (st_0 hp6.2.1) (tle_0 hp6.2.1) ?_
    exact qa_iret rfl dX8_town_63 ⟨rfl, rfl⟩ ⟨rfl, hp6, _, rfl, h⟩
  · have h := h.2 c3
    refine qa_bipush (v := -4) dX8_town_25 (by decide) ?_
    exact qa_iret rfl dX8_town_27 ⟨rfl, rfl⟩ ⟨rfl, hp2, _, rfl, h⟩
def wX8_trade_27 : Nat → Int32 → Int32 → qa_M → (Int32 → qa_M → Prop) → (Int32 → qa_M → Prop) → Prop
  | 0, _, _, _, _, _ => False
  | n + 1, v1, v2, μ0, K0, Q => (((μ0.1 (μ0.2.2 1 2) 5) ≤ v2 → K0 v1 μ0) ∧ (¬ (μ0.1 (μ0.2.2 1 2) 5) ≤ v2 → wX8_bothGain n v1 v2 μ0 (fun r6 μ6 => ((r6 = 0 → wX8_trade_27 n v1 (v2 + (1 : Int32)) μ6 K0 Q) ∧ (¬ r6 = 0 → Q (((10 : Int32) * v1) + v2) μ6)))))
def wX8_trade_12 : Nat → Int32 → qa_M → (Int32 → qa_M → Prop) → Prop
  | 0, _, _, _ => False
  | n + 1, v1, μ0, Q => (((μ0.1 (μ0.2.2 1 2) 5) ≤ v1 → Q (-1 : Int32) μ0) ∧ (¬ (μ0.1 (μ0.2.2 1 2) 5) ≤ v1 → ∀ x4, x4 = (v1 + (1 : Int32)) → wX8_trade_27 n v1 x4 μ0 (fun v1_9 μ8 => wX8_trade_12 n (v1_9 + (1 : Int32)) μ8 Q) Q))
def wX8_trade (n : Nat)  (μ0 : qa_M) (Q : Int32 → qa_M → Prop) : Prop := wX8_hasTown n  μ0 (fun r1 μ1 => ((¬ r1 = 0 → wX8_trade_12 n (0 : Int32) μ1  Q) ∧ (r1 = 0 → Q (-2 : Int32) μ1)))
theorem tX8_trade_27 (l : Launch) {K0 : Int32 → qa_M → Prop} {Q : Int32 → qa_M → Prop} (hK0 : ∀ (v1 : Int32) (μ : qa_M), qa_PP μ.2.2 → K0 v1 μ → qa_G l yX8_trade cX8_trade 3 (some .int) 5 0 0 (qa_pI Q) 0 0 60 [some (.ref 1), some (.int v1), none] [] 113 μ) : ∀ (n : Nat) (v1 : Int32) (v2 : Int32) (μ0 : qa_M), qa_PP μ0.2.2 → wX8_trade_27 n v1 v2 μ0 K0 Q → qa_G l yX8_trade cX8_trade 3 (some .int) 5 0 0 (qa_pI Q) 0 0 27 [some (.ref 1), some (.int v1), some (.int v2)] [] 113 μ0 := by
  intro n
  induction n with
  | zero =>
    intro v1 v2 μ0 hp0  h
    rw [wX8_trade_27] at h
    exact h.elim
  | succ n ih =>
    intro v1 v2 μ0 hp0  h
    rw [wX8_trade_27] at h
    refine qa_ild2 dX8_trade_27 ?_
    refine qa_ald0 dX8_trade_28 ?_
    refine qa_getR dX8_trade_29 lf_X8_19 rfl sh_1 (by decide) rfl (qa_tw0 hp0.2.1) ?_
    refine qa_getI dX8_trade_32 lf_X8_158 (Or.inl rfl) (st_0 hp0.2.1) (tle_0 hp0.2.1) ?_
    refine qa_icmp_ge (tgt := 60) dX8_trade_35 (by decide) (fun c5 => ?_) (fun c5 => ?_)
    · have h := h.1 c5
      refine qa_fgt (L' := [some (.ref 1), some (.int v1), none]) (⟨rfl, ⟨rfl, trivial⟩⟩) ?_
      exact hK0 v1 μ0 hp0  h
    · have h := h.2 c5
      refine qa_ald0 dX8_trade_38 ?_
      refine qa_ild1 dX8_trade_39 ?_
      refine qa_ild2 dX8_trade_40 ?_
      refine qa_V2I dX8_trade_41 lm_X8_258 sh_1 rfl (by decide) (by decide) (Nat.le_of_ble_eq_true rfl) (tX8_bothGain l hp0  h) (fun r6 μ6 hp6 h => ?_)
      refine qa_if_eq (tgt := 54) dX8_trade_44 (by decide) (fun c7 => ?_) (fun c7 => ?_)
      · have h := h.1 c7
        refine qa_inc2 dX8_trade_54 (qa_io1 _) ?_
        refine qa_goto (tgt := 27) dX8_trade_57 (by decide) ?_
        refine qa_fgt (L' := [some (.ref 1), some (.int v1), some (.int (v2 + (1 : Int32)))]) (⟨rfl, ⟨rfl, ⟨rfl, trivial⟩⟩⟩) ?_
        exact ih v1 (v2 + (1 : Int32)) μ6 hp6  h
      · have h := h.2 c7
        refine qa_bipush (v := 10) dX8_trade_47 (by decide) ?_
        refine qa_ild1 dX8_trade_49 ?_
        refine qa_imul dX8_trade_50 ?_
        refine qa_ild2 dX8_trade_51 ?_
        refine qa_iadd dX8_trade_52 ?_
        exact qa_iret rfl dX8_trade_53 ⟨rfl, rfl⟩ ⟨rfl, hp6, _, rfl, h⟩
theorem tX8_trade_12 (l : Launch)  {Q : Int32 → qa_M → Prop}  : ∀ (n : Nat) (v1 : Int32) (μ0 : qa_M), qa_PP μ0.2.2 → wX8_trade_12 n v1 μ0  Q → qa_G l yX8_trade cX8_trade 3 (some .int) 5 0 0 (qa_pI Q) 0 0 12 [some (.ref 1), some (.int v1), none] [] 113 μ0 := by
  intro n
  induction n with
  | zero =>
    intro v1 μ0 hp0  h
    rw [wX8_trade_12] at h
    exact h.elim
  | succ n ih =>
    intro v1 μ0 hp0  h
    rw [wX8_trade_12] at h
    refine qa_ild1 dX8_trade_12 ?_
    refine qa_ald0 dX8_trade_13 ?_
    refine qa_getR dX8_trade_14 lf_X8_19 rfl sh_1 (by decide) rfl (qa_tw0 hp0.2.1) ?_
    refine qa_getI dX8_trade_17 lf_X8_158 (Or.inl rfl) (st_0 hp0.2.1) (tle_0 hp0.2.1) ?_
    refine qa_icmp_ge (tgt := 66) dX8_trade_20 (by decide) (fun c3 => ?_) (fun c3 => ?_)
    · have h := h.1 c3
      refine qa_iconst (v := -1) dX8_trade_66 (by decide) ?_
      exact qa_iret rfl dX8_trade_67 ⟨rfl, rfl⟩ ⟨rfl, hp0, _, rfl, h⟩
    · have h := h.2 c3
      refine qa_ild1 dX8_trade_23 ?_
      refine qa_iconst (v := 1) dX8_trade_24 (by decide) ?_
      refine qa_iadd dX8_trade_25 ?_
      refine qa_nmI (fun x4 e4 => ?_)
      have h := h x4 e4
      refine qa_ist2 dX8_trade_26 ?_
      refine qa_fgt (L' := [some (.ref 1), some (.int v1), some (.int x4)]) (⟨rfl, ⟨rfl, ⟨rfl, trivial⟩⟩⟩) ?_
      refine tX8_trade_27 l ?_ n v1 x4 μ0 hp0  h
      · intro v1_9 μ8 hp8  h
        refine qa_inc1 dX8_trade_60 (qa_io1 _) ?_
        refine qa_goto (tgt := 12) dX8_trade_63 (by decide) ?_
        refine qa_fgt (L' := [some (.ref 1), some (.int (v1_9 + (1 : Int32))), none]) (⟨rfl, ⟨rfl, trivial⟩⟩) ?_
        exact ih (v1_9 + (1 : Int32)) μ8 hp8  h
theorem tX8_trade (l : Launch) {n : Nat}  {μ0 : qa_M} {Q : Int32 → qa_M → Prop} (hp0 : qa_PP μ0.2.2)  (h : wX8_trade n  μ0 Q) : qa_Met l yX8_trade cX8_trade 3 (some .int) 5 0 0 [.ref 1] 113 μ0 (qa_pI Q) := by
  refine qa_ofG (by decide) (Nat.le_of_ble_eq_true rfl) ?_
  unfold wX8_trade at h
  change qa_G l yX8_trade cX8_trade 3 (some .int) 5 0 0 (qa_pI Q) 0 0 0 [some (.ref 1), none, none] [] 113 μ0
  refine qa_ald0 dX8_trade_0 ?_
  refine qa_V0I dX8_trade_1 lm_X8_138 sh_1 rfl (by decide) (by decide) (Nat.le_of_ble_eq_true rfl) (tX8_hasTown l hp0  h) (fun r1 μ1 hp1 h => ?_)
  refine qa_if_ne (tgt := 10) dX8_trade_4 (by decide) (fun c2 => ?_) (fun c2 => ?_)
  · have h := h.1 c2
    refine qa_iconst (v := 0) dX8_trade_10 (by decide) ?_
    refine qa_ist1 dX8_trade_11 ?_
    refine qa_fgt (L' := [some (.ref 1), some (.int (0 : Int32)), none]) (⟨rfl, ⟨rfl, trivial⟩⟩) ?_
    refine tX8_trade_12 l  n (0 : Int32) μ1 hp1  h
  · have h := h.2 c2
    refine qa_bipush (v := -2) dX8_trade_7 (by decide) ?_
    exact qa_iret rfl dX8_trade_9 ⟨rfl, rfl⟩ ⟨rfl, hp1, _, rfl, h⟩
def wX8_trades_29 : Nat → Int32 → Int32 → Int32 → qa_M → (Int32 → Int32 → qa_M → Prop) → (Int32 → qa_M → Prop) → Prop
  | 0, _, _, _, _, _, _ => False
  | n + 1, v1, v2, v3, μ0, K0, Q => (((μ0.1 (μ0.2.2 1 2) 5) ≤ v3 → K0 v1 v2 μ0) ∧ (¬ (μ0.1 (μ0.2.2 1 2) 5) ≤ v3 → wX8_bothGain n v2 v3 μ0 (fun r6 μ6 => ((r6 = 0 → wX8_trades_29 n v1 v2 (v3 + (1 : Int32)) μ6 K0 Q) ∧ (¬ r6 = 0 → wX8_trades_29 n (v1 + (1 : Int32)) v2 (v3 + (1 : Int32)) μ6 K0 Q)))))
def wX8_trades_14 : Nat → Int32 → Int32 → qa_M → (Int32 → qa_M → Prop) → Prop
  | 0, _, _, _, _ => False
  | n + 1, v1, v2, μ0, Q => (((μ0.1 (μ0.2.2 1 2) 5) ≤ v2 → Q v1 μ0) ∧ (¬ (μ0.1 (μ0.2.2 1 2) 5) ≤ v2 → ∀ x4, x4 = (v2 + (1 : Int32)) → wX8_trades_29 n v1 v2 x4 μ0 (fun v1_9 v2_9 μ8 => wX8_trades_14 n v1_9 (v2_9 + (1 : Int32)) μ8 Q) Q))
def wX8_trades (n : Nat)  (μ0 : qa_M) (Q : Int32 → qa_M → Prop) : Prop := wX8_hasTown n  μ0 (fun r1 μ1 => ((¬ r1 = 0 → wX8_trades_14 n (0 : Int32) (0 : Int32) μ1  Q) ∧ (r1 = 0 → Q (-2 : Int32) μ1)))
theorem tX8_trades_29 (l : Launch) {K0 : Int32 → Int32 → qa_M → Prop} {Q : Int32 → qa_M → Prop} (hK0 : ∀ (v1 : Int32) (v2 : Int32) (μ : qa_M), qa_PP μ.2.2 → K0 v1 v2 μ → qa_G l yX8_trades cX8_trades 4 (some .int) 5 0 0 (qa_pI Q) 0 0 58 [some (.ref 1), some (.int v1), some (.int v2), none] [] 113 μ) : ∀ (n : Nat) (v1 : Int32) (v2 : Int32) (v3 : Int32) (μ0 : qa_M), qa_PP μ0.2.2 → wX8_trades_29 n v1 v2 v3 μ0 K0 Q → qa_G l yX8_trades cX8_trades 4 (some .int) 5 0 0 (qa_pI Q) 0 0 29 [some (.ref 1), some (.int v1), some (.int v2), some (.int v3)] [] 113 μ0 := by
  intro n
  induction n with
  | zero =>
    intro v1 v2 v3 μ0 hp0  h
    rw [wX8_trades_29] at h
    exact h.elim
  | succ n ih =>
    intro v1 v2 v3 μ0 hp0  h
    rw [wX8_trades_29] at h
    refine qa_ild3 dX8_trades_29 ?_
    refine qa_ald0 dX8_trades_30 ?_
    refine qa_getR dX8_trades_31 lf_X8_19 rfl sh_1 (by decide) rfl (qa_tw0 hp0.2.1) ?_
    refine qa_getI dX8_trades_34 lf_X8_158 (Or.inl rfl) (st_0 hp0.2.1) (tle_0 hp0.2.1) ?_
    refine qa_icmp_ge (tgt := 58) dX8_trades_37 (by decide) (fun c5 => ?_) (fun c5 => ?_)
    · have h := h.1 c5
      refine qa_fgt (L' := [some (.ref 1), some (.int v1), some (.int v2), none]) (⟨rfl, ⟨rfl, ⟨rfl, trivial⟩⟩⟩) ?_
      exact hK0 v1 v2 μ0 hp0  h
    · have h := h.2 c5
      refine qa_ald0 dX8_trades_40 ?_
      refine qa_ild2 dX8_trades_41 ?_
      refine qa_ild3 dX8_trades_42 ?_
      refine qa_V2I dX8_trades_43 lm_X8_258 sh_1 rfl (by decide) (by decide) (Nat.le_of_ble_eq_true rfl) (tX8_bothGain l hp0  h) (fun r6 μ6 hp6 h => ?_)
      refine qa_if_eq (tgt := 52) dX8_trades_46 (by decide) (fun c7 => ?_) (fun c7 => ?_)
      · have h := h.1 c7
        refine qa_inc3 dX8_trades_52 (qa_io1 _) ?_
        refine qa_goto (tgt := 29) dX8_trades_55 (by decide) ?_
        refine qa_fgt (L' := [some (.ref 1), some (.int v1), some (.int v2), some (.int (v3 + (1 : Int32)))]) (⟨rfl, ⟨rfl, ⟨rfl, ⟨rfl, trivial⟩⟩⟩⟩) ?_
        exact ih v1 v2 (v3 + (1 : Int32)) μ6 hp6  h
      · have h := h.2 c7
        refine qa_inc1 dX8_trades_49 (qa_io1 _) ?_
        refine qa_inc3 dX8_trades_52 (qa_io1 _) ?_
        refine qa_goto (tgt := 29) dX8_trades_55 (by decide) ?_
        refine qa_fgt (L' := [some (.ref 1), some (.int (v1 + (1 : Int32))), some (.int v2), some (.int (v3 + (1 : Int32)))]) (⟨rfl, ⟨rfl, ⟨rfl, ⟨rfl, trivial⟩⟩⟩⟩) ?_
        exact ih (v1 + (1 : Int32)) v2 (v3 + (1 : Int32)) μ6 hp6  h
theorem tX8_trades_14 (l : Launch)  {Q : Int32 → qa_M → Prop}  : ∀ (n : Nat) (v1 : Int32) (v2 : Int32) (μ0 : qa_M), qa_PP μ0.2.2 → wX8_trades_14 n v1 v2 μ0  Q → qa_G l yX8_trades cX8_trades 4 (some .int) 5 0 0 (qa_pI Q) 0 0 14 [some (.ref 1), some (.int v1), some (.int v2), none] [] 113 μ0 := by
  intro n
  induction n with
  | zero =>
    intro v1 v2 μ0 hp0  h
    rw [wX8_trades_14] at h
    exact h.elim
  | succ n ih =>
    intro v1 v2 μ0 hp0  h
    rw [wX8_trades_14] at h
    refine qa_ild2 dX8_trades_14 ?_
    refine qa_ald0 dX8_trades_15 ?_
    refine qa_getR dX8_trades_16 lf_X8_19 rfl sh_1 (by decide) rfl (qa_tw0 hp0.2.1) ?_
    refine qa_getI dX8_trades_19 lf_X8_158 (Or.inl rfl) (st_0 hp0.2.1) (tle_0 hp0.2.1) ?_
    refine qa_icmp_ge (tgt := 64) dX8_trades_22 (by decide) (fun c3 => ?_) (fun c3 => ?_)
    · have h := h.1 c3
      refine qa_ild1 dX8_trades_64 ?_
      exact qa_iret rfl dX8_trades_65 ⟨rfl, rfl⟩ ⟨rfl, hp0, _, rfl, h⟩
    · have h := h.2 c3
      refine qa_ild2 dX8_trades_25 ?_
      refine qa_iconst (v := 1) dX8_trades_26 (by decide) ?_
      refine qa_iadd dX8_trades_27 ?_
      refine qa_nmI (fun x4 e4 => ?_)
      have h := h x4 e4
      refine qa_ist3 dX8_trades_28 ?_
      refine qa_fgt (L' := [some (.ref 1), some (.int v1), some (.int v2), some (.int x4)]) (⟨rfl, ⟨rfl, ⟨rfl, ⟨rfl, trivial⟩⟩⟩⟩) ?_
      refine tX8_trades_29 l ?_ n v1 v2 x4 μ0 hp0  h
      · intro v1_9 v2_9 μ8 hp8  h
        refine qa_inc2 dX8_trades_58 (qa_io1 _) ?_
        refine qa_goto (tgt := 14) dX8_trades_61 (by decide) ?_
        refine qa_fgt (L' := [some (.ref 1), some (.int v1_9), some (.int (v2_9 + (1 : Int32))), none]) (⟨rfl, ⟨rfl, ⟨rfl, trivial⟩⟩⟩) ?_
        exact ih v1_9 (v2_9 + (1 : Int32)) μ8 hp8  h
theorem tX8_trades (l : Launch) {n : Nat}  {μ0 : qa_M} {Q : Int32 → qa_M → Prop} (hp0 : qa_PP μ0.2.2)  (h : wX8_trades n  μ0 Q) : qa_Met l yX8_trades cX8_trades 4 (some .int) 5 0 0 [.ref 1] 113 μ0 (qa_pI Q) := by
  refine qa_ofG (by decide) (Nat.le_of_ble_eq_true rfl) ?_
  unfold wX8_trades at h
  change qa_G l yX8_trades cX8_trades 4 (some .int) 5 0 0 (qa_pI Q) 0 0 0 [some (.ref 1), none, none, none] [] 113 μ0
  refine qa_ald0 dX8_trades_0 ?_
  refine qa_V0I dX8_trades_1 lm_X8_138 sh_1 rfl (by decide) (by decide) (Nat.le_of_ble_eq_true rfl) (tX8_hasTown l hp0  h) (fun r1 μ1 hp1 h => ?_)
  refine qa_if_ne (tgt := 10) dX8_trades_4 (by decide) (fun c2 => ?_) (fun c2 => ?_)
  · have h := h.1 c2
    refine qa_iconst (v := 0) dX8_trades_10 (by decide) ?_
    refine qa_ist1 dX8_trades_11 ?_
    refine qa_iconst (v := 0) dX8_trades_12 (by decide) ?_
    refine qa_ist2 dX8_trades_13 ?_
    refine qa_fgt (L' := [some (.ref 1), some (.int (0 : Int32)), some (.int (0 : Int32)), none]) (⟨rfl, ⟨rfl, ⟨rfl, trivial⟩⟩⟩) ?_
    refine tX8_trades_14 l  n (0 : Int32) (0 : Int32) μ1 hp1  h
  · have h := h.2 c2
    refine qa_bipush (v := -2) dX8_trades_7 (by decide) ?_
    exact qa_iret rfl dX8_trades_9 ⟨rfl, rfl⟩ ⟨rfl, hp1, _, rfl, h⟩
def wX8_turn (n : Nat) (v1 : Int32) (μ0 : qa_M) (Q : Int32 → qa_M → Prop) : Prop := wX8_isTurningWeek n v1 μ0 (fun r1 μ1 => ((r1 = 0 → Q (-10000 : Int32) μ1) ∧ (¬ r1 = 0 → vp_in v1 20 ∧ Q (μ1.1 36 v1.toNatClampNeg) μ1)))
theorem tX8_turn (l : Launch) {n : Nat} {v1 : Int32} {μ0 : qa_M} {Q : Int32 → qa_M → Prop} (hp0 : qa_PP μ0.2.2)  (h : wX8_turn n v1 μ0 Q) : qa_Met l yX8_turn cX8_turn 2 (some .int) 2 0 0 [.ref 1, .int v1] 113 μ0 (qa_pI Q) := by
  refine qa_ofG (by decide) (Nat.le_of_ble_eq_true rfl) ?_
  unfold wX8_turn at h
  change qa_G l yX8_turn cX8_turn 2 (some .int) 2 0 0 (qa_pI Q) 0 0 0 [some (.ref 1), some (.int v1)] [] 113 μ0
  refine qa_ald0 dX8_turn_0 ?_
  refine qa_ild1 dX8_turn_1 ?_
  refine qa_V1I dX8_turn_2 lm_X8_165 sh_1 rfl (by decide) (by decide) (Nat.le_of_ble_eq_true rfl) (tX8_isTurningWeek l hp0  h) (fun r1 μ1 hp1 h => ?_)
  refine qa_if_eq (tgt := 20) dX8_turn_5 (by decide) (fun c2 => ?_) (fun c2 => ?_)
  · have h := h.1 c2
    refine qa_sipush (v := -10000) dX8_turn_20 (by decide) ?_
    exact qa_iret rfl dX8_turn_23 ⟨rfl, rfl⟩ ⟨rfl, hp1, _, rfl, h⟩
  · have h := h.2 c2
    refine qa_ald0 dX8_turn_8 ?_
    refine qa_getR dX8_turn_9 lf_X8_47 rfl sh_1 (by decide) (pp_1_9 hp1) (by decide) ?_
    refine qa_getR dX8_turn_12 lf_X8_174 rfl (sy_0 (Or.inl rfl)) (yle_0 (Or.inl rfl)) (pp_32_3 hp1) (by decide) ?_
    refine qa_ild1 dX8_turn_15 ?_
    refine qa_iald dX8_turn_16 sh_36 (by decide) h.1 ?_
    have h := h.2
    refine qa_goto (tgt := 23) dX8_turn_17 (by decide) ?_
    exact qa_iret rfl dX8_turn_23 ⟨rfl, rfl⟩ ⟨rfl, hp1, _, rfl, h⟩
def wX8_undo (n : Nat)  (μ0 : qa_M) (Q : Int32 → qa_M → Prop) : Prop := wX8_hasTown n  μ0 (fun r1 μ1 => ((¬ r1 = 0 → ((¬ (μ1.1 ((μ1.2.2 1 2) + 7) 0) = 0 → wX0_keepFirst n (μ1.2.2 1 2) ((μ1.1 ((μ1.2.2 1 2) + 7) 0) - (1 : Int32)) μ1 (fun μ4 => wX8_renew n  μ4 (fun μ5 => Q (μ5.1 ((μ5.2.2 1 2) + 7) 0) μ5))) ∧ ((μ1.1 ((μ1.2.2 1 2) + 7) 0) = 0 → Q (-5 : Int32) μ1))) ∧ (r1 = 0 → Q (-2 : Int32) μ1)))
theorem tX8_undo (l : Launch) {n : Nat}  {μ0 : qa_M} {Q : Int32 → qa_M → Prop} (hp0 : qa_PP μ0.2.2)  (h : wX8_undo n  μ0 Q) : qa_Met l yX8_undo cX8_undo 1 (some .int) 5 0 0 [.ref 1] 113 μ0 (qa_pI Q) := by
  refine qa_ofG (by decide) (Nat.le_of_ble_eq_true rfl) ?_
  unfold wX8_undo at h
  change qa_G l yX8_undo cX8_undo 1 (some .int) 5 0 0 (qa_pI Q) 0 0 0 [some (.ref 1)] [] 113 μ0
  refine qa_ald0 dX8_undo_0 ?_
  refine qa_V0I dX8_undo_1 lm_X8_138 sh_1 rfl (by decide) (by decide) (Nat.le_of_ble_eq_true rfl) (tX8_hasTown l hp0  h) (fun r1 μ1 hp1 h => ?_)
  refine qa_if_ne (tgt := 10) dX8_undo_4 (by decide) (fun c2 => ?_) (fun c2 => ?_)
  · have h := h.1 c2
    refine qa_ald0 dX8_undo_10 ?_
    refine qa_getR dX8_undo_11 lf_X8_19 rfl sh_1 (by decide) rfl (qa_tw0 hp1.2.1) ?_
    refine qa_getR dX8_undo_14 lf_X8_387 rfl (st_0 hp1.2.1) (tle_0 hp1.2.1) (pt_17 hp1 hp1.2.1) (Nat.succ_pos _) ?_
    refine qa_getI dX8_undo_17 lf_X8_391 (Or.inl rfl) (st_7 hp1.2.1) (tle_7 hp1.2.1) ?_
    refine qa_if_ne (tgt := 26) dX8_undo_20 (by decide) (fun c3 => ?_) (fun c3 => ?_)
    · have h := h.1 c3
      refine qa_ald0 dX8_undo_26 ?_
      refine qa_getR dX8_undo_27 lf_X8_19 rfl sh_1 (by decide) rfl (qa_tw0 hp1.2.1) ?_
      refine qa_getR dX8_undo_30 lf_X8_387 rfl (st_0 hp1.2.1) (tle_0 hp1.2.1) (pt_17 hp1 hp1.2.1) (Nat.succ_pos _) ?_
      refine qa_ald0 dX8_undo_33 ?_
      refine qa_getR dX8_undo_34 lf_X8_19 rfl sh_1 (by decide) rfl (qa_tw0 hp1.2.1) ?_
      refine qa_getR dX8_undo_37 lf_X8_387 rfl (st_0 hp1.2.1) (tle_0 hp1.2.1) (pt_17 hp1 hp1.2.1) (Nat.succ_pos _) ?_
      refine qa_getI dX8_undo_40 lf_X8_391 (Or.inl rfl) (st_7 hp1.2.1) (tle_7 hp1.2.1) ?_
      refine qa_iconst (v := 1) dX8_undo_43 (by decide) ?_
      refine qa_isub dX8_undo_44 ?_
      refine qa_V1V dX8_undo_45 lm_X8_397 (st_7 hp1.2.1) rfl (tle_7 hp1.2.1) (by decide) (Nat.le_of_ble_eq_true rfl) (tX0_keepFirst l hp1 hp1.2.1 h) (fun μ4 hp4 h => ?_)
      refine qa_ald0 dX8_undo_48 ?_
      refine qa_V0V dX8_undo_49 lm_X8_94 sh_1 rfl (by decide) (by decide) (Nat.le_of_ble_eq_true rfl) (tX8_renew l hp4  h) (fun μ5 hp5 h => ?_)
      refine qa_ald0 dX8_undo_52 ?_
      refine qa_getR dX8_undo_53 lf_X8_19 rfl sh_1 (by decide) rfl (qa_tw0 hp5.2.1) ?_
      refine qa_getR dX8_undo_56 lf_X8_387 rfl (st_0 hp5.2.1) (tle_0 hp5.2.1) (pt_17 hp5 hp5.2.1) (Nat.succ_pos _) ?_
      refine qa_getI dX8_undo_59 lf_X8_391 (Or.inl rfl) (st_7 hp5.2.1) (tle_7 hp5.2.1) ?_
      exact qa_iret rfl dX8_undo_62 ⟨rfl, rfl⟩ ⟨rfl, hp5, _, rfl, h⟩
    · have h := h.2 c3
      refine qa_bipush (v := -5) dX8_undo_23 (by decide) ?_
      exact qa_iret rfl dX8_undo_25 ⟨rfl, rfl⟩ ⟨rfl, hp1, _, rfl, h⟩
  · have h := h.2 c2
    refine qa_bipush (v := -2) dX8_undo_7 (by decide) ?_
    exact qa_iret rfl dX8_undo_9 ⟨rfl, rfl⟩ ⟨rfl, hp1, _, rfl, h⟩
def wX8_view (n : Nat) (v1 : Int32) (v2 : Int32) (μ0 : qa_M) (Q : Int32 → qa_M → Prop) : Prop := wX8_isHouse n v1 μ0 (fun r1 μ1 => ((r1 = 0 → Q (-2 : Int32) μ1) ∧ (¬ r1 = 0 → wX8_isWeek n v2 μ1 (fun r3 μ3 => ((r3 = 0 → Q (-2 : Int32) μ3) ∧ (¬ r3 = 0 → wX8_neighbour n v1 ((μ3.1 (μ3.2.2 1 2) 5) / (2 : Int32)) v2 μ3 (fun r5 μ5 => Q r5 μ5)))))))
theorem tX8_view (l : Launch) {n : Nat} {v1 : Int32} {v2 : Int32} {μ0 : qa_M} {Q : Int32 → qa_M → Prop} (hp0 : qa_PP μ0.2.2)  (h : wX8_view n v1 v2 μ0 Q) : qa_Met l yX8_view cX8_view 3 (some .int) 3 0 0 [.ref 1, .int v1, .int v2] 113 μ0 (qa_pI Q) := by
  refine qa_ofG (by decide) (Nat.le_of_ble_eq_true rfl) ?_
  unfold wX8_view at h
  change qa_G l yX8_view cX8_view 3 (some .int) 3 0 0 (qa_pI Q) 0 0 0 [some (.ref 1), some (.int v1), some (.int v2)] [] 113 μ0
  refine qa_ald0 dX8_view_0 ?_
  refine qa_ild1 dX8_view_1 ?_
  refine qa_V1I dX8_view_2 lm_X8_103 sh_1 rfl (by decide) (by decide) (Nat.le_of_ble_eq_true rfl) (tX8_isHouse l hp0  h) (fun r1 μ1 hp1 h => ?_)
  refine qa_if_eq (tgt := 34) dX8_view_5 (by decide) (fun c2 => ?_) (fun c2 => ?_)
  · have h := h.1 c2
    refine qa_bipush (v := -2) dX8_view_34 (by decide) ?_
    exact qa_iret rfl dX8_view_36 ⟨rfl, rfl⟩ ⟨rfl, hp1, _, rfl, h⟩
  · have h := h.2 c2
    refine qa_ald0 dX8_view_8 ?_
    refine qa_ild2 dX8_view_9 ?_
    refine qa_V1I dX8_view_10 lm_X8_152 sh_1 rfl (by decide) (by decide) (Nat.le_of_ble_eq_true rfl) (tX8_isWeek l hp1  h) (fun r3 μ3 hp3 h => ?_)
    refine qa_if_eq (tgt := 34) dX8_view_13 (by decide) (fun c4 => ?_) (fun c4 => ?_)
    · have h := h.1 c4
      refine qa_bipush (v := -2) dX8_view_34 (by decide) ?_
      exact qa_iret rfl dX8_view_36 ⟨rfl, rfl⟩ ⟨rfl, hp3, _, rfl, h⟩
    · have h := h.2 c4
      refine qa_ald0 dX8_view_16 ?_
      refine qa_ild1 dX8_view_17 ?_
      refine qa_ald0 dX8_view_18 ?_
      refine qa_getR dX8_view_19 lf_X8_19 rfl sh_1 (by decide) rfl (qa_tw0 hp3.2.1) ?_
      refine qa_getI dX8_view_22 lf_X8_158 (Or.inl rfl) (st_0 hp3.2.1) (tle_0 hp3.2.1) ?_
      refine qa_iconst (v := 2) dX8_view_25 (by decide) ?_
      refine qa_idiv dX8_view_26 (by decide) ?_
      refine qa_ild2 dX8_view_27 ?_
      refine qa_V3I dX8_view_28 lm_X8_206 sh_1 rfl (by decide) (by decide) (Nat.le_of_ble_eq_true rfl) (tX8_neighbour l hp3  h) (fun r5 μ5 hp5 h => ?_)
      refine qa_goto (tgt := 36) dX8_view_31 (by decide) ?_
      exact qa_iret rfl dX8_view_36 ⟨rfl, rfl⟩ ⟨rfl, hp5, _, rfl, h⟩
def wX8_when (n : Nat) (v1 : Int32) (v2 : Int32) (μ0 : qa_M) (Q : Int32 → qa_M → Prop) : Prop := wX8_isHouse n v1 μ0 (fun r1 μ1 => ((r1 = 0 → Q (-2 : Int32) μ1) ∧ (¬ r1 = 0 → wX8_isPlace n v2 μ1 (fun r3 μ3 => ((r3 = 0 → Q (-2 : Int32) μ3) ∧ (¬ r3 = 0 → wX8_firstWeekOn n v1 v2 (0 : Int32) μ3 (fun r5 μ5 => Q r5 μ5)))))))
theorem tX8_when (l : Launch) {n : Nat} {v1 : Int32} {v2 : Int32} {μ0 : qa_M} {Q : Int32 → qa_M → Prop} (hp0 : qa_PP μ0.2.2)  (h : wX8_when n v1 v2 μ0 Q) : qa_Met l yX8_when cX8_when 3 (some .int) 2 0 0 [.ref 1, .int v1, .int v2] 113 μ0 (qa_pI Q) := by
  refine qa_ofG (by decide) (Nat.le_of_ble_eq_true rfl) ?_
  unfold wX8_when at h
  change qa_G l yX8_when cX8_when 3 (some .int) 2 0 0 (qa_pI Q) 0 0 0 [some (.ref 1), some (.int v1), some (.int v2)] [] 113 μ0
  refine qa_ald0 dX8_when_0 ?_
  refine qa_ild1 dX8_when_1 ?_
  refine qa_V1I dX8_when_2 lm_X8_103 sh_1 rfl (by decide) (by decide) (Nat.le_of_ble_eq_true rfl) (tX8_isHouse l hp0  h) (fun r1 μ1 hp1 h => ?_)
  refine qa_if_eq (tgt := 26) dX8_when_5 (by decide) (fun c2 => ?_) (fun c2 => ?_)
  · have h := h.1 c2
    refine qa_bipush (v := -2) dX8_when_26 (by decide) ?_
    exact qa_iret rfl dX8_when_28 ⟨rfl, rfl⟩ ⟨rfl, hp1, _, rfl, h⟩
  · have h := h.2 c2
    refine qa_ald0 dX8_when_8 ?_
    refine qa_ild2 dX8_when_9 ?_
    refine qa_V1I dX8_when_10 lm_X8_117 sh_1 rfl (by decide) (by decide) (Nat.le_of_ble_eq_true rfl) (tX8_isPlace l hp1  h) (fun r3 μ3 hp3 h => ?_)
    refine qa_if_eq (tgt := 26) dX8_when_13 (by decide) (fun c4 => ?_) (fun c4 => ?_)
    · have h := h.1 c4
      refine qa_bipush (v := -2) dX8_when_26 (by decide) ?_
      exact qa_iret rfl dX8_when_28 ⟨rfl, rfl⟩ ⟨rfl, hp3, _, rfl, h⟩
    · have h := h.2 c4
      refine qa_ald0 dX8_when_16 ?_
      refine qa_ild1 dX8_when_17 ?_
      refine qa_ild2 dX8_when_18 ?_
      refine qa_iconst (v := 0) dX8_when_19 (by decide) ?_
      refine qa_V3I dX8_when_20 lm_X8_196 sh_1 rfl (by decide) (by decide) (Nat.le_of_ble_eq_true rfl) (tX8_firstWeekOn l hp3  h) (fun r5 μ5 hp5 h => ?_)
      refine qa_goto (tgt := 28) dX8_when_23 (by decide) ?_
      exact qa_iret rfl dX8_when_28 ⟨rfl, rfl⟩ ⟨rfl, hp5, _, rfl, h⟩
def wX8_who (n : Nat) (v1 : Int32) (v2 : Int32) (μ0 : qa_M) (Q : Int32 → qa_M → Prop) : Prop := wX8_isPlace n v1 μ0 (fun r1 μ1 => ((r1 = 0 → Q (-2 : Int32) μ1) ∧ (¬ r1 = 0 → wX8_isWeek n v2 μ1 (fun r3 μ3 => ((r3 = 0 → Q (-2 : Int32) μ3) ∧ (¬ r3 = 0 → wX7_houseOn n 32 v1 v2 (μ3.1 (μ3.2.2 1 2) 5) μ3 (fun r5 μ5 => Q r5 μ5)))))))
theorem tX8_who (l : Launch) {n : Nat} {v1 : Int32} {v2 : Int32} {μ0 : qa_M} {Q : Int32 → qa_M → Prop} (hp0 : qa_PP μ0.2.2)  (h : wX8_who n v1 v2 μ0 Q) : qa_Met l yX8_who cX8_who 3 (some .int) 2 0 0 [.ref 1, .int v1, .int v2] 113 μ0 (qa_pI Q) := by
  refine qa_ofG (by decide) (Nat.le_of_ble_eq_true rfl) ?_
  unfold wX8_who at h
  change qa_G l yX8_who cX8_who 3 (some .int) 2 0 0 (qa_pI Q) 0 0 0 [some (.ref 1), some (.int v1), some (.int v2)] [] 113 μ0
  refine qa_ald0 dX8_who_0 ?_
  refine qa_ild1 dX8_who_1 ?_
  refine qa_V1I dX8_who_2 lm_X8_117 sh_1 rfl (by decide) (by decide) (Nat.le_of_ble_eq_true rfl) (tX8_isPlace l hp0  h) (fun r1 μ1 hp1 h => ?_)
  refine qa_if_eq (tgt := 35) dX8_who_5 (by decide) (fun c2 => ?_) (fun c2 => ?_)
  · have h := h.1 c2
    refine qa_bipush (v := -2) dX8_who_35 (by decide) ?_
    exact qa_iret rfl dX8_who_37 ⟨rfl, rfl⟩ ⟨rfl, hp1, _, rfl, h⟩
  · have h := h.2 c2
    refine qa_ald0 dX8_who_8 ?_
    refine qa_ild2 dX8_who_9 ?_
    refine qa_V1I dX8_who_10 lm_X8_152 sh_1 rfl (by decide) (by decide) (Nat.le_of_ble_eq_true rfl) (tX8_isWeek l hp1  h) (fun r3 μ3 hp3 h => ?_)
    refine qa_if_eq (tgt := 35) dX8_who_13 (by decide) (fun c4 => ?_) (fun c4 => ?_)
    · have h := h.1 c4
      refine qa_bipush (v := -2) dX8_who_35 (by decide) ?_
      exact qa_iret rfl dX8_who_37 ⟨rfl, rfl⟩ ⟨rfl, hp3, _, rfl, h⟩
    · have h := h.2 c4
      refine qa_ald0 dX8_who_16 ?_
      refine qa_getR dX8_who_17 lf_X8_47 rfl sh_1 (by decide) (pp_1_9 hp3) (by decide) ?_
      refine qa_ild1 dX8_who_20 ?_
      refine qa_ild2 dX8_who_21 ?_
      refine qa_ald0 dX8_who_22 ?_
      refine qa_getR dX8_who_23 lf_X8_19 rfl sh_1 (by decide) rfl (qa_tw0 hp3.2.1) ?_
      refine qa_getI dX8_who_26 lf_X8_158 (Or.inl rfl) (st_0 hp3.2.1) (tle_0 hp3.2.1) ?_
      refine qa_V3I dX8_who_29 lm_X8_161 (sy_0 (Or.inl rfl)) rfl (yle_0 (Or.inl rfl)) (by decide) (Nat.le_of_ble_eq_true rfl) (tX7_houseOn l hp3 (Or.inl rfl) h) (fun r5 μ5 hp5 h => ?_)
      refine qa_goto (tgt := 37) dX8_who_32 (by decide) ?_
      exact qa_iret rfl dX8_who_37 ⟨rfl, rfl⟩ ⟨rfl, hp5, _, rfl, h⟩
def wX8_worth (n : Nat) (v1 : Int32) (μ0 : qa_M) (Q : Int32 → qa_M → Prop) : Prop := wX8_hasTown n  μ0 (fun r1 μ1 => ((r1 = 0 → Q (-2 : Int32) μ1) ∧ (¬ r1 = 0 → ((v1 < 0 → Q (-2 : Int32) μ1) ∧ (¬ v1 < 0 → wX8_lowBits n (μ1.1 (μ1.2.2 1 2) 5) μ1 (fun r4 μ4 => ((r4 < v1 → Q (-2 : Int32) μ4) ∧ (¬ r4 < v1 → wX8_turnedBy n v1 μ4 (fun r6 μ6 => Q r6 μ6)))))))))
theorem tX8_worth (l : Launch) {n : Nat} {v1 : Int32} {μ0 : qa_M} {Q : Int32 → qa_M → Prop} (hp0 : qa_PP μ0.2.2)  (h : wX8_worth n v1 μ0 Q) : qa_Met l yX8_worth cX8_worth 2 (some .int) 5 0 0 [.ref 1, .int v1] 113 μ0 (qa_pI Q) := by
  refine qa_ofG (by decide) (Nat.le_of_ble_eq_true rfl) ?_
  unfold wX8_worth at h
  change qa_G l yX8_worth cX8_worth 2 (some .int) 5 0 0 (qa_pI Q) 0 0 0 [some (.ref 1), some (.int v1)] [] 113 μ0
  refine qa_ald0 dX8_worth_0 ?_
  refine qa_V0I dX8_worth_1 lm_X8_138 sh_1 rfl (by decide) (by decide) (Nat.le_of_ble_eq_true rfl) (tX8_hasTown l hp0  h) (fun r1 μ1 hp1 h => ?_)
  refine qa_if_eq (tgt := 33) dX8_worth_4 (by decide) (fun c2 => ?_) (fun c2 => ?_)
  · have h := h.1 c2
    refine qa_bipush (v := -2) dX8_worth_33 (by decide) ?_
    exact qa_iret rfl dX8_worth_35 ⟨rfl, rfl⟩ ⟨rfl, hp1, _, rfl, h⟩
  · have h := h.2 c2
    refine qa_ild1 dX8_worth_7 ?_
    refine qa_if_lt (tgt := 33) dX8_worth_8 (by decide) (fun c3 => ?_) (fun c3 => ?_)
    · have h := h.1 c3
      refine qa_bipush (v := -2) dX8_worth_33 (by decide) ?_
      exact qa_iret rfl dX8_worth_35 ⟨rfl, rfl⟩ ⟨rfl, hp1, _, rfl, h⟩
    · have h := h.2 c3
      refine qa_ild1 dX8_worth_11 ?_
      refine qa_ald0 dX8_worth_12 ?_
      refine qa_getR dX8_worth_13 lf_X8_19 rfl sh_1 (by decide) rfl (qa_tw0 hp1.2.1) ?_
      refine qa_getI dX8_worth_16 lf_X8_158 (Or.inl rfl) (st_0 hp1.2.1) (tle_0 hp1.2.1) ?_
      refine qa_S1I dX8_worth_19 lm_X8_148  (by decide) (Nat.le_of_ble_eq_true rfl) (tX8_lowBits l hp1  h) (fun r4 μ4 hp4 h => ?_)
      refine qa_icmp_gt (tgt := 33) dX8_worth_22 (by decide) (fun c5 => ?_) (fun c5 => ?_)
      · have h := h.1 c5
        refine qa_bipush (v := -2) dX8_worth_33 (by decide) ?_
        exact qa_iret rfl dX8_worth_35 ⟨rfl, rfl⟩ ⟨rfl, hp4, _, rfl, h⟩
      · have h := h.2 c5
        refine qa_ald0 dX8_worth_25 ?_
        refine qa_ild1 dX8_worth_26 ?_
        refine qa_V1I dX8_worth_27 lm_X8_339 sh_1 rfl (by decide) (by decide) (Nat.le_of_ble_eq_true rfl) (tX8_turnedBy l hp4  h) (fun r6 μ6 hp6 h => ?_)
        refine qa_goto (tgt := 35) dX8_worth_30 (by decide) ?_
        exact qa_iret rfl dX8_worth_35 ⟨rfl, rfl⟩ ⟨rfl, hp6, _, rfl, h⟩
def wX8_write (n : Nat) (v1 : Int32) (v2 : Int32) (v3 : Int64) (μ0 : qa_M) (Q : Int32 → qa_M → Prop) : Prop := wX8_isSlot n v1 μ0 (fun r1 μ1 => ((¬ r1 = 0 → vp_in v1 4 ∧ wX3_isThere n (83 + 2 * v1.toNatClampNeg) μ1 (fun r4 μ4 => ((¬ r4 = 0 → ((v2 < 0 → Q (-7 : Int32) μ4) ∧ (¬ v2 < 0 → ((v2 < (μ4.1 (83 + 2 * v1.toNatClampNeg) 2) → wX8_cut n v3 (μ4.1 (83 + 2 * v1.toNatClampNeg) 1) μ4 (fun r8 μ8 => vp_in v2 60 ∧ ∀ μ9, μ9 = qa_uJ μ8 ((83 + 2 * v1.toNatClampNeg) + 1) v2.toNatClampNeg r8 → Q (0 : Int32) μ9)) ∧ (¬ v2 < (μ4.1 (83 + 2 * v1.toNatClampNeg) 2) → Q (-7 : Int32) μ4))))) ∧ (r4 = 0 → Q (-6 : Int32) μ4)))) ∧ (r1 = 0 → Q (-2 : Int32) μ1)))
theorem tX8_write (l : Launch) {n : Nat} {v1 : Int32} {v2 : Int32} {v3 : Int64} {μ0 : qa_M} {Q : Int32 → qa_M → Prop} (hp0 : qa_PP μ0.2.2)  (h : wX8_write n v1 v2 v3 μ0 Q) : qa_Met l yX8_write cX8_write 6 (some .int) 1 0 0 [.ref 1, .int v1, .int v2, .long v3] 113 μ0 (qa_pI Q) := by
  refine qa_ofG (by decide) (Nat.le_of_ble_eq_true rfl) ?_
  unfold wX8_write at h
  change qa_G l yX8_write cX8_write 6 (some .int) 1 0 0 (qa_pI Q) 0 0 0 [some (.ref 1), some (.int v1), some (.int v2), some (.long v3), none, none] [] 113 μ0
  refine qa_ild1 dX8_write_0 ?_
  refine qa_S1I dX8_write_1 lm_X8_310  (by decide) (Nat.le_of_ble_eq_true rfl) (tX8_isSlot l hp0  h) (fun r1 μ1 hp1 h => ?_)
  refine qa_if_ne (tgt := 10) dX8_write_4 (by decide) (fun c2 => ?_) (fun c2 => ?_)
  · have h := h.1 c2
    refine qa_ald0 dX8_write_10 ?_
    refine qa_getR dX8_write_11 lf_X8_33 rfl sh_1 (by decide) (pp_1_7 hp1) (by decide) ?_
    refine qa_ild1 dX8_write_14 ?_
    have b3 := h.1
    have h := h.2
    refine qa_aald (t := 6) dX8_write_15 sh_30 rfl (by decide) b3 (psl hp1 b3) (qa_rw0 (qa_rwi b3)) ?_
    refine qa_ast5 dX8_write_16 ?_
    refine qa_ald5 dX8_write_18 ?_
    refine qa_V0I dX8_write_20 lm_X8_313 (sr_0 (qa_rwi b3)) rfl (rle_0 (qa_rwi b3)) (by decide) (Nat.le_of_ble_eq_true rfl) (tX3_isThere l hp1 (qa_rwi b3) h) (fun r4 μ4 hp4 h => ?_)
    refine qa_if_ne (tgt := 29) dX8_write_23 (by decide) (fun c5 => ?_) (fun c5 => ?_)
    · have h := h.1 c5
      refine qa_ild2 dX8_write_29 ?_
      refine qa_if_lt (tgt := 42) dX8_write_30 (by decide) (fun c6 => ?_) (fun c6 => ?_)
      · have h := h.1 c6
        refine qa_bipush (v := -7) dX8_write_42 (by decide) ?_
        exact qa_iret rfl dX8_write_44 ⟨rfl, rfl⟩ ⟨rfl, hp4, _, rfl, h⟩
      · have h := h.2 c6
        refine qa_ild2 dX8_write_33 ?_
        refine qa_ald5 dX8_write_34 ?_
        refine qa_getI dX8_write_36 lf_X8_433 (Or.inl rfl) (sr_0 (qa_rwi b3)) (rle_0 (qa_rwi b3)) ?_
        refine qa_icmp_lt (tgt := 45) dX8_write_39 (by decide) (fun c7 => ?_) (fun c7 => ?_)
        · have h := h.1 c7
          refine qa_ald5 dX8_write_45 ?_
          refine qa_getR dX8_write_47 lf_X8_434 rfl (sr_0 (qa_rwi b3)) (rle_0 (qa_rwi b3)) (pr_0 hp4 (qa_rwi b3)) (Nat.succ_pos _) ?_
          refine qa_ild2 dX8_write_50 ?_
          refine qa_lld3 dX8_write_51 ?_
          refine qa_ald5 dX8_write_52 ?_
          refine qa_getI dX8_write_54 lf_X8_438 (Or.inl rfl) (sr_0 (qa_rwi b3)) (rle_0 (qa_rwi b3)) ?_
          refine qa_S2J dX8_write_57 lm_X8_441  (by decide) (Nat.le_of_ble_eq_true rfl) (tX8_cut l hp4  h) (fun r8 μ8 hp8 h => ?_)
          refine qa_last dX8_write_60 (sr_1 (qa_rwi b3)) (rle_1 (qa_rwi b3)) h.1 ?_
          have h := h.2
          refine qa_nmM (fun μ9 em9 => ?_)
          have h := h μ9 em9
          have hp9 : qa_PP μ9.2.2 := by rw [em9]; exact hp8
          refine qa_iconst (v := 0) dX8_write_61 (by decide) ?_
          exact qa_iret rfl dX8_write_62 ⟨rfl, rfl⟩ ⟨rfl, hp9, _, rfl, h⟩
        · have h := h.2 c7
          refine qa_bipush (v := -7) dX8_write_42 (by decide) ?_
          exact qa_iret rfl dX8_write_44 ⟨rfl, rfl⟩ ⟨rfl, hp4, _, rfl, h⟩
    · have h := h.2 c5
      refine qa_bipush (v := -6) dX8_write_26 (by decide) ?_
      exact qa_iret rfl dX8_write_28 ⟨rfl, rfl⟩ ⟨rfl, hp4, _, rfl, h⟩
  · have h := h.2 c2
    refine qa_bipush (v := -2) dX8_write_7 (by decide) ?_
    exact qa_iret rfl dX8_write_9 ⟨rfl, rfl⟩ ⟨rfl, hp1, _, rfl, h⟩
def wX8_wrong (n : Nat) (v1 : Int32) (μ0 : qa_M) (Q : Int32 → qa_M → Prop) : Prop := wX8_isLetter n v1 μ0 (fun r1 μ1 => ((¬ r1 = 0 → vp_in v1 8 ∧ ∀ x3, x3 = (μ1.1 ((μ1.2.2 1 2) + 5) v1.toNatClampNeg) → vp_in v1 8 ∧ ∀ x4, x4 = (μ1.1 ((μ1.2.2 1 2) + 6) v1.toNatClampNeg) → wX8_isPlace n x3 μ1 (fun r5 μ5 => ((r5 = 0 → Q (-1 : Int32) μ5) ∧ (¬ r5 = 0 → wX8_isWeek n x4 μ5 (fun r7 μ7 => ((¬ r7 = 0 → wX7_houseOn n 32 x3 x4 (μ7.1 (μ7.2.2 1 2) 5) μ7 (fun r9 μ9 => vp_in v1 8 ∧ ((¬ r9 = (μ9.1 ((μ9.2.2 1 2) + 4) v1.toNatClampNeg) → Q r9 μ9) ∧ (r9 = (μ9.1 ((μ9.2.2 1 2) + 4) v1.toNatClampNeg) → Q (-1 : Int32) μ9)))) ∧ (r7 = 0 → Q (-1 : Int32) μ7))))))) ∧ (r1 = 0 → Q (-2 : Int32) μ1)))
theorem tX8_wrong (l : Launch) {n : Nat} {v1 : Int32} {μ0 : qa_M} {Q : Int32 → qa_M → Prop} (hp0 : qa_PP μ0.2.2)  (h : wX8_wrong n v1 μ0 Q) : qa_Met l yX8_wrong cX8_wrong 5 (some .int) 2 0 0 [.ref 1, .int v1] 113 μ0 (qa_pI Q) := by
  refine qa_ofG (by decide) (Nat.le_of_ble_eq_true rfl) ?_
  unfold wX8_wrong at h
  change qa_G l yX8_wrong cX8_wrong 5 (some .int) 2 0 0 (qa_pI Q) 0 0 0 [some (.ref 1), some (.int v1), none, none, none] [] 113 μ0
  refine qa_ald0 dX8_wrong_0 ?_
  refine qa_ild1 dX8_wrong_1 ?_
  refine qa_V1I dX8_wrong_2 lm_X8_126 sh_1 rfl (by decide) (by decide) (Nat.le_of_ble_eq_true rfl) (tX8_isLetter l hp0  h) (fun r1 μ1 hp1 h => ?_)
  refine qa_if_ne (tgt := 11) dX8_wrong_5 (by decide) (fun c2 => ?_) (fun c2 => ?_)
  · have h := h.1 c2
    refine qa_ald0 dX8_wrong_11 ?_
    refine qa_getR dX8_wrong_12 lf_X8_19 rfl sh_1 (by decide) rfl (qa_tw0 hp1.2.1) ?_
    refine qa_getR dX8_wrong_15 lf_X8_132 rfl (st_0 hp1.2.1) (tle_0 hp1.2.1) (pt_15 hp1 hp1.2.1) (Nat.succ_pos _) ?_
    refine qa_ild1 dX8_wrong_18 ?_
    refine qa_iald dX8_wrong_19 (st_5 hp1.2.1) (tle_5 hp1.2.1) h.1 ?_
    have h := h.2
    refine qa_nmI (fun x3 e3 => ?_)
    have h := h x3 e3
    refine qa_ist2 dX8_wrong_20 ?_
    refine qa_ald0 dX8_wrong_21 ?_
    refine qa_getR dX8_wrong_22 lf_X8_19 rfl sh_1 (by decide) rfl (qa_tw0 hp1.2.1) ?_
    refine qa_getR dX8_wrong_25 lf_X8_135 rfl (st_0 hp1.2.1) (tle_0 hp1.2.1) (pt_16 hp1 hp1.2.1) (Nat.succ_pos _) ?_
    refine qa_ild1 dX8_wrong_28 ?_
    refine qa_iald dX8_wrong_29 (st_6 hp1.2.1) (tle_6 hp1.2.1) h.1 ?_
    have h := h.2
    refine qa_nmI (fun x4 e4 => ?_)
    have h := h x4 e4
    refine qa_ist3 dX8_wrong_30 ?_
    refine qa_ald0 dX8_wrong_31 ?_
    refine qa_ild2 dX8_wrong_32 ?_
    refine qa_V1I dX8_wrong_33 lm_X8_117 sh_1 rfl (by decide) (by decide) (Nat.le_of_ble_eq_true rfl) (tX8_isPlace l hp1  h) (fun r5 μ5 hp5 h => ?_)
    refine qa_if_eq (tgt := 47) dX8_wrong_36 (by decide) (fun c6 => ?_) (fun c6 => ?_)
    · have h := h.1 c6
      refine qa_iconst (v := -1) dX8_wrong_47 (by decide) ?_
      exact qa_iret rfl dX8_wrong_48 ⟨rfl, rfl⟩ ⟨rfl, hp5, _, rfl, h⟩
    · have h := h.2 c6
      refine qa_ald0 dX8_wrong_39 ?_
      refine qa_ild3 dX8_wrong_40 ?_
      refine qa_V1I dX8_wrong_41 lm_X8_152 sh_1 rfl (by decide) (by decide) (Nat.le_of_ble_eq_true rfl) (tX8_isWeek l hp5  h) (fun r7 μ7 hp7 h => ?_)
      refine qa_if_ne (tgt := 49) dX8_wrong_44 (by decide) (fun c8 => ?_) (fun c8 => ?_)
      · have h := h.1 c8
        refine qa_ald0 dX8_wrong_49 ?_
        refine qa_getR dX8_wrong_50 lf_X8_47 rfl sh_1 (by decide) (pp_1_9 hp7) (by decide) ?_
        refine qa_ild2 dX8_wrong_53 ?_
        refine qa_ild3 dX8_wrong_54 ?_
        refine qa_ald0 dX8_wrong_55 ?_
        refine qa_getR dX8_wrong_56 lf_X8_19 rfl sh_1 (by decide) rfl (qa_tw0 hp7.2.1) ?_
        refine qa_getI dX8_wrong_59 lf_X8_158 (Or.inl rfl) (st_0 hp7.2.1) (tle_0 hp7.2.1) ?_
        refine qa_V3I dX8_wrong_62 lm_X8_161 (sy_0 (Or.inl rfl)) rfl (yle_0 (Or.inl rfl)) (by decide) (Nat.le_of_ble_eq_true rfl) (tX7_houseOn l hp7 (Or.inl rfl) h) (fun r9 μ9 hp9 h => ?_)
        refine qa_ist4 dX8_wrong_65 ?_
        refine qa_ild4 dX8_wrong_67 ?_
        refine qa_ald0 dX8_wrong_69 ?_
        refine qa_getR dX8_wrong_70 lf_X8_19 rfl sh_1 (by decide) rfl (qa_tw0 hp9.2.1) ?_
        refine qa_getR dX8_wrong_73 lf_X8_129 rfl (st_0 hp9.2.1) (tle_0 hp9.2.1) (pt_14 hp9 hp9.2.1) (Nat.succ_pos _) ?_
        refine qa_ild1 dX8_wrong_76 ?_
        refine qa_iald dX8_wrong_77 (st_4 hp9.2.1) (tle_4 hp9.2.1) h.1 ?_
        have h := h.2
        refine qa_icmp_ne (tgt := 85) dX8_wrong_78 (by decide) (fun c10 => ?_) (fun c10 => ?_)
        · have h := h.1 c10
          refine qa_ild4 dX8_wrong_85 ?_
          exact qa_iret rfl dX8_wrong_87 ⟨rfl, rfl⟩ ⟨rfl, hp9, _, rfl, h⟩
        · have h := h.2 c10
          refine qa_iconst (v := -1) dX8_wrong_81 (by decide) ?_
          refine qa_goto (tgt := 87) dX8_wrong_82 (by decide) ?_
          exact qa_iret rfl dX8_wrong_87 ⟨rfl, rfl⟩ ⟨rfl, hp9, _, rfl, h⟩
      · have h := h.2 c8
        refine qa_iconst (v := -1) dX8_wrong_47 (by decide) ?_
        exact qa_iret rfl dX8_wrong_48 ⟨rfl, rfl⟩ ⟨rfl, hp7, _, rfl, h⟩
  · have h := h.2 c2
    refine qa_bipush (v := -2) dX8_wrong_8 (by decide) ?_
    exact qa_iret rfl dX8_wrong_10 ⟨rfl, rfl⟩ ⟨rfl, hp1, _, rfl, h⟩
def wX9_see (n : Nat) (v1 : Int32) (μ0 : qa_M) (Q : Int32 → qa_M → Prop) : Prop := (((μ0.1 91 7) ≤ v1 → Q (-1 : Int32) μ0) ∧ (¬ (μ0.1 91 7) ≤ v1 → vp_in v1 800 ∧ Q ((μ0.1 95 v1.toNatClampNeg) &&& (255 : Int32)) μ0))
theorem tX9_see (l : Launch) {n : Nat} {v1 : Int32} {μ0 : qa_M} {Q : Int32 → qa_M → Prop} (hp0 : qa_PP μ0.2.2)  (h : wX9_see n v1 μ0 Q) : qa_Met l yX9_see cX9_see 2 (some .int) 0 0 0 [.ref 91, .int v1] 113 μ0 (qa_pI Q) := by
  refine qa_ofG (by decide) (Nat.le_of_ble_eq_true rfl) ?_
  unfold wX9_see at h
  change qa_G l yX9_see cX9_see 2 (some .int) 0 0 0 (qa_pI Q) 0 0 0 [some (.ref 91), some (.int v1)] [] 113 μ0
  refine qa_ild1 dX9_see_0 ?_
  refine qa_ald0 dX9_see_1 ?_
  refine qa_getI dX9_see_2 lf_X9_110 (Or.inl rfl) sh_91 (by decide) ?_
  refine qa_icmp_ge (tgt := 21) dX9_see_5 (by decide) (fun c1 => ?_) (fun c1 => ?_)
  · have h := h.1 c1
    refine qa_iconst (v := -1) dX9_see_21 (by decide) ?_
    exact qa_iret rfl dX9_see_22 ⟨rfl, rfl⟩ ⟨rfl, hp0, _, rfl, h⟩
  · have h := h.2 c1
    refine qa_ald0 dX9_see_8 ?_
    refine qa_getR dX9_see_9 lf_X9_20 rfl sh_91 (by decide) (pp_91_4 hp0) (by decide) ?_
    refine qa_ild1 dX9_see_12 ?_
    refine qa_bald dX9_see_13 sh_95 (by decide) h.1 ?_
    have h := h.2
    refine qa_sipush (v := 255) dX9_see_14 (by decide) ?_
    refine qa_iand dX9_see_17 ?_
    refine qa_goto (tgt := 22) dX9_see_18 (by decide) ?_
    exact qa_iret rfl dX9_see_22 ⟨rfl, rfl⟩ ⟨rfl, hp0, _, rfl, h⟩
def wX9_in (n : Nat) (v0 : Int64) (v2 : Int64) (v4 : Int64) (μ0 : qa_M) (Q : Int32 → qa_M → Prop) : Prop := (((lg_cmp v0 v2) < 0 → Q (0 : Int32) μ0) ∧ (¬ (lg_cmp v0 v2) < 0 → ((0 < (lg_cmp v0 v4) → Q (0 : Int32) μ0) ∧ (¬ 0 < (lg_cmp v0 v4) → Q (1 : Int32) μ0))))
theorem tX9_in (l : Launch) {n : Nat} {v0 : Int64} {v2 : Int64} {v4 : Int64} {μ0 : qa_M} {Q : Int32 → qa_M → Prop} (hp0 : qa_PP μ0.2.2)  (h : wX9_in n v0 v2 v4 μ0 Q) : qa_Met l yX9_in cX9_in 6 (some .boolean) 0 0 0 [.long v0, .long v2, .long v4] 113 μ0 (qa_pI Q) := by
  refine qa_ofG (by decide) (Nat.le_of_ble_eq_true rfl) ?_
  unfold wX9_in at h
  change qa_G l yX9_in cX9_in 6 (some .boolean) 0 0 0 (qa_pI Q) 0 0 0 [some (.long v0), none, some (.long v2), none, some (.long v4), none] [] 113 μ0
  refine qa_lld0 dX9_in_0 ?_
  refine qa_lld2 dX9_in_1 ?_
  refine qa_lcmp dX9_in_2 ?_
  refine qa_if_lt (tgt := 17) dX9_in_3 (by decide) (fun c1 => ?_) (fun c1 => ?_)
  · have h := h.1 c1
    refine qa_iconst (v := 0) dX9_in_17 (by decide) ?_
    exact qa_zret rfl rfl dX9_in_18 ⟨rfl, rfl⟩ ⟨rfl, hp0, _, rfl, h⟩
  · have h := h.2 c1
    refine qa_lld0 dX9_in_6 ?_
    refine qa_lld4 dX9_in_7 ?_
    refine qa_lcmp dX9_in_9 ?_
    refine qa_if_gt (tgt := 17) dX9_in_10 (by decide) (fun c2 => ?_) (fun c2 => ?_)
    · have h := h.1 c2
      refine qa_iconst (v := 0) dX9_in_17 (by decide) ?_
      exact qa_zret rfl rfl dX9_in_18 ⟨rfl, rfl⟩ ⟨rfl, hp0, _, rfl, h⟩
    · have h := h.2 c2
      refine qa_iconst (v := 1) dX9_in_13 (by decide) ?_
      refine qa_goto (tgt := 18) dX9_in_14 (by decide) ?_
      exact qa_zret rfl rfl dX9_in_18 ⟨rfl, rfl⟩ ⟨rfl, hp0, _, rfl, h⟩
def wX9_advance_26 (n : Nat)  (μ0 : qa_M) (K0 : qa_M → Prop) (Q : qa_M → Prop) : Prop := ∀ μ3, μ3 = qa_uI μ0 91 8 ((μ0.1 91 8) + (1 : Int32)) → K0  μ3
def wX9_advance_0 : Nat → qa_M → (qa_M → Prop) → (qa_M → Prop) → Prop
  | 0, _, _, _ => False
  | n + 1, μ0, K0, Q => wX9_see n (μ0.1 91 8) μ0 (fun r1 μ1 => ((r1 = (32 : Int32) → wX9_advance_26 n  μ1 (fun  μk => wX9_advance_0 n  μk K0 Q) Q) ∧ (¬ r1 = (32 : Int32) → wX9_see n (μ1.1 91 8) μ1 (fun r4 μ4 => ((¬ r4 = (10 : Int32) → K0  μ4) ∧ (r4 = (10 : Int32) → wX9_advance_26 n  μ4 (fun  μk => wX9_advance_0 n  μk K0 Q) Q))))))
def wX9_advance_226 (n : Nat) (s0 : Int32) (μ0 : qa_M)  (Q : qa_M → Prop) : Prop := ∀ μ16, μ16 = qa_uI μ0 91 10 s0 → ∀ μ17, μ17 = qa_uI μ16 91 8 ((μ16.1 91 8) + (1 : Int32)) → Q μ17
def wX9_advance_144 : Nat → qa_M → (qa_M → Prop) → Prop
  | 0, _, _ => False
  | n + 1, μ0, Q => wX9_see n (μ0.1 91 8) μ0 (fun r19 μ19 => wX9_in n r19.toInt64 (48 : Int64) (57 : Int64) μ19 (fun r20 μ20 => ((r20 = 0 → ∀ μ22, μ22 = qa_uI μ20 91 10 (2 : Int32) → Q μ22) ∧ (¬ r20 = 0 → wX9_see n (μ20.1 91 8) μ20 (fun r23 μ23 => wJ9_min_7cf53 n (99999 : Int32) ((((10 : Int32) * (μ20.1 91 11)) + r23) - (48 : Int32)) μ23 (fun r24 μ24 => ∀ μ25, μ25 = qa_uI μ24 91 11 r24 → ∀ μ26, μ26 = qa_uI μ25 91 8 ((μ25.1 91 8) + (1 : Int32)) → wX9_advance_144 n  μ26 Q))))))
def wX9_advance_83 : Nat → qa_M → (qa_M → Prop) → Prop
  | 0, _, _ => False
  | n + 1, μ0, Q => wX9_see n (μ0.1 91 8) μ0 (fun r27 μ27 => wX9_in n r27.toInt64 (97 : Int64) (122 : Int64) μ27 (fun r28 μ28 => ((r28 = 0 → ∀ μ30, μ30 = qa_uI μ28 91 10 (1 : Int32) → Q μ30) ∧ (¬ r28 = 0 → ∀ μ31, μ31 = qa_uI μ28 91 8 ((μ28.1 91 8) + (1 : Int32)) → wX9_advance_83 n  μ31 Q))))
def wX9_advance (n : Nat)  (μ0 : qa_M) (Q : qa_M → Prop) : Prop := wX9_advance_0 n  μ0 (fun  μ6 => ∀ μ8, μ8 = qa_uI μ6 91 9 (μ6.1 91 8) → wX9_see n (μ8.1 91 8) μ8 (fun r9 μ9 => ((¬ r9 = (-1 : Int32) → wX9_in n r9.toInt64 (97 : Int64) (122 : Int64) μ9 (fun r11 μ11 => ((r11 = 0 → wX9_in n r9.toInt64 (48 : Int64) (57 : Int64) μ11 (fun r13 μ13 => ((r13 = 0 → ((¬ r9 = (59 : Int32) → wX9_advance_226 n (4 : Int32) μ13  Q) ∧ (r9 = (59 : Int32) → wX9_advance_226 n (3 : Int32) μ13  Q))) ∧ (¬ r13 = 0 → ∀ μ18, μ18 = qa_uI μ13 91 11 (0 : Int32) → wX9_advance_144 n  μ18  Q)))) ∧ (¬ r11 = 0 → wX9_advance_83 n  μ11  Q)))) ∧ (r9 = (-1 : Int32) → ∀ μ32, μ32 = qa_uI μ9 91 10 (0 : Int32) → Q μ32)))) Q
theorem tX9_advance_26 (l : Launch) {K0 : qa_M → Prop} {Q : qa_M → Prop} (hK0 : ∀  (μ : qa_M), qa_PP μ.2.2 → K0  μ → qa_G l yX9_advance cX9_advance 2 none 1 0 0 (qa_pV Q) 0 0 0 [some (.ref 91), none] [] 113 μ) : ∀ (n : Nat)  (μ0 : qa_M), qa_PP μ0.2.2 → wX9_advance_26 n  μ0 K0 Q → qa_G l yX9_advance cX9_advance 2 none 1 0 0 (qa_pV Q) 0 0 26 [some (.ref 91), none] [] 113 μ0 := by
  intro n
  intro  μ0 hp0  h
  unfold wX9_advance_26 at h
  refine qa_ald0 dX9_advance_26 ?_
  refine qa_dup dX9_advance_27 rfl ?_
  refine qa_getI dX9_advance_28 lf_X9_113 (Or.inl rfl) sh_91 (by decide) ?_
  refine qa_iconst (v := 1) dX9_advance_31 (by decide) ?_
  refine qa_iadd dX9_advance_32 ?_
  refine qa_putI dX9_advance_33 lf_X9_113 rfl sh_91 (by decide) rfl ?_
  refine qa_nmM (fun μ3 em3 => ?_)
  have h := h μ3 em3
  have hp3 : qa_PP μ3.2.2 := by rw [em3]; exact hp0
  refine qa_goto (tgt := 0) dX9_advance_36 (by decide) ?_
  refine qa_fgt (L' := [some (.ref 91), none]) (⟨rfl, trivial⟩) ?_
  exact hK0  μ3 hp3  h
theorem tX9_advance_0 (l : Launch) {K0 : qa_M → Prop} {Q : qa_M → Prop} (hK0 : ∀  (μ : qa_M), qa_PP μ.2.2 → K0  μ → qa_G l yX9_advance cX9_advance 2 none 1 0 0 (qa_pV Q) 0 0 39 [some (.ref 91), none] [] 113 μ) : ∀ (n : Nat)  (μ0 : qa_M), qa_PP μ0.2.2 → wX9_advance_0 n  μ0 K0 Q → qa_G l yX9_advance cX9_advance 2 none 1 0 0 (qa_pV Q) 0 0 0 [some (.ref 91), none] [] 113 μ0 := by
  intro n
  induction n with
  | zero =>
    intro  μ0 hp0  h
    rw [wX9_advance_0] at h
    exact h.elim
  | succ n ih =>
    intro  μ0 hp0  h
    rw [wX9_advance_0] at h
    refine qa_ald0 dX9_advance_0 ?_
    refine qa_ald0 dX9_advance_1 ?_
    refine qa_getI dX9_advance_2 lf_X9_113 (Or.inl rfl) sh_91 (by decide) ?_
    refine qa_V1I dX9_advance_5 lm_X9_116 sh_91 rfl (by decide) (by decide) (Nat.le_of_ble_eq_true rfl) (tX9_see l hp0  h) (fun r1 μ1 hp1 h => ?_)
    refine qa_bipush (v := 32) dX9_advance_8 (by decide) ?_
    refine qa_icmp_eq (tgt := 26) dX9_advance_10 (by decide) (fun c2 => ?_) (fun c2 => ?_)
    · have h := h.1 c2
      refine qa_fgt (L' := [some (.ref 91), none]) (⟨rfl, trivial⟩) ?_
      refine tX9_advance_26 l ih n  μ1 hp1  h
    · have h := h.2 c2
      refine qa_ald0 dX9_advance_13 ?_
      refine qa_ald0 dX9_advance_14 ?_
      refine qa_getI dX9_advance_15 lf_X9_113 (Or.inl rfl) sh_91 (by decide) ?_
      refine qa_V1I dX9_advance_18 lm_X9_116 sh_91 rfl (by decide) (by decide) (Nat.le_of_ble_eq_true rfl) (tX9_see l hp1  h) (fun r4 μ4 hp4 h => ?_)
      refine qa_bipush (v := 10) dX9_advance_21 (by decide) ?_
      refine qa_icmp_ne (tgt := 39) dX9_advance_23 (by decide) (fun c5 => ?_) (fun c5 => ?_)
      · have h := h.1 c5
        refine qa_fgt (L' := [some (.ref 91), none]) (⟨rfl, trivial⟩) ?_
        exact hK0  μ4 hp4  h
      · have h := h.2 c5
        refine qa_fgt (L' := [some (.ref 91), none]) (⟨rfl, trivial⟩) ?_
        refine tX9_advance_26 l ih n  μ4 hp4  h
theorem tX9_advance_226 (l : Launch)  {Q : qa_M → Prop}  : ∀ (n : Nat) (s0 : Int32) (μ0 : qa_M), qa_PP μ0.2.2 → wX9_advance_226 n s0 μ0  Q → qa_G l yX9_advance cX9_advance 2 none 1 0 0 (qa_pV Q) 0 0 226 [some (.ref 91), none] [.int s0, .ref 91] 113 μ0 := by
  intro n
  intro s0 μ0 hp0  h
  unfold wX9_advance_226 at h
  refine qa_putI dX9_advance_226 lf_X9_123 rfl sh_91 (by decide) rfl ?_
  refine qa_nmM (fun μ16 em16 => ?_)
  have h := h μ16 em16
  have hp16 : qa_PP μ16.2.2 := by rw [em16]; exact hp0
  refine qa_ald0 dX9_advance_229 ?_
  refine qa_dup dX9_advance_230 rfl ?_
  refine qa_getI dX9_advance_231 lf_X9_113 (Or.inl rfl) sh_91 (by decide) ?_
  refine qa_iconst (v := 1) dX9_advance_234 (by decide) ?_
  refine qa_iadd dX9_advance_235 ?_
  refine qa_putI dX9_advance_236 lf_X9_113 rfl sh_91 (by decide) rfl ?_
  refine qa_nmM (fun μ17 em17 => ?_)
  have h := h μ17 em17
  have hp17 : qa_PP μ17.2.2 := by rw [em17]; exact hp16
  exact qa_vret rfl dX9_advance_239 ⟨rfl, rfl⟩ ⟨rfl, hp17, rfl, h⟩
theorem tX9_advance_144 (l : Launch)  {Q : qa_M → Prop}  : ∀ (n : Nat)  (μ0 : qa_M), qa_PP μ0.2.2 → wX9_advance_144 n  μ0  Q → qa_G l yX9_advance cX9_advance 2 none 1 0 0 (qa_pV Q) 0 0 144 [some (.ref 91), none] [] 113 μ0 := by
  intro n
  induction n with
  | zero =>
    intro  μ0 hp0  h
    rw [wX9_advance_144] at h
    exact h.elim
  | succ n ih =>
    intro  μ0 hp0  h
    rw [wX9_advance_144] at h
    refine qa_ald0 dX9_advance_144 ?_
    refine qa_ald0 dX9_advance_145 ?_
    refine qa_getI dX9_advance_146 lf_X9_113 (Or.inl rfl) sh_91 (by decide) ?_
    refine qa_V1I dX9_advance_149 lm_X9_116 sh_91 rfl (by decide) (by decide) (Nat.le_of_ble_eq_true rfl) (tX9_see l hp0  h) (fun r19 μ19 hp19 h => ?_)
    refine qa_i2l dX9_advance_152 ?_
    refine qa_ldc2 dX9_advance_153 lk_X9_130 ?_
    refine qa_ldc2 dX9_advance_156 lk_X9_132 ?_
    refine qa_S3I dX9_advance_159 lm_X9_88  (by decide) (Nat.le_of_ble_eq_true rfl) (tX9_in l hp19  h) (fun r20 μ20 hp20 h => ?_)
    refine qa_if_eq (tgt := 206) dX9_advance_162 (by decide) (fun c21 => ?_) (fun c21 => ?_)
    · have h := h.1 c21
      refine qa_ald0 dX9_advance_206 ?_
      refine qa_iconst (v := 2) dX9_advance_207 (by decide) ?_
      refine qa_putI dX9_advance_208 lf_X9_123 rfl sh_91 (by decide) rfl ?_
      refine qa_nmM (fun μ22 em22 => ?_)
      have h := h μ22 em22
      have hp22 : qa_PP μ22.2.2 := by rw [em22]; exact hp20
      refine qa_goto (tgt := 239) dX9_advance_211 (by decide) ?_
      exact qa_vret rfl dX9_advance_239 ⟨rfl, rfl⟩ ⟨rfl, hp22, rfl, h⟩
    · have h := h.2 c21
      refine qa_ald0 dX9_advance_165 ?_
      refine qa_ldc dX9_advance_166 lk_X9_137 ?_
      refine qa_bipush (v := 10) dX9_advance_168 (by decide) ?_
      refine qa_ald0 dX9_advance_170 ?_
      refine qa_getI dX9_advance_171 lf_X9_134 (Or.inl rfl) sh_91 (by decide) ?_
      refine qa_imul dX9_advance_174 ?_
      refine qa_ald0 dX9_advance_175 ?_
      refine qa_ald0 dX9_advance_176 ?_
      refine qa_getI dX9_advance_177 lf_X9_113 (Or.inl rfl) sh_91 (by decide) ?_
      refine qa_V1I dX9_advance_180 lm_X9_116 sh_91 rfl (by decide) (by decide) (Nat.le_of_ble_eq_true rfl) (tX9_see l hp20  h) (fun r23 μ23 hp23 h => ?_)
      refine qa_iadd dX9_advance_183 ?_
      refine qa_bipush (v := 48) dX9_advance_184 (by decide) ?_
      refine qa_isub dX9_advance_186 ?_
      refine qa_S2I dX9_advance_187 lm_X9_138  (by decide) (Nat.le_of_ble_eq_true rfl) (tJ9_min_7cf53 l hp23  h) (fun r24 μ24 hp24 h => ?_)
      refine qa_putI dX9_advance_190 lf_X9_134 rfl sh_91 (by decide) rfl ?_
      refine qa_nmM (fun μ25 em25 => ?_)
      have h := h μ25 em25
      have hp25 : qa_PP μ25.2.2 := by rw [em25]; exact hp24
      refine qa_ald0 dX9_advance_193 ?_
      refine qa_dup dX9_advance_194 rfl ?_
      refine qa_getI dX9_advance_195 lf_X9_113 (Or.inl rfl) sh_91 (by decide) ?_
      refine qa_iconst (v := 1) dX9_advance_198 (by decide) ?_
      refine qa_iadd dX9_advance_199 ?_
      refine qa_putI dX9_advance_200 lf_X9_113 rfl sh_91 (by decide) rfl ?_
      refine qa_nmM (fun μ26 em26 => ?_)
      have h := h μ26 em26
      have hp26 : qa_PP μ26.2.2 := by rw [em26]; exact hp25
      refine qa_goto (tgt := 144) dX9_advance_203 (by decide) ?_
      refine qa_fgt (L' := [some (.ref 91), none]) (⟨rfl, trivial⟩) ?_
      exact ih  μ26 hp26  h
theorem tX9_advance_83 (l : Launch)  {Q : qa_M → Prop}  : ∀ (n : Nat)  (μ0 : qa_M), qa_PP μ0.2.2 → wX9_advance_83 n  μ0  Q → qa_G l yX9_advance cX9_advance 2 none 1 0 0 (qa_pV Q) 0 0 83 [some (.ref 91), none] [] 113 μ0 := by
  intro n
  induction n with
  | zero =>
    intro  μ0 hp0  h
    rw [wX9_advance_83] at h
    exact h.elim
  | succ n ih =>
    intro  μ0 hp0  h
    rw [wX9_advance_83] at h
    refine qa_ald0 dX9_advance_83 ?_
    refine qa_ald0 dX9_advance_84 ?_
    refine qa_getI dX9_advance_85 lf_X9_113 (Or.inl rfl) sh_91 (by decide) ?_
    refine qa_V1I dX9_advance_88 lm_X9_116 sh_91 rfl (by decide) (by decide) (Nat.le_of_ble_eq_true rfl) (tX9_see l hp0  h) (fun r27 μ27 hp27 h => ?_)
    refine qa_i2l dX9_advance_91 ?_
    refine qa_ldc2 dX9_advance_92 lk_X9_126 ?_
    refine qa_ldc2 dX9_advance_95 lk_X9_128 ?_
    refine qa_S3I dX9_advance_98 lm_X9_88  (by decide) (Nat.le_of_ble_eq_true rfl) (tX9_in l hp27  h) (fun r28 μ28 hp28 h => ?_)
    refine qa_if_eq (tgt := 117) dX9_advance_101 (by decide) (fun c29 => ?_) (fun c29 => ?_)
    · have h := h.1 c29
      refine qa_ald0 dX9_advance_117 ?_
      refine qa_iconst (v := 1) dX9_advance_118 (by decide) ?_
      refine qa_putI dX9_advance_119 lf_X9_123 rfl sh_91 (by decide) rfl ?_
      refine qa_nmM (fun μ30 em30 => ?_)
      have h := h μ30 em30
      have hp30 : qa_PP μ30.2.2 := by rw [em30]; exact hp28
      refine qa_goto (tgt := 239) dX9_advance_122 (by decide) ?_
      exact qa_vret rfl dX9_advance_239 ⟨rfl, rfl⟩ ⟨rfl, hp30, rfl, h⟩
    · have h := h.2 c29
      refine qa_ald0 dX9_advance_104 ?_
      refine qa_dup dX9_advance_105 rfl ?_
      refine qa_getI dX9_advance_106 lf_X9_113 (Or.inl rfl) sh_91 (by decide) ?_
      refine qa_iconst (v := 1) dX9_advance_109 (by decide) ?_
      refine qa_iadd dX9_advance_110 ?_
      refine qa_putI dX9_advance_111 lf_X9_113 rfl sh_91 (by decide) rfl ?_
      refine qa_nmM (fun μ31 em31 => ?_)
      have h := h μ31 em31
      have hp31 : qa_PP μ31.2.2 := by rw [em31]; exact hp28
      refine qa_goto (tgt := 83) dX9_advance_114 (by decide) ?_
      refine qa_fgt (L' := [some (.ref 91), none]) (⟨rfl, trivial⟩) ?_
      exact ih  μ31 hp31  h
theorem tX9_advance (l : Launch) {n : Nat}  {μ0 : qa_M} {Q : qa_M → Prop} (hp0 : qa_PP μ0.2.2)  (h : wX9_advance n  μ0 Q) : qa_Met l yX9_advance cX9_advance 2 none 1 0 0 [.ref 91] 113 μ0 (qa_pV Q) := by
  refine qa_ofG (by decide) (Nat.le_of_ble_eq_true rfl) ?_
  unfold wX9_advance at h
  change qa_G l yX9_advance cX9_advance 2 none 1 0 0 (qa_pV Q) 0 0 0 [some (.ref 91), none] [] 113 μ0
  refine qa_fgt (L' := [some (.ref 91), none]) (⟨rfl, trivial⟩) ?_
  refine tX9_advance_0 l ?_ n  μ0 hp0  h
  · intro  μ6 hp6  h
    refine qa_ald0 dX9_advance_39 ?_
    refine qa_ald0 dX9_advance_40 ?_
    refine qa_getI dX9_advance_41 lf_X9_113 (Or.inl rfl) sh_91 (by decide) ?_
    refine qa_putI dX9_advance_44 lf_X9_120 rfl sh_91 (by decide) rfl ?_
    refine qa_nmM (fun μ8 em8 => ?_)
    have h := h μ8 em8
    have hp8 : qa_PP μ8.2.2 := by rw [em8]; exact hp6
    refine qa_ald0 dX9_advance_47 ?_
    refine qa_ald0 dX9_advance_48 ?_
    refine qa_getI dX9_advance_49 lf_X9_113 (Or.inl rfl) sh_91 (by decide) ?_
    refine qa_V1I dX9_advance_52 lm_X9_116 sh_91 rfl (by decide) (by decide) (Nat.le_of_ble_eq_true rfl) (tX9_see l hp8  h) (fun r9 μ9 hp9 h => ?_)
    refine qa_ist1 dX9_advance_55 ?_
    refine qa_ild1 dX9_advance_56 ?_
    refine qa_iconst (v := -1) dX9_advance_57 (by decide) ?_
    refine qa_icmp_ne (tgt := 69) dX9_advance_58 (by decide) (fun c10 => ?_) (fun c10 => ?_)
    · have h := h.1 c10
      refine qa_ild1 dX9_advance_69 ?_
      refine qa_i2l dX9_advance_70 ?_
      refine qa_ldc2 dX9_advance_71 lk_X9_126 ?_
      refine qa_ldc2 dX9_advance_74 lk_X9_128 ?_
      refine qa_S3I dX9_advance_77 lm_X9_88  (by decide) (Nat.le_of_ble_eq_true rfl) (tX9_in l hp9  h) (fun r11 μ11 hp11 h => ?_)
      refine qa_if_eq (tgt := 125) dX9_advance_80 (by decide) (fun c12 => ?_) (fun c12 => ?_)
      · have h := h.1 c12
        refine qa_ild1 dX9_advance_125 ?_
        refine qa_i2l dX9_advance_126 ?_
        refine qa_ldc2 dX9_advance_127 lk_X9_130 ?_
        refine qa_ldc2 dX9_advance_130 lk_X9_132 ?_
        refine qa_S3I dX9_advance_133 lm_X9_88  (by decide) (Nat.le_of_ble_eq_true rfl) (tX9_in l hp11  h) (fun r13 μ13 hp13 h => ?_)
        refine qa_if_eq (tgt := 214) dX9_advance_136 (by decide) (fun c14 => ?_) (fun c14 => ?_)
        · have h := h.1 c14
          refine qa_ald0 dX9_advance_214 ?_
          refine qa_ild1 dX9_advance_215 ?_
          refine qa_bipush (v := 59) dX9_advance_216 (by decide) ?_
          refine qa_icmp_ne (tgt := 225) dX9_advance_218 (by decide) (fun c15 => ?_) (fun c15 => ?_)
          · have h := h.1 c15
            refine qa_iconst (v := 4) dX9_advance_225 (by decide) ?_
            refine qa_fgt (L' := [some (.ref 91), none]) (⟨rfl, trivial⟩) ?_
            refine tX9_advance_226 l  n (4 : Int32) μ13 hp13  h
          · have h := h.2 c15
            refine qa_iconst (v := 3) dX9_advance_221 (by decide) ?_
            refine qa_goto (tgt := 226) dX9_advance_222 (by decide) ?_
            refine qa_fgt (L' := [some (.ref 91), none]) (⟨rfl, trivial⟩) ?_
            refine tX9_advance_226 l  n (3 : Int32) μ13 hp13  h
        · have h := h.2 c14
          refine qa_ald0 dX9_advance_139 ?_
          refine qa_iconst (v := 0) dX9_advance_140 (by decide) ?_
          refine qa_putI dX9_advance_141 lf_X9_134 rfl sh_91 (by decide) rfl ?_
          refine qa_nmM (fun μ18 em18 => ?_)
          have h := h μ18 em18
          have hp18 : qa_PP μ18.2.2 := by rw [em18]; exact hp13
          refine qa_fgt (L' := [some (.ref 91), none]) (⟨rfl, trivial⟩) ?_
          refine tX9_advance_144 l  n  μ18 hp18  h
      · have h := h.2 c12
        refine qa_fgt (L' := [some (.ref 91), none]) (⟨rfl, trivial⟩) ?_
        refine tX9_advance_83 l  n  μ11 hp11  h
    · have h := h.2 c10
      refine qa_ald0 dX9_advance_61 ?_
      refine qa_iconst (v := 0) dX9_advance_62 (by decide) ?_
      refine qa_putI dX9_advance_63 lf_X9_123 rfl sh_91 (by decide) rfl ?_
      refine qa_nmM (fun μ32 em32 => ?_)
      have h := h μ32 em32
      have hp32 : qa_PP μ32.2.2 := by rw [em32]; exact hp9
      refine qa_goto (tgt := 239) dX9_advance_66 (by decide) ?_
      exact qa_vret rfl dX9_advance_239 ⟨rfl, rfl⟩ ⟨rfl, hp32, rfl, h⟩
def wX9_asItIs_47 : Nat → Int32 → qa_M → (qa_M → Prop) → (qa_M → Prop) → Prop
  | 0, _, _, _, _ => False
  | n + 1, v1, μ0, K0, Q => (((8 : Int32) ≤ v1 → K0  μ0) ∧ (¬ (8 : Int32) ≤ v1 → vp_in (((10 : Int32) + ((2 : Int32) * v1)) + (1 : Int32)) 114 ∧ ∀ μ9, μ9 = qa_uI μ0 91 18 ((μ0.1 91 18) ||| ((μ0.1 92 (((10 : Int32) + ((2 : Int32) * v1)) + (1 : Int32)).toNatClampNeg) <<< (v1 &&& 31))) → vp_in v1 8 ∧ ∀ μ10, μ10 = qa_uI μ9 98 v1.toNatClampNeg (0 : Int32) → vp_in v1 8 ∧ ∀ μ11, μ11 = qa_uI μ10 99 v1.toNatClampNeg (0 : Int32) → wX9_asItIs_47 n (v1 + (1 : Int32)) μ11 K0 Q))
def wX9_asItIs_99 : Nat → Int32 → qa_M → (qa_M → Prop) → (qa_M → Prop) → Prop
  | 0, _, _, _, _ => False
  | n + 1, v1, μ0, K0, Q => (((μ0.1 92 (5 : Int32).toNatClampNeg) ≤ v1 → K0  μ0) ∧ (¬ (μ0.1 92 (5 : Int32).toNatClampNeg) ≤ v1 → vp_in ((26 : Int32) + ((3 : Int32) * v1)) 114 ∧ vp_in (((26 : Int32) + ((3 : Int32) * v1)) + (1 : Int32)) 114 ∧ vp_in (μ0.1 92 ((26 : Int32) + ((3 : Int32) * v1)).toNatClampNeg) 8 ∧ ∀ μ15, μ15 = qa_uI μ0 98 (μ0.1 92 ((26 : Int32) + ((3 : Int32) * v1)).toNatClampNeg).toNatClampNeg (μ0.1 92 (((26 : Int32) + ((3 : Int32) * v1)) + (1 : Int32)).toNatClampNeg) → vp_in ((26 : Int32) + ((3 : Int32) * v1)) 114 ∧ vp_in (((26 : Int32) + ((3 : Int32) * v1)) + (2 : Int32)) 114 ∧ vp_in (μ15.1 92 ((26 : Int32) + ((3 : Int32) * v1)).toNatClampNeg) 8 ∧ ∀ μ16, μ16 = qa_uI μ15 99 (μ15.1 92 ((26 : Int32) + ((3 : Int32) * v1)).toNatClampNeg).toNatClampNeg (μ15.1 92 (((26 : Int32) + ((3 : Int32) * v1)) + (2 : Int32)).toNatClampNeg) → wX9_asItIs_99 n (v1 + (1 : Int32)) μ16 K0 Q))
def wX9_asItIs_175 : Nat → Int32 → qa_M → (qa_M → Prop) → (qa_M → Prop) → Prop
  | 0, _, _, _, _ => False
  | n + 1, v1, μ0, K0, Q => (((μ0.1 92 (6 : Int32).toNatClampNeg) ≤ v1 → K0  μ0) ∧ (¬ (μ0.1 92 (6 : Int32).toNatClampNeg) ≤ v1 → vp_in ((56 : Int32) + v1) 114 ∧ ∀ μ20, μ20 = qa_uI μ0 91 19 ((μ0.1 91 19) ||| ((1 : Int32) <<< ((μ0.1 92 ((56 : Int32) + v1).toNatClampNeg) &&& 31))) → wX9_asItIs_175 n (v1 + (1 : Int32)) μ20 K0 Q))
def wX9_asItIs_214 : Nat → Int32 → qa_M → (qa_M → Prop) → (qa_M → Prop) → Prop
  | 0, _, _, _, _ => False
  | n + 1, v1, μ0, K0, Q => (((20 : Int32) ≤ v1 → K0  μ0) ∧ (¬ (20 : Int32) ≤ v1 → vp_in v1 20 ∧ ∀ μ24, μ24 = qa_uI μ0 100 v1.toNatClampNeg (0 : Int32) → wX9_asItIs_214 n (v1 + (1 : Int32)) μ24 K0 Q))
def wX9_asItIs_235 : Nat → Int32 → qa_M → (qa_M → Prop) → Prop
  | 0, _, _, _ => False
  | n + 1, v1, μ0, Q => (((μ0.1 92 (8 : Int32).toNatClampNeg) ≤ v1 → Q μ0) ∧ (¬ (μ0.1 92 (8 : Int32).toNatClampNeg) ≤ v1 → vp_in ((84 : Int32) + v1) 114 ∧ ∀ x28, x28 = (μ0.1 92 ((84 : Int32) + v1).toNatClampNeg) → ((x28 < (10000 : Int32) → wX9_asItIs_235 n (v1 + (1 : Int32)) μ0 Q) ∧ (¬ x28 < (10000 : Int32) → vp_in (x28 - x28 / (100 : Int32) * (100 : Int32)) 20 ∧ vp_in (x28 - x28 / (100 : Int32) * (100 : Int32)) 20 ∧ ∀ μ30, μ30 = qa_uI μ0 100 (x28 - x28 / (100 : Int32) * (100 : Int32)).toNatClampNeg ((μ0.1 100 (x28 - x28 / (100 : Int32) * (100 : Int32)).toNatClampNeg) ||| ((1 : Int32) <<< (((x28 - (10000 : Int32)) / (100 : Int32)) &&& 31))) → wX9_asItIs_235 n (v1 + (1 : Int32)) μ30 Q))))
def wX9_asItIs (n : Nat)  (μ0 : qa_M) (Q : qa_M → Prop) : Prop := ∀ μ1, μ1 = qa_uI μ0 91 20 (μ0.1 92 (1 : Int32).toNatClampNeg) → ∀ μ2, μ2 = qa_uI μ1 91 21 (μ1.1 92 (2 : Int32).toNatClampNeg) → ∀ μ3, μ3 = qa_uI μ2 91 18 (0 : Int32) → ∀ μ4, μ4 = qa_uI μ3 91 19 (0 : Int32) → ∀ μ5, μ5 = qa_uI μ4 91 22 (0 : Int32) → ∀ μ6, μ6 = qa_uI μ5 91 23 (0 : Int32) → ∀ μ7, μ7 = qa_uI μ6 91 24 (0 : Int32) → wX9_asItIs_47 n (0 : Int32) μ7 (fun  μ12 => wX9_asItIs_99 n (0 : Int32) μ12 (fun  μ17 => wX9_asItIs_175 n (0 : Int32) μ17 (fun  μ21 => wX9_asItIs_214 n (0 : Int32) μ21 (fun  μ25 => wX9_asItIs_235 n (0 : Int32) μ25  Q) Q) Q) Q) Q
theorem tX9_asItIs_47 (l : Launch) {K0 : qa_M → Prop} {Q : qa_M → Prop} (hK0 : ∀  (μ : qa_M), qa_PP μ.2.2 → K0  μ → qa_G l yX9_asItIs cX9_asItIs 3 none 0 0 0 (qa_pV Q) 0 0 97 [some (.ref 91), none, none] [] 113 μ) : ∀ (n : Nat) (v1 : Int32) (μ0 : qa_M), qa_PP μ0.2.2 → wX9_asItIs_47 n v1 μ0 K0 Q → qa_G l yX9_asItIs cX9_asItIs 3 none 0 0 0 (qa_pV Q) 0 0 47 [some (.ref 91), some (.int v1), none] [] 113 μ0 := by
  intro n
  induction n with
  | zero =>
    intro v1 μ0 hp0  h
    rw [wX9_asItIs_47] at h
    exact h.elim
  | succ n ih =>
    intro v1 μ0 hp0  h
    rw [wX9_asItIs_47] at h
    refine qa_ild1 dX9_asItIs_47 ?_
    refine qa_bipush (v := 8) dX9_asItIs_48 (by decide) ?_
    refine qa_icmp_ge (tgt := 97) dX9_asItIs_50 (by decide) (fun c8 => ?_) (fun c8 => ?_)
    · have h := h.1 c8
      refine qa_fgt (L' := [some (.ref 91), none, none]) (⟨rfl, trivial⟩) ?_
      exact hK0  μ0 hp0  h
    · have h := h.2 c8
      refine qa_ald0 dX9_asItIs_53 ?_
      refine qa_dup dX9_asItIs_54 rfl ?_
      refine qa_getI dX9_asItIs_55 lf_X9_236 (Or.inl rfl) sh_91 (by decide) ?_
      refine qa_ald0 dX9_asItIs_58 ?_
      refine qa_getR dX9_asItIs_59 lf_X9_9 rfl sh_91 (by decide) (pp_91_1 hp0) (by decide) ?_
      refine qa_bipush (v := 10) dX9_asItIs_62 (by decide) ?_
      refine qa_iconst (v := 2) dX9_asItIs_64 (by decide) ?_
      refine qa_ild1 dX9_asItIs_65 ?_
      refine qa_imul dX9_asItIs_66 ?_
      refine qa_iadd dX9_asItIs_67 ?_
      refine qa_iconst (v := 1) dX9_asItIs_68 (by decide) ?_
      refine qa_iadd dX9_asItIs_69 ?_
      refine qa_iald dX9_asItIs_70 sh_92 (by decide) h.1 ?_
      have h := h.2
      refine qa_ild1 dX9_asItIs_71 ?_
      refine qa_ishl dX9_asItIs_72 ?_
      refine qa_ior dX9_asItIs_73 ?_
      refine qa_putI dX9_asItIs_74 lf_X9_236 rfl sh_91 (by decide) rfl ?_
      refine qa_nmM (fun μ9 em9 => ?_)
      have h := h μ9 em9
      have hp9 : qa_PP μ9.2.2 := by rw [em9]; exact hp0
      refine qa_ald0 dX9_asItIs_77 ?_
      refine qa_getR dX9_asItIs_78 lf_X9_34 rfl sh_91 (by decide) (pp_91_15 hp9) (by decide) ?_
      refine qa_ild1 dX9_asItIs_81 ?_
      refine qa_iconst (v := 0) dX9_asItIs_82 (by decide) ?_
      refine qa_iast dX9_asItIs_83 sh_98 (by decide) h.1 ?_
      have h := h.2
      refine qa_nmM (fun μ10 em10 => ?_)
      have h := h μ10 em10
      have hp10 : qa_PP μ10.2.2 := by rw [em10]; exact hp9
      refine qa_ald0 dX9_asItIs_84 ?_
      refine qa_getR dX9_asItIs_85 lf_X9_37 rfl sh_91 (by decide) (pp_91_16 hp10) (by decide) ?_
      refine qa_ild1 dX9_asItIs_88 ?_
      refine qa_iconst (v := 0) dX9_asItIs_89 (by decide) ?_
      refine qa_iast dX9_asItIs_90 sh_99 (by decide) h.1 ?_
      have h := h.2
      refine qa_nmM (fun μ11 em11 => ?_)
      have h := h μ11 em11
      have hp11 : qa_PP μ11.2.2 := by rw [em11]; exact hp10
      refine qa_inc1 dX9_asItIs_91 (qa_io1 _) ?_
      refine qa_goto (tgt := 47) dX9_asItIs_94 (by decide) ?_
      refine qa_fgt (L' := [some (.ref 91), some (.int (v1 + (1 : Int32))), none]) (⟨rfl, ⟨rfl, trivial⟩⟩) ?_
      exact ih (v1 + (1 : Int32)) μ11 hp11  h
theorem tX9_asItIs_99 (l : Launch) {K0 : qa_M → Prop} {Q : qa_M → Prop} (hK0 : ∀  (μ : qa_M), qa_PP μ.2.2 → K0  μ → qa_G l yX9_asItIs cX9_asItIs 3 none 0 0 0 (qa_pV Q) 0 0 173 [some (.ref 91), none, none] [] 113 μ) : ∀ (n : Nat) (v1 : Int32) (μ0 : qa_M), qa_PP μ0.2.2 → wX9_asItIs_99 n v1 μ0 K0 Q → qa_G l yX9_asItIs cX9_asItIs 3 none 0 0 0 (qa_pV Q) 0 0 99 [some (.ref 91), some (.int v1), none] [] 113 μ0 := by
  intro n
  induction n with
  | zero =>
    intro v1 μ0 hp0  h
    rw [wX9_asItIs_99] at h
    exact h.elim
  | succ n ih =>
    intro v1 μ0 hp0  h
    rw [wX9_asItIs_99] at h
    refine qa_ild1 dX9_asItIs_99 ?_
    refine qa_ald0 dX9_asItIs_100 ?_
    refine qa_getR dX9_asItIs_101 lf_X9_9 rfl sh_91 (by decide) (pp_91_1 hp0) (by decide) ?_
    refine qa_iconst (v := 5) dX9_asItIs_104 (by decide) ?_
    refine qa_iald dX9_asItIs_105 sh_92 (by decide) (by unfold vp_in; decide) ?_
    refine qa_icmp_ge (tgt := 173) dX9_asItIs_106 (by decide) (fun c14 => ?_) (fun c14 => ?_)
    · have h := h.1 c14
      refine qa_fgt (L' := [some (.ref 91), none, none]) (⟨rfl, trivial⟩) ?_
      exact hK0  μ0 hp0  h
    · have h := h.2 c14
      refine qa_ald0 dX9_asItIs_109 ?_
      refine qa_getR dX9_asItIs_110 lf_X9_34 rfl sh_91 (by decide) (pp_91_15 hp0) (by decide) ?_
      refine qa_ald0 dX9_asItIs_113 ?_
      refine qa_getR dX9_asItIs_114 lf_X9_9 rfl sh_91 (by decide) (pp_91_1 hp0) (by decide) ?_
      refine qa_bipush (v := 26) dX9_asItIs_117 (by decide) ?_
      refine qa_iconst (v := 3) dX9_asItIs_119 (by decide) ?_
      refine qa_ild1 dX9_asItIs_120 ?_
      refine qa_imul dX9_asItIs_121 ?_
      refine qa_iadd dX9_asItIs_122 ?_
      refine qa_iald dX9_asItIs_123 sh_92 (by decide) h.1 ?_
      have h := h.2
      refine qa_ald0 dX9_asItIs_124 ?_
      refine qa_getR dX9_asItIs_125 lf_X9_9 rfl sh_91 (by decide) (pp_91_1 hp0) (by decide) ?_
      refine qa_bipush (v := 26) dX9_asItIs_128 (by decide) ?_
      refine qa_iconst (v := 3) dX9_asItIs_130 (by decide) ?_
      refine qa_ild1 dX9_asItIs_131 ?_
      refine qa_imul dX9_asItIs_132 ?_
      refine qa_iadd dX9_asItIs_133 ?_
      refine qa_iconst (v := 1) dX9_asItIs_134 (by decide) ?_
      refine qa_iadd dX9_asItIs_135 ?_
      refine qa_iald dX9_asItIs_136 sh_92 (by decide) h.1 ?_
      have h := h.2
      refine qa_iast dX9_asItIs_137 sh_98 (by decide) h.1 ?_
      have h := h.2
      refine qa_nmM (fun μ15 em15 => ?_)
      have h := h μ15 em15
      have hp15 : qa_PP μ15.2.2 := by rw [em15]; exact hp0
      refine qa_ald0 dX9_asItIs_138 ?_
      refine qa_getR dX9_asItIs_139 lf_X9_37 rfl sh_91 (by decide) (pp_91_16 hp15) (by decide) ?_
      refine qa_ald0 dX9_asItIs_142 ?_
      refine qa_getR dX9_asItIs_143 lf_X9_9 rfl sh_91 (by decide) (pp_91_1 hp15) (by decide) ?_
      refine qa_bipush (v := 26) dX9_asItIs_146 (by decide) ?_
      refine qa_iconst (v := 3) dX9_asItIs_148 (by decide) ?_
      refine qa_ild1 dX9_asItIs_149 ?_
      refine qa_imul dX9_asItIs_150 ?_
      refine qa_iadd dX9_asItIs_151 ?_
      refine qa_iald dX9_asItIs_152 sh_92 (by decide) h.1 ?_
      have h := h.2
      refine qa_ald0 dX9_asItIs_153 ?_
      refine qa_getR dX9_asItIs_154 lf_X9_9 rfl sh_91 (by decide) (pp_91_1 hp15) (by decide) ?_
      refine qa_bipush (v := 26) dX9_asItIs_157 (by decide) ?_
      refine qa_iconst (v := 3) dX9_asItIs_159 (by decide) ?_
      refine qa_ild1 dX9_asItIs_160 ?_
      refine qa_imul dX9_asItIs_161 ?_
      refine qa_iadd dX9_asItIs_162 ?_
      refine qa_iconst (v := 2) dX9_asItIs_163 (by decide) ?_
      refine qa_iadd dX9_asItIs_164 ?_
      refine qa_iald dX9_asItIs_165 sh_92 (by decide) h.1 ?_
      have h := h.2
      refine qa_iast dX9_asItIs_166 sh_99 (by decide) h.1 ?_
      have h := h.2
      refine qa_nmM (fun μ16 em16 => ?_)
      have h := h μ16 em16
      have hp16 : qa_PP μ16.2.2 := by rw [em16]; exact hp15
      refine qa_inc1 dX9_asItIs_167 (qa_io1 _) ?_
      refine qa_goto (tgt := 99) dX9_asItIs_170 (by decide) ?_
      refine qa_fgt (L' := [some (.ref 91), some (.int (v1 + (1 : Int32))), none]) (⟨rfl, ⟨rfl, trivial⟩⟩) ?_
      exact ih (v1 + (1 : Int32)) μ16 hp16  h
theorem tX9_asItIs_175 (l : Launch) {K0 : qa_M → Prop} {Q : qa_M → Prop} (hK0 : ∀  (μ : qa_M), qa_PP μ.2.2 → K0  μ → qa_G l yX9_asItIs cX9_asItIs 3 none 0 0 0 (qa_pV Q) 0 0 212 [some (.ref 91), none, none] [] 113 μ) : ∀ (n : Nat) (v1 : Int32) (μ0 : qa_M), qa_PP μ0.2.2 → wX9_asItIs_175 n v1 μ0 K0 Q → qa_G l yX9_asItIs cX9_asItIs 3 none 0 0 0 (qa_pV Q) 0 0 175 [some (.ref 91), some (.int v1), none] [] 113 μ0 := by
  intro n
  induction n with
  | zero =>
    intro v1 μ0 hp0  h
    rw [wX9_asItIs_175] at h
    exact h.elim
  | succ n ih =>
    intro v1 μ0 hp0  h
    rw [wX9_asItIs_175] at h
    refine qa_ild1 dX9_asItIs_175 ?_
    refine qa_ald0 dX9_asItIs_176 ?_
    refine qa_getR dX9_asItIs_177 lf_X9_9 rfl sh_91 (by decide) (pp_91_1 hp0) (by decide) ?_
    refine qa_bipush (v := 6) dX9_asItIs_180 (by decide) ?_
    refine qa_iald dX9_asItIs_182 sh_92 (by decide) (by unfold vp_in; decide) ?_
    refine qa_icmp_ge (tgt := 212) dX9_asItIs_183 (by decide) (fun c19 => ?_) (fun c19 => ?_)
    · have h := h.1 c19
      refine qa_fgt (L' := [some (.ref 91), none, none]) (⟨rfl, trivial⟩) ?_
      exact hK0  μ0 hp0  h
    · have h := h.2 c19
      refine qa_ald0 dX9_asItIs_186 ?_
      refine qa_dup dX9_asItIs_187 rfl ?_
      refine qa_getI dX9_asItIs_188 lf_X9_239 (Or.inl rfl) sh_91 (by decide) ?_
      refine qa_iconst (v := 1) dX9_asItIs_191 (by decide) ?_
      refine qa_ald0 dX9_asItIs_192 ?_
      refine qa_getR dX9_asItIs_193 lf_X9_9 rfl sh_91 (by decide) (pp_91_1 hp0) (by decide) ?_
      refine qa_bipush (v := 56) dX9_asItIs_196 (by decide) ?_
      refine qa_ild1 dX9_asItIs_198 ?_
      refine qa_iadd dX9_asItIs_199 ?_
      refine qa_iald dX9_asItIs_200 sh_92 (by decide) h.1 ?_
      have h := h.2
      refine qa_ishl dX9_asItIs_201 ?_
      refine qa_ior dX9_asItIs_202 ?_
      refine qa_putI dX9_asItIs_203 lf_X9_239 rfl sh_91 (by decide) rfl ?_
      refine qa_nmM (fun μ20 em20 => ?_)
      have h := h μ20 em20
      have hp20 : qa_PP μ20.2.2 := by rw [em20]; exact hp0
      refine qa_inc1 dX9_asItIs_206 (qa_io1 _) ?_
      refine qa_goto (tgt := 175) dX9_asItIs_209 (by decide) ?_
      refine qa_fgt (L' := [some (.ref 91), some (.int (v1 + (1 : Int32))), none]) (⟨rfl, ⟨rfl, trivial⟩⟩) ?_
      exact ih (v1 + (1 : Int32)) μ20 hp20  h
theorem tX9_asItIs_214 (l : Launch) {K0 : qa_M → Prop} {Q : qa_M → Prop} (hK0 : ∀  (μ : qa_M), qa_PP μ.2.2 → K0  μ → qa_G l yX9_asItIs cX9_asItIs 3 none 0 0 0 (qa_pV Q) 0 0 233 [some (.ref 91), none, none] [] 113 μ) : ∀ (n : Nat) (v1 : Int32) (μ0 : qa_M), qa_PP μ0.2.2 → wX9_asItIs_214 n v1 μ0 K0 Q → qa_G l yX9_asItIs cX9_asItIs 3 none 0 0 0 (qa_pV Q) 0 0 214 [some (.ref 91), some (.int v1), none] [] 113 μ0 := by
  intro n
  induction n with
  | zero =>
    intro v1 μ0 hp0  h
    rw [wX9_asItIs_214] at h
    exact h.elim
  | succ n ih =>
    intro v1 μ0 hp0  h
    rw [wX9_asItIs_214] at h
    refine qa_ild1 dX9_asItIs_214 ?_
    refine qa_bipush (v := 20) dX9_asItIs_215 (by decide) ?_
    refine qa_icmp_ge (tgt := 233) dX9_asItIs_217 (by decide) (fun c23 => ?_) (fun c23 => ?_)
    · have h := h.1 c23
      refine qa_fgt (L' := [some (.ref 91), none, none]) (⟨rfl, trivial⟩) ?_
      exact hK0  μ0 hp0  h
    · have h := h.2 c23
      refine qa_ald0 dX9_asItIs_220 ?_
      refine qa_getR dX9_asItIs_221 lf_X9_40 rfl sh_91 (by decide) (pp_91_17 hp0) (by decide) ?_
      refine qa_ild1 dX9_asItIs_224 ?_
      refine qa_iconst (v := 0) dX9_asItIs_225 (by decide) ?_
      refine qa_iast dX9_asItIs_226 sh_100 (by decide) h.1 ?_
      have h := h.2
      refine qa_nmM (fun μ24 em24 => ?_)
      have h := h μ24 em24
      have hp24 : qa_PP μ24.2.2 := by rw [em24]; exact hp0
      refine qa_inc1 dX9_asItIs_227 (qa_io1 _) ?_
      refine qa_goto (tgt := 214) dX9_asItIs_230 (by decide) ?_
      refine qa_fgt (L' := [some (.ref 91), some (.int (v1 + (1 : Int32))), none]) (⟨rfl, ⟨rfl, trivial⟩⟩) ?_
      exact ih (v1 + (1 : Int32)) μ24 hp24  h
theorem tX9_asItIs_235 (l : Launch)  {Q : qa_M → Prop}  : ∀ (n : Nat) (v1 : Int32) (μ0 : qa_M), qa_PP μ0.2.2 → wX9_asItIs_235 n v1 μ0  Q → qa_G l yX9_asItIs cX9_asItIs 3 none 0 0 0 (qa_pV Q) 0 0 235 [some (.ref 91), some (.int v1), none] [] 113 μ0 := by
  intro n
  induction n with
  | zero =>
    intro v1 μ0 hp0  h
    rw [wX9_asItIs_235] at h
    exact h.elim
  | succ n ih =>
    intro v1 μ0 hp0  h
    rw [wX9_asItIs_235] at h
    refine qa_ild1 dX9_asItIs_235 ?_
    refine qa_ald0 dX9_asItIs_236 ?_
    refine qa_getR dX9_asItIs_237 lf_X9_9 rfl sh_91 (by decide) (pp_91_1 hp0) (by decide) ?_
    refine qa_bipush (v := 8) dX9_asItIs_240 (by decide) ?_
    refine qa_iald dX9_asItIs_242 sh_92 (by decide) (by unfold vp_in; decide) ?_
    refine qa_icmp_ge (tgt := 291) dX9_asItIs_243 (by decide) (fun c27 => ?_) (fun c27 => ?_)
    · have h := h.1 c27
      exact qa_vret rfl dX9_asItIs_291 ⟨rfl, rfl⟩ ⟨rfl, hp0, rfl, h⟩
    · have h := h.2 c27
      refine qa_ald0 dX9_asItIs_246 ?_
      refine qa_getR dX9_asItIs_247 lf_X9_9 rfl sh_91 (by decide) (pp_91_1 hp0) (by decide) ?_
      refine qa_bipush (v := 84) dX9_asItIs_250 (by decide) ?_
      refine qa_ild1 dX9_asItIs_252 ?_
      refine qa_iadd dX9_asItIs_253 ?_
      refine qa_iald dX9_asItIs_254 sh_92 (by decide) h.1 ?_
      have h := h.2
      refine qa_nmI (fun x28 e28 => ?_)
      have h := h x28 e28
      refine qa_ist2 dX9_asItIs_255 ?_
      refine qa_ild2 dX9_asItIs_256 ?_
      refine qa_sipush (v := 10000) dX9_asItIs_257 (by decide) ?_
      refine qa_icmp_lt (tgt := 285) dX9_asItIs_260 (by decide) (fun c29 => ?_) (fun c29 => ?_)
      · have h := h.1 c29
        refine qa_inc1 dX9_asItIs_285 (qa_io1 _) ?_
        refine qa_goto (tgt := 235) dX9_asItIs_288 (by decide) ?_
        refine qa_fgt (L' := [some (.ref 91), some (.int (v1 + (1 : Int32))), none]) (⟨rfl, ⟨rfl, trivial⟩⟩) ?_
        exact ih (v1 + (1 : Int32)) μ0 hp0  h
      · have h := h.2 c29
        refine qa_ald0 dX9_asItIs_263 ?_
        refine qa_getR dX9_asItIs_264 lf_X9_40 rfl sh_91 (by decide) (pp_91_17 hp0) (by decide) ?_
        refine qa_ild2 dX9_asItIs_267 ?_
        refine qa_bipush (v := 100) dX9_asItIs_268 (by decide) ?_
        refine qa_irem dX9_asItIs_270 (by decide) ?_
        refine qa_dup2 dX9_asItIs_271 rfl rfl ?_
        refine qa_iald dX9_asItIs_272 sh_100 (by decide) h.1 ?_
        have h := h.2
        refine qa_iconst (v := 1) dX9_asItIs_273 (by decide) ?_
        refine qa_ild2 dX9_asItIs_274 ?_
        refine qa_sipush (v := 10000) dX9_asItIs_275 (by decide) ?_
        refine qa_isub dX9_asItIs_278 ?_
        refine qa_bipush (v := 100) dX9_asItIs_279 (by decide) ?_
        refine qa_idiv dX9_asItIs_281 (by decide) ?_
        refine qa_ishl dX9_asItIs_282 ?_
        refine qa_ior dX9_asItIs_283 ?_
        refine qa_iast dX9_asItIs_284 sh_100 (by decide) h.1 ?_
        have h := h.2
        refine qa_nmM (fun μ30 em30 => ?_)
        have h := h μ30 em30
        have hp30 : qa_PP μ30.2.2 := by rw [em30]; exact hp0
        refine qa_inc1 dX9_asItIs_285 (qa_io1 _) ?_
        refine qa_goto (tgt := 235) dX9_asItIs_288 (by decide) ?_
        refine qa_fgt (L' := [some (.ref 91), some (.int (v1 + (1 : Int32))), none]) (⟨rfl, ⟨rfl, trivial⟩⟩) ?_
        exact ih (v1 + (1 : Int32)) μ30 hp30  h
theorem tX9_asItIs (l : Launch) {n : Nat}  {μ0 : qa_M} {Q : qa_M → Prop} (hp0 : qa_PP μ0.2.2)  (h : wX9_asItIs n  μ0 Q) : qa_Met l yX9_asItIs cX9_asItIs 3 none 0 0 0 [.ref 91] 113 μ0 (qa_pV Q) := by
  refine qa_ofG (by decide) (Nat.le_of_ble_eq_true rfl) ?_
  unfold wX9_asItIs at h
  change qa_G l yX9_asItIs cX9_asItIs 3 none 0 0 0 (qa_pV Q) 0 0 0 [some (.ref 91), none, none] [] 113 μ0
  refine qa_ald0 dX9_asItIs_0 ?_
  refine qa_ald0 dX9_asItIs_1 ?_
  refine qa_getR dX9_asItIs_2 lf_X9_9 rfl sh_91 (by decide) (pp_91_1 hp0) (by decide) ?_
  refine qa_iconst (v := 1) dX9_asItIs_5 (by decide) ?_
  refine qa_iald dX9_asItIs_6 sh_92 (by decide) (by unfold vp_in; decide) ?_
  refine qa_putI dX9_asItIs_7 lf_X9_230 rfl sh_91 (by decide) rfl ?_
  refine qa_nmM (fun μ1 em1 => ?_)
  have h := h μ1 em1
  have hp1 : qa_PP μ1.2.2 := by rw [em1]; exact hp0
  refine qa_ald0 dX9_asItIs_10 ?_
  refine qa_ald0 dX9_asItIs_11 ?_
  refine qa_getR dX9_asItIs_12 lf_X9_9 rfl sh_91 (by decide) (pp_91_1 hp1) (by decide) ?_
  refine qa_iconst (v := 2) dX9_asItIs_15 (by decide) ?_
  refine qa_iald dX9_asItIs_16 sh_92 (by decide) (by unfold vp_in; decide) ?_
  refine qa_putI dX9_asItIs_17 lf_X9_233 rfl sh_91 (by decide) rfl ?_
  refine qa_nmM (fun μ2 em2 => ?_)
  have h := h μ2 em2
  have hp2 : qa_PP μ2.2.2 := by rw [em2]; exact hp1
  refine qa_ald0 dX9_asItIs_20 ?_
  refine qa_iconst (v := 0) dX9_asItIs_21 (by decide) ?_
  refine qa_putI dX9_asItIs_22 lf_X9_236 rfl sh_91 (by decide) rfl ?_
  refine qa_nmM (fun μ3 em3 => ?_)
  have h := h μ3 em3
  have hp3 : qa_PP μ3.2.2 := by rw [em3]; exact hp2
  refine qa_ald0 dX9_asItIs_25 ?_
  refine qa_iconst (v := 0) dX9_asItIs_26 (by decide) ?_
  refine qa_putI dX9_asItIs_27 lf_X9_239 rfl sh_91 (by decide) rfl ?_
  refine qa_nmM (fun μ4 em4 => ?_)
  have h := h μ4 em4
  have hp4 : qa_PP μ4.2.2 := by rw [em4]; exact hp3
  refine qa_ald0 dX9_asItIs_30 ?_
  refine qa_iconst (v := 0) dX9_asItIs_31 (by decide) ?_
  refine qa_putI dX9_asItIs_32 lf_X9_242 rfl sh_91 (by decide) rfl ?_
  refine qa_nmM (fun μ5 em5 => ?_)
  have h := h μ5 em5
  have hp5 : qa_PP μ5.2.2 := by rw [em5]; exact hp4
  refine qa_ald0 dX9_asItIs_35 ?_
  refine qa_iconst (v := 0) dX9_asItIs_36 (by decide) ?_
  refine qa_putI dX9_asItIs_37 lf_X9_245 rfl sh_91 (by decide) rfl ?_
  refine qa_nmM (fun μ6 em6 => ?_)
  have h := h μ6 em6
  have hp6 : qa_PP μ6.2.2 := by rw [em6]; exact hp5
  refine qa_ald0 dX9_asItIs_40 ?_
  refine qa_iconst (v := 0) dX9_asItIs_41 (by decide) ?_
  refine qa_putI dX9_asItIs_42 lf_X9_248 rfl sh_91 (by decide) rfl ?_
  refine qa_nmM (fun μ7 em7 => ?_)
  have h := h μ7 em7
  have hp7 : qa_PP μ7.2.2 := by rw [em7]; exact hp6
  refine qa_iconst (v := 0) dX9_asItIs_45 (by decide) ?_
  refine qa_ist1 dX9_asItIs_46 ?_
  refine qa_fgt (L' := [some (.ref 91), some (.int (0 : Int32)), none]) (⟨rfl, ⟨rfl, trivial⟩⟩) ?_
  refine tX9_asItIs_47 l ?_ n (0 : Int32) μ7 hp7  h
  · intro  μ12 hp12  h
    refine qa_iconst (v := 0) dX9_asItIs_97 (by decide) ?_
    refine qa_ist1 dX9_asItIs_98 ?_
    refine qa_fgt (L' := [some (.ref 91), some (.int (0 : Int32)), none]) (⟨rfl, ⟨rfl, trivial⟩⟩) ?_
    refine tX9_asItIs_99 l ?_ n (0 : Int32) μ12 hp12  h
    · intro  μ17 hp17  h
      refine qa_iconst (v := 0) dX9_asItIs_173 (by decide) ?_
      refine qa_ist1 dX9_asItIs_174 ?_
      refine qa_fgt (L' := [some (.ref 91), some (.int (0 : Int32)), none]) (⟨rfl, ⟨rfl, trivial⟩⟩) ?_
      refine tX9_asItIs_175 l ?_ n (0 : Int32) μ17 hp17  h
      · intro  μ21 hp21  h
        refine qa_iconst (v := 0) dX9_asItIs_212 (by decide) ?_
        refine qa_ist1 dX9_asItIs_213 ?_
        refine qa_fgt (L' := [some (.ref 91), some (.int (0 : Int32)), none]) (⟨rfl, ⟨rfl, trivial⟩⟩) ?_
        refine tX9_asItIs_214 l ?_ n (0 : Int32) μ21 hp21  h
        · intro  μ25 hp25  h
          refine qa_iconst (v := 0) dX9_asItIs_233 (by decide) ?_
          refine qa_ist1 dX9_asItIs_234 ?_
          refine qa_fgt (L' := [some (.ref 91), some (.int (0 : Int32)), none]) (⟨rfl, ⟨rfl, trivial⟩⟩) ?_
          refine tX9_asItIs_235 l  n (0 : Int32) μ25 hp25  h
def wX9_exchange (n : Nat) (v1 : Int32) (v2 : Int32) (v3 : Int32) (μ0 : qa_M) (Q : qa_M → Prop) : Prop := vp_in (((8 : Int32) * v3) + v1) 168 ∧ ∀ x1, x1 = (μ0.1 101 (((8 : Int32) * v3) + v1).toNatClampNeg) → vp_in (((8 : Int32) * v3) + v2) 168 ∧ vp_in (((8 : Int32) * v3) + v1) 168 ∧ ∀ μ2, μ2 = qa_uI μ0 101 (((8 : Int32) * v3) + v1).toNatClampNeg (μ0.1 101 (((8 : Int32) * v3) + v2).toNatClampNeg) → vp_in (((8 : Int32) * v3) + v2) 168 ∧ ∀ μ3, μ3 = qa_uI μ2 101 (((8 : Int32) * v3) + v2).toNatClampNeg x1 → Q μ3
theorem tX9_exchange (l : Launch) {n : Nat} {v1 : Int32} {v2 : Int32} {v3 : Int32} {μ0 : qa_M} {Q : qa_M → Prop} (hp0 : qa_PP μ0.2.2)  (h : wX9_exchange n v1 v2 v3 μ0 Q) : qa_Met l yX9_exchange cX9_exchange 5 none 0 0 0 [.ref 91, .int v1, .int v2, .int v3] 113 μ0 (qa_pV Q) := by
  refine qa_ofG (by decide) (Nat.le_of_ble_eq_true rfl) ?_
  unfold wX9_exchange at h
  change qa_G l yX9_exchange cX9_exchange 5 none 0 0 0 (qa_pV Q) 0 0 0 [some (.ref 91), some (.int v1), some (.int v2), some (.int v3), none] [] 113 μ0
  refine qa_ald0 dX9_exchange_0 ?_
  refine qa_getR dX9_exchange_1 lf_X9_43 rfl sh_91 (by decide) (pp_91_25 hp0) (by decide) ?_
  refine qa_bipush (v := 8) dX9_exchange_4 (by decide) ?_
  refine qa_ild3 dX9_exchange_6 ?_
  refine qa_imul dX9_exchange_7 ?_
  refine qa_ild1 dX9_exchange_8 ?_
  refine qa_iadd dX9_exchange_9 ?_
  refine qa_iald dX9_exchange_10 sh_101 (by decide) h.1 ?_
  have h := h.2
  refine qa_nmI (fun x1 e1 => ?_)
  have h := h x1 e1
  refine qa_ist4 dX9_exchange_11 ?_
  refine qa_ald0 dX9_exchange_13 ?_
  refine qa_getR dX9_exchange_14 lf_X9_43 rfl sh_91 (by decide) (pp_91_25 hp0) (by decide) ?_
  refine qa_bipush (v := 8) dX9_exchange_17 (by decide) ?_
  refine qa_ild3 dX9_exchange_19 ?_
  refine qa_imul dX9_exchange_20 ?_
  refine qa_ild1 dX9_exchange_21 ?_
  refine qa_iadd dX9_exchange_22 ?_
  refine qa_ald0 dX9_exchange_23 ?_
  refine qa_getR dX9_exchange_24 lf_X9_43 rfl sh_91 (by decide) (pp_91_25 hp0) (by decide) ?_
  refine qa_bipush (v := 8) dX9_exchange_27 (by decide) ?_
  refine qa_ild3 dX9_exchange_29 ?_
  refine qa_imul dX9_exchange_30 ?_
  refine qa_ild2 dX9_exchange_31 ?_
  refine qa_iadd dX9_exchange_32 ?_
  refine qa_iald dX9_exchange_33 sh_101 (by decide) h.1 ?_
  have h := h.2
  refine qa_iast dX9_exchange_34 sh_101 (by decide) h.1 ?_
  have h := h.2
  refine qa_nmM (fun μ2 em2 => ?_)
  have h := h μ2 em2
  have hp2 : qa_PP μ2.2.2 := by rw [em2]; exact hp0
  refine qa_ald0 dX9_exchange_35 ?_
  refine qa_getR dX9_exchange_36 lf_X9_43 rfl sh_91 (by decide) (pp_91_25 hp2) (by decide) ?_
  refine qa_bipush (v := 8) dX9_exchange_39 (by decide) ?_
  refine qa_ild3 dX9_exchange_41 ?_
  refine qa_imul dX9_exchange_42 ?_
  refine qa_ild2 dX9_exchange_43 ?_
  refine qa_iadd dX9_exchange_44 ?_
  refine qa_ild4 dX9_exchange_45 ?_
  refine qa_iast dX9_exchange_47 sh_101 (by decide) h.1 ?_
  have h := h.2
  refine qa_nmM (fun μ3 em3 => ?_)
  have h := h μ3 em3
  have hp3 : qa_PP μ3.2.2 := by rw [em3]; exact hp2
  exact qa_vret rfl dX9_exchange_48 ⟨rfl, rfl⟩ ⟨rfl, hp3, rfl, h⟩
def wX9_weeks (n : Nat)  (μ0 : qa_M) (Q : Int32 → qa_M → Prop) : Prop := Q (μ0.1 92 (0 : Int32).toNatClampNeg) μ0
theorem tX9_weeks (l : Launch) {n : Nat}  {μ0 : qa_M} {Q : Int32 → qa_M → Prop} (hp0 : qa_PP μ0.2.2)  (h : wX9_weeks n  μ0 Q) : qa_Met l yX9_weeks cX9_weeks 1 (some .int) 0 0 0 [.ref 91] 113 μ0 (qa_pI Q) := by
  refine qa_ofG (by decide) (Nat.le_of_ble_eq_true rfl) ?_
  unfold wX9_weeks at h
  change qa_G l yX9_weeks cX9_weeks 1 (some .int) 0 0 0 (qa_pI Q) 0 0 0 [some (.ref 91)] [] 113 μ0
  refine qa_ald0 dX9_weeks_0 ?_
  refine qa_getR dX9_weeks_1 lf_X9_9 rfl sh_91 (by decide) (pp_91_1 hp0) (by decide) ?_
  refine qa_iconst (v := 0) dX9_weeks_4 (by decide) ?_
  refine qa_iald dX9_weeks_5 sh_92 (by decide) (by unfold vp_in; decide) ?_
  exact qa_iret rfl dX9_weeks_6 ⟨rfl, rfl⟩ ⟨rfl, hp0, _, rfl, h⟩
