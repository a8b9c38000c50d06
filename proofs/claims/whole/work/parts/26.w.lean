def wX9_spanOf (n : Nat)  (μ0 : qa_M) (Q : Int32 → qa_M → Prop) : Prop := wX9_houses n  μ0 (fun r1 μ1 => ((¬ r1 = 0 → wX9_brownOf n  μ1 (fun r3 μ3 => wX9_sunAll n r3 μ3 (fun r4 μ4 => wX9_paleOf n  μ4 (fun r5 μ5 => wX9_sunAll n r5 μ5 (fun r6 μ6 => Q (r4 - r6) μ6))))) ∧ (r1 = 0 → Q (0 : Int32) μ1)))
theorem tX9_spanOf (l : Launch) {n : Nat}  {μ0 : qa_M} {Q : Int32 → qa_M → Prop} (hp0 : qa_PP μ0.2.2)  (h : wX9_spanOf n  μ0 Q) : qa_Met l yX9_spanOf cX9_spanOf 1 (some .int) 4 0 0 [.ref 91] 113 μ0 (qa_pI Q) := by
  refine qa_ofG (by decide) (Nat.le_of_ble_eq_true rfl) ?_
  unfold wX9_spanOf at h
  change qa_G l yX9_spanOf cX9_spanOf 1 (some .int) 4 0 0 (qa_pI Q) 0 0 0 [some (.ref 91)] [] 113 μ0
  refine qa_ald0 dX9_spanOf_0 ?_
  refine qa_V0I dX9_spanOf_1 lm_X9_100 sh_91 rfl (by decide) (by decide) (Nat.le_of_ble_eq_true rfl) (tX9_houses l hp0  h) (fun r1 μ1 hp1 h => ?_)
  refine qa_if_ne (tgt := 11) dX9_spanOf_4 (by decide) (fun c2 => ?_) (fun c2 => ?_)
  · have h := h.1 c2
    refine qa_ald0 dX9_spanOf_11 ?_
    refine qa_ald0 dX9_spanOf_12 ?_
    refine qa_V0I dX9_spanOf_13 lm_X9_316 sh_91 rfl (by decide) (by decide) (Nat.le_of_ble_eq_true rfl) (tX9_brownOf l hp1  h) (fun r3 μ3 hp3 h => ?_)
    refine qa_V1I dX9_spanOf_16 lm_X9_313 sh_91 rfl (by decide) (by decide) (Nat.le_of_ble_eq_true rfl) (tX9_sunAll l hp3  h) (fun r4 μ4 hp4 h => ?_)
    refine qa_ald0 dX9_spanOf_19 ?_
    refine qa_ald0 dX9_spanOf_20 ?_
    refine qa_V0I dX9_spanOf_21 lm_X9_319 sh_91 rfl (by decide) (by decide) (Nat.le_of_ble_eq_true rfl) (tX9_paleOf l hp4  h) (fun r5 μ5 hp5 h => ?_)
    refine qa_V1I dX9_spanOf_24 lm_X9_313 sh_91 rfl (by decide) (by decide) (Nat.le_of_ble_eq_true rfl) (tX9_sunAll l hp5  h) (fun r6 μ6 hp6 h => ?_)
    refine qa_isub dX9_spanOf_27 ?_
    exact qa_iret rfl dX9_spanOf_28 ⟨rfl, rfl⟩ ⟨rfl, hp6, _, rfl, h⟩
  · have h := h.2 c2
    refine qa_iconst (v := 0) dX9_spanOf_7 (by decide) ?_
    refine qa_goto (tgt := 28) dX9_spanOf_8 (by decide) ?_
    exact qa_iret rfl dX9_spanOf_28 ⟨rfl, rfl⟩ ⟨rfl, hp1, _, rfl, h⟩
def wX9_spanBy (n : Nat) (v1 : Int32) (μ0 : qa_M) (Q : Int32 → qa_M → Prop) : Prop := ∀ μ1, μ1 = qa_uI μ0 91 20 v1 → wX9_goAll n  μ1 (fun μ2 => wX9_spanOf n  μ2 (fun r3 μ3 => Q r3 μ3))
theorem tX9_spanBy (l : Launch) {n : Nat} {v1 : Int32} {μ0 : qa_M} {Q : Int32 → qa_M → Prop} (hp0 : qa_PP μ0.2.2)  (h : wX9_spanBy n v1 μ0 Q) : qa_Met l yX9_spanBy cX9_spanBy 2 (some .int) 5 0 0 [.ref 91, .int v1] 113 μ0 (qa_pI Q) := by
  refine qa_ofG (by decide) (Nat.le_of_ble_eq_true rfl) ?_
  unfold wX9_spanBy at h
  change qa_G l yX9_spanBy cX9_spanBy 2 (some .int) 5 0 0 (qa_pI Q) 0 0 0 [some (.ref 91), some (.int v1)] [] 113 μ0
  refine qa_ald0 dX9_spanBy_0 ?_
  refine qa_ild1 dX9_spanBy_1 ?_
  refine qa_putI dX9_spanBy_2 lf_X9_230 rfl sh_91 (by decide) rfl ?_
  refine qa_nmM (fun μ1 em1 => ?_)
  have h := h μ1 em1
  have hp1 : qa_PP μ1.2.2 := by rw [em1]; exact hp0
  refine qa_ald0 dX9_spanBy_5 ?_
  refine qa_V0V dX9_spanBy_6 lm_X9_280 sh_91 rfl (by decide) (by decide) (Nat.le_of_ble_eq_true rfl) (tX9_goAll l hp1  h) (fun μ2 hp2 h => ?_)
  refine qa_ald0 dX9_spanBy_9 ?_
  refine qa_V0I dX9_spanBy_10 lm_X9_322 sh_91 rfl (by decide) (by decide) (Nat.le_of_ble_eq_true rfl) (tX9_spanOf l hp2  h) (fun r3 μ3 hp3 h => ?_)
  exact qa_iret rfl dX9_spanBy_13 ⟨rfl, rfl⟩ ⟨rfl, hp3, _, rfl, h⟩
def wX9_by (n : Nat) (v1 : Int32) (μ0 : qa_M) (Q : Int32 → qa_M → Prop) : Prop := wX9_asksTown n  μ0 (fun r1 μ1 => ((r1 = 0 → Q (-2 : Int32) μ1) ∧ (¬ r1 = 0 → wX9_in n v1.toInt64 (0 : Int64) (3 : Int64) μ1 (fun r3 μ3 => ((r3 = 0 → Q (-2 : Int32) μ3) ∧ (¬ r3 = 0 → wX9_spanBy n v1 μ3 (fun r5 μ5 => Q r5 μ5)))))))
theorem tX9_by (l : Launch) {n : Nat} {v1 : Int32} {μ0 : qa_M} {Q : Int32 → qa_M → Prop} (hp0 : qa_PP μ0.2.2)  (h : wX9_by n v1 μ0 Q) : qa_Met l yX9_by cX9_by 2 (some .int) 6 0 0 [.ref 91, .int v1] 113 μ0 (qa_pI Q) := by
  refine qa_ofG (by decide) (Nat.le_of_ble_eq_true rfl) ?_
  unfold wX9_by at h
  change qa_G l yX9_by cX9_by 2 (some .int) 6 0 0 (qa_pI Q) 0 0 0 [some (.ref 91), some (.int v1)] [] 113 μ0
  refine qa_ald0 dX9_by_0 ?_
  refine qa_V0I dX9_by_1 lm_X9_283 sh_91 rfl (by decide) (by decide) (Nat.le_of_ble_eq_true rfl) (tX9_asksTown l hp0  h) (fun r1 μ1 hp1 h => ?_)
  refine qa_if_eq (tgt := 27) dX9_by_4 (by decide) (fun c2 => ?_) (fun c2 => ?_)
  · have h := h.1 c2
    refine qa_bipush (v := -2) dX9_by_27 (by decide) ?_
    exact qa_iret rfl dX9_by_29 ⟨rfl, rfl⟩ ⟨rfl, hp1, _, rfl, h⟩
  · have h := h.2 c2
    refine qa_ild1 dX9_by_7 ?_
    refine qa_i2l dX9_by_8 ?_
    refine qa_lconst (v := 0) dX9_by_9 (by decide) ?_
    refine qa_ldc2 dX9_by_10 lk_X9_353 ?_
    refine qa_S3I dX9_by_13 lm_X9_88  (by decide) (Nat.le_of_ble_eq_true rfl) (tX9_in l hp1  h) (fun r3 μ3 hp3 h => ?_)
    refine qa_if_eq (tgt := 27) dX9_by_16 (by decide) (fun c4 => ?_) (fun c4 => ?_)
    · have h := h.1 c4
      refine qa_bipush (v := -2) dX9_by_27 (by decide) ?_
      exact qa_iret rfl dX9_by_29 ⟨rfl, rfl⟩ ⟨rfl, hp3, _, rfl, h⟩
    · have h := h.2 c4
      refine qa_ald0 dX9_by_19 ?_
      refine qa_ild1 dX9_by_20 ?_
      refine qa_V1I dX9_by_21 lm_X9_355 sh_91 rfl (by decide) (by decide) (Nat.le_of_ble_eq_true rfl) (tX9_spanBy l hp3  h) (fun r5 μ5 hp5 h => ?_)
      refine qa_goto (tgt := 29) dX9_by_24 (by decide) ?_
      exact qa_iret rfl dX9_by_29 ⟨rfl, rfl⟩ ⟨rfl, hp5, _, rfl, h⟩
def wX9_isSnows (n : Nat) (v1 : Int32) (v2 : Int32) (μ0 : qa_M) (Q : Int32 → qa_M → Prop) : Prop := wX9_isAhead n v1.toInt64 μ0 (fun r1 μ1 => ((r1 = 0 → Q (0 : Int32) μ1) ∧ (¬ r1 = 0 → wX9_in n v1.toInt64 (0 : Int64) (7 : Int64) μ1 (fun r3 μ3 => ((r3 = 0 → Q (0 : Int32) μ3) ∧ (¬ r3 = 0 → wX9_in n v2.toInt64 (0 : Int64) (1 : Int64) μ3 (fun r5 μ5 => ((r5 = 0 → Q (0 : Int32) μ5) ∧ (¬ r5 = 0 → Q (1 : Int32) μ5)))))))))
theorem tX9_isSnows (l : Launch) {n : Nat} {v1 : Int32} {v2 : Int32} {μ0 : qa_M} {Q : Int32 → qa_M → Prop} (hp0 : qa_PP μ0.2.2)  (h : wX9_isSnows n v1 v2 μ0 Q) : qa_Met l yX9_isSnows cX9_isSnows 3 (some .boolean) 2 0 0 [.ref 91, .int v1, .int v2] 113 μ0 (qa_pI Q) := by
  refine qa_ofG (by decide) (Nat.le_of_ble_eq_true rfl) ?_
  unfold wX9_isSnows at h
  change qa_G l yX9_isSnows cX9_isSnows 3 (some .boolean) 2 0 0 (qa_pI Q) 0 0 0 [some (.ref 91), some (.int v1), some (.int v2)] [] 113 μ0
  refine qa_ald0 dX9_isSnows_0 ?_
  refine qa_ild1 dX9_isSnows_1 ?_
  refine qa_i2l dX9_isSnows_2 ?_
  refine qa_V1I dX9_isSnows_3 lm_X9_289 sh_91 rfl (by decide) (by decide) (Nat.le_of_ble_eq_true rfl) (tX9_isAhead l hp0  h) (fun r1 μ1 hp1 h => ?_)
  refine qa_if_eq (tgt := 35) dX9_isSnows_6 (by decide) (fun c2 => ?_) (fun c2 => ?_)
  · have h := h.1 c2
    refine qa_iconst (v := 0) dX9_isSnows_35 (by decide) ?_
    exact qa_zret rfl rfl dX9_isSnows_36 ⟨rfl, rfl⟩ ⟨rfl, hp1, _, rfl, h⟩
  · have h := h.2 c2
    refine qa_ild1 dX9_isSnows_9 ?_
    refine qa_i2l dX9_isSnows_10 ?_
    refine qa_lconst (v := 0) dX9_isSnows_11 (by decide) ?_
    refine qa_ldc2 dX9_isSnows_12 lk_X9_424 ?_
    refine qa_S3I dX9_isSnows_15 lm_X9_88  (by decide) (Nat.le_of_ble_eq_true rfl) (tX9_in l hp1  h) (fun r3 μ3 hp3 h => ?_)
    refine qa_if_eq (tgt := 35) dX9_isSnows_18 (by decide) (fun c4 => ?_) (fun c4 => ?_)
    · have h := h.1 c4
      refine qa_iconst (v := 0) dX9_isSnows_35 (by decide) ?_
      exact qa_zret rfl rfl dX9_isSnows_36 ⟨rfl, rfl⟩ ⟨rfl, hp3, _, rfl, h⟩
    · have h := h.2 c4
      refine qa_ild2 dX9_isSnows_21 ?_
      refine qa_i2l dX9_isSnows_22 ?_
      refine qa_lconst (v := 0) dX9_isSnows_23 (by decide) ?_
      refine qa_lconst (v := 1) dX9_isSnows_24 (by decide) ?_
      refine qa_S3I dX9_isSnows_25 lm_X9_88  (by decide) (Nat.le_of_ble_eq_true rfl) (tX9_in l hp3  h) (fun r5 μ5 hp5 h => ?_)
      refine qa_if_eq (tgt := 35) dX9_isSnows_28 (by decide) (fun c6 => ?_) (fun c6 => ?_)
      · have h := h.1 c6
        refine qa_iconst (v := 0) dX9_isSnows_35 (by decide) ?_
        exact qa_zret rfl rfl dX9_isSnows_36 ⟨rfl, rfl⟩ ⟨rfl, hp5, _, rfl, h⟩
      · have h := h.2 c6
        refine qa_iconst (v := 1) dX9_isSnows_31 (by decide) ?_
        refine qa_goto (tgt := 36) dX9_isSnows_32 (by decide) ?_
        exact qa_zret rfl rfl dX9_isSnows_36 ⟨rfl, rfl⟩ ⟨rfl, hp5, _, rfl, h⟩
def wX9_laySnows_89 (n : Nat) (v1 : Int32) (v2 : Int32) (v3 : Int32) (v4 : Int32) (v5 : Int32) (v8 : Int32) (s0 : Int64) (s1 : Int64) (μ0 : qa_M) (K0 : Int32 → Int32 → Int32 → Int32 → Int32 → Int64 → Int32 → qa_M → Prop) (Q : qa_M → Prop) : Prop := ∀ x10, x10 = (s1 * s0) → K0 v1 v2 v3 v4 v5 x10 (v8 + (1 : Int32)) μ0
def wX9_laySnows_50 : Nat → Int32 → Int32 → Int32 → Int32 → Int32 → Int64 → Int32 → qa_M → (Int32 → Int32 → Int32 → Int32 → Int32 → Int64 → qa_M → Prop) → (qa_M → Prop) → Prop
  | 0, _, _, _, _, _, _, _, _, _, _ => False
  | n + 1, v1, v2, v3, v4, v5, v6, v8, μ0, K0, Q => ((v3 < v8 → K0 v1 v2 v3 v4 v5 v6 μ0) ∧ (¬ v3 < v8 → wX9_bit n v5 v8 μ0 (fun r8 μ8 => ((¬ r8 = (1 : Int32) → wX9_laySnows_89 n v1 v2 v3 v4 v5 v8 ((10 : Int32) - (μ8.1 92 (3 : Int32).toNatClampNeg)).toInt64 v6 μ8 (fun v1 v2 v3 v4 v5 v6 v8 μk => wX9_laySnows_50 n v1 v2 v3 v4 v5 v6 v8 μk K0 Q) Q) ∧ (r8 = (1 : Int32) → wX9_laySnows_89 n v1 v2 v3 v4 v5 v8 (μ8.1 92 (3 : Int32).toNatClampNeg).toInt64 v6 μ8 (fun v1 v2 v3 v4 v5 v6 v8 μk => wX9_laySnows_50 n v1 v2 v3 v4 v5 v6 v8 μk K0 Q) Q)))))
def wX9_laySnows_155 (n : Nat) (v1 : Int32) (v2 : Int32) (v3 : Int32) (v4 : Int32) (v5 : Int32) (v6 : Int64) (s0 : Int64) (s1 : Int64) (μ0 : qa_M) (K0 : Int32 → Int32 → Int32 → Int32 → Int32 → qa_M → Prop) (Q : qa_M → Prop) : Prop := ∀ μ19, μ19 = qa_uJ μ0 91 39 (s1 + s0) → wX9_sunTo n v1 (v3 + (1 : Int32)) μ19 (fun r20 μ20 => ∀ μ21, μ21 = qa_uJ μ20 91 40 ((μ19.2.1 91 40) + (v6 * r20.toInt64)) → K0 v1 v2 v3 v4 (v5 + (1 : Int32)) μ21)
def wX9_laySnows_36 : Nat → Int32 → Int32 → Int32 → Int32 → Int32 → qa_M → (qa_M → Prop) → Prop
  | 0, _, _, _, _, _, _, _ => False
  | n + 1, v1, v2, v3, v4, v5, μ0, Q => ((((2 : Int32) <<< (v3 &&& 31)) ≤ v5 → Q μ0) ∧ (¬ ((2 : Int32) <<< (v3 &&& 31)) ≤ v5 → wX9_laySnows_50 n v1 v2 v3 v4 v5 (1 : Int64) (0 : Int32) μ0 (fun v1_12 v2_12 v3_12 v4_12 v5_12 v6_12 μ11 => ((¬ (lg_cmp v6_12 (0 : Int64)) = 0 → ∀ μ14, μ14 = qa_uI μ11 91 19 (v4_12 ||| v5_12) → wX9_goAll n  μ14 (fun μ15 => ∀ μ16, μ16 = qa_uJ μ15 91 38 ((μ15.2.1 91 38) + v6_12) → wX9_placeOf n v1_12 (v3_12 + (1 : Int32)) μ16 (fun r17 μ17 => ((¬ r17 = v2_12 → wX9_laySnows_155 n v1_12 v2_12 v3_12 v4_12 v5_12 v6_12 (0 : Int64) (μ16.2.1 91 39) μ17 (fun v1 v2 v3 v4 v5 μk => wX9_laySnows_36 n v1 v2 v3 v4 v5 μk Q) Q) ∧ (r17 = v2_12 → wX9_laySnows_155 n v1_12 v2_12 v3_12 v4_12 v5_12 v6_12 v6_12 (μ16.2.1 91 39) μ17 (fun v1 v2 v3 v4 v5 μk => wX9_laySnows_36 n v1 v2 v3 v4 v5 μk Q) Q))))) ∧ ((lg_cmp v6_12 (0 : Int64)) = 0 → wX9_laySnows_36 n v1_12 v2_12 v3_12 v4_12 (v5_12 + (1 : Int32)) μ11 Q))) Q))
def wX9_laySnows (n : Nat) (v1 : Int32) (v2 : Int32) (v3 : Int32) (μ0 : qa_M) (Q : qa_M → Prop) : Prop := ∀ μ1, μ1 = qa_uJ μ0 91 38 (0 : Int64) → ∀ μ2, μ2 = qa_uJ μ1 91 39 (0 : Int64) → ∀ μ3, μ3 = qa_uJ μ2 91 40 (0 : Int64) → wX9_asItIs n  μ3 (fun μ4 => ∀ x5, x5 = ((μ4.1 91 19) &&& ((((2 : Int32) <<< (v3 &&& 31)) - (1 : Int32)) ^^^ (-1 : Int32))) → wX9_laySnows_36 n v1 v2 v3 x5 (0 : Int32) μ4  Q)
theorem tX9_laySnows_89 (l : Launch) {K0 : Int32 → Int32 → Int32 → Int32 → Int32 → Int64 → Int32 → qa_M → Prop} {Q : qa_M → Prop} (hK0 : ∀ (v1 : Int32) (v2 : Int32) (v3 : Int32) (v4 : Int32) (v5 : Int32) (v6 : Int64) (v8 : Int32) (μ : qa_M), qa_PP μ.2.2 → K0 v1 v2 v3 v4 v5 v6 v8 μ → qa_G l yX9_laySnows cX9_laySnows 9 none 3 0 0 (qa_pV Q) 0 0 50 [some (.ref 91), some (.int v1), some (.int v2), some (.int v3), some (.int v4), some (.int v5), some (.long v6), none, some (.int v8)] [] 113 μ) : ∀ (n : Nat) (v1 : Int32) (v2 : Int32) (v3 : Int32) (v4 : Int32) (v5 : Int32) (v8 : Int32) (s0 : Int64) (s1 : Int64) (μ0 : qa_M), qa_PP μ0.2.2 → wX9_laySnows_89 n v1 v2 v3 v4 v5 v8 s0 s1 μ0 K0 Q → qa_G l yX9_laySnows cX9_laySnows 9 none 3 0 0 (qa_pV Q) 0 0 89 [some (.ref 91), some (.int v1), some (.int v2), some (.int v3), some (.int v4), some (.int v5), none, none, some (.int v8)] [.long s0, .long s1] 113 μ0 := by
  intro n
  intro v1 v2 v3 v4 v5 v8 s0 s1 μ0 hp0  h
  unfold wX9_laySnows_89 at h
  refine qa_lmul dX9_laySnows_89 ?_
  refine qa_nmL (fun x10 e10 => ?_)
  have h := h x10 e10
  refine qa_lst6 dX9_laySnows_90 ?_
  refine qa_inc8 dX9_laySnows_92 (qa_io1 _) ?_
  refine qa_goto (tgt := 50) dX9_laySnows_95 (by decide) ?_
  refine qa_fgt (L' := [some (.ref 91), some (.int v1), some (.int v2), some (.int v3), some (.int v4), some (.int v5), some (.long x10), none, some (.int (v8 + (1 : Int32)))]) (⟨rfl, ⟨rfl, ⟨rfl, ⟨rfl, ⟨rfl, ⟨rfl, ⟨rfl, ⟨rfl, trivial⟩⟩⟩⟩⟩⟩⟩⟩) ?_
  exact hK0 v1 v2 v3 v4 v5 x10 (v8 + (1 : Int32)) μ0 hp0  h
theorem tX9_laySnows_50 (l : Launch) {K0 : Int32 → Int32 → Int32 → Int32 → Int32 → Int64 → qa_M → Prop} {Q : qa_M → Prop} (hK0 : ∀ (v1 : Int32) (v2 : Int32) (v3 : Int32) (v4 : Int32) (v5 : Int32) (v6 : Int64) (μ : qa_M), qa_PP μ.2.2 → K0 v1 v2 v3 v4 v5 v6 μ → qa_G l yX9_laySnows cX9_laySnows 9 none 3 0 0 (qa_pV Q) 0 0 98 [some (.ref 91), some (.int v1), some (.int v2), some (.int v3), some (.int v4), some (.int v5), some (.long v6), none, none] [] 113 μ) : ∀ (n : Nat) (v1 : Int32) (v2 : Int32) (v3 : Int32) (v4 : Int32) (v5 : Int32) (v6 : Int64) (v8 : Int32) (μ0 : qa_M), qa_PP μ0.2.2 → wX9_laySnows_50 n v1 v2 v3 v4 v5 v6 v8 μ0 K0 Q → qa_G l yX9_laySnows cX9_laySnows 9 none 3 0 0 (qa_pV Q) 0 0 50 [some (.ref 91), some (.int v1), some (.int v2), some (.int v3), some (.int v4), some (.int v5), some (.long v6), none, some (.int v8)] [] 113 μ0 := by
  intro n
  induction n with
  | zero =>
    intro v1 v2 v3 v4 v5 v6 v8 μ0 hp0  h
    rw [wX9_laySnows_50] at h
    exact h.elim
  | succ n ih =>
    intro v1 v2 v3 v4 v5 v6 v8 μ0 hp0  h
    rw [wX9_laySnows_50] at h
    refine qa_ild8 dX9_laySnows_50 ?_
    refine qa_ild3 dX9_laySnows_52 ?_
    refine qa_icmp_gt (tgt := 98) dX9_laySnows_53 (by decide) (fun c7 => ?_) (fun c7 => ?_)
    · have h := h.1 c7
      refine qa_fgt (L' := [some (.ref 91), some (.int v1), some (.int v2), some (.int v3), some (.int v4), some (.int v5), some (.long v6), none, none]) (⟨rfl, ⟨rfl, ⟨rfl, ⟨rfl, ⟨rfl, ⟨rfl, ⟨rfl, trivial⟩⟩⟩⟩⟩⟩⟩) ?_
      exact hK0 v1 v2 v3 v4 v5 v6 μ0 hp0  h
    · have h := h.2 c7
      refine qa_lld6 dX9_laySnows_56 ?_
      refine qa_ild5 dX9_laySnows_58 ?_
      refine qa_ild8 dX9_laySnows_60 ?_
      refine qa_S2I dX9_laySnows_62 lm_X9_264  (by decide) (Nat.le_of_ble_eq_true rfl) (tX9_bit l hp0  h) (fun r8 μ8 hp8 h => ?_)
      refine qa_iconst (v := 1) dX9_laySnows_65 (by decide) ?_
      refine qa_icmp_ne (tgt := 79) dX9_laySnows_66 (by decide) (fun c9 => ?_) (fun c9 => ?_)
      · have h := h.1 c9
        refine qa_bipush (v := 10) dX9_laySnows_79 (by decide) ?_
        refine qa_ald0 dX9_laySnows_81 ?_
        refine qa_getR dX9_laySnows_82 lf_X9_9 rfl sh_91 (by decide) (pp_91_1 hp8) (by decide) ?_
        refine qa_iconst (v := 3) dX9_laySnows_85 (by decide) ?_
        refine qa_iald dX9_laySnows_86 sh_92 (by decide) (by unfold vp_in; decide) ?_
        refine qa_isub dX9_laySnows_87 ?_
        refine qa_i2l dX9_laySnows_88 ?_
        refine qa_fgt (L' := [some (.ref 91), some (.int v1), some (.int v2), some (.int v3), some (.int v4), some (.int v5), none, none, some (.int v8)]) (⟨rfl, ⟨rfl, ⟨rfl, ⟨rfl, ⟨rfl, ⟨rfl, ⟨rfl, trivial⟩⟩⟩⟩⟩⟩⟩) ?_
        refine tX9_laySnows_89 l ih n v1 v2 v3 v4 v5 v8 ((10 : Int32) - (μ8.1 92 (3 : Int32).toNatClampNeg)).toInt64 v6 μ8 hp8  h
      · have h := h.2 c9
        refine qa_ald0 dX9_laySnows_69 ?_
        refine qa_getR dX9_laySnows_70 lf_X9_9 rfl sh_91 (by decide) (pp_91_1 hp8) (by decide) ?_
        refine qa_iconst (v := 3) dX9_laySnows_73 (by decide) ?_
        refine qa_iald dX9_laySnows_74 sh_92 (by decide) (by unfold vp_in; decide) ?_
        refine qa_i2l dX9_laySnows_75 ?_
        refine qa_goto (tgt := 89) dX9_laySnows_76 (by decide) ?_
        refine qa_fgt (L' := [some (.ref 91), some (.int v1), some (.int v2), some (.int v3), some (.int v4), some (.int v5), none, none, some (.int v8)]) (⟨rfl, ⟨rfl, ⟨rfl, ⟨rfl, ⟨rfl, ⟨rfl, ⟨rfl, trivial⟩⟩⟩⟩⟩⟩⟩) ?_
        refine tX9_laySnows_89 l ih n v1 v2 v3 v4 v5 v8 (μ8.1 92 (3 : Int32).toNatClampNeg).toInt64 v6 μ8 hp8  h
theorem tX9_laySnows_155 (l : Launch) {K0 : Int32 → Int32 → Int32 → Int32 → Int32 → qa_M → Prop} {Q : qa_M → Prop} (hK0 : ∀ (v1 : Int32) (v2 : Int32) (v3 : Int32) (v4 : Int32) (v5 : Int32) (μ : qa_M), qa_PP μ.2.2 → K0 v1 v2 v3 v4 v5 μ → qa_G l yX9_laySnows cX9_laySnows 9 none 3 0 0 (qa_pV Q) 0 0 36 [some (.ref 91), some (.int v1), some (.int v2), some (.int v3), some (.int v4), some (.int v5), none, none, none] [] 113 μ) : ∀ (n : Nat) (v1 : Int32) (v2 : Int32) (v3 : Int32) (v4 : Int32) (v5 : Int32) (v6 : Int64) (s0 : Int64) (s1 : Int64) (μ0 : qa_M), qa_PP μ0.2.2 → wX9_laySnows_155 n v1 v2 v3 v4 v5 v6 s0 s1 μ0 K0 Q → qa_G l yX9_laySnows cX9_laySnows 9 none 3 0 0 (qa_pV Q) 0 0 155 [some (.ref 91), some (.int v1), some (.int v2), some (.int v3), some (.int v4), some (.int v5), some (.long v6), none, none] [.long s0, .long s1, .ref 91] 113 μ0 := by
  intro n
  intro v1 v2 v3 v4 v5 v6 s0 s1 μ0 hp0  h
  unfold wX9_laySnows_155 at h
  refine qa_ladd dX9_laySnows_155 ?_
  refine qa_putJ dX9_laySnows_156 lf_X9_418 rfl sh_91 (by decide) rfl ?_
  refine qa_nmM (fun μ19 em19 => ?_)
  have h := h μ19 em19
  have hp19 : qa_PP μ19.2.2 := by rw [em19]; exact hp0
  refine qa_ald0 dX9_laySnows_159 ?_
  refine qa_dup dX9_laySnows_160 rfl ?_
  refine qa_getJ dX9_laySnows_161 lf_X9_421 rfl sh_91 (by decide) ?_
  refine qa_lld6 dX9_laySnows_164 ?_
  refine qa_ald0 dX9_laySnows_166 ?_
  refine qa_ild1 dX9_laySnows_167 ?_
  refine qa_ild3 dX9_laySnows_168 ?_
  refine qa_iconst (v := 1) dX9_laySnows_169 (by decide) ?_
  refine qa_iadd dX9_laySnows_170 ?_
  refine qa_V2I dX9_laySnows_171 lm_X9_310 sh_91 rfl (by decide) (by decide) (Nat.le_of_ble_eq_true rfl) (tX9_sunTo l hp19  h) (fun r20 μ20 hp20 h => ?_)
  refine qa_i2l dX9_laySnows_174 ?_
  refine qa_lmul dX9_laySnows_175 ?_
  refine qa_ladd dX9_laySnows_176 ?_
  refine qa_putJ dX9_laySnows_177 lf_X9_421 rfl sh_91 (by decide) rfl ?_
  refine qa_nmM (fun μ21 em21 => ?_)
  have h := h μ21 em21
  have hp21 : qa_PP μ21.2.2 := by rw [em21]; exact hp20
  refine qa_inc5 dX9_laySnows_180 (qa_io1 _) ?_
  refine qa_goto (tgt := 36) dX9_laySnows_183 (by decide) ?_
  refine qa_fgt (L' := [some (.ref 91), some (.int v1), some (.int v2), some (.int v3), some (.int v4), some (.int (v5 + (1 : Int32))), none, none, none]) (⟨rfl, ⟨rfl, ⟨rfl, ⟨rfl, ⟨rfl, ⟨rfl, trivial⟩⟩⟩⟩⟩⟩) ?_
  exact hK0 v1 v2 v3 v4 (v5 + (1 : Int32)) μ21 hp21  h
theorem tX9_laySnows_36 (l : Launch)  {Q : qa_M → Prop}  : ∀ (n : Nat) (v1 : Int32) (v2 : Int32) (v3 : Int32) (v4 : Int32) (v5 : Int32) (μ0 : qa_M), qa_PP μ0.2.2 → wX9_laySnows_36 n v1 v2 v3 v4 v5 μ0  Q → qa_G l yX9_laySnows cX9_laySnows 9 none 3 0 0 (qa_pV Q) 0 0 36 [some (.ref 91), some (.int v1), some (.int v2), some (.int v3), some (.int v4), some (.int v5), none, none, none] [] 113 μ0 := by
  intro n
  induction n with
  | zero =>
    intro v1 v2 v3 v4 v5 μ0 hp0  h
    rw [wX9_laySnows_36] at h
    exact h.elim
  | succ n ih =>
    intro v1 v2 v3 v4 v5 μ0 hp0  h
    rw [wX9_laySnows_36] at h
    refine qa_ild5 dX9_laySnows_36 ?_
    refine qa_iconst (v := 2) dX9_laySnows_38 (by decide) ?_
    refine qa_ild3 dX9_laySnows_39 ?_
    refine qa_ishl dX9_laySnows_40 ?_
    refine qa_icmp_ge (tgt := 186) dX9_laySnows_41 (by decide) (fun c6 => ?_) (fun c6 => ?_)
    · have h := h.1 c6
      exact qa_vret rfl dX9_laySnows_186 ⟨rfl, rfl⟩ ⟨rfl, hp0, rfl, h⟩
    · have h := h.2 c6
      refine qa_lconst (v := 1) dX9_laySnows_44 (by decide) ?_
      refine qa_lst6 dX9_laySnows_45 ?_
      refine qa_iconst (v := 0) dX9_laySnows_47 (by decide) ?_
      refine qa_ist8 dX9_laySnows_48 ?_
      refine qa_fgt (L' := [some (.ref 91), some (.int v1), some (.int v2), some (.int v3), some (.int v4), some (.int v5), some (.long (1 : Int64)), none, some (.int (0 : Int32))]) (⟨rfl, ⟨rfl, ⟨rfl, ⟨rfl, ⟨rfl, ⟨rfl, ⟨rfl, ⟨rfl, trivial⟩⟩⟩⟩⟩⟩⟩⟩) ?_
      refine tX9_laySnows_50 l ?_ n v1 v2 v3 v4 v5 (1 : Int64) (0 : Int32) μ0 hp0  h
      · intro v1_12 v2_12 v3_12 v4_12 v5_12 v6_12 μ11 hp11  h
        refine qa_lld6 dX9_laySnows_98 ?_
        refine qa_lconst (v := 0) dX9_laySnows_100 (by decide) ?_
        refine qa_lcmp dX9_laySnows_101 ?_
        refine qa_if_ne (tgt := 108) dX9_laySnows_102 (by decide) (fun c13 => ?_) (fun c13 => ?_)
        · have h := h.1 c13
          refine qa_ald0 dX9_laySnows_108 ?_
          refine qa_ild4 dX9_laySnows_109 ?_
          refine qa_ild5 dX9_laySnows_111 ?_
          refine qa_ior dX9_laySnows_113 ?_
          refine qa_putI dX9_laySnows_114 lf_X9_239 rfl sh_91 (by decide) rfl ?_
          refine qa_nmM (fun μ14 em14 => ?_)
          have h := h μ14 em14
          have hp14 : qa_PP μ14.2.2 := by rw [em14]; exact hp11
          refine qa_ald0 dX9_laySnows_117 ?_
          refine qa_V0V dX9_laySnows_118 lm_X9_280 sh_91 rfl (by decide) (by decide) (Nat.le_of_ble_eq_true rfl) (tX9_goAll l hp14  h) (fun μ15 hp15 h => ?_)
          refine qa_ald0 dX9_laySnows_121 ?_
          refine qa_dup dX9_laySnows_122 rfl ?_
          refine qa_getJ dX9_laySnows_123 lf_X9_414 rfl sh_91 (by decide) ?_
          refine qa_lld6 dX9_laySnows_126 ?_
          refine qa_ladd dX9_laySnows_128 ?_
          refine qa_putJ dX9_laySnows_129 lf_X9_414 rfl sh_91 (by decide) rfl ?_
          refine qa_nmM (fun μ16 em16 => ?_)
          have h := h μ16 em16
          have hp16 : qa_PP μ16.2.2 := by rw [em16]; exact hp15
          refine qa_ald0 dX9_laySnows_132 ?_
          refine qa_dup dX9_laySnows_133 rfl ?_
          refine qa_getJ dX9_laySnows_134 lf_X9_418 rfl sh_91 (by decide) ?_
          refine qa_ald0 dX9_laySnows_137 ?_
          refine qa_ild1 dX9_laySnows_138 ?_
          refine qa_ild3 dX9_laySnows_139 ?_
          refine qa_iconst (v := 1) dX9_laySnows_140 (by decide) ?_
          refine qa_iadd dX9_laySnows_141 ?_
          refine qa_V2I dX9_laySnows_142 lm_X9_261 sh_91 rfl (by decide) (by decide) (Nat.le_of_ble_eq_true rfl) (tX9_placeOf l hp16  h) (fun r17 μ17 hp17 h => ?_)
          refine qa_ild2 dX9_laySnows_145 ?_
          refine qa_icmp_ne (tgt := 154) dX9_laySnows_146 (by decide) (fun c18 => ?_) (fun c18 => ?_)
          · have h := h.1 c18
            refine qa_lconst (v := 0) dX9_laySnows_154 (by decide) ?_
            refine qa_fgt (L' := [some (.ref 91), some (.int v1_12), some (.int v2_12), some (.int v3_12), some (.int v4_12), some (.int v5_12), some (.long v6_12), none, none]) (⟨rfl, ⟨rfl, ⟨rfl, ⟨rfl, ⟨rfl, ⟨rfl, ⟨rfl, trivial⟩⟩⟩⟩⟩⟩⟩) ?_
            refine tX9_laySnows_155 l ih n v1_12 v2_12 v3_12 v4_12 v5_12 v6_12 (0 : Int64) (μ16.2.1 91 39) μ17 hp17  h
          · have h := h.2 c18
            refine qa_lld6 dX9_laySnows_149 ?_
            refine qa_goto (tgt := 155) dX9_laySnows_151 (by decide) ?_
            refine qa_fgt (L' := [some (.ref 91), some (.int v1_12), some (.int v2_12), some (.int v3_12), some (.int v4_12), some (.int v5_12), some (.long v6_12), none, none]) (⟨rfl, ⟨rfl, ⟨rfl, ⟨rfl, ⟨rfl, ⟨rfl, ⟨rfl, trivial⟩⟩⟩⟩⟩⟩⟩) ?_
            refine tX9_laySnows_155 l ih n v1_12 v2_12 v3_12 v4_12 v5_12 v6_12 v6_12 (μ16.2.1 91 39) μ17 hp17  h
        · have h := h.2 c13
          refine qa_goto (tgt := 180) dX9_laySnows_105 (by decide) ?_
          refine qa_inc5 dX9_laySnows_180 (qa_io1 _) ?_
          refine qa_goto (tgt := 36) dX9_laySnows_183 (by decide) ?_
          refine qa_fgt (L' := [some (.ref 91), some (.int v1_12), some (.int v2_12), some (.int v3_12), some (.int v4_12), some (.int (v5_12 + (1 : Int32))), none, none, none]) (⟨rfl, ⟨rfl, ⟨rfl, ⟨rfl, ⟨rfl, ⟨rfl, trivial⟩⟩⟩⟩⟩⟩) ?_
          exact ih v1_12 v2_12 v3_12 v4_12 (v5_12 + (1 : Int32)) μ11 hp11  h
theorem tX9_laySnows (l : Launch) {n : Nat} {v1 : Int32} {v2 : Int32} {v3 : Int32} {μ0 : qa_M} {Q : qa_M → Prop} (hp0 : qa_PP μ0.2.2)  (h : wX9_laySnows n v1 v2 v3 μ0 Q) : qa_Met l yX9_laySnows cX9_laySnows 9 none 3 0 0 [.ref 91, .int v1, .int v2, .int v3] 113 μ0 (qa_pV Q) := by
  refine qa_ofG (by decide) (Nat.le_of_ble_eq_true rfl) ?_
  unfold wX9_laySnows at h
  change qa_G l yX9_laySnows cX9_laySnows 9 none 3 0 0 (qa_pV Q) 0 0 0 [some (.ref 91), some (.int v1), some (.int v2), some (.int v3), none, none, none, none, none] [] 113 μ0
  refine qa_ald0 dX9_laySnows_0 ?_
  refine qa_lconst (v := 0) dX9_laySnows_1 (by decide) ?_
  refine qa_putJ dX9_laySnows_2 lf_X9_414 rfl sh_91 (by decide) rfl ?_
  refine qa_nmM (fun μ1 em1 => ?_)
  have h := h μ1 em1
  have hp1 : qa_PP μ1.2.2 := by rw [em1]; exact hp0
  refine qa_ald0 dX9_laySnows_5 ?_
  refine qa_lconst (v := 0) dX9_laySnows_6 (by decide) ?_
  refine qa_putJ dX9_laySnows_7 lf_X9_418 rfl sh_91 (by decide) rfl ?_
  refine qa_nmM (fun μ2 em2 => ?_)
  have h := h μ2 em2
  have hp2 : qa_PP μ2.2.2 := by rw [em2]; exact hp1
  refine qa_ald0 dX9_laySnows_10 ?_
  refine qa_lconst (v := 0) dX9_laySnows_11 (by decide) ?_
  refine qa_putJ dX9_laySnows_12 lf_X9_421 rfl sh_91 (by decide) rfl ?_
  refine qa_nmM (fun μ3 em3 => ?_)
  have h := h μ3 em3
  have hp3 : qa_PP μ3.2.2 := by rw [em3]; exact hp2
  refine qa_ald0 dX9_laySnows_15 ?_
  refine qa_V0V dX9_laySnows_16 lm_X9_251 sh_91 rfl (by decide) (by decide) (Nat.le_of_ble_eq_true rfl) (tX9_asItIs l hp3  h) (fun μ4 hp4 h => ?_)
  refine qa_ald0 dX9_laySnows_19 ?_
  refine qa_getI dX9_laySnows_20 lf_X9_239 (Or.inl rfl) sh_91 (by decide) ?_
  refine qa_iconst (v := 2) dX9_laySnows_23 (by decide) ?_
  refine qa_ild3 dX9_laySnows_24 ?_
  refine qa_ishl dX9_laySnows_25 ?_
  refine qa_iconst (v := 1) dX9_laySnows_26 (by decide) ?_
  refine qa_isub dX9_laySnows_27 ?_
  refine qa_iconst (v := -1) dX9_laySnows_28 (by decide) ?_
  refine qa_ixor dX9_laySnows_29 ?_
  refine qa_iand dX9_laySnows_30 ?_
  refine qa_nmI (fun x5 e5 => ?_)
  have h := h x5 e5
  refine qa_ist4 dX9_laySnows_31 ?_
  refine qa_iconst (v := 0) dX9_laySnows_33 (by decide) ?_
  refine qa_ist5 dX9_laySnows_34 ?_
  refine qa_fgt (L' := [some (.ref 91), some (.int v1), some (.int v2), some (.int v3), some (.int x5), some (.int (0 : Int32)), none, none, none]) (⟨rfl, ⟨rfl, ⟨rfl, ⟨rfl, ⟨rfl, ⟨rfl, trivial⟩⟩⟩⟩⟩⟩) ?_
  refine tX9_laySnows_36 l  n v1 v2 v3 x5 (0 : Int32) μ4 hp4  h
def wX9_divisor_9 : Nat → Int64 → Int64 → qa_M → (Int64 → qa_M → Prop) → Prop
  | 0, _, _, _, _ => False
  | n + 1, v4, v6, μ0, Q => (((lg_cmp v6 (0 : Int64)) = 0 → Q v4 μ0) ∧ (¬ (lg_cmp v6 (0 : Int64)) = 0 → ¬ v6 = 0 ∧ ∀ x3, x3 = (v4 - v4 / v6 * v6) → wX9_divisor_9 n v6 x3 μ0 Q))
def wX9_divisor (n : Nat) (v0 : Int64) (v2 : Int64) (μ0 : qa_M) (Q : Int64 → qa_M → Prop) : Prop := wJ9_abs_067f4 n v0 μ0 (fun r1 μ1 => wX9_divisor_9 n r1 v2 μ1  Q)
theorem tX9_divisor_9 (l : Launch)  {Q : Int64 → qa_M → Prop}  : ∀ (n : Nat) (v4 : Int64) (v6 : Int64) (μ0 : qa_M), qa_PP μ0.2.2 → wX9_divisor_9 n v4 v6 μ0  Q → qa_G l yX9_divisor cX9_divisor 10 (some .long) 1 0 0 (qa_pJ Q) 0 0 9 [none, none, none, none, some (.long v4), none, some (.long v6), none, none, none] [] 113 μ0 := by
  intro n
  induction n with
  | zero =>
    intro v4 v6 μ0 hp0  h
    rw [wX9_divisor_9] at h
    exact h.elim
  | succ n ih =>
    intro v4 v6 μ0 hp0  h
    rw [wX9_divisor_9] at h
    refine qa_lld6 dX9_divisor_9 ?_
    refine qa_lconst (v := 0) dX9_divisor_11 (by decide) ?_
    refine qa_lcmp dX9_divisor_12 ?_
    refine qa_if_eq (tgt := 34) dX9_divisor_13 (by decide) (fun c2 => ?_) (fun c2 => ?_)
    · have h := h.1 c2
      refine qa_lld4 dX9_divisor_34 ?_
      exact qa_lret rfl dX9_divisor_36 ⟨rfl, rfl⟩ ⟨rfl, hp0, _, rfl, h⟩
    · have h := h.2 c2
      refine qa_lld4 dX9_divisor_16 ?_
      refine qa_lld6 dX9_divisor_18 ?_
      refine qa_lrem dX9_divisor_20 h.1 ?_
      have h := h.2
      refine qa_nmL (fun x3 e3 => ?_)
      have h := h x3 e3
      refine qa_lst8 dX9_divisor_21 ?_
      refine qa_lld6 dX9_divisor_23 ?_
      refine qa_lst4 dX9_divisor_25 ?_
      refine qa_lld8 dX9_divisor_27 ?_
      refine qa_lst6 dX9_divisor_29 ?_
      refine qa_goto (tgt := 9) dX9_divisor_31 (by decide) ?_
      refine qa_fgt (L' := [none, none, none, none, some (.long v6), none, some (.long x3), none, none, none]) (⟨rfl, ⟨rfl, trivial⟩⟩) ?_
      exact ih v6 x3 μ0 hp0  h
theorem tX9_divisor (l : Launch) {n : Nat} {v0 : Int64} {v2 : Int64} {μ0 : qa_M} {Q : Int64 → qa_M → Prop} (hp0 : qa_PP μ0.2.2)  (h : wX9_divisor n v0 v2 μ0 Q) : qa_Met l yX9_divisor cX9_divisor 10 (some .long) 1 0 0 [.long v0, .long v2] 113 μ0 (qa_pJ Q) := by
  refine qa_ofG (by decide) (Nat.le_of_ble_eq_true rfl) ?_
  unfold wX9_divisor at h
  change qa_G l yX9_divisor cX9_divisor 10 (some .long) 1 0 0 (qa_pJ Q) 0 0 0 [some (.long v0), none, some (.long v2), none, none, none, none, none, none, none] [] 113 μ0
  refine qa_lld0 dX9_divisor_0 ?_
  refine qa_S1J dX9_divisor_1 lm_X9_395  (by decide) (Nat.le_of_ble_eq_true rfl) (tJ9_abs_067f4 l hp0  h) (fun r1 μ1 hp1 h => ?_)
  refine qa_lst4 dX9_divisor_4 ?_
  refine qa_lld2 dX9_divisor_6 ?_
  refine qa_lst6 dX9_divisor_7 ?_
  refine qa_fgt (L' := [none, none, none, none, some (.long r1), none, some (.long v2), none, none, none]) (⟨rfl, ⟨rfl, trivial⟩⟩) ?_
  refine tX9_divisor_9 l  n r1 v2 μ1 hp1  h
def wX9_part (n : Nat) (v0 : Int64) (v2 : Int64) (v4 : Int32) (μ0 : qa_M) (Q : Int64 → qa_M → Prop) : Prop := ((¬ v4 = 0 → wX9_divisor n v0 v2 μ0 (fun r2 μ2 => ¬ r2 = 0 ∧ Q (v2 / r2) μ2)) ∧ (v4 = 0 → wX9_divisor n v0 v2 μ0 (fun r3 μ3 => ¬ r3 = 0 ∧ Q (v0 / r3) μ3)))
theorem tX9_part (l : Launch) {n : Nat} {v0 : Int64} {v2 : Int64} {v4 : Int32} {μ0 : qa_M} {Q : Int64 → qa_M → Prop} (hp0 : qa_PP μ0.2.2)  (h : wX9_part n v0 v2 v4 μ0 Q) : qa_Met l yX9_part cX9_part 5 (some .long) 2 0 0 [.long v0, .long v2, .int v4] 113 μ0 (qa_pJ Q) := by
  refine qa_ofG (by decide) (Nat.le_of_ble_eq_true rfl) ?_
  unfold wX9_part at h
  change qa_G l yX9_part cX9_part 5 (some .long) 2 0 0 (qa_pJ Q) 0 0 0 [some (.long v0), none, some (.long v2), none, some (.int v4)] [] 113 μ0
  refine qa_ild4 dX9_part_0 ?_
  refine qa_if_ne (tgt := 9) dX9_part_2 (by decide) (fun c1 => ?_) (fun c1 => ?_)
  · have h := h.1 c1
    refine qa_lld2 dX9_part_9 ?_
    refine qa_lld0 dX9_part_10 ?_
    refine qa_lld2 dX9_part_11 ?_
    refine qa_S2J dX9_part_12 lm_X9_398  (by decide) (Nat.le_of_ble_eq_true rfl) (tX9_divisor l hp0  h) (fun r2 μ2 hp2 h => ?_)
    refine qa_ldiv dX9_part_15 h.1 ?_
    have h := h.2
    exact qa_lret rfl dX9_part_16 ⟨rfl, rfl⟩ ⟨rfl, hp2, _, rfl, h⟩
  · have h := h.2 c1
    refine qa_lld0 dX9_part_5 ?_
    refine qa_goto (tgt := 10) dX9_part_6 (by decide) ?_
    refine qa_lld0 dX9_part_10 ?_
    refine qa_lld2 dX9_part_11 ?_
    refine qa_S2J dX9_part_12 lm_X9_398  (by decide) (Nat.le_of_ble_eq_true rfl) (tX9_divisor l hp0  h) (fun r3 μ3 hp3 h => ?_)
    refine qa_ldiv dX9_part_15 h.1 ?_
    have h := h.2
    exact qa_lret rfl dX9_part_16 ⟨rfl, rfl⟩ ⟨rfl, hp3, _, rfl, h⟩
def wX9_chance (n : Nat) (v1 : Int32) (v2 : Int32) (v3 : Int32) (v4 : Int32) (μ0 : qa_M) (Q : Int64 → qa_M → Prop) : Prop := wX9_isHouse n v1 μ0 (fun r1 μ1 => ((r1 = 0 → Q (-2 : Int64) μ1) ∧ (¬ r1 = 0 → wX9_isPlace n v2.toInt64 μ1 (fun r3 μ3 => ((r3 = 0 → Q (-2 : Int64) μ3) ∧ (¬ r3 = 0 → wX9_isSnows n v3 v4 μ3 (fun r5 μ5 => ((¬ r5 = 0 → wX9_laySnows n v1 v2 v3 μ5 (fun μ7 => wX9_part n (μ7.2.1 91 39) (μ7.2.1 91 38) v4 μ7 (fun r8 μ8 => Q r8 μ8))) ∧ (r5 = 0 → Q (-2 : Int64) μ5)))))))))
theorem tX9_chance (l : Launch) {n : Nat} {v1 : Int32} {v2 : Int32} {v3 : Int32} {v4 : Int32} {μ0 : qa_M} {Q : Int64 → qa_M → Prop} (hp0 : qa_PP μ0.2.2)  (h : wX9_chance n v1 v2 v3 v4 μ0 Q) : qa_Met l yX9_chance cX9_chance 5 (some .long) 4 0 0 [.ref 91, .int v1, .int v2, .int v3, .int v4] 113 μ0 (qa_pJ Q) := by
  refine qa_ofG (by decide) (Nat.le_of_ble_eq_true rfl) ?_
  unfold wX9_chance at h
  change qa_G l yX9_chance cX9_chance 5 (some .long) 4 0 0 (qa_pJ Q) 0 0 0 [some (.ref 91), some (.int v1), some (.int v2), some (.int v3), some (.int v4)] [] 113 μ0
  refine qa_ald0 dX9_chance_0 ?_
  refine qa_ild1 dX9_chance_1 ?_
  refine qa_V1I dX9_chance_2 lm_X9_103 sh_91 rfl (by decide) (by decide) (Nat.le_of_ble_eq_true rfl) (tX9_isHouse l hp0  h) (fun r1 μ1 hp1 h => ?_)
  refine qa_if_eq (tgt := 27) dX9_chance_5 (by decide) (fun c2 => ?_) (fun c2 => ?_)
  · have h := h.1 c2
    refine qa_ldc2 dX9_chance_27 lk_X9_429 ?_
    exact qa_lret rfl dX9_chance_30 ⟨rfl, rfl⟩ ⟨rfl, hp1, _, rfl, h⟩
  · have h := h.2 c2
    refine qa_ald0 dX9_chance_8 ?_
    refine qa_ild2 dX9_chance_9 ?_
    refine qa_i2l dX9_chance_10 ?_
    refine qa_V1I dX9_chance_11 lm_X9_254 sh_91 rfl (by decide) (by decide) (Nat.le_of_ble_eq_true rfl) (tX9_isPlace l hp1  h) (fun r3 μ3 hp3 h => ?_)
    refine qa_if_eq (tgt := 27) dX9_chance_14 (by decide) (fun c4 => ?_) (fun c4 => ?_)
    · have h := h.1 c4
      refine qa_ldc2 dX9_chance_27 lk_X9_429 ?_
      exact qa_lret rfl dX9_chance_30 ⟨rfl, rfl⟩ ⟨rfl, hp3, _, rfl, h⟩
    · have h := h.2 c4
      refine qa_ald0 dX9_chance_17 ?_
      refine qa_ild3 dX9_chance_18 ?_
      refine qa_ild4 dX9_chance_19 ?_
      refine qa_V2I dX9_chance_21 lm_X9_426 sh_91 rfl (by decide) (by decide) (Nat.le_of_ble_eq_true rfl) (tX9_isSnows l hp3  h) (fun r5 μ5 hp5 h => ?_)
      refine qa_if_ne (tgt := 31) dX9_chance_24 (by decide) (fun c6 => ?_) (fun c6 => ?_)
      · have h := h.1 c6
        refine qa_ald0 dX9_chance_31 ?_
        refine qa_ild1 dX9_chance_32 ?_
        refine qa_ild2 dX9_chance_33 ?_
        refine qa_ild3 dX9_chance_34 ?_
        refine qa_V3V dX9_chance_35 lm_X9_431 sh_91 rfl (by decide) (by decide) (Nat.le_of_ble_eq_true rfl) (tX9_laySnows l hp5  h) (fun μ7 hp7 h => ?_)
        refine qa_ald0 dX9_chance_38 ?_
        refine qa_getJ dX9_chance_39 lf_X9_418 rfl sh_91 (by decide) ?_
        refine qa_ald0 dX9_chance_42 ?_
        refine qa_getJ dX9_chance_43 lf_X9_414 rfl sh_91 (by decide) ?_
        refine qa_ild4 dX9_chance_46 ?_
        refine qa_S3J dX9_chance_48 lm_X9_406  (by decide) (Nat.le_of_ble_eq_true rfl) (tX9_part l hp7  h) (fun r8 μ8 hp8 h => ?_)
        exact qa_lret rfl dX9_chance_51 ⟨rfl, rfl⟩ ⟨rfl, hp8, _, rfl, h⟩
      · have h := h.2 c6
        refine qa_ldc2 dX9_chance_27 lk_X9_429 ?_
        exact qa_lret rfl dX9_chance_30 ⟨rfl, rfl⟩ ⟨rfl, hp5, _, rfl, h⟩
def wX9_count_63 (n : Nat) (v3 : Int32) (s0 : Int32) (s1 : Int32) (μ0 : qa_M) (K0 : Int32 → Int32 → qa_M → Prop) (Q : Int32 → qa_M → Prop) : Prop := ∀ x7, x7 = (s1 + s0) → K0 x7 (v3 + (1 : Int32)) μ0
def wX9_count_42 : Nat → Int32 → Int32 → qa_M → (Int32 → qa_M → Prop) → Prop
  | 0, _, _, _, _ => False
  | n + 1, v2, v3, μ0, Q => (((4 : Int32) ≤ v3 → Q v2 μ0) ∧ (¬ (4 : Int32) ≤ v3 → vp_in v3 4 ∧ ((¬ (μ0.1 110 v3.toNatClampNeg) = (-1 : Int32) → wX9_count_63 n v3 (1 : Int32) v2 μ0 (fun v2 v3 μk => wX9_count_42 n v2 v3 μk Q) Q) ∧ ((μ0.1 110 v3.toNatClampNeg) = (-1 : Int32) → wX9_count_63 n v3 (0 : Int32) v2 μ0 (fun v2 v3 μk => wX9_count_42 n v2 v3 μk Q) Q))))
def wX9_count (n : Nat) (v1 : Int32) (μ0 : qa_M) (Q : Int32 → qa_M → Prop) : Prop := wX9_in n v1.toInt64 (0 : Int64) (9 : Int64) μ0 (fun r1 μ1 => ((r1 = 0 → ((¬ v1 = (10 : Int32) → ((v1 = (11 : Int32) → wX9_count_42 n (0 : Int32) (0 : Int32) μ1  Q) ∧ (¬ v1 = (11 : Int32) → Q (-1 : Int32) μ1))) ∧ (v1 = (10 : Int32) → Q (μ1.1 91 5) μ1))) ∧ (¬ r1 = 0 → vp_in v1 114 ∧ Q (μ1.1 92 v1.toNatClampNeg) μ1)))
theorem tX9_count_63 (l : Launch) {K0 : Int32 → Int32 → qa_M → Prop} {Q : Int32 → qa_M → Prop} (hK0 : ∀ (v2 : Int32) (v3 : Int32) (μ : qa_M), qa_PP μ.2.2 → K0 v2 v3 μ → qa_G l yX9_count cX9_count 4 (some .int) 1 0 0 (qa_pI Q) 0 0 42 [some (.ref 91), none, some (.int v2), some (.int v3)] [] 113 μ) : ∀ (n : Nat) (v3 : Int32) (s0 : Int32) (s1 : Int32) (μ0 : qa_M), qa_PP μ0.2.2 → wX9_count_63 n v3 s0 s1 μ0 K0 Q → qa_G l yX9_count cX9_count 4 (some .int) 1 0 0 (qa_pI Q) 0 0 63 [some (.ref 91), none, none, some (.int v3)] [.int s0, .int s1] 113 μ0 := by
  intro n
  intro v3 s0 s1 μ0 hp0  h
  unfold wX9_count_63 at h
  refine qa_iadd dX9_count_63 ?_
  refine qa_nmI (fun x7 e7 => ?_)
  have h := h x7 e7
  refine qa_ist2 dX9_count_64 ?_
  refine qa_inc3 dX9_count_65 (qa_io1 _) ?_
  refine qa_goto (tgt := 42) dX9_count_68 (by decide) ?_
  refine qa_fgt (L' := [some (.ref 91), none, some (.int x7), some (.int (v3 + (1 : Int32)))]) (⟨rfl, ⟨rfl, ⟨rfl, trivial⟩⟩⟩) ?_
  exact hK0 x7 (v3 + (1 : Int32)) μ0 hp0  h
theorem tX9_count_42 (l : Launch)  {Q : Int32 → qa_M → Prop}  : ∀ (n : Nat) (v2 : Int32) (v3 : Int32) (μ0 : qa_M), qa_PP μ0.2.2 → wX9_count_42 n v2 v3 μ0  Q → qa_G l yX9_count cX9_count 4 (some .int) 1 0 0 (qa_pI Q) 0 0 42 [some (.ref 91), none, some (.int v2), some (.int v3)] [] 113 μ0 := by
  intro n
  induction n with
  | zero =>
    intro v2 v3 μ0 hp0  h
    rw [wX9_count_42] at h
    exact h.elim
  | succ n ih =>
    intro v2 v3 μ0 hp0  h
    rw [wX9_count_42] at h
    refine qa_ild3 dX9_count_42 ?_
    refine qa_iconst (v := 4) dX9_count_43 (by decide) ?_
    refine qa_icmp_ge (tgt := 71) dX9_count_44 (by decide) (fun c5 => ?_) (fun c5 => ?_)
    · have h := h.1 c5
      refine qa_ild2 dX9_count_71 ?_
      exact qa_iret rfl dX9_count_72 ⟨rfl, rfl⟩ ⟨rfl, hp0, _, rfl, h⟩
    · have h := h.2 c5
      refine qa_ild2 dX9_count_47 ?_
      refine qa_ald0 dX9_count_48 ?_
      refine qa_getR dX9_count_49 lf_X9_70 rfl sh_91 (by decide) (pp_91_41 hp0) (by decide) ?_
      refine qa_ild3 dX9_count_52 ?_
      refine qa_iald dX9_count_53 sh_110 (by decide) h.1 ?_
      have h := h.2
      refine qa_iconst (v := -1) dX9_count_54 (by decide) ?_
      refine qa_icmp_ne (tgt := 62) dX9_count_55 (by decide) (fun c6 => ?_) (fun c6 => ?_)
      · have h := h.1 c6
        refine qa_iconst (v := 1) dX9_count_62 (by decide) ?_
        refine qa_fgt (L' := [some (.ref 91), none, none, some (.int v3)]) (⟨rfl, ⟨rfl, trivial⟩⟩) ?_
        refine tX9_count_63 l ih n v3 (1 : Int32) v2 μ0 hp0  h
      · have h := h.2 c6
        refine qa_iconst (v := 0) dX9_count_58 (by decide) ?_
        refine qa_goto (tgt := 63) dX9_count_59 (by decide) ?_
        refine qa_fgt (L' := [some (.ref 91), none, none, some (.int v3)]) (⟨rfl, ⟨rfl, trivial⟩⟩) ?_
        refine tX9_count_63 l ih n v3 (0 : Int32) v2 μ0 hp0  h
theorem tX9_count (l : Launch) {n : Nat} {v1 : Int32} {μ0 : qa_M} {Q : Int32 → qa_M → Prop} (hp0 : qa_PP μ0.2.2)  (h : wX9_count n v1 μ0 Q) : qa_Met l yX9_count cX9_count 4 (some .int) 1 0 0 [.ref 91, .int v1] 113 μ0 (qa_pI Q) := by
  refine qa_ofG (by decide) (Nat.le_of_ble_eq_true rfl) ?_
  unfold wX9_count at h
  change qa_G l yX9_count cX9_count 4 (some .int) 1 0 0 (qa_pI Q) 0 0 0 [some (.ref 91), some (.int v1), none, none] [] 113 μ0
  refine qa_ild1 dX9_count_0 ?_
  refine qa_i2l dX9_count_1 ?_
  refine qa_lconst (v := 0) dX9_count_2 (by decide) ?_
  refine qa_ldc2 dX9_count_3 lk_X9_460 ?_
  refine qa_S3I dX9_count_6 lm_X9_88  (by decide) (Nat.le_of_ble_eq_true rfl) (tX9_in l hp0  h) (fun r1 μ1 hp1 h => ?_)
  refine qa_if_eq (tgt := 19) dX9_count_9 (by decide) (fun c2 => ?_) (fun c2 => ?_)
  · have h := h.1 c2
    refine qa_ild1 dX9_count_19 ?_
    refine qa_bipush (v := 10) dX9_count_20 (by decide) ?_
    refine qa_icmp_ne (tgt := 30) dX9_count_22 (by decide) (fun c3 => ?_) (fun c3 => ?_)
    · have h := h.1 c3
      refine qa_ild1 dX9_count_30 ?_
      refine qa_bipush (v := 11) dX9_count_31 (by decide) ?_
      refine qa_icmp_eq (tgt := 38) dX9_count_33 (by decide) (fun c4 => ?_) (fun c4 => ?_)
      · have h := h.1 c4
        refine qa_iconst (v := 0) dX9_count_38 (by decide) ?_
        refine qa_ist2 dX9_count_39 ?_
        refine qa_iconst (v := 0) dX9_count_40 (by decide) ?_
        refine qa_ist3 dX9_count_41 ?_
        refine qa_fgt (L' := [some (.ref 91), none, some (.int (0 : Int32)), some (.int (0 : Int32))]) (⟨rfl, ⟨rfl, ⟨rfl, trivial⟩⟩⟩) ?_
        refine tX9_count_42 l  n (0 : Int32) (0 : Int32) μ1 hp1  h
      · have h := h.2 c4
        refine qa_iconst (v := -1) dX9_count_36 (by decide) ?_
        exact qa_iret rfl dX9_count_37 ⟨rfl, rfl⟩ ⟨rfl, hp1, _, rfl, h⟩
    · have h := h.2 c3
      refine qa_ald0 dX9_count_25 ?_
      refine qa_getI dX9_count_26 lf_X9_107 (Or.inl rfl) sh_91 (by decide) ?_
      exact qa_iret rfl dX9_count_29 ⟨rfl, rfl⟩ ⟨rfl, hp1, _, rfl, h⟩
  · have h := h.2 c2
    refine qa_ald0 dX9_count_12 ?_
    refine qa_getR dX9_count_13 lf_X9_9 rfl sh_91 (by decide) (pp_91_1 hp1) (by decide) ?_
    refine qa_ild1 dX9_count_16 ?_
    refine qa_iald dX9_count_17 sh_92 (by decide) h.1 ?_
    have h := h.2
    exact qa_iret rfl dX9_count_18 ⟨rfl, rfl⟩ ⟨rfl, hp1, _, rfl, h⟩
def wX9_cut (n : Nat) (v0 : Int64) (v2 : Int32) (μ0 : qa_M) (Q : Int64 → qa_M → Prop) : Prop := ∀ x1, x1 = ((64 : Int32) - ((8 : Int32) <<< (v2 &&& 31))) → Q ((v0 <<< (x1.toInt64 &&& 63)) >>> (x1.toInt64 &&& 63)) μ0
theorem tX9_cut (l : Launch) {n : Nat} {v0 : Int64} {v2 : Int32} {μ0 : qa_M} {Q : Int64 → qa_M → Prop} (hp0 : qa_PP μ0.2.2)  (h : wX9_cut n v0 v2 μ0 Q) : qa_Met l yX9_cut cX9_cut 4 (some .long) 0 0 0 [.long v0, .int v2] 113 μ0 (qa_pJ Q) := by
  refine qa_ofG (by decide) (Nat.le_of_ble_eq_true rfl) ?_
  unfold wX9_cut at h
  change qa_G l yX9_cut cX9_cut 4 (some .long) 0 0 0 (qa_pJ Q) 0 0 0 [some (.long v0), none, some (.int v2), none] [] 113 μ0
  refine qa_bipush (v := 64) dX9_cut_0 (by decide) ?_
  refine qa_bipush (v := 8) dX9_cut_2 (by decide) ?_
  refine qa_ild2 dX9_cut_4 ?_
  refine qa_ishl dX9_cut_5 ?_
  refine qa_isub dX9_cut_6 ?_
  refine qa_nmI (fun x1 e1 => ?_)
  have h := h x1 e1
  refine qa_ist3 dX9_cut_7 ?_
  refine qa_lld0 dX9_cut_8 ?_
  refine qa_ild3 dX9_cut_9 ?_
  refine qa_lshl dX9_cut_10 ?_
  refine qa_ild3 dX9_cut_11 ?_
  refine qa_lshr dX9_cut_12 ?_
  exact qa_lret rfl dX9_cut_13 ⟨rfl, rfl⟩ ⟨rfl, hp0, _, rfl, h⟩
def wX9_isSeed (n : Nat) (v0 : Int32) (μ0 : qa_M) (Q : Int32 → qa_M → Prop) : Prop := wX9_in n v0.toInt64 (0 : Int64) (2000000000 : Int64) μ0 (fun r1 μ1 => (narrow .boolean (.int r1) = .int r1 ∧ Q r1 μ1))
theorem tX9_isSeed (l : Launch) {n : Nat} {v0 : Int32} {μ0 : qa_M} {Q : Int32 → qa_M → Prop} (hp0 : qa_PP μ0.2.2)  (h : wX9_isSeed n v0 μ0 Q) : qa_Met l yX9_isSeed cX9_isSeed 1 (some .boolean) 1 0 0 [.int v0] 113 μ0 (qa_pI Q) := by
  refine qa_ofG (by decide) (Nat.le_of_ble_eq_true rfl) ?_
  unfold wX9_isSeed at h
  change qa_G l yX9_isSeed cX9_isSeed 1 (some .boolean) 1 0 0 (qa_pI Q) 0 0 0 [some (.int v0)] [] 113 μ0
  refine qa_ild0 dX9_isSeed_0 ?_
  refine qa_i2l dX9_isSeed_1 ?_
  refine qa_lconst (v := 0) dX9_isSeed_2 (by decide) ?_
  refine qa_ldc2 dX9_isSeed_3 lk_X9_447 ?_
  refine qa_S3I dX9_isSeed_6 lm_X9_88  (by decide) (Nat.le_of_ble_eq_true rfl) (tX9_in l hp0  h) (fun r1 μ1 hp1 h => ?_)
  exact qa_zret rfl h.1 dX9_isSeed_9 ⟨rfl, rfl⟩ ⟨rfl, hp1, _, rfl, h.2⟩
def wX9_goDrawn_70 (n : Nat) (v3 : Int64) (v5 : Int32) (s0 : Int32) (s1 : Int32) (μ0 : qa_M) (K0 : Int64 → Int32 → qa_M → Prop) (Q : qa_M → Prop) : Prop := ∀ μ8, μ8 = qa_uI μ0 91 19 (s1 ||| s0) → K0 v3 (v5 + (1 : Int32)) μ8
def wX9_goDrawn_14 : Nat → Int64 → Int32 → qa_M → (qa_M → Prop) → Prop
  | 0, _, _, _, _ => False
  | n + 1, v3, v5, μ0, Q => wX9_weeks n  μ0 (fun r3 μ3 => ((r3 ≤ v5 → wX9_goAll n  μ3 (fun μ5 => Q μ5)) ∧ (¬ r3 ≤ v5 → ∀ x6, x6 = ((((1103515245 : Int64) * v3) + (12345 : Int64)) - (((1103515245 : Int64) * v3) + (12345 : Int64)) / (2147483648 : Int64) * (2147483648 : Int64)) → ((0 ≤ (lg_cmp ((x6 / (65536 : Int64)) - (x6 / (65536 : Int64)) / (10 : Int64) * (10 : Int64)) (μ3.1 92 (3 : Int32).toNatClampNeg).toInt64) → wX9_goDrawn_70 n x6 v5 (0 : Int32) (μ3.1 91 19) μ3 (fun v3 v5 μk => wX9_goDrawn_14 n v3 v5 μk Q) Q) ∧ (¬ 0 ≤ (lg_cmp ((x6 / (65536 : Int64)) - (x6 / (65536 : Int64)) / (10 : Int64) * (10 : Int64)) (μ3.1 92 (3 : Int32).toNatClampNeg).toInt64) → wX9_goDrawn_70 n x6 v5 ((1 : Int32) <<< (v5 &&& 31)) (μ3.1 91 19) μ3 (fun v3 v5 μk => wX9_goDrawn_14 n v3 v5 μk Q) Q)))))
def wX9_goDrawn (n : Nat) (v1 : Int64) (μ0 : qa_M) (Q : qa_M → Prop) : Prop := wX9_asItIs n  μ0 (fun μ1 => ∀ μ2, μ2 = qa_uI μ1 91 19 (0 : Int32) → wX9_goDrawn_14 n v1 (0 : Int32) μ2  Q)
theorem tX9_goDrawn_70 (l : Launch) {K0 : Int64 → Int32 → qa_M → Prop} {Q : qa_M → Prop} (hK0 : ∀ (v3 : Int64) (v5 : Int32) (μ : qa_M), qa_PP μ.2.2 → K0 v3 v5 μ → qa_G l yX9_goDrawn cX9_goDrawn 6 none 3 0 0 (qa_pV Q) 0 0 14 [some (.ref 91), none, none, some (.long v3), none, some (.int v5)] [] 113 μ) : ∀ (n : Nat) (v3 : Int64) (v5 : Int32) (s0 : Int32) (s1 : Int32) (μ0 : qa_M), qa_PP μ0.2.2 → wX9_goDrawn_70 n v3 v5 s0 s1 μ0 K0 Q → qa_G l yX9_goDrawn cX9_goDrawn 6 none 3 0 0 (qa_pV Q) 0 0 70 [some (.ref 91), none, none, some (.long v3), none, some (.int v5)] [.int s0, .int s1, .ref 91] 113 μ0 := by
  intro n
  intro v3 v5 s0 s1 μ0 hp0  h
  unfold wX9_goDrawn_70 at h
  refine qa_ior dX9_goDrawn_70 ?_
  refine qa_putI dX9_goDrawn_71 lf_X9_239 rfl sh_91 (by decide) rfl ?_
  refine qa_nmM (fun μ8 em8 => ?_)
  have h := h μ8 em8
  have hp8 : qa_PP μ8.2.2 := by rw [em8]; exact hp0
  refine qa_inc5 dX9_goDrawn_74 (qa_io1 _) ?_
  refine qa_goto (tgt := 14) dX9_goDrawn_77 (by decide) ?_
  refine qa_fgt (L' := [some (.ref 91), none, none, some (.long v3), none, some (.int (v5 + (1 : Int32)))]) (⟨rfl, ⟨rfl, ⟨rfl, trivial⟩⟩⟩) ?_
  exact hK0 v3 (v5 + (1 : Int32)) μ8 hp8  h
theorem tX9_goDrawn_14 (l : Launch)  {Q : qa_M → Prop}  : ∀ (n : Nat) (v3 : Int64) (v5 : Int32) (μ0 : qa_M), qa_PP μ0.2.2 → wX9_goDrawn_14 n v3 v5 μ0  Q → qa_G l yX9_goDrawn cX9_goDrawn 6 none 3 0 0 (qa_pV Q) 0 0 14 [some (.ref 91), none, none, some (.long v3), none, some (.int v5)] [] 113 μ0 := by
  intro n
  induction n with
  | zero =>
    intro v3 v5 μ0 hp0  h
    rw [wX9_goDrawn_14] at h
    exact h.elim
  | succ n ih =>
    intro v3 v5 μ0 hp0  h
    rw [wX9_goDrawn_14] at h
    refine qa_ild5 dX9_goDrawn_14 ?_
    refine qa_ald0 dX9_goDrawn_16 ?_
    refine qa_V0I dX9_goDrawn_17 lm_X9_96 sh_91 rfl (by decide) (by decide) (Nat.le_of_ble_eq_true rfl) (tX9_weeks l hp0  h) (fun r3 μ3 hp3 h => ?_)
    refine qa_icmp_ge (tgt := 80) dX9_goDrawn_20 (by decide) (fun c4 => ?_) (fun c4 => ?_)
    · have h := h.1 c4
      refine qa_ald0 dX9_goDrawn_80 ?_
      refine qa_V0V dX9_goDrawn_81 lm_X9_280 sh_91 rfl (by decide) (by decide) (Nat.le_of_ble_eq_true rfl) (tX9_goAll l hp3  h) (fun μ5 hp5 h => ?_)
      exact qa_vret rfl dX9_goDrawn_84 ⟨rfl, rfl⟩ ⟨rfl, hp5, rfl, h⟩
    · have h := h.2 c4
      refine qa_ldc2 dX9_goDrawn_23 lk_X9_437 ?_
      refine qa_lld3 dX9_goDrawn_26 ?_
      refine qa_lmul dX9_goDrawn_27 ?_
      refine qa_ldc2 dX9_goDrawn_28 lk_X9_439 ?_
      refine qa_ladd dX9_goDrawn_31 ?_
      refine qa_ldc2 dX9_goDrawn_32 lk_X9_441 ?_
      refine qa_lrem dX9_goDrawn_35 (by decide) ?_
      refine qa_nmL (fun x6 e6 => ?_)
      have h := h x6 e6
      refine qa_lst3 dX9_goDrawn_36 ?_
      refine qa_ald0 dX9_goDrawn_37 ?_
      refine qa_dup dX9_goDrawn_38 rfl ?_
      refine qa_getI dX9_goDrawn_39 lf_X9_239 (Or.inl rfl) sh_91 (by decide) ?_
      refine qa_lld3 dX9_goDrawn_42 ?_
      refine qa_ldc2 dX9_goDrawn_43 lk_X9_443 ?_
      refine qa_ldiv dX9_goDrawn_46 (by decide) ?_
      refine qa_ldc2 dX9_goDrawn_47 lk_X9_445 ?_
      refine qa_lrem dX9_goDrawn_50 (by decide) ?_
      refine qa_ald0 dX9_goDrawn_51 ?_
      refine qa_getR dX9_goDrawn_52 lf_X9_9 rfl sh_91 (by decide) (pp_91_1 hp3) (by decide) ?_
      refine qa_iconst (v := 3) dX9_goDrawn_55 (by decide) ?_
      refine qa_iald dX9_goDrawn_56 sh_92 (by decide) (by unfold vp_in; decide) ?_
      refine qa_i2l dX9_goDrawn_57 ?_
      refine qa_lcmp dX9_goDrawn_58 ?_
      refine qa_if_ge (tgt := 69) dX9_goDrawn_59 (by decide) (fun c7 => ?_) (fun c7 => ?_)
      · have h := h.1 c7
        refine qa_iconst (v := 0) dX9_goDrawn_69 (by decide) ?_
        refine qa_fgt (L' := [some (.ref 91), none, none, some (.long x6), none, some (.int v5)]) (⟨rfl, ⟨rfl, ⟨rfl, trivial⟩⟩⟩) ?_
        refine tX9_goDrawn_70 l ih n x6 v5 (0 : Int32) (μ3.1 91 19) μ3 hp3  h
      · have h := h.2 c7
        refine qa_iconst (v := 1) dX9_goDrawn_62 (by decide) ?_
        refine qa_ild5 dX9_goDrawn_63 ?_
        refine qa_ishl dX9_goDrawn_65 ?_
        refine qa_goto (tgt := 70) dX9_goDrawn_66 (by decide) ?_
        refine qa_fgt (L' := [some (.ref 91), none, none, some (.long x6), none, some (.int v5)]) (⟨rfl, ⟨rfl, ⟨rfl, trivial⟩⟩⟩) ?_
        refine tX9_goDrawn_70 l ih n x6 v5 ((1 : Int32) <<< (v5 &&& 31)) (μ3.1 91 19) μ3 hp3  h
theorem tX9_goDrawn (l : Launch) {n : Nat} {v1 : Int64} {μ0 : qa_M} {Q : qa_M → Prop} (hp0 : qa_PP μ0.2.2)  (h : wX9_goDrawn n v1 μ0 Q) : qa_Met l yX9_goDrawn cX9_goDrawn 6 none 3 0 0 [.ref 91, .long v1] 113 μ0 (qa_pV Q) := by
  refine qa_ofG (by decide) (Nat.le_of_ble_eq_true rfl) ?_
  unfold wX9_goDrawn at h
  change qa_G l yX9_goDrawn cX9_goDrawn 6 none 3 0 0 (qa_pV Q) 0 0 0 [some (.ref 91), some (.long v1), none, none, none, none] [] 113 μ0
  refine qa_ald0 dX9_goDrawn_0 ?_
  refine qa_V0V dX9_goDrawn_1 lm_X9_251 sh_91 rfl (by decide) (by decide) (Nat.le_of_ble_eq_true rfl) (tX9_asItIs l hp0  h) (fun μ1 hp1 h => ?_)
  refine qa_ald0 dX9_goDrawn_4 ?_
  refine qa_iconst (v := 0) dX9_goDrawn_5 (by decide) ?_
  refine qa_putI dX9_goDrawn_6 lf_X9_239 rfl sh_91 (by decide) rfl ?_
  refine qa_nmM (fun μ2 em2 => ?_)
  have h := h μ2 em2
  have hp2 : qa_PP μ2.2.2 := by rw [em2]; exact hp1
  refine qa_lld1 dX9_goDrawn_9 ?_
  refine qa_lst3 dX9_goDrawn_10 ?_
  refine qa_iconst (v := 0) dX9_goDrawn_11 (by decide) ?_
  refine qa_ist5 dX9_goDrawn_12 ?_
  refine qa_fgt (L' := [some (.ref 91), none, none, some (.long v1), none, some (.int (0 : Int32))]) (⟨rfl, ⟨rfl, ⟨rfl, trivial⟩⟩⟩) ?_
  refine tX9_goDrawn_14 l  n v1 (0 : Int32) μ2 hp2  h
def wX9_letterOf (n : Nat) (v1 : Int32) (v2 : Int32) (μ0 : qa_M) (Q : Int32 → qa_M → Prop) : Prop := vp_in (((60 : Int32) + ((3 : Int32) * v1)) + v2) 114 ∧ Q (μ0.1 92 (((60 : Int32) + ((3 : Int32) * v1)) + v2).toNatClampNeg) μ0
theorem tX9_letterOf (l : Launch) {n : Nat} {v1 : Int32} {v2 : Int32} {μ0 : qa_M} {Q : Int32 → qa_M → Prop} (hp0 : qa_PP μ0.2.2)  (h : wX9_letterOf n v1 v2 μ0 Q) : qa_Met l yX9_letterOf cX9_letterOf 3 (some .int) 0 0 0 [.ref 91, .int v1, .int v2] 113 μ0 (qa_pI Q) := by
  refine qa_ofG (by decide) (Nat.le_of_ble_eq_true rfl) ?_
  unfold wX9_letterOf at h
  change qa_G l yX9_letterOf cX9_letterOf 3 (some .int) 0 0 0 (qa_pI Q) 0 0 0 [some (.ref 91), some (.int v1), some (.int v2)] [] 113 μ0
  refine qa_ald0 dX9_letterOf_0 ?_
  refine qa_getR dX9_letterOf_1 lf_X9_9 rfl sh_91 (by decide) (pp_91_1 hp0) (by decide) ?_
  refine qa_bipush (v := 60) dX9_letterOf_4 (by decide) ?_
  refine qa_iconst (v := 3) dX9_letterOf_6 (by decide) ?_
  refine qa_ild1 dX9_letterOf_7 ?_
  refine qa_imul dX9_letterOf_8 ?_
  refine qa_iadd dX9_letterOf_9 ?_
  refine qa_ild2 dX9_letterOf_10 ?_
  refine qa_iadd dX9_letterOf_11 ?_
  refine qa_iald dX9_letterOf_12 sh_92 (by decide) h.1 ?_
  have h := h.2
  exact qa_iret rfl dX9_letterOf_13 ⟨rfl, rfl⟩ ⟨rfl, hp0, _, rfl, h⟩
def wX9_isRight (n : Nat) (v1 : Int32) (μ0 : qa_M) (Q : Int32 → qa_M → Prop) : Prop := wX9_letterOf n v1 (2 : Int32) μ0 (fun r1 μ1 => wX9_isWeek n r1.toInt64 μ1 (fun r2 μ2 => ((r2 = 0 → Q (0 : Int32) μ2) ∧ (¬ r2 = 0 → wX9_letterOf n v1 (0 : Int32) μ2 (fun r4 μ4 => wX9_letterOf n v1 (2 : Int32) μ4 (fun r5 μ5 => wX9_placeOf n r4 r5 μ5 (fun r6 μ6 => wX9_letterOf n v1 (1 : Int32) μ6 (fun r7 μ7 => ((¬ r6 = r7 → Q (0 : Int32) μ7) ∧ (r6 = r7 → Q (1 : Int32) μ7))))))))))
theorem tX9_isRight (l : Launch) {n : Nat} {v1 : Int32} {μ0 : qa_M} {Q : Int32 → qa_M → Prop} (hp0 : qa_PP μ0.2.2)  (h : wX9_isRight n v1 μ0 Q) : qa_Met l yX9_isRight cX9_isRight 2 (some .boolean) 2 0 0 [.ref 91, .int v1] 113 μ0 (qa_pI Q) := by
  refine qa_ofG (by decide) (Nat.le_of_ble_eq_true rfl) ?_
  unfold wX9_isRight at h
  change qa_G l yX9_isRight cX9_isRight 2 (some .boolean) 2 0 0 (qa_pI Q) 0 0 0 [some (.ref 91), some (.int v1)] [] 113 μ0
  refine qa_ald0 dX9_isRight_0 ?_
  refine qa_ald0 dX9_isRight_1 ?_
  refine qa_ild1 dX9_isRight_2 ?_
  refine qa_iconst (v := 2) dX9_isRight_3 (by decide) ?_
  refine qa_V2I dX9_isRight_4 lm_X9_227 sh_91 rfl (by decide) (by decide) (Nat.le_of_ble_eq_true rfl) (tX9_letterOf l hp0  h) (fun r1 μ1 hp1 h => ?_)
  refine qa_i2l dX9_isRight_7 ?_
  refine qa_V1I dX9_isRight_8 lm_X9_286 sh_91 rfl (by decide) (by decide) (Nat.le_of_ble_eq_true rfl) (tX9_isWeek l hp1  h) (fun r2 μ2 hp2 h => ?_)
  refine qa_if_eq (tgt := 43) dX9_isRight_11 (by decide) (fun c3 => ?_) (fun c3 => ?_)
  · have h := h.1 c3
    refine qa_iconst (v := 0) dX9_isRight_43 (by decide) ?_
    exact qa_zret rfl rfl dX9_isRight_44 ⟨rfl, rfl⟩ ⟨rfl, hp2, _, rfl, h⟩
  · have h := h.2 c3
    refine qa_ald0 dX9_isRight_14 ?_
    refine qa_ald0 dX9_isRight_15 ?_
    refine qa_ild1 dX9_isRight_16 ?_
    refine qa_iconst (v := 0) dX9_isRight_17 (by decide) ?_
    refine qa_V2I dX9_isRight_18 lm_X9_227 sh_91 rfl (by decide) (by decide) (Nat.le_of_ble_eq_true rfl) (tX9_letterOf l hp2  h) (fun r4 μ4 hp4 h => ?_)
    refine qa_ald0 dX9_isRight_21 ?_
    refine qa_ild1 dX9_isRight_22 ?_
    refine qa_iconst (v := 2) dX9_isRight_23 (by decide) ?_
    refine qa_V2I dX9_isRight_24 lm_X9_227 sh_91 rfl (by decide) (by decide) (Nat.le_of_ble_eq_true rfl) (tX9_letterOf l hp4  h) (fun r5 μ5 hp5 h => ?_)
    refine qa_V2I dX9_isRight_27 lm_X9_261 sh_91 rfl (by decide) (by decide) (Nat.le_of_ble_eq_true rfl) (tX9_placeOf l hp5  h) (fun r6 μ6 hp6 h => ?_)
    refine qa_ald0 dX9_isRight_30 ?_
    refine qa_ild1 dX9_isRight_31 ?_
    refine qa_iconst (v := 1) dX9_isRight_32 (by decide) ?_
    refine qa_V2I dX9_isRight_33 lm_X9_227 sh_91 rfl (by decide) (by decide) (Nat.le_of_ble_eq_true rfl) (tX9_letterOf l hp6  h) (fun r7 μ7 hp7 h => ?_)
    refine qa_icmp_ne (tgt := 43) dX9_isRight_36 (by decide) (fun c8 => ?_) (fun c8 => ?_)
    · have h := h.1 c8
      refine qa_iconst (v := 0) dX9_isRight_43 (by decide) ?_
      exact qa_zret rfl rfl dX9_isRight_44 ⟨rfl, rfl⟩ ⟨rfl, hp7, _, rfl, h⟩
    · have h := h.2 c8
      refine qa_iconst (v := 1) dX9_isRight_39 (by decide) ?_
      refine qa_goto (tgt := 44) dX9_isRight_40 (by decide) ?_
      exact qa_zret rfl rfl dX9_isRight_44 ⟨rfl, rfl⟩ ⟨rfl, hp7, _, rfl, h⟩
def wX9_rightSet_31 (n : Nat) (v2 : Int32) (s0 : Int32) (s1 : Int32) (μ0 : qa_M) (K0 : Int32 → Int32 → qa_M → Prop) (Q : Int32 → qa_M → Prop) : Prop := ∀ x4, x4 = (s1 ||| s0) → K0 x4 (v2 + (1 : Int32)) μ0
def wX9_rightSet_4 : Nat → Int32 → Int32 → qa_M → (Int32 → qa_M → Prop) → Prop
  | 0, _, _, _, _ => False
  | n + 1, v1, v2, μ0, Q => (((μ0.1 92 (7 : Int32).toNatClampNeg) ≤ v2 → Q v1 μ0) ∧ (¬ (μ0.1 92 (7 : Int32).toNatClampNeg) ≤ v2 → wX9_isRight n v2 μ0 (fun r2 μ2 => ((r2 = 0 → wX9_rightSet_31 n v2 (0 : Int32) v1 μ2 (fun v1 v2 μk => wX9_rightSet_4 n v1 v2 μk Q) Q) ∧ (¬ r2 = 0 → wX9_rightSet_31 n v2 ((1 : Int32) <<< (v2 &&& 31)) v1 μ2 (fun v1 v2 μk => wX9_rightSet_4 n v1 v2 μk Q) Q)))))
def wX9_rightSet (n : Nat)  (μ0 : qa_M) (Q : Int32 → qa_M → Prop) : Prop := wX9_rightSet_4 n (0 : Int32) (0 : Int32) μ0  Q
theorem tX9_rightSet_31 (l : Launch) {K0 : Int32 → Int32 → qa_M → Prop} {Q : Int32 → qa_M → Prop} (hK0 : ∀ (v1 : Int32) (v2 : Int32) (μ : qa_M), qa_PP μ.2.2 → K0 v1 v2 μ → qa_G l yX9_rightSet cX9_rightSet 3 (some .int) 3 0 0 (qa_pI Q) 0 0 4 [some (.ref 91), some (.int v1), some (.int v2)] [] 113 μ) : ∀ (n : Nat) (v2 : Int32) (s0 : Int32) (s1 : Int32) (μ0 : qa_M), qa_PP μ0.2.2 → wX9_rightSet_31 n v2 s0 s1 μ0 K0 Q → qa_G l yX9_rightSet cX9_rightSet 3 (some .int) 3 0 0 (qa_pI Q) 0 0 31 [some (.ref 91), none, some (.int v2)] [.int s0, .int s1] 113 μ0 := by
  intro n
  intro v2 s0 s1 μ0 hp0  h
  unfold wX9_rightSet_31 at h
  refine qa_ior dX9_rightSet_31 ?_
  refine qa_nmI (fun x4 e4 => ?_)
  have h := h x4 e4
  refine qa_ist1 dX9_rightSet_32 ?_
  refine qa_inc2 dX9_rightSet_33 (qa_io1 _) ?_
  refine qa_goto (tgt := 4) dX9_rightSet_36 (by decide) ?_
  refine qa_fgt (L' := [some (.ref 91), some (.int x4), some (.int (v2 + (1 : Int32)))]) (⟨rfl, ⟨rfl, ⟨rfl, trivial⟩⟩⟩) ?_
  exact hK0 x4 (v2 + (1 : Int32)) μ0 hp0  h
theorem tX9_rightSet_4 (l : Launch)  {Q : Int32 → qa_M → Prop}  : ∀ (n : Nat) (v1 : Int32) (v2 : Int32) (μ0 : qa_M), qa_PP μ0.2.2 → wX9_rightSet_4 n v1 v2 μ0  Q → qa_G l yX9_rightSet cX9_rightSet 3 (some .int) 3 0 0 (qa_pI Q) 0 0 4 [some (.ref 91), some (.int v1), some (.int v2)] [] 113 μ0 := by
  intro n
  induction n with
  | zero =>
    intro v1 v2 μ0 hp0  h
    rw [wX9_rightSet_4] at h
    exact h.elim
  | succ n ih =>
    intro v1 v2 μ0 hp0  h
    rw [wX9_rightSet_4] at h
    refine qa_ild2 dX9_rightSet_4 ?_
    refine qa_ald0 dX9_rightSet_5 ?_
    refine qa_getR dX9_rightSet_6 lf_X9_9 rfl sh_91 (by decide) (pp_91_1 hp0) (by decide) ?_
    refine qa_bipush (v := 7) dX9_rightSet_9 (by decide) ?_
    refine qa_iald dX9_rightSet_11 sh_92 (by decide) (by unfold vp_in; decide) ?_
    refine qa_icmp_ge (tgt := 39) dX9_rightSet_12 (by decide) (fun c1 => ?_) (fun c1 => ?_)
    · have h := h.1 c1
      refine qa_ild1 dX9_rightSet_39 ?_
      exact qa_iret rfl dX9_rightSet_40 ⟨rfl, rfl⟩ ⟨rfl, hp0, _, rfl, h⟩
    · have h := h.2 c1
      refine qa_ild1 dX9_rightSet_15 ?_
      refine qa_ald0 dX9_rightSet_16 ?_
      refine qa_ild2 dX9_rightSet_17 ?_
      refine qa_V1I dX9_rightSet_18 lm_X9_336 sh_91 rfl (by decide) (by decide) (Nat.le_of_ble_eq_true rfl) (tX9_isRight l hp0  h) (fun r2 μ2 hp2 h => ?_)
      refine qa_if_eq (tgt := 30) dX9_rightSet_21 (by decide) (fun c3 => ?_) (fun c3 => ?_)
      · have h := h.1 c3
        refine qa_iconst (v := 0) dX9_rightSet_30 (by decide) ?_
        refine qa_fgt (L' := [some (.ref 91), none, some (.int v2)]) (⟨rfl, ⟨rfl, trivial⟩⟩) ?_
        refine tX9_rightSet_31 l ih n v2 (0 : Int32) v1 μ2 hp2  h
      · have h := h.2 c3
        refine qa_iconst (v := 1) dX9_rightSet_24 (by decide) ?_
        refine qa_ild2 dX9_rightSet_25 ?_
        refine qa_ishl dX9_rightSet_26 ?_
        refine qa_goto (tgt := 31) dX9_rightSet_27 (by decide) ?_
        refine qa_fgt (L' := [some (.ref 91), none, some (.int v2)]) (⟨rfl, ⟨rfl, trivial⟩⟩) ?_
        refine tX9_rightSet_31 l ih n v2 ((1 : Int32) <<< (v2 &&& 31)) v1 μ2 hp2  h
theorem tX9_rightSet (l : Launch) {n : Nat}  {μ0 : qa_M} {Q : Int32 → qa_M → Prop} (hp0 : qa_PP μ0.2.2)  (h : wX9_rightSet n  μ0 Q) : qa_Met l yX9_rightSet cX9_rightSet 3 (some .int) 3 0 0 [.ref 91] 113 μ0 (qa_pI Q) := by
  refine qa_ofG (by decide) (Nat.le_of_ble_eq_true rfl) ?_
  unfold wX9_rightSet at h
  change qa_G l yX9_rightSet cX9_rightSet 3 (some .int) 3 0 0 (qa_pI Q) 0 0 0 [some (.ref 91), none, none] [] 113 μ0
  refine qa_iconst (v := 0) dX9_rightSet_0 (by decide) ?_
  refine qa_ist1 dX9_rightSet_1 ?_
  refine qa_iconst (v := 0) dX9_rightSet_2 (by decide) ?_
  refine qa_ist2 dX9_rightSet_3 ?_
  refine qa_fgt (L' := [some (.ref 91), some (.int (0 : Int32)), some (.int (0 : Int32))]) (⟨rfl, ⟨rfl, ⟨rfl, trivial⟩⟩⟩) ?_
  refine tX9_rightSet_4 l  n (0 : Int32) (0 : Int32) μ0 hp0  h
def wX9_drawn (n : Nat) (v1 : Int32) (v2 : Int32) (μ0 : qa_M) (Q : Int32 → qa_M → Prop) : Prop := wX9_isTown n  μ0 (fun r1 μ1 => ((r1 = 0 → Q (-2 : Int32) μ1) ∧ (¬ r1 = 0 → wX9_isSeed n v1 μ1 (fun r3 μ3 => ((r3 = 0 → Q (-2 : Int32) μ3) ∧ (¬ r3 = 0 → wX9_in n v2.toInt64 (0 : Int64) (2 : Int64) μ3 (fun r5 μ5 => ((¬ r5 = 0 → wX9_goDrawn n v1.toInt64 μ5 (fun μ7 => ((¬ v2 = 0 → ((¬ v2 = (1 : Int32) → wX9_rightSet n  μ7 (fun r10 μ10 => Q r10 μ10)) ∧ (v2 = (1 : Int32) → wX9_spanOf n  μ7 (fun r11 μ11 => Q r11 μ11)))) ∧ (v2 = 0 → Q (μ7.1 91 19) μ7)))) ∧ (r5 = 0 → Q (-2 : Int32) μ5)))))))))
theorem tX9_drawn (l : Launch) {n : Nat} {v1 : Int32} {v2 : Int32} {μ0 : qa_M} {Q : Int32 → qa_M → Prop} (hp0 : qa_PP μ0.2.2)  (h : wX9_drawn n v1 v2 μ0 Q) : qa_Met l yX9_drawn cX9_drawn 3 (some .int) 5 0 0 [.ref 91, .int v1, .int v2] 113 μ0 (qa_pI Q) := by
  refine qa_ofG (by decide) (Nat.le_of_ble_eq_true rfl) ?_
  unfold wX9_drawn at h
  change qa_G l yX9_drawn cX9_drawn 3 (some .int) 5 0 0 (qa_pI Q) 0 0 0 [some (.ref 91), some (.int v1), some (.int v2)] [] 113 μ0
  refine qa_ald0 dX9_drawn_0 ?_
  refine qa_V0I dX9_drawn_1 lm_X9_92 sh_91 rfl (by decide) (by decide) (Nat.le_of_ble_eq_true rfl) (tX9_isTown l hp0  h) (fun r1 μ1 hp1 h => ?_)
  refine qa_if_eq (tgt := 26) dX9_drawn_4 (by decide) (fun c2 => ?_) (fun c2 => ?_)
  · have h := h.1 c2
    refine qa_bipush (v := -2) dX9_drawn_26 (by decide) ?_
    exact qa_iret rfl dX9_drawn_28 ⟨rfl, rfl⟩ ⟨rfl, hp1, _, rfl, h⟩
  · have h := h.2 c2
    refine qa_ild1 dX9_drawn_7 ?_
    refine qa_S1I dX9_drawn_8 lm_X9_449  (by decide) (Nat.le_of_ble_eq_true rfl) (tX9_isSeed l hp1  h) (fun r3 μ3 hp3 h => ?_)
    refine qa_if_eq (tgt := 26) dX9_drawn_11 (by decide) (fun c4 => ?_) (fun c4 => ?_)
    · have h := h.1 c4
      refine qa_bipush (v := -2) dX9_drawn_26 (by decide) ?_
      exact qa_iret rfl dX9_drawn_28 ⟨rfl, rfl⟩ ⟨rfl, hp3, _, rfl, h⟩
    · have h := h.2 c4
      refine qa_ild2 dX9_drawn_14 ?_
      refine qa_i2l dX9_drawn_15 ?_
      refine qa_lconst (v := 0) dX9_drawn_16 (by decide) ?_
      refine qa_ldc2 dX9_drawn_17 lk_X9_86 ?_
      refine qa_S3I dX9_drawn_20 lm_X9_88  (by decide) (Nat.le_of_ble_eq_true rfl) (tX9_in l hp3  h) (fun r5 μ5 hp5 h => ?_)
      refine qa_if_ne (tgt := 29) dX9_drawn_23 (by decide) (fun c6 => ?_) (fun c6 => ?_)
      · have h := h.1 c6
        refine qa_ald0 dX9_drawn_29 ?_
        refine qa_ild1 dX9_drawn_30 ?_
        refine qa_i2l dX9_drawn_31 ?_
        refine qa_V1V dX9_drawn_32 lm_X9_452 sh_91 rfl (by decide) (by decide) (Nat.le_of_ble_eq_true rfl) (tX9_goDrawn l hp5  h) (fun μ7 hp7 h => ?_)
        refine qa_ild2 dX9_drawn_35 ?_
        refine qa_if_ne (tgt := 46) dX9_drawn_36 (by decide) (fun c8 => ?_) (fun c8 => ?_)
        · have h := h.1 c8
          refine qa_ild2 dX9_drawn_46 ?_
          refine qa_iconst (v := 1) dX9_drawn_47 (by decide) ?_
          refine qa_icmp_ne (tgt := 58) dX9_drawn_48 (by decide) (fun c9 => ?_) (fun c9 => ?_)
          · have h := h.1 c9
            refine qa_ald0 dX9_drawn_58 ?_
            refine qa_V0I dX9_drawn_59 lm_X9_339 sh_91 rfl (by decide) (by decide) (Nat.le_of_ble_eq_true rfl) (tX9_rightSet l hp7  h) (fun r10 μ10 hp10 h => ?_)
            exact qa_iret rfl dX9_drawn_62 ⟨rfl, rfl⟩ ⟨rfl, hp10, _, rfl, h⟩
          · have h := h.2 c9
            refine qa_ald0 dX9_drawn_51 ?_
            refine qa_V0I dX9_drawn_52 lm_X9_322 sh_91 rfl (by decide) (by decide) (Nat.le_of_ble_eq_true rfl) (tX9_spanOf l hp7  h) (fun r11 μ11 hp11 h => ?_)
            refine qa_goto (tgt := 62) dX9_drawn_55 (by decide) ?_
            exact qa_iret rfl dX9_drawn_62 ⟨rfl, rfl⟩ ⟨rfl, hp11, _, rfl, h⟩
        · have h := h.2 c8
          refine qa_ald0 dX9_drawn_39 ?_
          refine qa_getI dX9_drawn_40 lf_X9_239 (Or.inl rfl) sh_91 (by decide) ?_
          refine qa_goto (tgt := 62) dX9_drawn_43 (by decide) ?_
          exact qa_iret rfl dX9_drawn_62 ⟨rfl, rfl⟩ ⟨rfl, hp7, _, rfl, h⟩
      · have h := h.2 c6
        refine qa_bipush (v := -2) dX9_drawn_26 (by decide) ?_
        exact qa_iret rfl dX9_drawn_28 ⟨rfl, rfl⟩ ⟨rfl, hp5, _, rfl, h⟩
def wX9_end (n : Nat) (v1 : Int32) (μ0 : qa_M) (Q : Int32 → qa_M → Prop) : Prop := wX9_in n v1.toInt64 (0 : Int64) (μ0.1 91 5).toInt64 μ0 (fun r1 μ1 => ((¬ r1 = 0 → ∀ μ3, μ3 = qa_uI μ1 91 5 v1 → Q v1 μ3) ∧ (r1 = 0 → Q (-1 : Int32) μ1)))
theorem tX9_end (l : Launch) {n : Nat} {v1 : Int32} {μ0 : qa_M} {Q : Int32 → qa_M → Prop} (hp0 : qa_PP μ0.2.2)  (h : wX9_end n v1 μ0 Q) : qa_Met l yX9_end cX9_end 2 (some .int) 1 0 0 [.ref 91, .int v1] 113 μ0 (qa_pI Q) := by
  refine qa_ofG (by decide) (Nat.le_of_ble_eq_true rfl) ?_
  unfold wX9_end at h
  change qa_G l yX9_end cX9_end 2 (some .int) 1 0 0 (qa_pI Q) 0 0 0 [some (.ref 91), some (.int v1)] [] 113 μ0
  refine qa_ild1 dX9_end_0 ?_
  refine qa_i2l dX9_end_1 ?_
  refine qa_lconst (v := 0) dX9_end_2 (by decide) ?_
  refine qa_ald0 dX9_end_3 ?_
  refine qa_getI dX9_end_4 lf_X9_107 (Or.inl rfl) sh_91 (by decide) ?_
  refine qa_i2l dX9_end_7 ?_
  refine qa_S3I dX9_end_8 lm_X9_88  (by decide) (Nat.le_of_ble_eq_true rfl) (tX9_in l hp0  h) (fun r1 μ1 hp1 h => ?_)
  refine qa_if_ne (tgt := 16) dX9_end_11 (by decide) (fun c2 => ?_) (fun c2 => ?_)
  · have h := h.1 c2
    refine qa_ald0 dX9_end_16 ?_
    refine qa_ild1 dX9_end_17 ?_
    refine qa_putI dX9_end_18 lf_X9_107 rfl sh_91 (by decide) rfl ?_
    refine qa_nmM (fun μ3 em3 => ?_)
    have h := h μ3 em3
    have hp3 : qa_PP μ3.2.2 := by rw [em3]; exact hp1
    refine qa_ild1 dX9_end_21 ?_
    exact qa_iret rfl dX9_end_22 ⟨rfl, rfl⟩ ⟨rfl, hp3, _, rfl, h⟩
  · have h := h.2 c2
    refine qa_iconst (v := -1) dX9_end_14 (by decide) ?_
    exact qa_iret rfl dX9_end_15 ⟨rfl, rfl⟩ ⟨rfl, hp1, _, rfl, h⟩
def wX9_good (n : Nat)  (μ0 : qa_M) (Q : Int32 → qa_M → Prop) : Prop := ((¬ (μ0.1 91 12) = 0 → Q (0 : Int32) μ0) ∧ ((μ0.1 91 12) = 0 → Q (1 : Int32) μ0))
theorem tX9_good (l : Launch) {n : Nat}  {μ0 : qa_M} {Q : Int32 → qa_M → Prop} (hp0 : qa_PP μ0.2.2)  (h : wX9_good n  μ0 Q) : qa_Met l yX9_good cX9_good 1 (some .boolean) 0 0 0 [.ref 91] 113 μ0 (qa_pI Q) := by
  refine qa_ofG (by decide) (Nat.le_of_ble_eq_true rfl) ?_
  unfold wX9_good at h
  change qa_G l yX9_good cX9_good 1 (some .boolean) 0 0 0 (qa_pI Q) 0 0 0 [some (.ref 91)] [] 113 μ0
  refine qa_ald0 dX9_good_0 ?_
  refine qa_getI dX9_good_1 lf_X9_144 (Or.inl rfl) sh_91 (by decide) ?_
  refine qa_if_ne (tgt := 11) dX9_good_4 (by decide) (fun c1 => ?_) (fun c1 => ?_)
  · have h := h.1 c1
    refine qa_iconst (v := 0) dX9_good_11 (by decide) ?_
    exact qa_zret rfl rfl dX9_good_12 ⟨rfl, rfl⟩ ⟨rfl, hp0, _, rfl, h⟩
  · have h := h.2 c1
    refine qa_iconst (v := 1) dX9_good_7 (by decide) ?_
    refine qa_goto (tgt := 12) dX9_good_8 (by decide) ?_
    exact qa_zret rfl rfl dX9_good_12 ⟨rfl, rfl⟩ ⟨rfl, hp0, _, rfl, h⟩
def wX9_errs (n : Nat) (v1 : Int32) (μ0 : qa_M) (Q : qa_M → Prop) : Prop := wX9_good n  μ0 (fun r1 μ1 => ((¬ r1 = 0 → ∀ μ3, μ3 = qa_uI μ1 91 12 v1 → ∀ μ4, μ4 = qa_uI μ3 91 13 (μ3.1 91 9) → Q μ4) ∧ (r1 = 0 → Q μ1)))
theorem tX9_errs (l : Launch) {n : Nat} {v1 : Int32} {μ0 : qa_M} {Q : qa_M → Prop} (hp0 : qa_PP μ0.2.2)  (h : wX9_errs n v1 μ0 Q) : qa_Met l yX9_errs cX9_errs 2 none 1 0 0 [.ref 91, .int v1] 113 μ0 (qa_pV Q) := by
  refine qa_ofG (by decide) (Nat.le_of_ble_eq_true rfl) ?_
  unfold wX9_errs at h
  change qa_G l yX9_errs cX9_errs 2 none 1 0 0 (qa_pV Q) 0 0 0 [some (.ref 91), some (.int v1)] [] 113 μ0
  refine qa_ald0 dX9_errs_0 ?_
  refine qa_V0I dX9_errs_1 lm_X9_147 sh_91 rfl (by decide) (by decide) (Nat.le_of_ble_eq_true rfl) (tX9_good l hp0  h) (fun r1 μ1 hp1 h => ?_)
  refine qa_if_ne (tgt := 8) dX9_errs_4 (by decide) (fun c2 => ?_) (fun c2 => ?_)
  · have h := h.1 c2
    refine qa_ald0 dX9_errs_8 ?_
    refine qa_ild1 dX9_errs_9 ?_
    refine qa_putI dX9_errs_10 lf_X9_144 rfl sh_91 (by decide) rfl ?_
    refine qa_nmM (fun μ3 em3 => ?_)
    have h := h μ3 em3
    have hp3 : qa_PP μ3.2.2 := by rw [em3]; exact hp1
    refine qa_ald0 dX9_errs_13 ?_
    refine qa_ald0 dX9_errs_14 ?_
    refine qa_getI dX9_errs_15 lf_X9_120 (Or.inl rfl) sh_91 (by decide) ?_
    refine qa_putI dX9_errs_18 lf_X9_27 rfl sh_91 (by decide) rfl ?_
    refine qa_nmM (fun μ4 em4 => ?_)
    have h := h μ4 em4
    have hp4 : qa_PP μ4.2.2 := by rw [em4]; exact hp3
    exact qa_vret rfl dX9_errs_21 ⟨rfl, rfl⟩ ⟨rfl, hp4, rfl, h⟩
  · have h := h.2 c2
    exact qa_vret rfl dX9_errs_7 ⟨rfl, rfl⟩ ⟨rfl, hp1, rfl, h⟩
def wX9_factorial_4 : Nat → Int32 → Int64 → Int32 → qa_M → (Int64 → qa_M → Prop) → Prop
  | 0, _, _, _, _, _ => False
  | n + 1, v0, v1, v3, μ0, Q => ((v0 < v3 → Q v1 μ0) ∧ (¬ v0 < v3 → ∀ x2, x2 = (v1 * v3.toInt64) → wX9_factorial_4 n v0 x2 (v3 + (1 : Int32)) μ0 Q))
def wX9_factorial (n : Nat) (v0 : Int32) (μ0 : qa_M) (Q : Int64 → qa_M → Prop) : Prop := wX9_factorial_4 n v0 (1 : Int64) (2 : Int32) μ0  Q
theorem tX9_factorial_4 (l : Launch)  {Q : Int64 → qa_M → Prop}  : ∀ (n : Nat) (v0 : Int32) (v1 : Int64) (v3 : Int32) (μ0 : qa_M), qa_PP μ0.2.2 → wX9_factorial_4 n v0 v1 v3 μ0  Q → qa_G l yX9_factorial cX9_factorial 4 (some .long) 0 0 0 (qa_pJ Q) 0 0 4 [some (.int v0), some (.long v1), none, some (.int v3)] [] 113 μ0 := by
  intro n
  induction n with
  | zero =>
    intro v0 v1 v3 μ0 hp0  h
    rw [wX9_factorial_4] at h
    exact h.elim
  | succ n ih =>
    intro v0 v1 v3 μ0 hp0  h
    rw [wX9_factorial_4] at h
    refine qa_ild3 dX9_factorial_4 ?_
    refine qa_ild0 dX9_factorial_5 ?_
    refine qa_icmp_gt (tgt := 20) dX9_factorial_6 (by decide) (fun c1 => ?_) (fun c1 => ?_)
    · have h := h.1 c1
      refine qa_lld1 dX9_factorial_20 ?_
      exact qa_lret rfl dX9_factorial_21 ⟨rfl, rfl⟩ ⟨rfl, hp0, _, rfl, h⟩
    · have h := h.2 c1
      refine qa_lld1 dX9_factorial_9 ?_
      refine qa_ild3 dX9_factorial_10 ?_
      refine qa_i2l dX9_factorial_11 ?_
      refine qa_lmul dX9_factorial_12 ?_
      refine qa_nmL (fun x2 e2 => ?_)
      have h := h x2 e2
      refine qa_lst1 dX9_factorial_13 ?_
      refine qa_inc3 dX9_factorial_14 (qa_io1 _) ?_
      refine qa_goto (tgt := 4) dX9_factorial_17 (by decide) ?_
      refine qa_fgt (L' := [some (.int v0), some (.long x2), none, some (.int (v3 + (1 : Int32)))]) (⟨rfl, ⟨rfl, ⟨rfl, trivial⟩⟩⟩) ?_
      exact ih v0 x2 (v3 + (1 : Int32)) μ0 hp0  h
theorem tX9_factorial (l : Launch) {n : Nat} {v0 : Int32} {μ0 : qa_M} {Q : Int64 → qa_M → Prop} (hp0 : qa_PP μ0.2.2)  (h : wX9_factorial n v0 μ0 Q) : qa_Met l yX9_factorial cX9_factorial 4 (some .long) 0 0 0 [.int v0] 113 μ0 (qa_pJ Q) := by
  refine qa_ofG (by decide) (Nat.le_of_ble_eq_true rfl) ?_
  unfold wX9_factorial at h
  change qa_G l yX9_factorial cX9_factorial 4 (some .long) 0 0 0 (qa_pJ Q) 0 0 0 [some (.int v0), none, none, none] [] 113 μ0
  refine qa_lconst (v := 1) dX9_factorial_0 (by decide) ?_
  refine qa_lst1 dX9_factorial_1 ?_
  refine qa_iconst (v := 2) dX9_factorial_2 (by decide) ?_
  refine qa_ist3 dX9_factorial_3 ?_
  refine qa_fgt (L' := [some (.int v0), some (.long (1 : Int64)), none, some (.int (2 : Int32))]) (⟨rfl, ⟨rfl, ⟨rfl, trivial⟩⟩⟩) ?_
  refine tX9_factorial_4 l  n v0 (1 : Int64) (2 : Int32) μ0 hp0  h
def wX9_fair_55 (n : Nat) (v1 : Int32) (v2 : Int32) (μ0 : qa_M) (K0 : Int32 → Int32 → qa_M → Prop) (Q : Int32 → qa_M → Prop) : Prop := ∀ μ10, μ10 = qa_uI μ0 91 21 ((μ0.1 91 21) + (1 : Int32)) → K0 v1 v2 μ10
def wX9_fair_21 : Nat → Int32 → Int32 → qa_M → (Int32 → qa_M → Prop) → Prop
  | 0, _, _, _, _ => False
  | n + 1, v1, v2, μ0, Q => (((30 : Int32) < (μ0.1 91 21) → Q v1 μ0) ∧ (¬ (30 : Int32) < (μ0.1 91 21) → wX9_goAll n  μ0 (fun μ5 => wX9_spanOf n  μ5 (fun r6 μ6 => ((r6 < v2 → wX9_spanOf n  μ6 (fun r8 μ8 => ∀ x9, x9 = (μ8.1 91 21) → wX9_fair_55 n x9 r8 μ8 (fun v1 v2 μk => wX9_fair_21 n v1 v2 μk Q) Q)) ∧ (¬ r6 < v2 → wX9_fair_55 n v1 v2 μ6 (fun v1 v2 μk => wX9_fair_21 n v1 v2 μk Q) Q))))))
def wX9_fair (n : Nat)  (μ0 : qa_M) (Q : Int32 → qa_M → Prop) : Prop := wX9_asksTown n  μ0 (fun r1 μ1 => ((¬ r1 = 0 → ∀ μ3, μ3 = qa_uI μ1 91 21 (1 : Int32) → wX9_fair_21 n (1 : Int32) (1000000000 : Int32) μ3  Q) ∧ (r1 = 0 → Q (-2 : Int32) μ1)))
theorem tX9_fair_55 (l : Launch) {K0 : Int32 → Int32 → qa_M → Prop} {Q : Int32 → qa_M → Prop} (hK0 : ∀ (v1 : Int32) (v2 : Int32) (μ : qa_M), qa_PP μ.2.2 → K0 v1 v2 μ → qa_G l yX9_fair cX9_fair 3 (some .int) 5 0 0 (qa_pI Q) 0 0 21 [some (.ref 91), some (.int v1), some (.int v2)] [] 113 μ) : ∀ (n : Nat) (v1 : Int32) (v2 : Int32) (μ0 : qa_M), qa_PP μ0.2.2 → wX9_fair_55 n v1 v2 μ0 K0 Q → qa_G l yX9_fair cX9_fair 3 (some .int) 5 0 0 (qa_pI Q) 0 0 55 [some (.ref 91), some (.int v1), some (.int v2)] [] 113 μ0 := by
  intro n
  intro v1 v2 μ0 hp0  h
  unfold wX9_fair_55 at h
  refine qa_ald0 dX9_fair_55 ?_
  refine qa_dup dX9_fair_56 rfl ?_
  refine qa_getI dX9_fair_57 lf_X9_233 (Or.inl rfl) sh_91 (by decide) ?_
  refine qa_iconst (v := 1) dX9_fair_60 (by decide) ?_
  refine qa_iadd dX9_fair_61 ?_
  refine qa_putI dX9_fair_62 lf_X9_233 rfl sh_91 (by decide) rfl ?_
  refine qa_nmM (fun μ10 em10 => ?_)
  have h := h μ10 em10
  have hp10 : qa_PP μ10.2.2 := by rw [em10]; exact hp0
  refine qa_goto (tgt := 21) dX9_fair_65 (by decide) ?_
  refine qa_fgt (L' := [some (.ref 91), some (.int v1), some (.int v2)]) (⟨rfl, ⟨rfl, ⟨rfl, trivial⟩⟩⟩) ?_
  exact hK0 v1 v2 μ10 hp10  h
theorem tX9_fair_21 (l : Launch)  {Q : Int32 → qa_M → Prop}  : ∀ (n : Nat) (v1 : Int32) (v2 : Int32) (μ0 : qa_M), qa_PP μ0.2.2 → wX9_fair_21 n v1 v2 μ0  Q → qa_G l yX9_fair cX9_fair 3 (some .int) 5 0 0 (qa_pI Q) 0 0 21 [some (.ref 91), some (.int v1), some (.int v2)] [] 113 μ0 := by
  intro n
  induction n with
  | zero =>
    intro v1 v2 μ0 hp0  h
    rw [wX9_fair_21] at h
    exact h.elim
  | succ n ih =>
    intro v1 v2 μ0 hp0  h
    rw [wX9_fair_21] at h
    refine qa_ald0 dX9_fair_21 ?_
    refine qa_getI dX9_fair_22 lf_X9_233 (Or.inl rfl) sh_91 (by decide) ?_
    refine qa_bipush (v := 30) dX9_fair_25 (by decide) ?_
    refine qa_icmp_gt (tgt := 68) dX9_fair_27 (by decide) (fun c4 => ?_) (fun c4 => ?_)
    · have h := h.1 c4
      refine qa_ild1 dX9_fair_68 ?_
      exact qa_iret rfl dX9_fair_69 ⟨rfl, rfl⟩ ⟨rfl, hp0, _, rfl, h⟩
    · have h := h.2 c4
      refine qa_ald0 dX9_fair_30 ?_
      refine qa_V0V dX9_fair_31 lm_X9_280 sh_91 rfl (by decide) (by decide) (Nat.le_of_ble_eq_true rfl) (tX9_goAll l hp0  h) (fun μ5 hp5 h => ?_)
      refine qa_ald0 dX9_fair_34 ?_
      refine qa_V0I dX9_fair_35 lm_X9_322 sh_91 rfl (by decide) (by decide) (Nat.le_of_ble_eq_true rfl) (tX9_spanOf l hp5  h) (fun r6 μ6 hp6 h => ?_)
      refine qa_ild2 dX9_fair_38 ?_
      refine qa_icmp_lt (tgt := 45) dX9_fair_39 (by decide) (fun c7 => ?_) (fun c7 => ?_)
      · have h := h.1 c7
        refine qa_ald0 dX9_fair_45 ?_
        refine qa_V0I dX9_fair_46 lm_X9_322 sh_91 rfl (by decide) (by decide) (Nat.le_of_ble_eq_true rfl) (tX9_spanOf l hp6  h) (fun r8 μ8 hp8 h => ?_)
        refine qa_ist2 dX9_fair_49 ?_
        refine qa_ald0 dX9_fair_50 ?_
        refine qa_getI dX9_fair_51 lf_X9_233 (Or.inl rfl) sh_91 (by decide) ?_
        refine qa_nmI (fun x9 e9 => ?_)
        have h := h x9 e9
        refine qa_ist1 dX9_fair_54 ?_
        refine qa_fgt (L' := [some (.ref 91), some (.int x9), some (.int r8)]) (⟨rfl, ⟨rfl, ⟨rfl, trivial⟩⟩⟩) ?_
        refine tX9_fair_55 l ih n x9 r8 μ8 hp8  h
      · have h := h.2 c7
        refine qa_goto (tgt := 55) dX9_fair_42 (by decide) ?_
        refine qa_fgt (L' := [some (.ref 91), some (.int v1), some (.int v2)]) (⟨rfl, ⟨rfl, ⟨rfl, trivial⟩⟩⟩) ?_
        refine tX9_fair_55 l ih n v1 v2 μ6 hp6  h
theorem tX9_fair (l : Launch) {n : Nat}  {μ0 : qa_M} {Q : Int32 → qa_M → Prop} (hp0 : qa_PP μ0.2.2)  (h : wX9_fair n  μ0 Q) : qa_Met l yX9_fair cX9_fair 3 (some .int) 5 0 0 [.ref 91] 113 μ0 (qa_pI Q) := by
  refine qa_ofG (by decide) (Nat.le_of_ble_eq_true rfl) ?_
  unfold wX9_fair at h
  change qa_G l yX9_fair cX9_fair 3 (some .int) 5 0 0 (qa_pI Q) 0 0 0 [some (.ref 91), none, none] [] 113 μ0
  refine qa_ald0 dX9_fair_0 ?_
  refine qa_V0I dX9_fair_1 lm_X9_283 sh_91 rfl (by decide) (by decide) (Nat.le_of_ble_eq_true rfl) (tX9_asksTown l hp0  h) (fun r1 μ1 hp1 h => ?_)
  refine qa_if_ne (tgt := 10) dX9_fair_4 (by decide) (fun c2 => ?_) (fun c2 => ?_)
  · have h := h.1 c2
    refine qa_iconst (v := 1) dX9_fair_10 (by decide) ?_
    refine qa_ist1 dX9_fair_11 ?_
    refine qa_ldcw dX9_fair_12 lk_X9_352 ?_
    refine qa_ist2 dX9_fair_15 ?_
    refine qa_ald0 dX9_fair_16 ?_
    refine qa_iconst (v := 1) dX9_fair_17 (by decide) ?_
    refine qa_putI dX9_fair_18 lf_X9_233 rfl sh_91 (by decide) rfl ?_
    refine qa_nmM (fun μ3 em3 => ?_)
    have h := h μ3 em3
    have hp3 : qa_PP μ3.2.2 := by rw [em3]; exact hp1
    refine qa_fgt (L' := [some (.ref 91), some (.int (1 : Int32)), some (.int (1000000000 : Int32))]) (⟨rfl, ⟨rfl, ⟨rfl, trivial⟩⟩⟩) ?_
    refine tX9_fair_21 l  n (1 : Int32) (1000000000 : Int32) μ3 hp3  h
  · have h := h.2 c2
    refine qa_bipush (v := -2) dX9_fair_7 (by decide) ?_
    exact qa_iret rfl dX9_fair_9 ⟨rfl, rfl⟩ ⟨rfl, hp1, _, rfl, h⟩
def wX9_fault (n : Nat) (v1 : Int32) (μ0 : qa_M) (Q : Int32 → qa_M → Prop) : Prop := ((¬ v1 = 0 → ((¬ v1 = (1 : Int32) → Q (-1 : Int32) μ0) ∧ (v1 = (1 : Int32) → Q (μ0.1 91 13) μ0))) ∧ (v1 = 0 → Q (μ0.1 91 12) μ0))
theorem tX9_fault (l : Launch) {n : Nat} {v1 : Int32} {μ0 : qa_M} {Q : Int32 → qa_M → Prop} (hp0 : qa_PP μ0.2.2)  (h : wX9_fault n v1 μ0 Q) : qa_Met l yX9_fault cX9_fault 2 (some .int) 0 0 0 [.ref 91, .int v1] 113 μ0 (qa_pI Q) := by
  refine qa_ofG (by decide) (Nat.le_of_ble_eq_true rfl) ?_
  unfold wX9_fault at h
  change qa_G l yX9_fault cX9_fault 2 (some .int) 0 0 0 (qa_pI Q) 0 0 0 [some (.ref 91), some (.int v1)] [] 113 μ0
  refine qa_ild1 dX9_fault_0 ?_
  refine qa_if_ne (tgt := 11) dX9_fault_1 (by decide) (fun c1 => ?_) (fun c1 => ?_)
  · have h := h.1 c1
    refine qa_ild1 dX9_fault_11 ?_
    refine qa_iconst (v := 1) dX9_fault_12 (by decide) ?_
    refine qa_icmp_ne (tgt := 23) dX9_fault_13 (by decide) (fun c2 => ?_) (fun c2 => ?_)
    · have h := h.1 c2
      refine qa_iconst (v := -1) dX9_fault_23 (by decide) ?_
      exact qa_iret rfl dX9_fault_24 ⟨rfl, rfl⟩ ⟨rfl, hp0, _, rfl, h⟩
    · have h := h.2 c2
      refine qa_ald0 dX9_fault_16 ?_
      refine qa_getI dX9_fault_17 lf_X9_27 (Or.inl rfl) sh_91 (by decide) ?_
      refine qa_goto (tgt := 24) dX9_fault_20 (by decide) ?_
      exact qa_iret rfl dX9_fault_24 ⟨rfl, rfl⟩ ⟨rfl, hp0, _, rfl, h⟩
  · have h := h.2 c1
    refine qa_ald0 dX9_fault_4 ?_
    refine qa_getI dX9_fault_5 lf_X9_144 (Or.inl rfl) sh_91 (by decide) ?_
    refine qa_goto (tgt := 24) dX9_fault_8 (by decide) ?_
    exact qa_iret rfl dX9_fault_24 ⟨rfl, rfl⟩ ⟨rfl, hp0, _, rfl, h⟩
def wX9_feed_55 : Nat → Int32 → qa_M → (qa_M → Prop) → (Int32 → qa_M → Prop) → Prop
  | 0, _, _, _, _ => False
  | n + 1, v6, μ0, K0, Q => (((20 : Int32) ≤ v6 → K0  μ0) ∧ (¬ (20 : Int32) ≤ v6 → vp_in (v6 / (4 : Int32)) 5 ∧ vp_in ((μ0.1 91 5) + v6) 800 ∧ ∀ μ8, μ8 = qa_uI μ0 95 ((μ0.1 91 5) + v6).toNatClampNeg ((μ0.1 96 (v6 / (4 : Int32)).toNatClampNeg) >>> (((24 : Int32) - ((8 : Int32) * (v6 - v6 / (4 : Int32) * (4 : Int32)))) &&& 31)).toInt8.toInt32.toInt8.toInt32 → wX9_feed_55 n (v6 + (1 : Int32)) μ8 K0 Q))
def wX9_feed (n : Nat) (v1 : Int32) (v2 : Int32) (v3 : Int32) (v4 : Int32) (v5 : Int32) (μ0 : qa_M) (Q : Int32 → qa_M → Prop) : Prop := ((((μ0.1 91 5) + (20 : Int32)) ≤ (800 : Int32) → ∀ μ2, μ2 = qa_uI μ0 96 (0 : Int32).toNatClampNeg v1 → ∀ μ3, μ3 = qa_uI μ2 96 (1 : Int32).toNatClampNeg v2 → ∀ μ4, μ4 = qa_uI μ3 96 (2 : Int32).toNatClampNeg v3 → ∀ μ5, μ5 = qa_uI μ4 96 (3 : Int32).toNatClampNeg v4 → ∀ μ6, μ6 = qa_uI μ5 96 (4 : Int32).toNatClampNeg v5 → wX9_feed_55 n (0 : Int32) μ6 (fun  μ9 => ∀ μ11, μ11 = qa_uI μ9 91 5 ((μ9.1 91 5) + (20 : Int32)) → Q (μ11.1 91 5) μ11) Q) ∧ (¬ ((μ0.1 91 5) + (20 : Int32)) ≤ (800 : Int32) → Q (-1 : Int32) μ0))
theorem tX9_feed_55 (l : Launch) {K0 : qa_M → Prop} {Q : Int32 → qa_M → Prop} (hK0 : ∀  (μ : qa_M), qa_PP μ.2.2 → K0  μ → qa_G l yX9_feed cX9_feed 7 (some .int) 0 0 0 (qa_pI Q) 0 0 101 [some (.ref 91), none, none, none, none, none, none] [] 113 μ) : ∀ (n : Nat) (v6 : Int32) (μ0 : qa_M), qa_PP μ0.2.2 → wX9_feed_55 n v6 μ0 K0 Q → qa_G l yX9_feed cX9_feed 7 (some .int) 0 0 0 (qa_pI Q) 0 0 55 [some (.ref 91), none, none, none, none, none, some (.int v6)] [] 113 μ0 := by
  intro n
  induction n with
  | zero =>
    intro v6 μ0 hp0  h
    rw [wX9_feed_55] at h
    exact h.elim
  | succ n ih =>
    intro v6 μ0 hp0  h
    rw [wX9_feed_55] at h
    refine qa_ild6 dX9_feed_55 ?_
    refine qa_bipush (v := 20) dX9_feed_57 (by decide) ?_
    refine qa_icmp_ge (tgt := 101) dX9_feed_59 (by decide) (fun c7 => ?_) (fun c7 => ?_)
    · have h := h.1 c7
      refine qa_fgt (L' := [some (.ref 91), none, none, none, none, none, none]) (⟨rfl, trivial⟩) ?_
      exact hK0  μ0 hp0  h
    · have h := h.2 c7
      refine qa_ald0 dX9_feed_62 ?_
      refine qa_getR dX9_feed_63 lf_X9_20 rfl sh_91 (by decide) (pp_91_4 hp0) (by decide) ?_
      refine qa_ald0 dX9_feed_66 ?_
      refine qa_getI dX9_feed_67 lf_X9_107 (Or.inl rfl) sh_91 (by decide) ?_
      refine qa_ild6 dX9_feed_70 ?_
      refine qa_iadd dX9_feed_72 ?_
      refine qa_ald0 dX9_feed_73 ?_
      refine qa_getR dX9_feed_74 lf_X9_24 rfl sh_91 (by decide) (pp_91_6 hp0) (by decide) ?_
      refine qa_ild6 dX9_feed_77 ?_
      refine qa_iconst (v := 4) dX9_feed_79 (by decide) ?_
      refine qa_idiv dX9_feed_80 (by decide) ?_
      refine qa_iald dX9_feed_81 sh_96 (by decide) h.1 ?_
      have h := h.2
      refine qa_bipush (v := 24) dX9_feed_82 (by decide) ?_
      refine qa_bipush (v := 8) dX9_feed_84 (by decide) ?_
      refine qa_ild6 dX9_feed_86 ?_
      refine qa_iconst (v := 4) dX9_feed_88 (by decide) ?_
      refine qa_irem dX9_feed_89 (by decide) ?_
      refine qa_imul dX9_feed_90 ?_
      refine qa_isub dX9_feed_91 ?_
      refine qa_ishr dX9_feed_92 ?_
      refine qa_i2b dX9_feed_93 ?_
      refine qa_bast dX9_feed_94 sh_95 (by decide) h.1 ?_
      have h := h.2
      refine qa_nmM (fun μ8 em8 => ?_)
      have h := h μ8 em8
      have hp8 : qa_PP μ8.2.2 := by rw [em8]; exact hp0
      refine qa_inc6 dX9_feed_95 (qa_io1 _) ?_
      refine qa_goto (tgt := 55) dX9_feed_98 (by decide) ?_
      refine qa_fgt (L' := [some (.ref 91), none, none, none, none, none, some (.int (v6 + (1 : Int32)))]) (⟨rfl, ⟨rfl, trivial⟩⟩) ?_
      exact ih (v6 + (1 : Int32)) μ8 hp8  h
theorem tX9_feed (l : Launch) {n : Nat} {v1 : Int32} {v2 : Int32} {v3 : Int32} {v4 : Int32} {v5 : Int32} {μ0 : qa_M} {Q : Int32 → qa_M → Prop} (hp0 : qa_PP μ0.2.2)  (h : wX9_feed n v1 v2 v3 v4 v5 μ0 Q) : qa_Met l yX9_feed cX9_feed 7 (some .int) 0 0 0 [.ref 91, .int v1, .int v2, .int v3, .int v4, .int v5] 113 μ0 (qa_pI Q) := by
  refine qa_ofG (by decide) (Nat.le_of_ble_eq_true rfl) ?_
  unfold wX9_feed at h
  change qa_G l yX9_feed cX9_feed 7 (some .int) 0 0 0 (qa_pI Q) 0 0 0 [some (.ref 91), some (.int v1), some (.int v2), some (.int v3), some (.int v4), some (.int v5), none] [] 113 μ0
  refine qa_ald0 dX9_feed_0 ?_
  refine qa_getI dX9_feed_1 lf_X9_107 (Or.inl rfl) sh_91 (by decide) ?_
  refine qa_bipush (v := 20) dX9_feed_4 (by decide) ?_
  refine qa_iadd dX9_feed_6 ?_
  refine qa_sipush (v := 800) dX9_feed_7 (by decide) ?_
  refine qa_icmp_le (tgt := 15) dX9_feed_10 (by decide) (fun c1 => ?_) (fun c1 => ?_)
  · have h := h.1 c1
    refine qa_ald0 dX9_feed_15 ?_
    refine qa_getR dX9_feed_16 lf_X9_24 rfl sh_91 (by decide) (pp_91_6 hp0) (by decide) ?_
    refine qa_iconst (v := 0) dX9_feed_19 (by decide) ?_
    refine qa_ild1 dX9_feed_20 ?_
    refine qa_iast dX9_feed_21 sh_96 (by decide) (by unfold vp_in; decide) ?_
    refine qa_nmM (fun μ2 em2 => ?_)
    have h := h μ2 em2
    have hp2 : qa_PP μ2.2.2 := by rw [em2]; exact hp0
    refine qa_ald0 dX9_feed_22 ?_
    refine qa_getR dX9_feed_23 lf_X9_24 rfl sh_91 (by decide) (pp_91_6 hp2) (by decide) ?_
    refine qa_iconst (v := 1) dX9_feed_26 (by decide) ?_
    refine qa_ild2 dX9_feed_27 ?_
    refine qa_iast dX9_feed_28 sh_96 (by decide) (by unfold vp_in; decide) ?_
    refine qa_nmM (fun μ3 em3 => ?_)
    have h := h μ3 em3
    have hp3 : qa_PP μ3.2.2 := by rw [em3]; exact hp2
    refine qa_ald0 dX9_feed_29 ?_
    refine qa_getR dX9_feed_30 lf_X9_24 rfl sh_91 (by decide) (pp_91_6 hp3) (by decide) ?_
    refine qa_iconst (v := 2) dX9_feed_33 (by decide) ?_
    refine qa_ild3 dX9_feed_34 ?_
    refine qa_iast dX9_feed_35 sh_96 (by decide) (by unfold vp_in; decide) ?_
    refine qa_nmM (fun μ4 em4 => ?_)
    have h := h μ4 em4
    have hp4 : qa_PP μ4.2.2 := by rw [em4]; exact hp3
    refine qa_ald0 dX9_feed_36 ?_
    refine qa_getR dX9_feed_37 lf_X9_24 rfl sh_91 (by decide) (pp_91_6 hp4) (by decide) ?_
    refine qa_iconst (v := 3) dX9_feed_40 (by decide) ?_
    refine qa_ild4 dX9_feed_41 ?_
    refine qa_iast dX9_feed_43 sh_96 (by decide) (by unfold vp_in; decide) ?_
    refine qa_nmM (fun μ5 em5 => ?_)
    have h := h μ5 em5
    have hp5 : qa_PP μ5.2.2 := by rw [em5]; exact hp4
    refine qa_ald0 dX9_feed_44 ?_
    refine qa_getR dX9_feed_45 lf_X9_24 rfl sh_91 (by decide) (pp_91_6 hp5) (by decide) ?_
    refine qa_iconst (v := 4) dX9_feed_48 (by decide) ?_
    refine qa_ild5 dX9_feed_49 ?_
    refine qa_iast dX9_feed_51 sh_96 (by decide) (by unfold vp_in; decide) ?_
    refine qa_nmM (fun μ6 em6 => ?_)
    have h := h μ6 em6
    have hp6 : qa_PP μ6.2.2 := by rw [em6]; exact hp5
    refine qa_iconst (v := 0) dX9_feed_52 (by decide) ?_
    refine qa_ist6 dX9_feed_53 ?_
    refine qa_fgt (L' := [some (.ref 91), none, none, none, none, none, some (.int (0 : Int32))]) (⟨rfl, ⟨rfl, trivial⟩⟩) ?_
    refine tX9_feed_55 l ?_ n (0 : Int32) μ6 hp6  h
    · intro  μ9 hp9  h
      refine qa_ald0 dX9_feed_101 ?_
      refine qa_dup dX9_feed_102 rfl ?_
      refine qa_getI dX9_feed_103 lf_X9_107 (Or.inl rfl) sh_91 (by decide) ?_
      refine qa_bipush (v := 20) dX9_feed_106 (by decide) ?_
      refine qa_iadd dX9_feed_108 ?_
      refine qa_putI dX9_feed_109 lf_X9_107 rfl sh_91 (by decide) rfl ?_
      refine qa_nmM (fun μ11 em11 => ?_)
      have h := h μ11 em11
      have hp11 : qa_PP μ11.2.2 := by rw [em11]; exact hp9
      refine qa_ald0 dX9_feed_112 ?_
      refine qa_getI dX9_feed_113 lf_X9_107 (Or.inl rfl) sh_91 (by decide) ?_
      exact qa_iret rfl dX9_feed_116 ⟨rfl, rfl⟩ ⟨rfl, hp11, _, rfl, h⟩
  · have h := h.2 c1
    refine qa_iconst (v := -1) dX9_feed_13 (by decide) ?_
    exact qa_iret rfl dX9_feed_14 ⟨rfl, rfl⟩ ⟨rfl, hp0, _, rfl, h⟩
def wX9_force (n : Nat) (v1 : Int32) (μ0 : qa_M) (Q : Int32 → qa_M → Prop) : Prop := wX9_asksAhead n v1 μ0 (fun r1 μ1 => ((r1 = 0 → Q (-10000 : Int32) μ1) ∧ (¬ r1 = 0 → vp_in v1 20 ∧ Q (μ1.1 103 v1.toNatClampNeg) μ1)))
theorem tX9_force (l : Launch) {n : Nat} {v1 : Int32} {μ0 : qa_M} {Q : Int32 → qa_M → Prop} (hp0 : qa_PP μ0.2.2)  (h : wX9_force n v1 μ0 Q) : qa_Met l yX9_force cX9_force 2 (some .int) 5 0 0 [.ref 91, .int v1] 113 μ0 (qa_pI Q) := by
  refine qa_ofG (by decide) (Nat.le_of_ble_eq_true rfl) ?_
  unfold wX9_force at h
  change qa_G l yX9_force cX9_force 2 (some .int) 5 0 0 (qa_pI Q) 0 0 0 [some (.ref 91), some (.int v1)] [] 113 μ0
  refine qa_ald0 dX9_force_0 ?_
  refine qa_ild1 dX9_force_1 ?_
  refine qa_V1I dX9_force_2 lm_X9_298 sh_91 rfl (by decide) (by decide) (Nat.le_of_ble_eq_true rfl) (tX9_asksAhead l hp0  h) (fun r1 μ1 hp1 h => ?_)
  refine qa_if_eq (tgt := 17) dX9_force_5 (by decide) (fun c2 => ?_) (fun c2 => ?_)
  · have h := h.1 c2
    refine qa_sipush (v := -10000) dX9_force_17 (by decide) ?_
    exact qa_iret rfl dX9_force_20 ⟨rfl, rfl⟩ ⟨rfl, hp1, _, rfl, h⟩
  · have h := h.2 c2
    refine qa_ald0 dX9_force_8 ?_
    refine qa_getR dX9_force_9 lf_X9_49 rfl sh_91 (by decide) (pp_91_27 hp1) (by decide) ?_
    refine qa_ild1 dX9_force_12 ?_
    refine qa_iald dX9_force_13 sh_103 (by decide) h.1 ?_
    have h := h.2
    refine qa_goto (tgt := 20) dX9_force_14 (by decide) ?_
    exact qa_iret rfl dX9_force_20 ⟨rfl, rfl⟩ ⟨rfl, hp1, _, rfl, h⟩
def wX9_gateOf_70 (n : Nat) (v1 : Int32) (v2 : Int32) (v3 : Int32) (v5 : Int32) (s0 : Int32) (μ0 : qa_M) (K0 : Int32 → Int32 → Int32 → Int32 → Int32 → qa_M → Prop) (Q : Int32 → qa_M → Prop) : Prop := K0 v1 v2 v3 s0 (v5 + (2 : Int32)) μ0
def wX9_gateOf_69 (n : Nat) (v1 : Int32) (v2 : Int32) (v3 : Int32) (v5 : Int32) (μ0 : qa_M) (K0 : Int32 → Int32 → Int32 → Int32 → Int32 → qa_M → Prop) (Q : Int32 → qa_M → Prop) : Prop := wX9_gateOf_70 n v1 v2 v3 v5 (0 : Int32) μ0 K0 Q
def wX9_gateOf_22 : Nat → Int32 → Int32 → Int32 → Int32 → Int32 → qa_M → (Int32 → Int32 → Int32 → Int32 → qa_M → Prop) → (Int32 → qa_M → Prop) → Prop
  | 0, _, _, _, _, _, _, _, _ => False
  | n + 1, v1, v2, v3, v4, v5, μ0, K0, Q => vp_in v1 4 ∧ (((μ0.1 110 v1.toNatClampNeg) ≤ v5 → K0 v1 v2 v3 v4 μ0) ∧ (¬ (μ0.1 110 v1.toNatClampNeg) ≤ v5 → ((v4 = 0 → wX9_gateOf_69 n v1 v2 v3 v5 μ0 (fun v1 v2 v3 v4 v5 μk => wX9_gateOf_22 n v1 v2 v3 v4 v5 μk K0 Q) Q) ∧ (¬ v4 = 0 → wX9_numberAt n v1 v5 μ0 (fun r6 μ6 => wX9_placeOf n v3 r6.toInt32 μ6 (fun r7 μ7 => wX9_numberAt n v1 (v5 + (1 : Int32)) μ7 (fun r8 μ8 => ((¬ (lg_cmp r7.toInt64 r8) = 0 → wX9_gateOf_69 n v1 v2 v3 v5 μ8 (fun v1 v2 v3 v4 v5 μk => wX9_gateOf_22 n v1 v2 v3 v4 v5 μk K0 Q) Q) ∧ ((lg_cmp r7.toInt64 r8) = 0 → wX9_gateOf_70 n v1 v2 v3 v5 (1 : Int32) μ8 (fun v1 v2 v3 v4 v5 μk => wX9_gateOf_22 n v1 v2 v3 v4 v5 μk K0 Q) Q)))))))))
def wX9_gateOf_91 (n : Nat) (v1 : Int32) (v3 : Int32) (s0 : Int32) (s1 : Int32) (μ0 : qa_M) (K0 : Int32 → Int32 → Int32 → qa_M → Prop) (Q : Int32 → qa_M → Prop) : Prop := ∀ x13, x13 = (s1 ||| s0) → K0 v1 x13 (v3 + (1 : Int32)) μ0
def wX9_gateOf_8 : Nat → Int32 → Int32 → Int32 → qa_M → (Int32 → qa_M → Prop) → Prop
  | 0, _, _, _, _, _ => False
  | n + 1, v1, v2, v3, μ0, Q => wX9_houses n  μ0 (fun r2 μ2 => ((r2 ≤ v3 → Q v2 μ2) ∧ (¬ r2 ≤ v3 → wX9_gateOf_22 n v1 v2 v3 (1 : Int32) (0 : Int32) μ2 (fun v1_11 v2_11 v3_11 v4_11 μ10 => ((v4_11 = 0 → wX9_gateOf_91 n v1_11 v3_11 (0 : Int32) v2_11 μ10 (fun v1 v2 v3 μk => wX9_gateOf_8 n v1 v2 v3 μk Q) Q) ∧ (¬ v4_11 = 0 → wX9_gateOf_91 n v1_11 v3_11 ((1 : Int32) <<< (v3_11 &&& 31)) v2_11 μ10 (fun v1 v2 v3 μk => wX9_gateOf_8 n v1 v2 v3 μk Q) Q))) Q)))
def wX9_gateOf (n : Nat) (v1 : Int32) (μ0 : qa_M) (Q : Int32 → qa_M → Prop) : Prop := wX9_goAll n  μ0 (fun μ1 => wX9_gateOf_8 n v1 (0 : Int32) (0 : Int32) μ1  Q)
theorem tX9_gateOf_70 (l : Launch) {K0 : Int32 → Int32 → Int32 → Int32 → Int32 → qa_M → Prop} {Q : Int32 → qa_M → Prop} (hK0 : ∀ (v1 : Int32) (v2 : Int32) (v3 : Int32) (v4 : Int32) (v5 : Int32) (μ : qa_M), qa_PP μ.2.2 → K0 v1 v2 v3 v4 v5 μ → qa_G l yX9_gateOf cX9_gateOf 6 (some .int) 3 0 0 (qa_pI Q) 0 0 22 [some (.ref 91), some (.int v1), some (.int v2), some (.int v3), some (.int v4), some (.int v5)] [] 113 μ) : ∀ (n : Nat) (v1 : Int32) (v2 : Int32) (v3 : Int32) (v5 : Int32) (s0 : Int32) (μ0 : qa_M), qa_PP μ0.2.2 → wX9_gateOf_70 n v1 v2 v3 v5 s0 μ0 K0 Q → qa_G l yX9_gateOf cX9_gateOf 6 (some .int) 3 0 0 (qa_pI Q) 0 0 70 [some (.ref 91), some (.int v1), some (.int v2), some (.int v3), none, some (.int v5)] [.int s0] 113 μ0 := by
  intro n
  intro v1 v2 v3 v5 s0 μ0 hp0  h
  unfold wX9_gateOf_70 at h
  refine qa_ist4 dX9_gateOf_70 ?_
  refine qa_inc5 dX9_gateOf_72 (qa_io2 _) ?_
  refine qa_goto (tgt := 22) dX9_gateOf_75 (by decide) ?_
  refine qa_fgt (L' := [some (.ref 91), some (.int v1), some (.int v2), some (.int v3), some (.int s0), some (.int (v5 + (2 : Int32)))]) (⟨rfl, ⟨rfl, ⟨rfl, ⟨rfl, ⟨rfl, ⟨rfl, trivial⟩⟩⟩⟩⟩⟩) ?_
  exact hK0 v1 v2 v3 s0 (v5 + (2 : Int32)) μ0 hp0  h
theorem tX9_gateOf_69 (l : Launch) {K0 : Int32 → Int32 → Int32 → Int32 → Int32 → qa_M → Prop} {Q : Int32 → qa_M → Prop} (hK0 : ∀ (v1 : Int32) (v2 : Int32) (v3 : Int32) (v4 : Int32) (v5 : Int32) (μ : qa_M), qa_PP μ.2.2 → K0 v1 v2 v3 v4 v5 μ → qa_G l yX9_gateOf cX9_gateOf 6 (some .int) 3 0 0 (qa_pI Q) 0 0 22 [some (.ref 91), some (.int v1), some (.int v2), some (.int v3), some (.int v4), some (.int v5)] [] 113 μ) : ∀ (n : Nat) (v1 : Int32) (v2 : Int32) (v3 : Int32) (v5 : Int32) (μ0 : qa_M), qa_PP μ0.2.2 → wX9_gateOf_69 n v1 v2 v3 v5 μ0 K0 Q → qa_G l yX9_gateOf cX9_gateOf 6 (some .int) 3 0 0 (qa_pI Q) 0 0 69 [some (.ref 91), some (.int v1), some (.int v2), some (.int v3), none, some (.int v5)] [] 113 μ0 := by
  intro n
  intro v1 v2 v3 v5 μ0 hp0  h
  unfold wX9_gateOf_69 at h
  refine qa_iconst (v := 0) dX9_gateOf_69 (by decide) ?_
  refine qa_fgt (L' := [some (.ref 91), some (.int v1), some (.int v2), some (.int v3), none, some (.int v5)]) (⟨rfl, ⟨rfl, ⟨rfl, ⟨rfl, ⟨rfl, trivial⟩⟩⟩⟩⟩) ?_
  refine tX9_gateOf_70 l hK0 n v1 v2 v3 v5 (0 : Int32) μ0 hp0  h
theorem tX9_gateOf_22 (l : Launch) {K0 : Int32 → Int32 → Int32 → Int32 → qa_M → Prop} {Q : Int32 → qa_M → Prop} (hK0 : ∀ (v1 : Int32) (v2 : Int32) (v3 : Int32) (v4 : Int32) (μ : qa_M), qa_PP μ.2.2 → K0 v1 v2 v3 v4 μ → qa_G l yX9_gateOf cX9_gateOf 6 (some .int) 3 0 0 (qa_pI Q) 0 0 78 [some (.ref 91), some (.int v1), some (.int v2), some (.int v3), some (.int v4), none] [] 113 μ) : ∀ (n : Nat) (v1 : Int32) (v2 : Int32) (v3 : Int32) (v4 : Int32) (v5 : Int32) (μ0 : qa_M), qa_PP μ0.2.2 → wX9_gateOf_22 n v1 v2 v3 v4 v5 μ0 K0 Q → qa_G l yX9_gateOf cX9_gateOf 6 (some .int) 3 0 0 (qa_pI Q) 0 0 22 [some (.ref 91), some (.int v1), some (.int v2), some (.int v3), some (.int v4), some (.int v5)] [] 113 μ0 := by
  intro n
  induction n with
  | zero =>
    intro v1 v2 v3 v4 v5 μ0 hp0  h
    rw [wX9_gateOf_22] at h
    exact h.elim
  | succ n ih =>
    intro v1 v2 v3 v4 v5 μ0 hp0  h
    rw [wX9_gateOf_22] at h
    refine qa_ild5 dX9_gateOf_22 ?_
    refine qa_ald0 dX9_gateOf_24 ?_
    refine qa_getR dX9_gateOf_25 lf_X9_70 rfl sh_91 (by decide) (pp_91_41 hp0) (by decide) ?_
    refine qa_ild1 dX9_gateOf_28 ?_
    refine qa_iald dX9_gateOf_29 sh_110 (by decide) h.1 ?_
    have h := h.2
    refine qa_icmp_ge (tgt := 78) dX9_gateOf_30 (by decide) (fun c4 => ?_) (fun c4 => ?_)
    · have h := h.1 c4
      refine qa_fgt (L' := [some (.ref 91), some (.int v1), some (.int v2), some (.int v3), some (.int v4), none]) (⟨rfl, ⟨rfl, ⟨rfl, ⟨rfl, ⟨rfl, trivial⟩⟩⟩⟩⟩) ?_
      exact hK0 v1 v2 v3 v4 μ0 hp0  h
    · have h := h.2 c4
      refine qa_ild4 dX9_gateOf_33 ?_
      refine qa_if_eq (tgt := 69) dX9_gateOf_35 (by decide) (fun c5 => ?_) (fun c5 => ?_)
      · have h := h.1 c5
        refine qa_fgt (L' := [some (.ref 91), some (.int v1), some (.int v2), some (.int v3), none, some (.int v5)]) (⟨rfl, ⟨rfl, ⟨rfl, ⟨rfl, ⟨rfl, trivial⟩⟩⟩⟩⟩) ?_
        refine tX9_gateOf_69 l ih n v1 v2 v3 v5 μ0 hp0  h
      · have h := h.2 c5
        refine qa_ald0 dX9_gateOf_38 ?_
        refine qa_ild3 dX9_gateOf_39 ?_
        refine qa_ald0 dX9_gateOf_40 ?_
        refine qa_ild1 dX9_gateOf_41 ?_
        refine qa_ild5 dX9_gateOf_42 ?_
        refine qa_V2J dX9_gateOf_44 lm_X9_370 sh_91 rfl (by decide) (by decide) (Nat.le_of_ble_eq_true rfl) (tX9_numberAt l hp0  h) (fun r6 μ6 hp6 h => ?_)
        refine qa_l2i dX9_gateOf_47 ?_
        refine qa_V2I dX9_gateOf_48 lm_X9_261 sh_91 rfl (by decide) (by decide) (Nat.le_of_ble_eq_true rfl) (tX9_placeOf l hp6  h) (fun r7 μ7 hp7 h => ?_)
        refine qa_i2l dX9_gateOf_51 ?_
        refine qa_ald0 dX9_gateOf_52 ?_
        refine qa_ild1 dX9_gateOf_53 ?_
        refine qa_ild5 dX9_gateOf_54 ?_
        refine qa_iconst (v := 1) dX9_gateOf_56 (by decide) ?_
        refine qa_iadd dX9_gateOf_57 ?_
        refine qa_V2J dX9_gateOf_58 lm_X9_370 sh_91 rfl (by decide) (by decide) (Nat.le_of_ble_eq_true rfl) (tX9_numberAt l hp7  h) (fun r8 μ8 hp8 h => ?_)
        refine qa_lcmp dX9_gateOf_61 ?_
        refine qa_if_ne (tgt := 69) dX9_gateOf_62 (by decide) (fun c9 => ?_) (fun c9 => ?_)
        · have h := h.1 c9
          refine qa_fgt (L' := [some (.ref 91), some (.int v1), some (.int v2), some (.int v3), none, some (.int v5)]) (⟨rfl, ⟨rfl, ⟨rfl, ⟨rfl, ⟨rfl, trivial⟩⟩⟩⟩⟩) ?_
          refine tX9_gateOf_69 l ih n v1 v2 v3 v5 μ8 hp8  h
        · have h := h.2 c9
          refine qa_iconst (v := 1) dX9_gateOf_65 (by decide) ?_
          refine qa_goto (tgt := 70) dX9_gateOf_66 (by decide) ?_
          refine qa_fgt (L' := [some (.ref 91), some (.int v1), some (.int v2), some (.int v3), none, some (.int v5)]) (⟨rfl, ⟨rfl, ⟨rfl, ⟨rfl, ⟨rfl, trivial⟩⟩⟩⟩⟩) ?_
          refine tX9_gateOf_70 l ih n v1 v2 v3 v5 (1 : Int32) μ8 hp8  h
theorem tX9_gateOf_91 (l : Launch) {K0 : Int32 → Int32 → Int32 → qa_M → Prop} {Q : Int32 → qa_M → Prop} (hK0 : ∀ (v1 : Int32) (v2 : Int32) (v3 : Int32) (μ : qa_M), qa_PP μ.2.2 → K0 v1 v2 v3 μ → qa_G l yX9_gateOf cX9_gateOf 6 (some .int) 3 0 0 (qa_pI Q) 0 0 8 [some (.ref 91), some (.int v1), some (.int v2), some (.int v3), none, none] [] 113 μ) : ∀ (n : Nat) (v1 : Int32) (v3 : Int32) (s0 : Int32) (s1 : Int32) (μ0 : qa_M), qa_PP μ0.2.2 → wX9_gateOf_91 n v1 v3 s0 s1 μ0 K0 Q → qa_G l yX9_gateOf cX9_gateOf 6 (some .int) 3 0 0 (qa_pI Q) 0 0 91 [some (.ref 91), some (.int v1), none, some (.int v3), none, none] [.int s0, .int s1] 113 μ0 := by
  intro n
  intro v1 v3 s0 s1 μ0 hp0  h
  unfold wX9_gateOf_91 at h
  refine qa_ior dX9_gateOf_91 ?_
  refine qa_nmI (fun x13 e13 => ?_)
  have h := h x13 e13
  refine qa_ist2 dX9_gateOf_92 ?_
  refine qa_inc3 dX9_gateOf_93 (qa_io1 _) ?_
  refine qa_goto (tgt := 8) dX9_gateOf_96 (by decide) ?_
  refine qa_fgt (L' := [some (.ref 91), some (.int v1), some (.int x13), some (.int (v3 + (1 : Int32))), none, none]) (⟨rfl, ⟨rfl, ⟨rfl, ⟨rfl, trivial⟩⟩⟩⟩) ?_
  exact hK0 v1 x13 (v3 + (1 : Int32)) μ0 hp0  h
theorem tX9_gateOf_8 (l : Launch)  {Q : Int32 → qa_M → Prop}  : ∀ (n : Nat) (v1 : Int32) (v2 : Int32) (v3 : Int32) (μ0 : qa_M), qa_PP μ0.2.2 → wX9_gateOf_8 n v1 v2 v3 μ0  Q → qa_G l yX9_gateOf cX9_gateOf 6 (some .int) 3 0 0 (qa_pI Q) 0 0 8 [some (.ref 91), some (.int v1), some (.int v2), some (.int v3), none, none] [] 113 μ0 := by
  intro n
  induction n with
  | zero =>
    intro v1 v2 v3 μ0 hp0  h
    rw [wX9_gateOf_8] at h
    exact h.elim
  | succ n ih =>
    intro v1 v2 v3 μ0 hp0  h
    rw [wX9_gateOf_8] at h
    refine qa_ild3 dX9_gateOf_8 ?_
    refine qa_ald0 dX9_gateOf_9 ?_
    refine qa_V0I dX9_gateOf_10 lm_X9_100 sh_91 rfl (by decide) (by decide) (Nat.le_of_ble_eq_true rfl) (tX9_houses l hp0  h) (fun r2 μ2 hp2 h => ?_)
    refine qa_icmp_ge (tgt := 99) dX9_gateOf_13 (by decide) (fun c3 => ?_) (fun c3 => ?_)
    · have h := h.1 c3
      refine qa_ild2 dX9_gateOf_99 ?_
      exact qa_iret rfl dX9_gateOf_100 ⟨rfl, rfl⟩ ⟨rfl, hp2, _, rfl, h⟩
    · have h := h.2 c3
      refine qa_iconst (v := 1) dX9_gateOf_16 (by decide) ?_
      refine qa_ist4 dX9_gateOf_17 ?_
      refine qa_iconst (v := 0) dX9_gateOf_19 (by decide) ?_
      refine qa_ist5 dX9_gateOf_20 ?_
      refine qa_fgt (L' := [some (.ref 91), some (.int v1), some (.int v2), some (.int v3), some (.int (1 : Int32)), some (.int (0 : Int32))]) (⟨rfl, ⟨rfl, ⟨rfl, ⟨rfl, ⟨rfl, ⟨rfl, trivial⟩⟩⟩⟩⟩⟩) ?_
      refine tX9_gateOf_22 l ?_ n v1 v2 v3 (1 : Int32) (0 : Int32) μ2 hp2  h
      · intro v1_11 v2_11 v3_11 v4_11 μ10 hp10  h
        refine qa_ild2 dX9_gateOf_78 ?_
        refine qa_ild4 dX9_gateOf_79 ?_
        refine qa_if_eq (tgt := 90) dX9_gateOf_81 (by decide) (fun c12 => ?_) (fun c12 => ?_)
        · have h := h.1 c12
          refine qa_iconst (v := 0) dX9_gateOf_90 (by decide) ?_
          refine qa_fgt (L' := [some (.ref 91), some (.int v1_11), none, some (.int v3_11), none, none]) (⟨rfl, ⟨rfl, ⟨rfl, trivial⟩⟩⟩) ?_
          refine tX9_gateOf_91 l ih n v1_11 v3_11 (0 : Int32) v2_11 μ10 hp10  h
        · have h := h.2 c12
          refine qa_iconst (v := 1) dX9_gateOf_84 (by decide) ?_
          refine qa_ild3 dX9_gateOf_85 ?_
          refine qa_ishl dX9_gateOf_86 ?_
          refine qa_goto (tgt := 91) dX9_gateOf_87 (by decide) ?_
          refine qa_fgt (L' := [some (.ref 91), some (.int v1_11), none, some (.int v3_11), none, none]) (⟨rfl, ⟨rfl, ⟨rfl, trivial⟩⟩⟩) ?_
          refine tX9_gateOf_91 l ih n v1_11 v3_11 ((1 : Int32) <<< (v3_11 &&& 31)) v2_11 μ10 hp10  h
theorem tX9_gateOf (l : Launch) {n : Nat} {v1 : Int32} {μ0 : qa_M} {Q : Int32 → qa_M → Prop} (hp0 : qa_PP μ0.2.2)  (h : wX9_gateOf n v1 μ0 Q) : qa_Met l yX9_gateOf cX9_gateOf 6 (some .int) 3 0 0 [.ref 91, .int v1] 113 μ0 (qa_pI Q) := by
  refine qa_ofG (by decide) (Nat.le_of_ble_eq_true rfl) ?_
  unfold wX9_gateOf at h
  change qa_G l yX9_gateOf cX9_gateOf 6 (some .int) 3 0 0 (qa_pI Q) 0 0 0 [some (.ref 91), some (.int v1), none, none, none, none] [] 113 μ0
  refine qa_ald0 dX9_gateOf_0 ?_
  refine qa_V0V dX9_gateOf_1 lm_X9_280 sh_91 rfl (by decide) (by decide) (Nat.le_of_ble_eq_true rfl) (tX9_goAll l hp0  h) (fun μ1 hp1 h => ?_)
  refine qa_iconst (v := 0) dX9_gateOf_4 (by decide) ?_
  refine qa_ist2 dX9_gateOf_5 ?_
  refine qa_iconst (v := 0) dX9_gateOf_6 (by decide) ?_
  refine qa_ist3 dX9_gateOf_7 ?_
  refine qa_fgt (L' := [some (.ref 91), some (.int v1), some (.int (0 : Int32)), some (.int (0 : Int32)), none, none]) (⟨rfl, ⟨rfl, ⟨rfl, ⟨rfl, trivial⟩⟩⟩⟩) ?_
  refine tX9_gateOf_8 l  n v1 (0 : Int32) (0 : Int32) μ1 hp1  h
def wX9_gate (n : Nat) (v1 : Int32) (μ0 : qa_M) (Q : Int32 → qa_M → Prop) : Prop := wX9_askGate n v1 μ0 (fun r1 μ1 => ((0 ≤ r1 → wX9_gateOf n v1 μ1 (fun r3 μ3 => Q r3 μ3)) ∧ (¬ 0 ≤ r1 → Q r1 μ1)))
theorem tX9_gate (l : Launch) {n : Nat} {v1 : Int32} {μ0 : qa_M} {Q : Int32 → qa_M → Prop} (hp0 : qa_PP μ0.2.2)  (h : wX9_gate n v1 μ0 Q) : qa_Met l yX9_gate cX9_gate 3 (some .int) 4 0 0 [.ref 91, .int v1] 113 μ0 (qa_pI Q) := by
  refine qa_ofG (by decide) (Nat.le_of_ble_eq_true rfl) ?_
  unfold wX9_gate at h
  change qa_G l yX9_gate cX9_gate 3 (some .int) 4 0 0 (qa_pI Q) 0 0 0 [some (.ref 91), some (.int v1), none] [] 113 μ0
  refine qa_ald0 dX9_gate_0 ?_
  refine qa_ild1 dX9_gate_1 ?_
  refine qa_V1I dX9_gate_2 lm_X9_386 sh_91 rfl (by decide) (by decide) (Nat.le_of_ble_eq_true rfl) (tX9_askGate l hp0  h) (fun r1 μ1 hp1 h => ?_)
  refine qa_ist2 dX9_gate_5 ?_
  refine qa_ild2 dX9_gate_6 ?_
  refine qa_if_ge (tgt := 14) dX9_gate_7 (by decide) (fun c2 => ?_) (fun c2 => ?_)
  · have h := h.1 c2
    refine qa_ald0 dX9_gate_14 ?_
    refine qa_ild1 dX9_gate_15 ?_
    refine qa_V1I dX9_gate_16 lm_X9_389 sh_91 rfl (by decide) (by decide) (Nat.le_of_ble_eq_true rfl) (tX9_gateOf l hp1  h) (fun r3 μ3 hp3 h => ?_)
    exact qa_iret rfl dX9_gate_19 ⟨rfl, rfl⟩ ⟨rfl, hp3, _, rfl, h⟩
  · have h := h.2 c2
    refine qa_ild2 dX9_gate_10 ?_
    refine qa_goto (tgt := 19) dX9_gate_11 (by decide) ?_
    exact qa_iret rfl dX9_gate_19 ⟨rfl, rfl⟩ ⟨rfl, hp1, _, rfl, h⟩
def wX9_getsBy_70 (n : Nat) (v6 : Int32) (v8 : Int32) (s0 : Int32) (s1 : Int32) (μ0 : qa_M) (K0 : Int32 → Int32 → Int32 → qa_M → Prop) (Q : Int32 → qa_M → Prop) : Prop := ∀ x10, x10 = (s1 - s0) → K0 v6 x10 (v8 + (1 : Int32)) μ0
def wX9_getsBy_43 : Nat → Int32 → Int32 → Int32 → qa_M → (Int32 → qa_M → Prop) → Prop
  | 0, _, _, _, _, _ => False
  | n + 1, v6, v7, v8, μ0, Q => wX9_weeks n  μ0 (fun r6 μ6 => ((r6 ≤ v8 → Q v7 μ6) ∧ (¬ r6 ≤ v8 → wX9_pushOf n v6 v8 μ6 (fun r8 μ8 => ((r8 ≤ 0 → wX9_getsBy_70 n v6 v8 (0 : Int32) v7 μ8 (fun v6 v7 v8 μk => wX9_getsBy_43 n v6 v7 v8 μk Q) Q) ∧ (¬ r8 ≤ 0 → wX9_getsBy_70 n v6 v8 (2 : Int32) v7 μ8 (fun v6 v7 v8 μk => wX9_getsBy_43 n v6 v7 v8 μk Q) Q))))))
def wX9_getsBy_30 (n : Nat) (s0 : Int32) (μ0 : qa_M)  (Q : Int32 → qa_M → Prop) : Prop := wX9_sunAll n s0 μ0 (fun r5 μ5 => wX9_getsBy_43 n s0 r5 (0 : Int32) μ5  Q)
def wX9_getsBy (n : Nat) (v1 : Int32) (v2 : Int32) (v3 : Int32) (v4 : Int32) (v5 : Int32) (μ0 : qa_M) (Q : Int32 → qa_M → Prop) : Prop := wX9_asItIs n  μ0 (fun μ1 => ∀ μ2, μ2 = qa_uI μ1 91 22 ((v3 <<< (v1 &&& 31)) ||| (v4 <<< (v2 &&& 31))) → wX9_goAll n  μ2 (fun μ3 => ((¬ v5 = 0 → wX9_getsBy_30 n v2 μ3  Q) ∧ (v5 = 0 → wX9_getsBy_30 n v1 μ3  Q))))
theorem tX9_getsBy_70 (l : Launch) {K0 : Int32 → Int32 → Int32 → qa_M → Prop} {Q : Int32 → qa_M → Prop} (hK0 : ∀ (v6 : Int32) (v7 : Int32) (v8 : Int32) (μ : qa_M), qa_PP μ.2.2 → K0 v6 v7 v8 μ → qa_G l yX9_getsBy cX9_getsBy 9 (some .int) 3 0 0 (qa_pI Q) 0 0 43 [some (.ref 91), none, none, none, none, none, some (.int v6), some (.int v7), some (.int v8)] [] 113 μ) : ∀ (n : Nat) (v6 : Int32) (v8 : Int32) (s0 : Int32) (s1 : Int32) (μ0 : qa_M), qa_PP μ0.2.2 → wX9_getsBy_70 n v6 v8 s0 s1 μ0 K0 Q → qa_G l yX9_getsBy cX9_getsBy 9 (some .int) 3 0 0 (qa_pI Q) 0 0 70 [some (.ref 91), none, none, none, none, none, some (.int v6), none, some (.int v8)] [.int s0, .int s1] 113 μ0 := by
  intro n
  intro v6 v8 s0 s1 μ0 hp0  h
  unfold wX9_getsBy_70 at h
  refine qa_isub dX9_getsBy_70 ?_
  refine qa_nmI (fun x10 e10 => ?_)
  have h := h x10 e10
  refine qa_ist7 dX9_getsBy_71 ?_
  refine qa_inc8 dX9_getsBy_73 (qa_io1 _) ?_
  refine qa_goto (tgt := 43) dX9_getsBy_76 (by decide) ?_
  refine qa_fgt (L' := [some (.ref 91), none, none, none, none, none, some (.int v6), some (.int x10), some (.int (v8 + (1 : Int32)))]) (⟨rfl, ⟨rfl, ⟨rfl, ⟨rfl, trivial⟩⟩⟩⟩) ?_
  exact hK0 v6 x10 (v8 + (1 : Int32)) μ0 hp0  h
theorem tX9_getsBy_43 (l : Launch)  {Q : Int32 → qa_M → Prop}  : ∀ (n : Nat) (v6 : Int32) (v7 : Int32) (v8 : Int32) (μ0 : qa_M), qa_PP μ0.2.2 → wX9_getsBy_43 n v6 v7 v8 μ0  Q → qa_G l yX9_getsBy cX9_getsBy 9 (some .int) 3 0 0 (qa_pI Q) 0 0 43 [some (.ref 91), none, none, none, none, none, some (.int v6), some (.int v7), some (.int v8)] [] 113 μ0 := by
  intro n
  induction n with
  | zero =>
    intro v6 v7 v8 μ0 hp0  h
    rw [wX9_getsBy_43] at h
    exact h.elim
  | succ n ih =>
    intro v6 v7 v8 μ0 hp0  h
    rw [wX9_getsBy_43] at h
    refine qa_ild8 dX9_getsBy_43 ?_
    refine qa_ald0 dX9_getsBy_45 ?_
    refine qa_V0I dX9_getsBy_46 lm_X9_96 sh_91 rfl (by decide) (by decide) (Nat.le_of_ble_eq_true rfl) (tX9_weeks l hp0  h) (fun r6 μ6 hp6 h => ?_)
    refine qa_icmp_ge (tgt := 79) dX9_getsBy_49 (by decide) (fun c7 => ?_) (fun c7 => ?_)
    · have h := h.1 c7
      refine qa_ild7 dX9_getsBy_79 ?_
      exact qa_iret rfl dX9_getsBy_81 ⟨rfl, rfl⟩ ⟨rfl, hp6, _, rfl, h⟩
    · have h := h.2 c7
      refine qa_ild7 dX9_getsBy_52 ?_
      refine qa_ald0 dX9_getsBy_54 ?_
      refine qa_ild6 dX9_getsBy_55 ?_
      refine qa_ild8 dX9_getsBy_57 ?_
      refine qa_V2I dX9_getsBy_59 lm_X9_301 sh_91 rfl (by decide) (by decide) (Nat.le_of_ble_eq_true rfl) (tX9_pushOf l hp6  h) (fun r8 μ8 hp8 h => ?_)
      refine qa_if_le (tgt := 69) dX9_getsBy_62 (by decide) (fun c9 => ?_) (fun c9 => ?_)
      · have h := h.1 c9
        refine qa_iconst (v := 0) dX9_getsBy_69 (by decide) ?_
        refine qa_fgt (L' := [some (.ref 91), none, none, none, none, none, some (.int v6), none, some (.int v8)]) (⟨rfl, ⟨rfl, ⟨rfl, trivial⟩⟩⟩) ?_
        refine tX9_getsBy_70 l ih n v6 v8 (0 : Int32) v7 μ8 hp8  h
      · have h := h.2 c9
        refine qa_iconst (v := 2) dX9_getsBy_65 (by decide) ?_
        refine qa_goto (tgt := 70) dX9_getsBy_66 (by decide) ?_
        refine qa_fgt (L' := [some (.ref 91), none, none, none, none, none, some (.int v6), none, some (.int v8)]) (⟨rfl, ⟨rfl, ⟨rfl, trivial⟩⟩⟩) ?_
        refine tX9_getsBy_70 l ih n v6 v8 (2 : Int32) v7 μ8 hp8  h
theorem tX9_getsBy_30 (l : Launch)  {Q : Int32 → qa_M → Prop}  : ∀ (n : Nat) (s0 : Int32) (μ0 : qa_M), qa_PP μ0.2.2 → wX9_getsBy_30 n s0 μ0  Q → qa_G l yX9_getsBy cX9_getsBy 9 (some .int) 3 0 0 (qa_pI Q) 0 0 30 [some (.ref 91), none, none, none, none, none, none, none, none] [.int s0] 113 μ0 := by
  intro n
  intro s0 μ0 hp0  h
  unfold wX9_getsBy_30 at h
  refine qa_ist6 dX9_getsBy_30 ?_
  refine qa_ald0 dX9_getsBy_32 ?_
  refine qa_ild6 dX9_getsBy_33 ?_
  refine qa_V1I dX9_getsBy_35 lm_X9_313 sh_91 rfl (by decide) (by decide) (Nat.le_of_ble_eq_true rfl) (tX9_sunAll l hp0  h) (fun r5 μ5 hp5 h => ?_)
  refine qa_ist7 dX9_getsBy_38 ?_
  refine qa_iconst (v := 0) dX9_getsBy_40 (by decide) ?_
  refine qa_ist8 dX9_getsBy_41 ?_
  refine qa_fgt (L' := [some (.ref 91), none, none, none, none, none, some (.int s0), some (.int r5), some (.int (0 : Int32))]) (⟨rfl, ⟨rfl, ⟨rfl, ⟨rfl, trivial⟩⟩⟩⟩) ?_
  refine tX9_getsBy_43 l  n s0 r5 (0 : Int32) μ5 hp5  h
theorem tX9_getsBy (l : Launch) {n : Nat} {v1 : Int32} {v2 : Int32} {v3 : Int32} {v4 : Int32} {v5 : Int32} {μ0 : qa_M} {Q : Int32 → qa_M → Prop} (hp0 : qa_PP μ0.2.2)  (h : wX9_getsBy n v1 v2 v3 v4 v5 μ0 Q) : qa_Met l yX9_getsBy cX9_getsBy 9 (some .int) 3 0 0 [.ref 91, .int v1, .int v2, .int v3, .int v4, .int v5] 113 μ0 (qa_pI Q) := by
  refine qa_ofG (by decide) (Nat.le_of_ble_eq_true rfl) ?_
  unfold wX9_getsBy at h
  change qa_G l yX9_getsBy cX9_getsBy 9 (some .int) 3 0 0 (qa_pI Q) 0 0 0 [some (.ref 91), some (.int v1), some (.int v2), some (.int v3), some (.int v4), some (.int v5), none, none, none] [] 113 μ0
  refine qa_ald0 dX9_getsBy_0 ?_
  refine qa_V0V dX9_getsBy_1 lm_X9_251 sh_91 rfl (by decide) (by decide) (Nat.le_of_ble_eq_true rfl) (tX9_asItIs l hp0  h) (fun μ1 hp1 h => ?_)
  refine qa_ald0 dX9_getsBy_4 ?_
  refine qa_ild3 dX9_getsBy_5 ?_
  refine qa_ild1 dX9_getsBy_6 ?_
  refine qa_ishl dX9_getsBy_7 ?_
  refine qa_ild4 dX9_getsBy_8 ?_
  refine qa_ild2 dX9_getsBy_10 ?_
  refine qa_ishl dX9_getsBy_11 ?_
  refine qa_ior dX9_getsBy_12 ?_
  refine qa_putI dX9_getsBy_13 lf_X9_242 rfl sh_91 (by decide) rfl ?_
  refine qa_nmM (fun μ2 em2 => ?_)
  have h := h μ2 em2
  have hp2 : qa_PP μ2.2.2 := by rw [em2]; exact hp1
  refine qa_ald0 dX9_getsBy_16 ?_
  refine qa_V0V dX9_getsBy_17 lm_X9_280 sh_91 rfl (by decide) (by decide) (Nat.le_of_ble_eq_true rfl) (tX9_goAll l hp2  h) (fun μ3 hp3 h => ?_)
  refine qa_ild5 dX9_getsBy_20 ?_
  refine qa_if_ne (tgt := 29) dX9_getsBy_22 (by decide) (fun c4 => ?_) (fun c4 => ?_)
  · have h := h.1 c4
    refine qa_ild2 dX9_getsBy_29 ?_
    refine qa_fgt (L' := [some (.ref 91), none, none, none, none, none, none, none, none]) (⟨rfl, trivial⟩) ?_
    refine tX9_getsBy_30 l  n v2 μ3 hp3  h
  · have h := h.2 c4
    refine qa_ild1 dX9_getsBy_25 ?_
    refine qa_goto (tgt := 30) dX9_getsBy_26 (by decide) ?_
    refine qa_fgt (L' := [some (.ref 91), none, none, none, none, none, none, none, none]) (⟨rfl, trivial⟩) ?_
    refine tX9_getsBy_30 l  n v1 μ3 hp3  h
def wX9_gets (n : Nat) (v1 : Int32) (v2 : Int32) (v3 : Int32) (v4 : Int32) (μ0 : qa_M) (Q : Int32 → qa_M → Prop) : Prop := wX9_areTwo n v1 v2 μ0 (fun r1 μ1 => ((r1 = 0 → Q (-1000 : Int32) μ1) ∧ (¬ r1 = 0 → wX9_in n v3.toInt64 (0 : Int64) (1 : Int64) μ1 (fun r3 μ3 => ((r3 = 0 → Q (-1000 : Int32) μ3) ∧ (¬ r3 = 0 → wX9_in n v4.toInt64 (0 : Int64) (1 : Int64) μ3 (fun r5 μ5 => ((r5 = 0 → Q (-1000 : Int32) μ5) ∧ (¬ r5 = 0 → wX9_getsBy n v1 v2 v3 v4 (0 : Int32) μ5 (fun r7 μ7 => Q r7 μ7))))))))))
theorem tX9_gets (l : Launch) {n : Nat} {v1 : Int32} {v2 : Int32} {v3 : Int32} {v4 : Int32} {μ0 : qa_M} {Q : Int32 → qa_M → Prop} (hp0 : qa_PP μ0.2.2)  (h : wX9_gets n v1 v2 v3 v4 μ0 Q) : qa_Met l yX9_gets cX9_gets 5 (some .int) 4 0 0 [.ref 91, .int v1, .int v2, .int v3, .int v4] 113 μ0 (qa_pI Q) := by
  refine qa_ofG (by decide) (Nat.le_of_ble_eq_true rfl) ?_
  unfold wX9_gets at h
  change qa_G l yX9_gets cX9_gets 5 (some .int) 4 0 0 (qa_pI Q) 0 0 0 [some (.ref 91), some (.int v1), some (.int v2), some (.int v3), some (.int v4)] [] 113 μ0
  refine qa_ald0 dX9_gets_0 ?_
  refine qa_ild1 dX9_gets_1 ?_
  refine qa_ild2 dX9_gets_2 ?_
  refine qa_V2I dX9_gets_3 lm_X9_328 sh_91 rfl (by decide) (by decide) (Nat.le_of_ble_eq_true rfl) (tX9_areTwo l hp0  h) (fun r1 μ1 hp1 h => ?_)
  refine qa_if_eq (tgt := 43) dX9_gets_6 (by decide) (fun c2 => ?_) (fun c2 => ?_)
  · have h := h.1 c2
    refine qa_sipush (v := -1000) dX9_gets_43 (by decide) ?_
    exact qa_iret rfl dX9_gets_46 ⟨rfl, rfl⟩ ⟨rfl, hp1, _, rfl, h⟩
  · have h := h.2 c2
    refine qa_ild3 dX9_gets_9 ?_
    refine qa_i2l dX9_gets_10 ?_
    refine qa_lconst (v := 0) dX9_gets_11 (by decide) ?_
    refine qa_lconst (v := 1) dX9_gets_12 (by decide) ?_
    refine qa_S3I dX9_gets_13 lm_X9_88  (by decide) (Nat.le_of_ble_eq_true rfl) (tX9_in l hp1  h) (fun r3 μ3 hp3 h => ?_)
    refine qa_if_eq (tgt := 43) dX9_gets_16 (by decide) (fun c4 => ?_) (fun c4 => ?_)
    · have h := h.1 c4
      refine qa_sipush (v := -1000) dX9_gets_43 (by decide) ?_
      exact qa_iret rfl dX9_gets_46 ⟨rfl, rfl⟩ ⟨rfl, hp3, _, rfl, h⟩
    · have h := h.2 c4
      refine qa_ild4 dX9_gets_19 ?_
      refine qa_i2l dX9_gets_21 ?_
      refine qa_lconst (v := 0) dX9_gets_22 (by decide) ?_
      refine qa_lconst (v := 1) dX9_gets_23 (by decide) ?_
      refine qa_S3I dX9_gets_24 lm_X9_88  (by decide) (Nat.le_of_ble_eq_true rfl) (tX9_in l hp3  h) (fun r5 μ5 hp5 h => ?_)
      refine qa_if_eq (tgt := 43) dX9_gets_27 (by decide) (fun c6 => ?_) (fun c6 => ?_)
      · have h := h.1 c6
        refine qa_sipush (v := -1000) dX9_gets_43 (by decide) ?_
        exact qa_iret rfl dX9_gets_46 ⟨rfl, rfl⟩ ⟨rfl, hp5, _, rfl, h⟩
      · have h := h.2 c6
        refine qa_ald0 dX9_gets_30 ?_
        refine qa_ild1 dX9_gets_31 ?_
        refine qa_ild2 dX9_gets_32 ?_
        refine qa_ild3 dX9_gets_33 ?_
        refine qa_ild4 dX9_gets_34 ?_
        refine qa_iconst (v := 0) dX9_gets_36 (by decide) ?_
        refine qa_V5I dX9_gets_37 lm_X9_410 sh_91 rfl (by decide) (by decide) (Nat.le_of_ble_eq_true rfl) (tX9_getsBy l hp5  h) (fun r7 μ7 hp7 h => ?_)
        refine qa_goto (tgt := 46) dX9_gets_40 (by decide) ?_
        exact qa_iret rfl dX9_gets_46 ⟨rfl, rfl⟩ ⟨rfl, hp7, _, rfl, h⟩
def wX9_gold_46 (n : Nat) (v2 : Int32) (s0 : Int32) (s1 : Int32) (μ0 : qa_M) (K0 : Int32 → Int32 → qa_M → Prop) (Q : Int32 → qa_M → Prop) : Prop := ∀ x9, x9 = (s1 ||| s0) → K0 x9 (v2 + (1 : Int32)) μ0
def wX9_gold_14 : Nat → Int32 → Int32 → qa_M → (Int32 → qa_M → Prop) → Prop
  | 0, _, _, _, _ => False
  | n + 1, v1, v2, μ0, Q => wX9_houses n  μ0 (fun r3 μ3 => ((r3 ≤ v2 → Q v1 μ3) ∧ (¬ r3 ≤ v2 → wX9_sunAll n v2 μ3 (fun r5 μ5 => wX9_brownOf n  μ5 (fun r6 μ6 => wX9_sunAll n r6 μ6 (fun r7 μ7 => ((¬ r5 = r7 → wX9_gold_46 n v2 (0 : Int32) v1 μ7 (fun v1 v2 μk => wX9_gold_14 n v1 v2 μk Q) Q) ∧ (r5 = r7 → wX9_gold_46 n v2 ((1 : Int32) <<< (v2 &&& 31)) v1 μ7 (fun v1 v2 μk => wX9_gold_14 n v1 v2 μk Q) Q))))))))
def wX9_gold (n : Nat)  (μ0 : qa_M) (Q : Int32 → qa_M → Prop) : Prop := wX9_asksTown n  μ0 (fun r1 μ1 => ((¬ r1 = 0 → wX9_gold_14 n (0 : Int32) (0 : Int32) μ1  Q) ∧ (r1 = 0 → Q (-2 : Int32) μ1)))
theorem tX9_gold_46 (l : Launch) {K0 : Int32 → Int32 → qa_M → Prop} {Q : Int32 → qa_M → Prop} (hK0 : ∀ (v1 : Int32) (v2 : Int32) (μ : qa_M), qa_PP μ.2.2 → K0 v1 v2 μ → qa_G l yX9_gold cX9_gold 3 (some .int) 4 0 0 (qa_pI Q) 0 0 14 [some (.ref 91), some (.int v1), some (.int v2)] [] 113 μ) : ∀ (n : Nat) (v2 : Int32) (s0 : Int32) (s1 : Int32) (μ0 : qa_M), qa_PP μ0.2.2 → wX9_gold_46 n v2 s0 s1 μ0 K0 Q → qa_G l yX9_gold cX9_gold 3 (some .int) 4 0 0 (qa_pI Q) 0 0 46 [some (.ref 91), none, some (.int v2)] [.int s0, .int s1] 113 μ0 := by
  intro n
  intro v2 s0 s1 μ0 hp0  h
  unfold wX9_gold_46 at h
  refine qa_ior dX9_gold_46 ?_
  refine qa_nmI (fun x9 e9 => ?_)
  have h := h x9 e9
  refine qa_ist1 dX9_gold_47 ?_
  refine qa_inc2 dX9_gold_48 (qa_io1 _) ?_
  refine qa_goto (tgt := 14) dX9_gold_51 (by decide) ?_
  refine qa_fgt (L' := [some (.ref 91), some (.int x9), some (.int (v2 + (1 : Int32)))]) (⟨rfl, ⟨rfl, ⟨rfl, trivial⟩⟩⟩) ?_
  exact hK0 x9 (v2 + (1 : Int32)) μ0 hp0  h
theorem tX9_gold_14 (l : Launch)  {Q : Int32 → qa_M → Prop}  : ∀ (n : Nat) (v1 : Int32) (v2 : Int32) (μ0 : qa_M), qa_PP μ0.2.2 → wX9_gold_14 n v1 v2 μ0  Q → qa_G l yX9_gold cX9_gold 3 (some .int) 4 0 0 (qa_pI Q) 0 0 14 [some (.ref 91), some (.int v1), some (.int v2)] [] 113 μ0 := by
  intro n
  induction n with
  | zero =>
    intro v1 v2 μ0 hp0  h
    rw [wX9_gold_14] at h
    exact h.elim
  | succ n ih =>
    intro v1 v2 μ0 hp0  h
    rw [wX9_gold_14] at h
    refine qa_ild2 dX9_gold_14 ?_
    refine qa_ald0 dX9_gold_15 ?_
    refine qa_V0I dX9_gold_16 lm_X9_100 sh_91 rfl (by decide) (by decide) (Nat.le_of_ble_eq_true rfl) (tX9_houses l hp0  h) (fun r3 μ3 hp3 h => ?_)
    refine qa_icmp_ge (tgt := 54) dX9_gold_19 (by decide) (fun c4 => ?_) (fun c4 => ?_)
    · have h := h.1 c4
      refine qa_ild1 dX9_gold_54 ?_
      exact qa_iret rfl dX9_gold_55 ⟨rfl, rfl⟩ ⟨rfl, hp3, _, rfl, h⟩
    · have h := h.2 c4
      refine qa_ild1 dX9_gold_22 ?_
      refine qa_ald0 dX9_gold_23 ?_
      refine qa_ild2 dX9_gold_24 ?_
      refine qa_V1I dX9_gold_25 lm_X9_313 sh_91 rfl (by decide) (by decide) (Nat.le_of_ble_eq_true rfl) (tX9_sunAll l hp3  h) (fun r5 μ5 hp5 h => ?_)
      refine qa_ald0 dX9_gold_28 ?_
      refine qa_ald0 dX9_gold_29 ?_
      refine qa_V0I dX9_gold_30 lm_X9_316 sh_91 rfl (by decide) (by decide) (Nat.le_of_ble_eq_true rfl) (tX9_brownOf l hp5  h) (fun r6 μ6 hp6 h => ?_)
      refine qa_V1I dX9_gold_33 lm_X9_313 sh_91 rfl (by decide) (by decide) (Nat.le_of_ble_eq_true rfl) (tX9_sunAll l hp6  h) (fun r7 μ7 hp7 h => ?_)
      refine qa_icmp_ne (tgt := 45) dX9_gold_36 (by decide) (fun c8 => ?_) (fun c8 => ?_)
      · have h := h.1 c8
        refine qa_iconst (v := 0) dX9_gold_45 (by decide) ?_
        refine qa_fgt (L' := [some (.ref 91), none, some (.int v2)]) (⟨rfl, ⟨rfl, trivial⟩⟩) ?_
        refine tX9_gold_46 l ih n v2 (0 : Int32) v1 μ7 hp7  h
      · have h := h.2 c8
        refine qa_iconst (v := 1) dX9_gold_39 (by decide) ?_
        refine qa_ild2 dX9_gold_40 ?_
        refine qa_ishl dX9_gold_41 ?_
        refine qa_goto (tgt := 46) dX9_gold_42 (by decide) ?_
        refine qa_fgt (L' := [some (.ref 91), none, some (.int v2)]) (⟨rfl, ⟨rfl, trivial⟩⟩) ?_
        refine tX9_gold_46 l ih n v2 ((1 : Int32) <<< (v2 &&& 31)) v1 μ7 hp7  h
theorem tX9_gold (l : Launch) {n : Nat}  {μ0 : qa_M} {Q : Int32 → qa_M → Prop} (hp0 : qa_PP μ0.2.2)  (h : wX9_gold n  μ0 Q) : qa_Met l yX9_gold cX9_gold 3 (some .int) 4 0 0 [.ref 91] 113 μ0 (qa_pI Q) := by
  refine qa_ofG (by decide) (Nat.le_of_ble_eq_true rfl) ?_
  unfold wX9_gold at h
  change qa_G l yX9_gold cX9_gold 3 (some .int) 4 0 0 (qa_pI Q) 0 0 0 [some (.ref 91), none, none] [] 113 μ0
  refine qa_ald0 dX9_gold_0 ?_
  refine qa_V0I dX9_gold_1 lm_X9_283 sh_91 rfl (by decide) (by decide) (Nat.le_of_ble_eq_true rfl) (tX9_asksTown l hp0  h) (fun r1 μ1 hp1 h => ?_)
  refine qa_if_ne (tgt := 10) dX9_gold_4 (by decide) (fun c2 => ?_) (fun c2 => ?_)
  · have h := h.1 c2
    refine qa_iconst (v := 0) dX9_gold_10 (by decide) ?_
    refine qa_ist1 dX9_gold_11 ?_
    refine qa_iconst (v := 0) dX9_gold_12 (by decide) ?_
    refine qa_ist2 dX9_gold_13 ?_
    refine qa_fgt (L' := [some (.ref 91), some (.int (0 : Int32)), some (.int (0 : Int32))]) (⟨rfl, ⟨rfl, ⟨rfl, trivial⟩⟩⟩) ?_
    refine tX9_gold_14 l  n (0 : Int32) (0 : Int32) μ1 hp1  h
  · have h := h.2 c2
    refine qa_bipush (v := -2) dX9_gold_7 (by decide) ?_
    exact qa_iret rfl dX9_gold_9 ⟨rfl, rfl⟩ ⟨rfl, hp1, _, rfl, h⟩
def wX9_sameIn_35 (n : Nat) (v1 : Int32) (v3 : Int32) (s0 : Int32) (s1 : Int32) (μ0 : qa_M) (K0 : Int32 → Int32 → Int32 → qa_M → Prop) (Q : Int32 → qa_M → Prop) : Prop := ∀ x6, x6 = (s1 ||| s0) → K0 v1 x6 (v3 + (1 : Int32)) μ0
def wX9_sameIn_4 : Nat → Int32 → Int32 → Int32 → qa_M → (Int32 → qa_M → Prop) → Prop
  | 0, _, _, _, _, _ => False
  | n + 1, v1, v2, v3, μ0, Q => wX9_houses n  μ0 (fun r1 μ1 => ((r1 ≤ v3 → Q v2 μ1) ∧ (¬ r1 ≤ v3 → wX9_placeOf n v3 v1 μ1 (fun r3 μ3 => wX9_placeOf n v3 (0 : Int32) μ3 (fun r4 μ4 => ((¬ r3 = r4 → wX9_sameIn_35 n v1 v3 (0 : Int32) v2 μ4 (fun v1 v2 v3 μk => wX9_sameIn_4 n v1 v2 v3 μk Q) Q) ∧ (r3 = r4 → wX9_sameIn_35 n v1 v3 ((1 : Int32) <<< (v3 &&& 31)) v2 μ4 (fun v1 v2 v3 μk => wX9_sameIn_4 n v1 v2 v3 μk Q) Q)))))))
def wX9_sameIn (n : Nat) (v1 : Int32) (μ0 : qa_M) (Q : Int32 → qa_M → Prop) : Prop := wX9_sameIn_4 n v1 (0 : Int32) (0 : Int32) μ0  Q
theorem tX9_sameIn_35 (l : Launch) {K0 : Int32 → Int32 → Int32 → qa_M → Prop} {Q : Int32 → qa_M → Prop} (hK0 : ∀ (v1 : Int32) (v2 : Int32) (v3 : Int32) (μ : qa_M), qa_PP μ.2.2 → K0 v1 v2 v3 μ → qa_G l yX9_sameIn cX9_sameIn 4 (some .int) 1 0 0 (qa_pI Q) 0 0 4 [some (.ref 91), some (.int v1), some (.int v2), some (.int v3)] [] 113 μ) : ∀ (n : Nat) (v1 : Int32) (v3 : Int32) (s0 : Int32) (s1 : Int32) (μ0 : qa_M), qa_PP μ0.2.2 → wX9_sameIn_35 n v1 v3 s0 s1 μ0 K0 Q → qa_G l yX9_sameIn cX9_sameIn 4 (some .int) 1 0 0 (qa_pI Q) 0 0 35 [some (.ref 91), some (.int v1), none, some (.int v3)] [.int s0, .int s1] 113 μ0 := by
  intro n
  intro v1 v3 s0 s1 μ0 hp0  h
  unfold wX9_sameIn_35 at h
  refine qa_ior dX9_sameIn_35 ?_
  refine qa_nmI (fun x6 e6 => ?_)
  have h := h x6 e6
  refine qa_ist2 dX9_sameIn_36 ?_
  refine qa_inc3 dX9_sameIn_37 (qa_io1 _) ?_
  refine qa_goto (tgt := 4) dX9_sameIn_40 (by decide) ?_
  refine qa_fgt (L' := [some (.ref 91), some (.int v1), some (.int x6), some (.int (v3 + (1 : Int32)))]) (⟨rfl, ⟨rfl, ⟨rfl, ⟨rfl, trivial⟩⟩⟩⟩) ?_
  exact hK0 v1 x6 (v3 + (1 : Int32)) μ0 hp0  h
theorem tX9_sameIn_4 (l : Launch)  {Q : Int32 → qa_M → Prop}  : ∀ (n : Nat) (v1 : Int32) (v2 : Int32) (v3 : Int32) (μ0 : qa_M), qa_PP μ0.2.2 → wX9_sameIn_4 n v1 v2 v3 μ0  Q → qa_G l yX9_sameIn cX9_sameIn 4 (some .int) 1 0 0 (qa_pI Q) 0 0 4 [some (.ref 91), some (.int v1), some (.int v2), some (.int v3)] [] 113 μ0 := by
  intro n
  induction n with
  | zero =>
    intro v1 v2 v3 μ0 hp0  h
    rw [wX9_sameIn_4] at h
    exact h.elim
  | succ n ih =>
    intro v1 v2 v3 μ0 hp0  h
    rw [wX9_sameIn_4] at h
    refine qa_ild3 dX9_sameIn_4 ?_
    refine qa_ald0 dX9_sameIn_5 ?_
    refine qa_V0I dX9_sameIn_6 lm_X9_100 sh_91 rfl (by decide) (by decide) (Nat.le_of_ble_eq_true rfl) (tX9_houses l hp0  h) (fun r1 μ1 hp1 h => ?_)
    refine qa_icmp_ge (tgt := 43) dX9_sameIn_9 (by decide) (fun c2 => ?_) (fun c2 => ?_)
    · have h := h.1 c2
      refine qa_ild2 dX9_sameIn_43 ?_
      exact qa_iret rfl dX9_sameIn_44 ⟨rfl, rfl⟩ ⟨rfl, hp1, _, rfl, h⟩
    · have h := h.2 c2
      refine qa_ild2 dX9_sameIn_12 ?_
      refine qa_ald0 dX9_sameIn_13 ?_
      refine qa_ild3 dX9_sameIn_14 ?_
      refine qa_ild1 dX9_sameIn_15 ?_
      refine qa_V2I dX9_sameIn_16 lm_X9_261 sh_91 rfl (by decide) (by decide) (Nat.le_of_ble_eq_true rfl) (tX9_placeOf l hp1  h) (fun r3 μ3 hp3 h => ?_)
      refine qa_ald0 dX9_sameIn_19 ?_
      refine qa_ild3 dX9_sameIn_20 ?_
      refine qa_iconst (v := 0) dX9_sameIn_21 (by decide) ?_
      refine qa_V2I dX9_sameIn_22 lm_X9_261 sh_91 rfl (by decide) (by decide) (Nat.le_of_ble_eq_true rfl) (tX9_placeOf l hp3  h) (fun r4 μ4 hp4 h => ?_)
      refine qa_icmp_ne (tgt := 34) dX9_sameIn_25 (by decide) (fun c5 => ?_) (fun c5 => ?_)
      · have h := h.1 c5
        refine qa_iconst (v := 0) dX9_sameIn_34 (by decide) ?_
        refine qa_fgt (L' := [some (.ref 91), some (.int v1), none, some (.int v3)]) (⟨rfl, ⟨rfl, ⟨rfl, trivial⟩⟩⟩) ?_
        refine tX9_sameIn_35 l ih n v1 v3 (0 : Int32) v2 μ4 hp4  h
      · have h := h.2 c5
        refine qa_iconst (v := 1) dX9_sameIn_28 (by decide) ?_
        refine qa_ild3 dX9_sameIn_29 ?_
        refine qa_ishl dX9_sameIn_30 ?_
        refine qa_goto (tgt := 35) dX9_sameIn_31 (by decide) ?_
        refine qa_fgt (L' := [some (.ref 91), some (.int v1), none, some (.int v3)]) (⟨rfl, ⟨rfl, ⟨rfl, trivial⟩⟩⟩) ?_
        refine tX9_sameIn_35 l ih n v1 v3 ((1 : Int32) <<< (v3 &&& 31)) v2 μ4 hp4  h
theorem tX9_sameIn (l : Launch) {n : Nat} {v1 : Int32} {μ0 : qa_M} {Q : Int32 → qa_M → Prop} (hp0 : qa_PP μ0.2.2)  (h : wX9_sameIn n v1 μ0 Q) : qa_Met l yX9_sameIn cX9_sameIn 4 (some .int) 1 0 0 [.ref 91, .int v1] 113 μ0 (qa_pI Q) := by
  refine qa_ofG (by decide) (Nat.le_of_ble_eq_true rfl) ?_
  unfold wX9_sameIn at h
  change qa_G l yX9_sameIn cX9_sameIn 4 (some .int) 1 0 0 (qa_pI Q) 0 0 0 [some (.ref 91), some (.int v1), none, none] [] 113 μ0
  refine qa_iconst (v := 0) dX9_sameIn_0 (by decide) ?_
  refine qa_ist2 dX9_sameIn_1 ?_
  refine qa_iconst (v := 0) dX9_sameIn_2 (by decide) ?_
  refine qa_ist3 dX9_sameIn_3 ?_
  refine qa_fgt (L' := [some (.ref 91), some (.int v1), some (.int (0 : Int32)), some (.int (0 : Int32))]) (⟨rfl, ⟨rfl, ⟨rfl, ⟨rfl, trivial⟩⟩⟩⟩) ?_
  refine tX9_sameIn_4 l  n v1 (0 : Int32) (0 : Int32) μ0 hp0  h
def wX9_home_12 : Nat → Int32 → qa_M → (Int32 → qa_M → Prop) → Prop
  | 0, _, _, _ => False
  | n + 1, v1, μ0, Q => wX9_weeks n  μ0 (fun r3 μ3 => ((r3 < v1 → Q (-1 : Int32) μ3) ∧ (¬ r3 < v1 → wX9_sameIn n v1 μ3 (fun r5 μ5 => wX9_houses n  μ5 (fun r6 μ6 => ((¬ r5 = (((1 : Int32) <<< (r6 &&& 31)) - (1 : Int32)) → wX9_home_12 n (v1 + (1 : Int32)) μ6 Q) ∧ (r5 = (((1 : Int32) <<< (r6 &&& 31)) - (1 : Int32)) → Q v1 μ6)))))))
def wX9_home (n : Nat)  (μ0 : qa_M) (Q : Int32 → qa_M → Prop) : Prop := wX9_asksTown n  μ0 (fun r1 μ1 => ((¬ r1 = 0 → wX9_home_12 n (1 : Int32) μ1  Q) ∧ (r1 = 0 → Q (-2 : Int32) μ1)))
theorem tX9_home_12 (l : Launch)  {Q : Int32 → qa_M → Prop}  : ∀ (n : Nat) (v1 : Int32) (μ0 : qa_M), qa_PP μ0.2.2 → wX9_home_12 n v1 μ0  Q → qa_G l yX9_home cX9_home 2 (some .int) 4 0 0 (qa_pI Q) 0 0 12 [some (.ref 91), some (.int v1)] [] 113 μ0 := by
  intro n
  induction n with
  | zero =>
    intro v1 μ0 hp0  h
    rw [wX9_home_12] at h
    exact h.elim
  | succ n ih =>
    intro v1 μ0 hp0  h
    rw [wX9_home_12] at h
    refine qa_ild1 dX9_home_12 ?_
    refine qa_ald0 dX9_home_13 ?_
    refine qa_V0I dX9_home_14 lm_X9_96 sh_91 rfl (by decide) (by decide) (Nat.le_of_ble_eq_true rfl) (tX9_weeks l hp0  h) (fun r3 μ3 hp3 h => ?_)
    refine qa_icmp_gt (tgt := 44) dX9_home_17 (by decide) (fun c4 => ?_) (fun c4 => ?_)
    · have h := h.1 c4
      refine qa_iconst (v := -1) dX9_home_44 (by decide) ?_
      exact qa_iret rfl dX9_home_45 ⟨rfl, rfl⟩ ⟨rfl, hp3, _, rfl, h⟩
    · have h := h.2 c4
      refine qa_ald0 dX9_home_20 ?_
      refine qa_ild1 dX9_home_21 ?_
      refine qa_V1I dX9_home_22 lm_X9_325 sh_91 rfl (by decide) (by decide) (Nat.le_of_ble_eq_true rfl) (tX9_sameIn l hp3  h) (fun r5 μ5 hp5 h => ?_)
      refine qa_iconst (v := 1) dX9_home_25 (by decide) ?_
      refine qa_ald0 dX9_home_26 ?_
      refine qa_V0I dX9_home_27 lm_X9_100 sh_91 rfl (by decide) (by decide) (Nat.le_of_ble_eq_true rfl) (tX9_houses l hp5  h) (fun r6 μ6 hp6 h => ?_)
      refine qa_ishl dX9_home_30 ?_
      refine qa_iconst (v := 1) dX9_home_31 (by decide) ?_
      refine qa_isub dX9_home_32 ?_
      refine qa_icmp_ne (tgt := 38) dX9_home_33 (by decide) (fun c7 => ?_) (fun c7 => ?_)
      · have h := h.1 c7
        refine qa_inc1 dX9_home_38 (qa_io1 _) ?_
        refine qa_goto (tgt := 12) dX9_home_41 (by decide) ?_
        refine qa_fgt (L' := [some (.ref 91), some (.int (v1 + (1 : Int32)))]) (⟨rfl, ⟨rfl, trivial⟩⟩) ?_
        exact ih (v1 + (1 : Int32)) μ6 hp6  h
      · have h := h.2 c7
        refine qa_ild1 dX9_home_36 ?_
        exact qa_iret rfl dX9_home_37 ⟨rfl, rfl⟩ ⟨rfl, hp6, _, rfl, h⟩
theorem tX9_home (l : Launch) {n : Nat}  {μ0 : qa_M} {Q : Int32 → qa_M → Prop} (hp0 : qa_PP μ0.2.2)  (h : wX9_home n  μ0 Q) : qa_Met l yX9_home cX9_home 2 (some .int) 4 0 0 [.ref 91] 113 μ0 (qa_pI Q) := by
  refine qa_ofG (by decide) (Nat.le_of_ble_eq_true rfl) ?_
  unfold wX9_home at h
  change qa_G l yX9_home cX9_home 2 (some .int) 4 0 0 (qa_pI Q) 0 0 0 [some (.ref 91), none] [] 113 μ0
  refine qa_ald0 dX9_home_0 ?_
  refine qa_V0I dX9_home_1 lm_X9_283 sh_91 rfl (by decide) (by decide) (Nat.le_of_ble_eq_true rfl) (tX9_asksTown l hp0  h) (fun r1 μ1 hp1 h => ?_)
  refine qa_if_ne (tgt := 10) dX9_home_4 (by decide) (fun c2 => ?_) (fun c2 => ?_)
  · have h := h.1 c2
    refine qa_iconst (v := 1) dX9_home_10 (by decide) ?_
    refine qa_ist1 dX9_home_11 ?_
    refine qa_fgt (L' := [some (.ref 91), some (.int (1 : Int32))]) (⟨rfl, ⟨rfl, trivial⟩⟩) ?_
    refine tX9_home_12 l  n (1 : Int32) μ1 hp1  h
  · have h := h.2 c2
    refine qa_bipush (v := -2) dX9_home_7 (by decide) ?_
    exact qa_iret rfl dX9_home_9 ⟨rfl, rfl⟩ ⟨rfl, hp1, _, rfl, h⟩
def wX9_house (n : Nat) (v1 : Int32) (v2 : Int32) (μ0 : qa_M) (Q : Int32 → qa_M → Prop) : Prop := wX9_isHouse n v1 μ0 (fun r1 μ1 => ((r1 = 0 → Q (-2 : Int32) μ1) ∧ (¬ r1 = 0 → wX9_in n v2.toInt64 (0 : Int64) (1 : Int64) μ1 (fun r3 μ3 => ((r3 = 0 → Q (-2 : Int32) μ3) ∧ (¬ r3 = 0 → vp_in (((10 : Int32) + ((2 : Int32) * v1)) + v2) 114 ∧ Q (μ3.1 92 (((10 : Int32) + ((2 : Int32) * v1)) + v2).toNatClampNeg) μ3))))))
theorem tX9_house (l : Launch) {n : Nat} {v1 : Int32} {v2 : Int32} {μ0 : qa_M} {Q : Int32 → qa_M → Prop} (hp0 : qa_PP μ0.2.2)  (h : wX9_house n v1 v2 μ0 Q) : qa_Met l yX9_house cX9_house 3 (some .int) 2 0 0 [.ref 91, .int v1, .int v2] 113 μ0 (qa_pI Q) := by
  refine qa_ofG (by decide) (Nat.le_of_ble_eq_true rfl) ?_
  unfold wX9_house at h
  change qa_G l yX9_house cX9_house 3 (some .int) 2 0 0 (qa_pI Q) 0 0 0 [some (.ref 91), some (.int v1), some (.int v2)] [] 113 μ0
  refine qa_ald0 dX9_house_0 ?_
  refine qa_ild1 dX9_house_1 ?_
  refine qa_V1I dX9_house_2 lm_X9_103 sh_91 rfl (by decide) (by decide) (Nat.le_of_ble_eq_true rfl) (tX9_isHouse l hp0  h) (fun r1 μ1 hp1 h => ?_)
  refine qa_if_eq (tgt := 34) dX9_house_5 (by decide) (fun c2 => ?_) (fun c2 => ?_)
  · have h := h.1 c2
    refine qa_bipush (v := -2) dX9_house_34 (by decide) ?_
    exact qa_iret rfl dX9_house_36 ⟨rfl, rfl⟩ ⟨rfl, hp1, _, rfl, h⟩
  · have h := h.2 c2
    refine qa_ild2 dX9_house_8 ?_
    refine qa_i2l dX9_house_9 ?_
    refine qa_lconst (v := 0) dX9_house_10 (by decide) ?_
    refine qa_lconst (v := 1) dX9_house_11 (by decide) ?_
    refine qa_S3I dX9_house_12 lm_X9_88  (by decide) (Nat.le_of_ble_eq_true rfl) (tX9_in l hp1  h) (fun r3 μ3 hp3 h => ?_)
    refine qa_if_eq (tgt := 34) dX9_house_15 (by decide) (fun c4 => ?_) (fun c4 => ?_)
    · have h := h.1 c4
      refine qa_bipush (v := -2) dX9_house_34 (by decide) ?_
      exact qa_iret rfl dX9_house_36 ⟨rfl, rfl⟩ ⟨rfl, hp3, _, rfl, h⟩
    · have h := h.2 c4
      refine qa_ald0 dX9_house_18 ?_
      refine qa_getR dX9_house_19 lf_X9_9 rfl sh_91 (by decide) (pp_91_1 hp3) (by decide) ?_
      refine qa_bipush (v := 10) dX9_house_22 (by decide) ?_
      refine qa_iconst (v := 2) dX9_house_24 (by decide) ?_
      refine qa_ild1 dX9_house_25 ?_
      refine qa_imul dX9_house_26 ?_
      refine qa_iadd dX9_house_27 ?_
      refine qa_ild2 dX9_house_28 ?_
      refine qa_iadd dX9_house_29 ?_
      refine qa_iald dX9_house_30 sh_92 (by decide) h.1 ?_
      have h := h.2
      refine qa_goto (tgt := 36) dX9_house_31 (by decide) ?_
      exact qa_iret rfl dX9_house_36 ⟨rfl, rfl⟩ ⟨rfl, hp3, _, rfl, h⟩
def wX9_idle_40 (n : Nat) (v1 : Int32) (v3 : Int32) (s0 : Int32) (s1 : Int32) (μ0 : qa_M) (K0 : Int32 → Int32 → Int32 → qa_M → Prop) (Q : Int32 → qa_M → Prop) : Prop := ∀ x7, x7 = (s1 ||| s0) → K0 v1 x7 (v3 + (1 : Int32)) μ0
def wX9_idle_15 : Nat → Int32 → Int32 → Int32 → qa_M → (Int32 → qa_M → Prop) → Prop
  | 0, _, _, _, _, _ => False
  | n + 1, v1, v2, v3, μ0, Q => wX9_houses n  μ0 (fun r3 μ3 => ((r3 ≤ v3 → Q v2 μ3) ∧ (¬ r3 ≤ v3 → wX9_pushOf n v3 v1 μ3 (fun r5 μ5 => ((¬ r5 = 0 → wX9_idle_40 n v1 v3 (0 : Int32) v2 μ5 (fun v1 v2 v3 μk => wX9_idle_15 n v1 v2 v3 μk Q) Q) ∧ (r5 = 0 → wX9_idle_40 n v1 v3 ((1 : Int32) <<< (v3 &&& 31)) v2 μ5 (fun v1 v2 v3 μk => wX9_idle_15 n v1 v2 v3 μk Q) Q))))))
def wX9_idle (n : Nat) (v1 : Int32) (μ0 : qa_M) (Q : Int32 → qa_M → Prop) : Prop := wX9_asksAhead n v1 μ0 (fun r1 μ1 => ((¬ r1 = 0 → wX9_idle_15 n v1 (0 : Int32) (0 : Int32) μ1  Q) ∧ (r1 = 0 → Q (-2 : Int32) μ1)))
theorem tX9_idle_40 (l : Launch) {K0 : Int32 → Int32 → Int32 → qa_M → Prop} {Q : Int32 → qa_M → Prop} (hK0 : ∀ (v1 : Int32) (v2 : Int32) (v3 : Int32) (μ : qa_M), qa_PP μ.2.2 → K0 v1 v2 v3 μ → qa_G l yX9_idle cX9_idle 4 (some .int) 5 0 0 (qa_pI Q) 0 0 15 [some (.ref 91), some (.int v1), some (.int v2), some (.int v3)] [] 113 μ) : ∀ (n : Nat) (v1 : Int32) (v3 : Int32) (s0 : Int32) (s1 : Int32) (μ0 : qa_M), qa_PP μ0.2.2 → wX9_idle_40 n v1 v3 s0 s1 μ0 K0 Q → qa_G l yX9_idle cX9_idle 4 (some .int) 5 0 0 (qa_pI Q) 0 0 40 [some (.ref 91), some (.int v1), none, some (.int v3)] [.int s0, .int s1] 113 μ0 := by
  intro n
  intro v1 v3 s0 s1 μ0 hp0  h
  unfold wX9_idle_40 at h
  refine qa_ior dX9_idle_40 ?_
  refine qa_nmI (fun x7 e7 => ?_)
  have h := h x7 e7
  refine qa_ist2 dX9_idle_41 ?_
  refine qa_inc3 dX9_idle_42 (qa_io1 _) ?_
  refine qa_goto (tgt := 15) dX9_idle_45 (by decide) ?_
  refine qa_fgt (L' := [some (.ref 91), some (.int v1), some (.int x7), some (.int (v3 + (1 : Int32)))]) (⟨rfl, ⟨rfl, ⟨rfl, ⟨rfl, trivial⟩⟩⟩⟩) ?_
  exact hK0 v1 x7 (v3 + (1 : Int32)) μ0 hp0  h
theorem tX9_idle_15 (l : Launch)  {Q : Int32 → qa_M → Prop}  : ∀ (n : Nat) (v1 : Int32) (v2 : Int32) (v3 : Int32) (μ0 : qa_M), qa_PP μ0.2.2 → wX9_idle_15 n v1 v2 v3 μ0  Q → qa_G l yX9_idle cX9_idle 4 (some .int) 5 0 0 (qa_pI Q) 0 0 15 [some (.ref 91), some (.int v1), some (.int v2), some (.int v3)] [] 113 μ0 := by
  intro n
  induction n with
  | zero =>
    intro v1 v2 v3 μ0 hp0  h
    rw [wX9_idle_15] at h
    exact h.elim
  | succ n ih =>
    intro v1 v2 v3 μ0 hp0  h
    rw [wX9_idle_15] at h
    refine qa_ild3 dX9_idle_15 ?_
    refine qa_ald0 dX9_idle_16 ?_
    refine qa_V0I dX9_idle_17 lm_X9_100 sh_91 rfl (by decide) (by decide) (Nat.le_of_ble_eq_true rfl) (tX9_houses l hp0  h) (fun r3 μ3 hp3 h => ?_)
    refine qa_icmp_ge (tgt := 48) dX9_idle_20 (by decide) (fun c4 => ?_) (fun c4 => ?_)
    · have h := h.1 c4
      refine qa_ild2 dX9_idle_48 ?_
      exact qa_iret rfl dX9_idle_49 ⟨rfl, rfl⟩ ⟨rfl, hp3, _, rfl, h⟩
    · have h := h.2 c4
      refine qa_ild2 dX9_idle_23 ?_
      refine qa_ald0 dX9_idle_24 ?_
      refine qa_ild3 dX9_idle_25 ?_
      refine qa_ild1 dX9_idle_26 ?_
      refine qa_V2I dX9_idle_27 lm_X9_301 sh_91 rfl (by decide) (by decide) (Nat.le_of_ble_eq_true rfl) (tX9_pushOf l hp3  h) (fun r5 μ5 hp5 h => ?_)
      refine qa_if_ne (tgt := 39) dX9_idle_30 (by decide) (fun c6 => ?_) (fun c6 => ?_)
      · have h := h.1 c6
        refine qa_iconst (v := 0) dX9_idle_39 (by decide) ?_
        refine qa_fgt (L' := [some (.ref 91), some (.int v1), none, some (.int v3)]) (⟨rfl, ⟨rfl, ⟨rfl, trivial⟩⟩⟩) ?_
        refine tX9_idle_40 l ih n v1 v3 (0 : Int32) v2 μ5 hp5  h
      · have h := h.2 c6
        refine qa_iconst (v := 1) dX9_idle_33 (by decide) ?_
        refine qa_ild3 dX9_idle_34 ?_
        refine qa_ishl dX9_idle_35 ?_
        refine qa_goto (tgt := 40) dX9_idle_36 (by decide) ?_
        refine qa_fgt (L' := [some (.ref 91), some (.int v1), none, some (.int v3)]) (⟨rfl, ⟨rfl, ⟨rfl, trivial⟩⟩⟩) ?_
        refine tX9_idle_40 l ih n v1 v3 ((1 : Int32) <<< (v3 &&& 31)) v2 μ5 hp5  h
theorem tX9_idle (l : Launch) {n : Nat} {v1 : Int32} {μ0 : qa_M} {Q : Int32 → qa_M → Prop} (hp0 : qa_PP μ0.2.2)  (h : wX9_idle n v1 μ0 Q) : qa_Met l yX9_idle cX9_idle 4 (some .int) 5 0 0 [.ref 91, .int v1] 113 μ0 (qa_pI Q) := by
  refine qa_ofG (by decide) (Nat.le_of_ble_eq_true rfl) ?_
  unfold wX9_idle at h
  change qa_G l yX9_idle cX9_idle 4 (some .int) 5 0 0 (qa_pI Q) 0 0 0 [some (.ref 91), some (.int v1), none, none] [] 113 μ0
  refine qa_ald0 dX9_idle_0 ?_
  refine qa_ild1 dX9_idle_1 ?_
  refine qa_V1I dX9_idle_2 lm_X9_298 sh_91 rfl (by decide) (by decide) (Nat.le_of_ble_eq_true rfl) (tX9_asksAhead l hp0  h) (fun r1 μ1 hp1 h => ?_)
  refine qa_if_ne (tgt := 11) dX9_idle_5 (by decide) (fun c2 => ?_) (fun c2 => ?_)
  · have h := h.1 c2
    refine qa_iconst (v := 0) dX9_idle_11 (by decide) ?_
    refine qa_ist2 dX9_idle_12 ?_
    refine qa_iconst (v := 0) dX9_idle_13 (by decide) ?_
    refine qa_ist3 dX9_idle_14 ?_
    refine qa_fgt (L' := [some (.ref 91), some (.int v1), some (.int (0 : Int32)), some (.int (0 : Int32))]) (⟨rfl, ⟨rfl, ⟨rfl, ⟨rfl, trivial⟩⟩⟩⟩) ?_
    refine tX9_idle_15 l  n v1 (0 : Int32) (0 : Int32) μ1 hp1  h
  · have h := h.2 c2
    refine qa_bipush (v := -2) dX9_idle_8 (by decide) ?_
    exact qa_iret rfl dX9_idle_10 ⟨rfl, rfl⟩ ⟨rfl, hp1, _, rfl, h⟩
def wX9_image_17 : Nat → Int32 → Int32 → qa_M → (Int32 → qa_M → Prop) → Prop
  | 0, _, _, _, _ => False
  | n + 1, v1, v2, μ0, Q => (((114 : Int32) ≤ v2 → vp_in v1 3 ∧ ∀ μ4, μ4 = qa_uI μ0 94 v1.toNatClampNeg (1 : Int32) → Q (0 : Int32) μ4) ∧ (¬ (114 : Int32) ≤ v2 → vp_in v2 114 ∧ vp_in (((114 : Int32) * v1) + v2) 342 ∧ ∀ μ5, μ5 = qa_uI μ0 93 (((114 : Int32) * v1) + v2).toNatClampNeg (μ0.1 92 v2.toNatClampNeg) → wX9_image_17 n v1 (v2 + (1 : Int32)) μ5 Q))
def wX9_image (n : Nat) (v1 : Int32) (μ0 : qa_M) (Q : Int32 → qa_M → Prop) : Prop := wX9_in n v1.toInt64 (0 : Int64) (2 : Int64) μ0 (fun r1 μ1 => ((¬ r1 = 0 → wX9_image_17 n v1 (0 : Int32) μ1  Q) ∧ (r1 = 0 → Q (-2 : Int32) μ1)))
theorem tX9_image_17 (l : Launch)  {Q : Int32 → qa_M → Prop}  : ∀ (n : Nat) (v1 : Int32) (v2 : Int32) (μ0 : qa_M), qa_PP μ0.2.2 → wX9_image_17 n v1 v2 μ0  Q → qa_G l yX9_image cX9_image 3 (some .int) 1 0 0 (qa_pI Q) 0 0 17 [some (.ref 91), some (.int v1), some (.int v2)] [] 113 μ0 := by
  intro n
  induction n with
  | zero =>
    intro v1 v2 μ0 hp0  h
    rw [wX9_image_17] at h
    exact h.elim
  | succ n ih =>
    intro v1 v2 μ0 hp0  h
    rw [wX9_image_17] at h
    refine qa_ild2 dX9_image_17 ?_
    refine qa_bipush (v := 114) dX9_image_18 (by decide) ?_
    refine qa_icmp_ge (tgt := 46) dX9_image_20 (by decide) (fun c3 => ?_) (fun c3 => ?_)
    · have h := h.1 c3
      refine qa_ald0 dX9_image_46 ?_
      refine qa_getR dX9_image_47 lf_X9_16 rfl sh_91 (by decide) (pp_91_3 hp0) (by decide) ?_
      refine qa_ild1 dX9_image_50 ?_
      refine qa_iconst (v := 1) dX9_image_51 (by decide) ?_
      refine qa_zast dX9_image_52 sh_94 (by decide) h.1 (Or.inr rfl) ?_
      have h := h.2
      refine qa_nmM (fun μ4 em4 => ?_)
      have h := h μ4 em4
      have hp4 : qa_PP μ4.2.2 := by rw [em4]; exact hp0
      refine qa_iconst (v := 0) dX9_image_53 (by decide) ?_
      exact qa_iret rfl dX9_image_54 ⟨rfl, rfl⟩ ⟨rfl, hp4, _, rfl, h⟩
    · have h := h.2 c3
      refine qa_ald0 dX9_image_23 ?_
      refine qa_getR dX9_image_24 lf_X9_13 rfl sh_91 (by decide) (pp_91_2 hp0) (by decide) ?_
      refine qa_bipush (v := 114) dX9_image_27 (by decide) ?_
      refine qa_ild1 dX9_image_29 ?_
      refine qa_imul dX9_image_30 ?_
      refine qa_ild2 dX9_image_31 ?_
      refine qa_iadd dX9_image_32 ?_
      refine qa_ald0 dX9_image_33 ?_
      refine qa_getR dX9_image_34 lf_X9_9 rfl sh_91 (by decide) (pp_91_1 hp0) (by decide) ?_
      refine qa_ild2 dX9_image_37 ?_
      refine qa_iald dX9_image_38 sh_92 (by decide) h.1 ?_
      have h := h.2
      refine qa_iast dX9_image_39 sh_93 (by decide) h.1 ?_
      have h := h.2
      refine qa_nmM (fun μ5 em5 => ?_)
      have h := h μ5 em5
      have hp5 : qa_PP μ5.2.2 := by rw [em5]; exact hp0
      refine qa_inc2 dX9_image_40 (qa_io1 _) ?_
      refine qa_goto (tgt := 17) dX9_image_43 (by decide) ?_
      refine qa_fgt (L' := [some (.ref 91), some (.int v1), some (.int (v2 + (1 : Int32)))]) (⟨rfl, ⟨rfl, ⟨rfl, trivial⟩⟩⟩) ?_
      exact ih v1 (v2 + (1 : Int32)) μ5 hp5  h
theorem tX9_image (l : Launch) {n : Nat} {v1 : Int32} {μ0 : qa_M} {Q : Int32 → qa_M → Prop} (hp0 : qa_PP μ0.2.2)  (h : wX9_image n v1 μ0 Q) : qa_Met l yX9_image cX9_image 3 (some .int) 1 0 0 [.ref 91, .int v1] 113 μ0 (qa_pI Q) := by
  refine qa_ofG (by decide) (Nat.le_of_ble_eq_true rfl) ?_
  unfold wX9_image at h
  change qa_G l yX9_image cX9_image 3 (some .int) 1 0 0 (qa_pI Q) 0 0 0 [some (.ref 91), some (.int v1), none] [] 113 μ0
  refine qa_ild1 dX9_image_0 ?_
  refine qa_i2l dX9_image_1 ?_
  refine qa_lconst (v := 0) dX9_image_2 (by decide) ?_
  refine qa_ldc2 dX9_image_3 lk_X9_86 ?_
  refine qa_S3I dX9_image_6 lm_X9_88  (by decide) (Nat.le_of_ble_eq_true rfl) (tX9_in l hp0  h) (fun r1 μ1 hp1 h => ?_)
  refine qa_if_ne (tgt := 15) dX9_image_9 (by decide) (fun c2 => ?_) (fun c2 => ?_)
  · have h := h.1 c2
    refine qa_iconst (v := 0) dX9_image_15 (by decide) ?_
    refine qa_ist2 dX9_image_16 ?_
    refine qa_fgt (L' := [some (.ref 91), some (.int v1), some (.int (0 : Int32))]) (⟨rfl, ⟨rfl, ⟨rfl, trivial⟩⟩⟩) ?_
    refine tX9_image_17 l  n v1 (0 : Int32) μ1 hp1  h
  · have h := h.2 c2
    refine qa_bipush (v := -2) dX9_image_12 (by decide) ?_
    exact qa_iret rfl dX9_image_14 ⟨rfl, rfl⟩ ⟨rfl, hp1, _, rfl, h⟩
def wX9_is_75 (n : Nat) (v1 : Nat) (v3 : Int32) (s0 : Int32) (μ0 : qa_M) (K0 : Nat → Int32 → Int32 → qa_M → Prop) (Q : Int32 → qa_M → Prop) : Prop := K0 v1 s0 (v3 + (1 : Int32)) μ0
def wX9_is_39 : Nat → Nat → Int32 → Int32 → qa_M → (Int32 → qa_M → Prop) → Prop
  | 0, _, _, _, _, _ => False
  | n + 1, v1, v2, v3, μ0, Q => wJ0_length_8abf5 n v1 μ0 (fun r3 μ3 => ((r3 ≤ v3 → (narrow .boolean (.int v2) = .int v2 ∧ Q v2 μ3)) ∧ (¬ r3 ≤ v3 → ((v2 = 0 → (narrow .boolean (.int v2) = .int v2 ∧ Q v2 μ3)) ∧ (¬ v2 = 0 → vp_in ((μ3.1 91 9) + v3) 800 ∧ wJ0_charAt_5068e n v1 v3 μ3 (fun r6 μ6 => ((¬ (μ3.1 95 ((μ3.1 91 9) + v3).toNatClampNeg) = r6 → wX9_is_75 n v1 v3 (0 : Int32) μ6 (fun v1 v2 v3 μk => wX9_is_39 n v1 v2 v3 μk Q) Q) ∧ ((μ3.1 95 ((μ3.1 91 9) + v3).toNatClampNeg) = r6 → wX9_is_75 n v1 v3 (1 : Int32) μ6 (fun v1 v2 v3 μk => wX9_is_39 n v1 v2 v3 μk Q) Q))))))))
def wX9_is_36 (n : Nat) (v1 : Nat) (s0 : Int32) (μ0 : qa_M)  (Q : Int32 → qa_M → Prop) : Prop := wX9_is_39 n v1 s0 (0 : Int32) μ0  Q
def wX9_is_35 (n : Nat) (v1 : Nat) (μ0 : qa_M)  (Q : Int32 → qa_M → Prop) : Prop := wX9_is_36 n v1 (0 : Int32) μ0  Q
def wX9_is (n : Nat) (v1 : Nat) (μ0 : qa_M) (Q : Int32 → qa_M → Prop) : Prop := wX9_good n  μ0 (fun r1 μ1 => ((r1 = 0 → wX9_is_35 n v1 μ1  Q) ∧ (¬ r1 = 0 → ((¬ (μ1.1 91 10) = (1 : Int32) → wX9_is_35 n v1 μ1  Q) ∧ ((μ1.1 91 10) = (1 : Int32) → wJ0_length_8abf5 n v1 μ1 (fun r9 μ9 => ((¬ ((μ1.1 91 8) - (μ1.1 91 9)) = r9 → wX9_is_35 n v1 μ9  Q) ∧ (((μ1.1 91 8) - (μ1.1 91 9)) = r9 → wX9_is_36 n v1 (1 : Int32) μ9  Q))))))))
theorem tX9_is_75 (l : Launch) {K0 : Nat → Int32 → Int32 → qa_M → Prop} {Q : Int32 → qa_M → Prop} (hK0 : ∀ (v1 : Nat) (v2 : Int32) (v3 : Int32) (μ : qa_M), qa_PP μ.2.2 → v1 < 30 → K0 v1 v2 v3 μ → qa_G l yX9_is cX9_is 4 (some .boolean) 5 0 0 (qa_pI Q) 0 0 39 [some (.ref 91), some (.ref (2000 + v1)), some (.int v2), some (.int v3)] [] 113 μ) : ∀ (n : Nat) (v1 : Nat) (v3 : Int32) (s0 : Int32) (μ0 : qa_M), qa_PP μ0.2.2 → v1 < 30 → wX9_is_75 n v1 v3 s0 μ0 K0 Q → qa_G l yX9_is cX9_is 4 (some .boolean) 5 0 0 (qa_pI Q) 0 0 75 [some (.ref 91), some (.ref (2000 + v1)), none, some (.int v3)] [.int s0] 113 μ0 := by
  intro n
  intro v1 v3 s0 μ0 hp0 k1 h
  unfold wX9_is_75 at h
  refine qa_ist2 dX9_is_75 ?_
  refine qa_inc3 dX9_is_76 (qa_io1 _) ?_
  refine qa_goto (tgt := 39) dX9_is_79 (by decide) ?_
  refine qa_fgt (L' := [some (.ref 91), some (.ref (2000 + v1)), some (.int s0), some (.int (v3 + (1 : Int32)))]) (⟨rfl, ⟨rfl, ⟨rfl, ⟨rfl, trivial⟩⟩⟩⟩) ?_
  exact hK0 v1 s0 (v3 + (1 : Int32)) μ0 hp0 k1 h
theorem tX9_is_39 (l : Launch)  {Q : Int32 → qa_M → Prop}  : ∀ (n : Nat) (v1 : Nat) (v2 : Int32) (v3 : Int32) (μ0 : qa_M), qa_PP μ0.2.2 → v1 < 30 → wX9_is_39 n v1 v2 v3 μ0  Q → qa_G l yX9_is cX9_is 4 (some .boolean) 5 0 0 (qa_pI Q) 0 0 39 [some (.ref 91), some (.ref (2000 + v1)), some (.int v2), some (.int v3)] [] 113 μ0 := by
  intro n
  induction n with
  | zero =>
    intro v1 v2 v3 μ0 hp0 k1 h
    rw [wX9_is_39] at h
    exact h.elim
  | succ n ih =>
    intro v1 v2 v3 μ0 hp0 k1 h
    rw [wX9_is_39] at h
    refine qa_ild3 dX9_is_39 ?_
    refine qa_ald1 dX9_is_40 ?_
    refine qa_W0I dX9_is_41 lm_X9_150 rfl ⟨_, k1, rfl⟩ (by decide) (Nat.le_of_ble_eq_true rfl) (tJ0_length_8abf5 l hp0 k1 h) (fun r3 μ3 hp3 h => ?_)
    refine qa_icmp_ge (tgt := 82) dX9_is_44 (by decide) (fun c4 => ?_) (fun c4 => ?_)
    · have h := h.1 c4
      refine qa_ild2 dX9_is_82 ?_
      exact qa_zret rfl h.1 dX9_is_83 ⟨rfl, rfl⟩ ⟨rfl, hp3, _, rfl, h.2⟩
    · have h := h.2 c4
      refine qa_ild2 dX9_is_47 ?_
      refine qa_if_eq (tgt := 82) dX9_is_48 (by decide) (fun c5 => ?_) (fun c5 => ?_)
      · have h := h.1 c5
        refine qa_ild2 dX9_is_82 ?_
        exact qa_zret rfl h.1 dX9_is_83 ⟨rfl, rfl⟩ ⟨rfl, hp3, _, rfl, h.2⟩
      · have h := h.2 c5
        refine qa_ald0 dX9_is_51 ?_
        refine qa_getR dX9_is_52 lf_X9_20 rfl sh_91 (by decide) (pp_91_4 hp3) (by decide) ?_
        refine qa_ald0 dX9_is_55 ?_
        refine qa_getI dX9_is_56 lf_X9_120 (Or.inl rfl) sh_91 (by decide) ?_
        refine qa_ild3 dX9_is_59 ?_
        refine qa_iadd dX9_is_60 ?_
        refine qa_bald dX9_is_61 sh_95 (by decide) h.1 ?_
        have h := h.2
        refine qa_ald1 dX9_is_62 ?_
        refine qa_ild3 dX9_is_63 ?_
        refine qa_W1I dX9_is_64 lm_X9_155 rfl ⟨_, k1, rfl⟩ (by decide) (Nat.le_of_ble_eq_true rfl) (tJ0_charAt_5068e l hp3 k1 h) (fun r6 μ6 hp6 h => ?_)
        refine qa_icmp_ne (tgt := 74) dX9_is_67 (by decide) (fun c7 => ?_) (fun c7 => ?_)
        · have h := h.1 c7
          refine qa_iconst (v := 0) dX9_is_74 (by decide) ?_
          refine qa_fgt (L' := [some (.ref 91), some (.ref (2000 + v1)), none, some (.int v3)]) (⟨rfl, ⟨rfl, ⟨rfl, trivial⟩⟩⟩) ?_
          refine tX9_is_75 l ih n v1 v3 (0 : Int32) μ6 hp6 k1 h
        · have h := h.2 c7
          refine qa_iconst (v := 1) dX9_is_70 (by decide) ?_
          refine qa_goto (tgt := 75) dX9_is_71 (by decide) ?_
          refine qa_fgt (L' := [some (.ref 91), some (.ref (2000 + v1)), none, some (.int v3)]) (⟨rfl, ⟨rfl, ⟨rfl, trivial⟩⟩⟩) ?_
          refine tX9_is_75 l ih n v1 v3 (1 : Int32) μ6 hp6 k1 h
theorem tX9_is_36 (l : Launch)  {Q : Int32 → qa_M → Prop}  : ∀ (n : Nat) (v1 : Nat) (s0 : Int32) (μ0 : qa_M), qa_PP μ0.2.2 → v1 < 30 → wX9_is_36 n v1 s0 μ0  Q → qa_G l yX9_is cX9_is 4 (some .boolean) 5 0 0 (qa_pI Q) 0 0 36 [some (.ref 91), some (.ref (2000 + v1)), none, none] [.int s0] 113 μ0 := by
  intro n
  intro v1 s0 μ0 hp0 k1 h
  unfold wX9_is_36 at h
  refine qa_ist2 dX9_is_36 ?_
  refine qa_iconst (v := 0) dX9_is_37 (by decide) ?_
  refine qa_ist3 dX9_is_38 ?_
  refine qa_fgt (L' := [some (.ref 91), some (.ref (2000 + v1)), some (.int s0), some (.int (0 : Int32))]) (⟨rfl, ⟨rfl, ⟨rfl, ⟨rfl, trivial⟩⟩⟩⟩) ?_
  refine tX9_is_39 l  n v1 s0 (0 : Int32) μ0 hp0 k1 h
theorem tX9_is_35 (l : Launch)  {Q : Int32 → qa_M → Prop}  : ∀ (n : Nat) (v1 : Nat) (μ0 : qa_M), qa_PP μ0.2.2 → v1 < 30 → wX9_is_35 n v1 μ0  Q → qa_G l yX9_is cX9_is 4 (some .boolean) 5 0 0 (qa_pI Q) 0 0 35 [some (.ref 91), some (.ref (2000 + v1)), none, none] [] 113 μ0 := by
  intro n
  intro v1 μ0 hp0 k1 h
  unfold wX9_is_35 at h
  refine qa_iconst (v := 0) dX9_is_35 (by decide) ?_
  refine qa_fgt (L' := [some (.ref 91), some (.ref (2000 + v1)), none, none]) (⟨rfl, ⟨rfl, trivial⟩⟩) ?_
  refine tX9_is_36 l  n v1 (0 : Int32) μ0 hp0 k1 h
theorem tX9_is (l : Launch) {n : Nat} {v1 : Nat} {μ0 : qa_M} {Q : Int32 → qa_M → Prop} (hp0 : qa_PP μ0.2.2) (k1 : v1 < 30) (h : wX9_is n v1 μ0 Q) : qa_Met l yX9_is cX9_is 4 (some .boolean) 5 0 0 [.ref 91, .ref (2000 + v1)] 113 μ0 (qa_pI Q) := by
  refine qa_ofG (by decide) (Nat.le_of_ble_eq_true rfl) ?_
  unfold wX9_is at h
  change qa_G l yX9_is cX9_is 4 (some .boolean) 5 0 0 (qa_pI Q) 0 0 0 [some (.ref 91), some (.ref (2000 + v1)), none, none] [] 113 μ0
  refine qa_ald0 dX9_is_0 ?_
  refine qa_V0I dX9_is_1 lm_X9_147 sh_91 rfl (by decide) (by decide) (Nat.le_of_ble_eq_true rfl) (tX9_good l hp0  h) (fun r1 μ1 hp1 h => ?_)
  refine qa_if_eq (tgt := 35) dX9_is_4 (by decide) (fun c2 => ?_) (fun c2 => ?_)
  · have h := h.1 c2
    refine qa_fgt (L' := [some (.ref 91), some (.ref (2000 + v1)), none, none]) (⟨rfl, ⟨rfl, trivial⟩⟩) ?_
    refine tX9_is_35 l  n v1 μ1 hp1 k1 h
  · have h := h.2 c2
    refine qa_ald0 dX9_is_7 ?_
    refine qa_getI dX9_is_8 lf_X9_123 (Or.inl rfl) sh_91 (by decide) ?_
    refine qa_iconst (v := 1) dX9_is_11 (by decide) ?_
    refine qa_icmp_ne (tgt := 35) dX9_is_12 (by decide) (fun c8 => ?_) (fun c8 => ?_)
    · have h := h.1 c8
      refine qa_fgt (L' := [some (.ref 91), some (.ref (2000 + v1)), none, none]) (⟨rfl, ⟨rfl, trivial⟩⟩) ?_
      refine tX9_is_35 l  n v1 μ1 hp1 k1 h
    · have h := h.2 c8
      refine qa_ald0 dX9_is_15 ?_
      refine qa_getI dX9_is_16 lf_X9_113 (Or.inl rfl) sh_91 (by decide) ?_
      refine qa_ald0 dX9_is_19 ?_
      refine qa_getI dX9_is_20 lf_X9_120 (Or.inl rfl) sh_91 (by decide) ?_
      refine qa_isub dX9_is_23 ?_
      refine qa_ald1 dX9_is_24 ?_
      refine qa_W0I dX9_is_25 lm_X9_150 rfl ⟨_, k1, rfl⟩ (by decide) (Nat.le_of_ble_eq_true rfl) (tJ0_length_8abf5 l hp1 k1 h) (fun r9 μ9 hp9 h => ?_)
      refine qa_icmp_ne (tgt := 35) dX9_is_28 (by decide) (fun c10 => ?_) (fun c10 => ?_)
      · have h := h.1 c10
        refine qa_fgt (L' := [some (.ref 91), some (.ref (2000 + v1)), none, none]) (⟨rfl, ⟨rfl, trivial⟩⟩) ?_
        refine tX9_is_35 l  n v1 μ9 hp9 k1 h
      · have h := h.2 c10
        refine qa_iconst (v := 1) dX9_is_31 (by decide) ?_
        refine qa_goto (tgt := 36) dX9_is_32 (by decide) ?_
        refine qa_fgt (L' := [some (.ref 91), some (.ref (2000 + v1)), none, none]) (⟨rfl, ⟨rfl, trivial⟩⟩) ?_
        refine tX9_is_36 l  n v1 (1 : Int32) μ9 hp9 k1 h
def wX9_isFull_62 (n : Nat)  (μ0 : qa_M)  (Q : Int32 → qa_M → Prop) : Prop := wX9_is n 23 μ0 (fun r7 μ7 => ((r7 = 0 → Q (0 : Int32) μ7) ∧ (¬ r7 = 0 → ((¬ (μ7.1 97 (7 : Int32).toNatClampNeg) = (8 : Int32) → Q (0 : Int32) μ7) ∧ ((μ7.1 97 (7 : Int32).toNatClampNeg) = (8 : Int32) → Q (1 : Int32) μ7)))))
def wX9_isFull_42 (n : Nat)  (μ0 : qa_M)  (Q : Int32 → qa_M → Prop) : Prop := wX9_is n 22 μ0 (fun r5 μ5 => ((r5 = 0 → wX9_isFull_62 n  μ5  Q) ∧ (¬ r5 = 0 → (((μ5.1 97 (6 : Int32).toNatClampNeg) = (4 : Int32) → Q (1 : Int32) μ5) ∧ (¬ (μ5.1 97 (6 : Int32).toNatClampNeg) = (4 : Int32) → wX9_isFull_62 n  μ5  Q)))))
def wX9_isFull_20 (n : Nat)  (μ0 : qa_M)  (Q : Int32 → qa_M → Prop) : Prop := wX9_is n 21 μ0 (fun r3 μ3 => ((r3 = 0 → wX9_isFull_42 n  μ3  Q) ∧ (¬ r3 = 0 → ((¬ (μ3.1 97 (5 : Int32).toNatClampNeg) = (10 : Int32) → wX9_isFull_42 n  μ3  Q) ∧ ((μ3.1 97 (5 : Int32).toNatClampNeg) = (10 : Int32) → Q (1 : Int32) μ3)))))
def wX9_isFull (n : Nat)  (μ0 : qa_M) (Q : Int32 → qa_M → Prop) : Prop := wX9_is n 20 μ0 (fun r1 μ1 => ((r1 = 0 → wX9_isFull_20 n  μ1  Q) ∧ (¬ r1 = 0 → (((μ1.1 97 (4 : Int32).toNatClampNeg) = (8 : Int32) → Q (1 : Int32) μ1) ∧ (¬ (μ1.1 97 (4 : Int32).toNatClampNeg) = (8 : Int32) → wX9_isFull_20 n  μ1  Q)))))
theorem tX9_isFull_62 (l : Launch)  {Q : Int32 → qa_M → Prop}  : ∀ (n : Nat)  (μ0 : qa_M), qa_PP μ0.2.2 → wX9_isFull_62 n  μ0  Q → qa_G l yX9_isFull cX9_isFull 1 (some .boolean) 6 0 0 (qa_pI Q) 0 0 62 [some (.ref 91)] [] 113 μ0 := by
  intro n
  intro  μ0 hp0  h
  unfold wX9_isFull_62 at h
  refine qa_ald0 dX9_isFull_62 ?_
  refine qa_ldcS (i := 23) (tx := "letter") dX9_isFull_63 (by decide) ?_
  refine qa_V1I dX9_isFull_65 lm_X9_159 sh_91 rfl (by decide) (by decide) (Nat.le_of_ble_eq_true rfl) (tX9_is l hp0 (by decide) h) (fun r7 μ7 hp7 h => ?_)
  refine qa_if_eq (tgt := 87) dX9_isFull_68 (by decide) (fun c8 => ?_) (fun c8 => ?_)
  · have h := h.1 c8
    refine qa_iconst (v := 0) dX9_isFull_87 (by decide) ?_
    exact qa_zret rfl rfl dX9_isFull_88 ⟨rfl, rfl⟩ ⟨rfl, hp7, _, rfl, h⟩
  · have h := h.2 c8
    refine qa_ald0 dX9_isFull_71 ?_
    refine qa_getR dX9_isFull_72 lf_X9_31 rfl sh_91 (by decide) (pp_91_14 hp7) (by decide) ?_
    refine qa_bipush (v := 7) dX9_isFull_75 (by decide) ?_
    refine qa_iald dX9_isFull_77 sh_97 (by decide) (by unfold vp_in; decide) ?_
    refine qa_bipush (v := 8) dX9_isFull_78 (by decide) ?_
    refine qa_icmp_ne (tgt := 87) dX9_isFull_80 (by decide) (fun c9 => ?_) (fun c9 => ?_)
    · have h := h.1 c9
      refine qa_iconst (v := 0) dX9_isFull_87 (by decide) ?_
      exact qa_zret rfl rfl dX9_isFull_88 ⟨rfl, rfl⟩ ⟨rfl, hp7, _, rfl, h⟩
    · have h := h.2 c9
      refine qa_iconst (v := 1) dX9_isFull_83 (by decide) ?_
      refine qa_goto (tgt := 88) dX9_isFull_84 (by decide) ?_
      exact qa_zret rfl rfl dX9_isFull_88 ⟨rfl, rfl⟩ ⟨rfl, hp7, _, rfl, h⟩
theorem tX9_isFull_42 (l : Launch)  {Q : Int32 → qa_M → Prop}  : ∀ (n : Nat)  (μ0 : qa_M), qa_PP μ0.2.2 → wX9_isFull_42 n  μ0  Q → qa_G l yX9_isFull cX9_isFull 1 (some .boolean) 6 0 0 (qa_pI Q) 0 0 42 [some (.ref 91)] [] 113 μ0 := by
  intro n
  intro  μ0 hp0  h
  unfold wX9_isFull_42 at h
  refine qa_ald0 dX9_isFull_42 ?_
  refine qa_ldcS (i := 22) (tx := "snow") dX9_isFull_43 (by decide) ?_
  refine qa_V1I dX9_isFull_45 lm_X9_159 sh_91 rfl (by decide) (by decide) (Nat.le_of_ble_eq_true rfl) (tX9_is l hp0 (by decide) h) (fun r5 μ5 hp5 h => ?_)
  refine qa_if_eq (tgt := 62) dX9_isFull_48 (by decide) (fun c6 => ?_) (fun c6 => ?_)
  · have h := h.1 c6
    refine qa_fgt (L' := [some (.ref 91)]) (⟨rfl, trivial⟩) ?_
    refine tX9_isFull_62 l  n  μ5 hp5  h
  · have h := h.2 c6
    refine qa_ald0 dX9_isFull_51 ?_
    refine qa_getR dX9_isFull_52 lf_X9_31 rfl sh_91 (by decide) (pp_91_14 hp5) (by decide) ?_
    refine qa_bipush (v := 6) dX9_isFull_55 (by decide) ?_
    refine qa_iald dX9_isFull_57 sh_97 (by decide) (by unfold vp_in; decide) ?_
    refine qa_iconst (v := 4) dX9_isFull_58 (by decide) ?_
    refine qa_icmp_eq (tgt := 83) dX9_isFull_59 (by decide) (fun c10 => ?_) (fun c10 => ?_)
    · have h := h.1 c10
      refine qa_iconst (v := 1) dX9_isFull_83 (by decide) ?_
      refine qa_goto (tgt := 88) dX9_isFull_84 (by decide) ?_
      exact qa_zret rfl rfl dX9_isFull_88 ⟨rfl, rfl⟩ ⟨rfl, hp5, _, rfl, h⟩
    · have h := h.2 c10
      refine qa_fgt (L' := [some (.ref 91)]) (⟨rfl, trivial⟩) ?_
      refine tX9_isFull_62 l  n  μ5 hp5  h
theorem tX9_isFull_20 (l : Launch)  {Q : Int32 → qa_M → Prop}  : ∀ (n : Nat)  (μ0 : qa_M), qa_PP μ0.2.2 → wX9_isFull_20 n  μ0  Q → qa_G l yX9_isFull cX9_isFull 1 (some .boolean) 6 0 0 (qa_pI Q) 0 0 20 [some (.ref 91)] [] 113 μ0 := by
  intro n
  intro  μ0 hp0  h
  unfold wX9_isFull_20 at h
  refine qa_ald0 dX9_isFull_20 ?_
  refine qa_ldcS (i := 21) (tx := "place") dX9_isFull_21 (by decide) ?_
  refine qa_V1I dX9_isFull_23 lm_X9_159 sh_91 rfl (by decide) (by decide) (Nat.le_of_ble_eq_true rfl) (tX9_is l hp0 (by decide) h) (fun r3 μ3 hp3 h => ?_)
  refine qa_if_eq (tgt := 42) dX9_isFull_26 (by decide) (fun c4 => ?_) (fun c4 => ?_)
  · have h := h.1 c4
    refine qa_fgt (L' := [some (.ref 91)]) (⟨rfl, trivial⟩) ?_
    refine tX9_isFull_42 l  n  μ3 hp3  h
  · have h := h.2 c4
    refine qa_ald0 dX9_isFull_29 ?_
    refine qa_getR dX9_isFull_30 lf_X9_31 rfl sh_91 (by decide) (pp_91_14 hp3) (by decide) ?_
    refine qa_iconst (v := 5) dX9_isFull_33 (by decide) ?_
    refine qa_iald dX9_isFull_34 sh_97 (by decide) (by unfold vp_in; decide) ?_
    refine qa_bipush (v := 10) dX9_isFull_35 (by decide) ?_
    refine qa_icmp_ne (tgt := 42) dX9_isFull_37 (by decide) (fun c11 => ?_) (fun c11 => ?_)
    · have h := h.1 c11
      refine qa_fgt (L' := [some (.ref 91)]) (⟨rfl, trivial⟩) ?_
      refine tX9_isFull_42 l  n  μ3 hp3  h
    · have h := h.2 c11
      refine qa_iconst (v := 1) dX9_isFull_40 (by decide) ?_
      exact qa_zret rfl rfl dX9_isFull_41 ⟨rfl, rfl⟩ ⟨rfl, hp3, _, rfl, h⟩
theorem tX9_isFull (l : Launch) {n : Nat}  {μ0 : qa_M} {Q : Int32 → qa_M → Prop} (hp0 : qa_PP μ0.2.2)  (h : wX9_isFull n  μ0 Q) : qa_Met l yX9_isFull cX9_isFull 1 (some .boolean) 6 0 0 [.ref 91] 113 μ0 (qa_pI Q) := by
  refine qa_ofG (by decide) (Nat.le_of_ble_eq_true rfl) ?_
  unfold wX9_isFull at h
  change qa_G l yX9_isFull cX9_isFull 1 (some .boolean) 6 0 0 (qa_pI Q) 0 0 0 [some (.ref 91)] [] 113 μ0
  refine qa_ald0 dX9_isFull_0 ?_
  refine qa_ldcS (i := 20) (tx := "house") dX9_isFull_1 (by decide) ?_
  refine qa_V1I dX9_isFull_3 lm_X9_159 sh_91 rfl (by decide) (by decide) (Nat.le_of_ble_eq_true rfl) (tX9_is l hp0 (by decide) h) (fun r1 μ1 hp1 h => ?_)
  refine qa_if_eq (tgt := 20) dX9_isFull_6 (by decide) (fun c2 => ?_) (fun c2 => ?_)
  · have h := h.1 c2
    refine qa_fgt (L' := [some (.ref 91)]) (⟨rfl, trivial⟩) ?_
    refine tX9_isFull_20 l  n  μ1 hp1  h
  · have h := h.2 c2
    refine qa_ald0 dX9_isFull_9 ?_
    refine qa_getR dX9_isFull_10 lf_X9_31 rfl sh_91 (by decide) (pp_91_14 hp1) (by decide) ?_
    refine qa_iconst (v := 4) dX9_isFull_13 (by decide) ?_
    refine qa_iald dX9_isFull_14 sh_97 (by decide) (by unfold vp_in; decide) ?_
    refine qa_bipush (v := 8) dX9_isFull_15 (by decide) ?_
    refine qa_icmp_eq (tgt := 40) dX9_isFull_17 (by decide) (fun c12 => ?_) (fun c12 => ?_)
    · have h := h.1 c12
      refine qa_iconst (v := 1) dX9_isFull_40 (by decide) ?_
      exact qa_zret rfl rfl dX9_isFull_41 ⟨rfl, rfl⟩ ⟨rfl, hp1, _, rfl, h⟩
    · have h := h.2 c12
      refine qa_fgt (L' := [some (.ref 91)]) (⟨rfl, trivial⟩) ?_
      refine tX9_isFull_20 l  n  μ1 hp1  h
def wX9_isLetter (n : Nat) (v1 : Int32) (μ0 : qa_M) (Q : Int32 → qa_M → Prop) : Prop := wX9_in n v1.toInt64 (0 : Int64) ((μ0.1 92 (7 : Int32).toNatClampNeg) - (1 : Int32)).toInt64 μ0 (fun r1 μ1 => (narrow .boolean (.int r1) = .int r1 ∧ Q r1 μ1))
theorem tX9_isLetter (l : Launch) {n : Nat} {v1 : Int32} {μ0 : qa_M} {Q : Int32 → qa_M → Prop} (hp0 : qa_PP μ0.2.2)  (h : wX9_isLetter n v1 μ0 Q) : qa_Met l yX9_isLetter cX9_isLetter 2 (some .boolean) 1 0 0 [.ref 91, .int v1] 113 μ0 (qa_pI Q) := by
  refine qa_ofG (by decide) (Nat.le_of_ble_eq_true rfl) ?_
  unfold wX9_isLetter at h
  change qa_G l yX9_isLetter cX9_isLetter 2 (some .boolean) 1 0 0 (qa_pI Q) 0 0 0 [some (.ref 91), some (.int v1)] [] 113 μ0
  refine qa_ild1 dX9_isLetter_0 ?_
  refine qa_i2l dX9_isLetter_1 ?_
  refine qa_lconst (v := 0) dX9_isLetter_2 (by decide) ?_
  refine qa_ald0 dX9_isLetter_3 ?_
  refine qa_getR dX9_isLetter_4 lf_X9_9 rfl sh_91 (by decide) (pp_91_1 hp0) (by decide) ?_
  refine qa_bipush (v := 7) dX9_isLetter_7 (by decide) ?_
  refine qa_iald dX9_isLetter_9 sh_92 (by decide) (by unfold vp_in; decide) ?_
  refine qa_iconst (v := 1) dX9_isLetter_10 (by decide) ?_
  refine qa_isub dX9_isLetter_11 ?_
  refine qa_i2l dX9_isLetter_12 ?_
  refine qa_S3I dX9_isLetter_13 lm_X9_88  (by decide) (Nat.le_of_ble_eq_true rfl) (tX9_in l hp0  h) (fun r1 μ1 hp1 h => ?_)
  exact qa_zret rfl h.1 dX9_isLetter_16 ⟨rfl, rfl⟩ ⟨rfl, hp1, _, rfl, h.2⟩
def wX9_jerk_48 (n : Nat) (v2 : Int32) (s0 : Int32) (μ0 : qa_M) (K0 : Int32 → Int32 → qa_M → Prop) (Q : Int32 → qa_M → Prop) : Prop := K0 s0 (v2 + (1 : Int32)) μ0
def wX9_jerk_14 : Nat → Int32 → Int32 → qa_M → (Int32 → qa_M → Prop) → Prop
  | 0, _, _, _, _ => False
  | n + 1, v1, v2, μ0, Q => wX9_weeks n  μ0 (fun r3 μ3 => ((r3 ≤ v2 → Q v1 μ3) ∧ (¬ r3 ≤ v2 → vp_in v2 20 ∧ wJ9_abs_0f7a4 n (μ3.1 104 v2.toNatClampNeg) μ3 (fun r5 μ5 => vp_in v1 20 ∧ wJ9_abs_0f7a4 n (μ5.1 104 v1.toNatClampNeg) μ5 (fun r6 μ6 => ((r5 ≤ r6 → wX9_jerk_48 n v2 v1 μ6 (fun v1 v2 μk => wX9_jerk_14 n v1 v2 μk Q) Q) ∧ (¬ r5 ≤ r6 → wX9_jerk_48 n v2 v2 μ6 (fun v1 v2 μk => wX9_jerk_14 n v1 v2 μk Q) Q)))))))
def wX9_jerk (n : Nat)  (μ0 : qa_M) (Q : Int32 → qa_M → Prop) : Prop := wX9_asksTown n  μ0 (fun r1 μ1 => ((¬ r1 = 0 → wX9_jerk_14 n (0 : Int32) (1 : Int32) μ1  Q) ∧ (r1 = 0 → Q (-2 : Int32) μ1)))
theorem tX9_jerk_48 (l : Launch) {K0 : Int32 → Int32 → qa_M → Prop} {Q : Int32 → qa_M → Prop} (hK0 : ∀ (v1 : Int32) (v2 : Int32) (μ : qa_M), qa_PP μ.2.2 → K0 v1 v2 μ → qa_G l yX9_jerk cX9_jerk 3 (some .int) 4 0 0 (qa_pI Q) 0 0 14 [some (.ref 91), some (.int v1), some (.int v2)] [] 113 μ) : ∀ (n : Nat) (v2 : Int32) (s0 : Int32) (μ0 : qa_M), qa_PP μ0.2.2 → wX9_jerk_48 n v2 s0 μ0 K0 Q → qa_G l yX9_jerk cX9_jerk 3 (some .int) 4 0 0 (qa_pI Q) 0 0 48 [some (.ref 91), none, some (.int v2)] [.int s0] 113 μ0 := by
  intro n
  intro v2 s0 μ0 hp0  h
  unfold wX9_jerk_48 at h
  refine qa_ist1 dX9_jerk_48 ?_
  refine qa_inc2 dX9_jerk_49 (qa_io1 _) ?_
  refine qa_goto (tgt := 14) dX9_jerk_52 (by decide) ?_
  refine qa_fgt (L' := [some (.ref 91), some (.int s0), some (.int (v2 + (1 : Int32)))]) (⟨rfl, ⟨rfl, ⟨rfl, trivial⟩⟩⟩) ?_
  exact hK0 s0 (v2 + (1 : Int32)) μ0 hp0  h
theorem tX9_jerk_14 (l : Launch)  {Q : Int32 → qa_M → Prop}  : ∀ (n : Nat) (v1 : Int32) (v2 : Int32) (μ0 : qa_M), qa_PP μ0.2.2 → wX9_jerk_14 n v1 v2 μ0  Q → qa_G l yX9_jerk cX9_jerk 3 (some .int) 4 0 0 (qa_pI Q) 0 0 14 [some (.ref 91), some (.int v1), some (.int v2)] [] 113 μ0 := by
  intro n
  induction n with
  | zero =>
    intro v1 v2 μ0 hp0  h
    rw [wX9_jerk_14] at h
    exact h.elim
  | succ n ih =>
    intro v1 v2 μ0 hp0  h
    rw [wX9_jerk_14] at h
    refine qa_ild2 dX9_jerk_14 ?_
    refine qa_ald0 dX9_jerk_15 ?_
    refine qa_V0I dX9_jerk_16 lm_X9_96 sh_91 rfl (by decide) (by decide) (Nat.le_of_ble_eq_true rfl) (tX9_weeks l hp0  h) (fun r3 μ3 hp3 h => ?_)
    refine qa_icmp_ge (tgt := 55) dX9_jerk_19 (by decide) (fun c4 => ?_) (fun c4 => ?_)
    · have h := h.1 c4
      refine qa_ild1 dX9_jerk_55 ?_
      exact qa_iret rfl dX9_jerk_56 ⟨rfl, rfl⟩ ⟨rfl, hp3, _, rfl, h⟩
    · have h := h.2 c4
      refine qa_ald0 dX9_jerk_22 ?_
      refine qa_getR dX9_jerk_23 lf_X9_52 rfl sh_91 (by decide) (pp_91_28 hp3) (by decide) ?_
      refine qa_ild2 dX9_jerk_26 ?_
      refine qa_iald dX9_jerk_27 sh_104 (by decide) h.1 ?_
      have h := h.2
      refine qa_S1I dX9_jerk_28 lm_X9_304  (by decide) (Nat.le_of_ble_eq_true rfl) (tJ9_abs_0f7a4 l hp3  h) (fun r5 μ5 hp5 h => ?_)
      refine qa_ald0 dX9_jerk_31 ?_
      refine qa_getR dX9_jerk_32 lf_X9_52 rfl sh_91 (by decide) (pp_91_28 hp5) (by decide) ?_
      refine qa_ild1 dX9_jerk_35 ?_
      refine qa_iald dX9_jerk_36 sh_104 (by decide) h.1 ?_
      have h := h.2
      refine qa_S1I dX9_jerk_37 lm_X9_304  (by decide) (Nat.le_of_ble_eq_true rfl) (tJ9_abs_0f7a4 l hp5  h) (fun r6 μ6 hp6 h => ?_)
      refine qa_icmp_le (tgt := 47) dX9_jerk_40 (by decide) (fun c7 => ?_) (fun c7 => ?_)
      · have h := h.1 c7
        refine qa_ild1 dX9_jerk_47 ?_
        refine qa_fgt (L' := [some (.ref 91), none, some (.int v2)]) (⟨rfl, ⟨rfl, trivial⟩⟩) ?_
        refine tX9_jerk_48 l ih n v2 v1 μ6 hp6  h
      · have h := h.2 c7
        refine qa_ild2 dX9_jerk_43 ?_
        refine qa_goto (tgt := 48) dX9_jerk_44 (by decide) ?_
        refine qa_fgt (L' := [some (.ref 91), none, some (.int v2)]) (⟨rfl, ⟨rfl, trivial⟩⟩) ?_
        refine tX9_jerk_48 l ih n v2 v2 μ6 hp6  h
theorem tX9_jerk (l : Launch) {n : Nat}  {μ0 : qa_M} {Q : Int32 → qa_M → Prop} (hp0 : qa_PP μ0.2.2)  (h : wX9_jerk n  μ0 Q) : qa_Met l yX9_jerk cX9_jerk 3 (some .int) 4 0 0 [.ref 91] 113 μ0 (qa_pI Q) := by
  refine qa_ofG (by decide) (Nat.le_of_ble_eq_true rfl) ?_
  unfold wX9_jerk at h
  change qa_G l yX9_jerk cX9_jerk 3 (some .int) 4 0 0 (qa_pI Q) 0 0 0 [some (.ref 91), none, none] [] 113 μ0
  refine qa_ald0 dX9_jerk_0 ?_
  refine qa_V0I dX9_jerk_1 lm_X9_283 sh_91 rfl (by decide) (by decide) (Nat.le_of_ble_eq_true rfl) (tX9_asksTown l hp0  h) (fun r1 μ1 hp1 h => ?_)
  refine qa_if_ne (tgt := 10) dX9_jerk_4 (by decide) (fun c2 => ?_) (fun c2 => ?_)
  · have h := h.1 c2
    refine qa_iconst (v := 0) dX9_jerk_10 (by decide) ?_
    refine qa_ist1 dX9_jerk_11 ?_
    refine qa_iconst (v := 1) dX9_jerk_12 (by decide) ?_
    refine qa_ist2 dX9_jerk_13 ?_
    refine qa_fgt (L' := [some (.ref 91), some (.int (0 : Int32)), some (.int (1 : Int32))]) (⟨rfl, ⟨rfl, ⟨rfl, trivial⟩⟩⟩) ?_
    refine tX9_jerk_14 l  n (0 : Int32) (1 : Int32) μ1 hp1  h
  · have h := h.2 c2
    refine qa_bipush (v := -2) dX9_jerk_7 (by decide) ?_
    exact qa_iret rfl dX9_jerk_9 ⟨rfl, rfl⟩ ⟨rfl, hp1, _, rfl, h⟩
def wX9_keepAct (n : Nat) (v1 : Int32) (v2 : Int32) (μ0 : qa_M) (Q : Int32 → qa_M → Prop) : Prop := ((¬ (μ0.1 92 (8 : Int32).toNatClampNeg) = (30 : Int32) → vp_in ((84 : Int32) + (μ0.1 92 (8 : Int32).toNatClampNeg)) 114 ∧ ∀ μ2, μ2 = qa_uI μ0 92 ((84 : Int32) + (μ0.1 92 (8 : Int32).toNatClampNeg)).toNatClampNeg v1 → ∀ μ3, μ3 = qa_uI μ2 92 (8 : Int32).toNatClampNeg ((μ2.1 92 (8 : Int32).toNatClampNeg) + (1 : Int32)) → wX9_asksTown n  μ3 (fun r4 μ4 => wX9_weeks n  μ4 (fun r5 μ5 => wX9_placeOf n v2 r5 μ5 (fun r6 μ6 => Q r6 μ6)))) ∧ ((μ0.1 92 (8 : Int32).toNatClampNeg) = (30 : Int32) → Q (-5 : Int32) μ0))
theorem tX9_keepAct (l : Launch) {n : Nat} {v1 : Int32} {v2 : Int32} {μ0 : qa_M} {Q : Int32 → qa_M → Prop} (hp0 : qa_PP μ0.2.2)  (h : wX9_keepAct n v1 v2 μ0 Q) : qa_Met l yX9_keepAct cX9_keepAct 3 (some .int) 4 0 0 [.ref 91, .int v1, .int v2] 113 μ0 (qa_pI Q) := by
  refine qa_ofG (by decide) (Nat.le_of_ble_eq_true rfl) ?_
  unfold wX9_keepAct at h
  change qa_G l yX9_keepAct cX9_keepAct 3 (some .int) 4 0 0 (qa_pI Q) 0 0 0 [some (.ref 91), some (.int v1), some (.int v2)] [] 113 μ0
  refine qa_ald0 dX9_keepAct_0 ?_
  refine qa_getR dX9_keepAct_1 lf_X9_9 rfl sh_91 (by decide) (pp_91_1 hp0) (by decide) ?_
  refine qa_bipush (v := 8) dX9_keepAct_4 (by decide) ?_
  refine qa_iald dX9_keepAct_6 sh_92 (by decide) (by unfold vp_in; decide) ?_
  refine qa_bipush (v := 30) dX9_keepAct_7 (by decide) ?_
  refine qa_icmp_ne (tgt := 15) dX9_keepAct_9 (by decide) (fun c1 => ?_) (fun c1 => ?_)
  · have h := h.1 c1
    refine qa_ald0 dX9_keepAct_15 ?_
    refine qa_getR dX9_keepAct_16 lf_X9_9 rfl sh_91 (by decide) (pp_91_1 hp0) (by decide) ?_
    refine qa_bipush (v := 84) dX9_keepAct_19 (by decide) ?_
    refine qa_ald0 dX9_keepAct_21 ?_
    refine qa_getR dX9_keepAct_22 lf_X9_9 rfl sh_91 (by decide) (pp_91_1 hp0) (by decide) ?_
    refine qa_bipush (v := 8) dX9_keepAct_25 (by decide) ?_
    refine qa_iald dX9_keepAct_27 sh_92 (by decide) (by unfold vp_in; decide) ?_
    refine qa_iadd dX9_keepAct_28 ?_
    refine qa_ild1 dX9_keepAct_29 ?_
    refine qa_iast dX9_keepAct_30 sh_92 (by decide) h.1 ?_
    have h := h.2
    refine qa_nmM (fun μ2 em2 => ?_)
    have h := h μ2 em2
    have hp2 : qa_PP μ2.2.2 := by rw [em2]; exact hp0
    refine qa_ald0 dX9_keepAct_31 ?_
    refine qa_getR dX9_keepAct_32 lf_X9_9 rfl sh_91 (by decide) (pp_91_1 hp2) (by decide) ?_
    refine qa_bipush (v := 8) dX9_keepAct_35 (by decide) ?_
    refine qa_dup2 dX9_keepAct_37 rfl rfl ?_
    refine qa_iald dX9_keepAct_38 sh_92 (by decide) (by unfold vp_in; decide) ?_
    refine qa_iconst (v := 1) dX9_keepAct_39 (by decide) ?_
    refine qa_iadd dX9_keepAct_40 ?_
    refine qa_iast dX9_keepAct_41 sh_92 (by decide) (by unfold vp_in; decide) ?_
    refine qa_nmM (fun μ3 em3 => ?_)
    have h := h μ3 em3
    have hp3 : qa_PP μ3.2.2 := by rw [em3]; exact hp2
    refine qa_ald0 dX9_keepAct_42 ?_
    refine qa_V0I dX9_keepAct_43 lm_X9_283 sh_91 rfl (by decide) (by decide) (Nat.le_of_ble_eq_true rfl) (tX9_asksTown l hp3  h) (fun r4 μ4 hp4 h => ?_)
    refine qa_pop dX9_keepAct_46 rfl ?_
    refine qa_ald0 dX9_keepAct_47 ?_
    refine qa_ild2 dX9_keepAct_48 ?_
    refine qa_ald0 dX9_keepAct_49 ?_
    refine qa_V0I dX9_keepAct_50 lm_X9_96 sh_91 rfl (by decide) (by decide) (Nat.le_of_ble_eq_true rfl) (tX9_weeks l hp4  h) (fun r5 μ5 hp5 h => ?_)
    refine qa_V2I dX9_keepAct_53 lm_X9_261 sh_91 rfl (by decide) (by decide) (Nat.le_of_ble_eq_true rfl) (tX9_placeOf l hp5  h) (fun r6 μ6 hp6 h => ?_)
    exact qa_iret rfl dX9_keepAct_56 ⟨rfl, rfl⟩ ⟨rfl, hp6, _, rfl, h⟩
  · have h := h.2 c1
    refine qa_bipush (v := -5) dX9_keepAct_12 (by decide) ?_
    exact qa_iret rfl dX9_keepAct_14 ⟨rfl, rfl⟩ ⟨rfl, hp0, _, rfl, h⟩
def wX9_last_16 : Nat → Int32 → Int32 → qa_M → (Int32 → qa_M → Prop) → Prop
  | 0, _, _, _, _ => False
  | n + 1, v1, v2, μ0, Q => wX9_placeOf n v1 v2 μ0 (fun r4 μ4 => wX9_placeOf n v1 (0 : Int32) μ4 (fun r5 μ5 => ((r4 = r5 → Q v2 μ5) ∧ (¬ r4 = r5 → wX9_last_16 n v1 (v2 + (-1 : Int32)) μ5 Q))))
def wX9_last (n : Nat) (v1 : Int32) (μ0 : qa_M) (Q : Int32 → qa_M → Prop) : Prop := wX9_asksHouse n v1 μ0 (fun r1 μ1 => ((¬ r1 = 0 → wX9_weeks n  μ1 (fun r3 μ3 => wX9_last_16 n v1 r3 μ3  Q)) ∧ (r1 = 0 → Q (-2 : Int32) μ1)))
theorem tX9_last_16 (l : Launch)  {Q : Int32 → qa_M → Prop}  : ∀ (n : Nat) (v1 : Int32) (v2 : Int32) (μ0 : qa_M), qa_PP μ0.2.2 → wX9_last_16 n v1 v2 μ0  Q → qa_G l yX9_last cX9_last 3 (some .int) 5 0 0 (qa_pI Q) 0 0 16 [some (.ref 91), some (.int v1), some (.int v2)] [] 113 μ0 := by
  intro n
  induction n with
  | zero =>
    intro v1 v2 μ0 hp0  h
    rw [wX9_last_16] at h
    exact h.elim
  | succ n ih =>
    intro v1 v2 μ0 hp0  h
    rw [wX9_last_16] at h
    refine qa_ald0 dX9_last_16 ?_
    refine qa_ild1 dX9_last_17 ?_
    refine qa_ild2 dX9_last_18 ?_
    refine qa_V2I dX9_last_19 lm_X9_261 sh_91 rfl (by decide) (by decide) (Nat.le_of_ble_eq_true rfl) (tX9_placeOf l hp0  h) (fun r4 μ4 hp4 h => ?_)
    refine qa_ald0 dX9_last_22 ?_
    refine qa_ild1 dX9_last_23 ?_
    refine qa_iconst (v := 0) dX9_last_24 (by decide) ?_
    refine qa_V2I dX9_last_25 lm_X9_261 sh_91 rfl (by decide) (by decide) (Nat.le_of_ble_eq_true rfl) (tX9_placeOf l hp4  h) (fun r5 μ5 hp5 h => ?_)
    refine qa_icmp_eq (tgt := 37) dX9_last_28 (by decide) (fun c6 => ?_) (fun c6 => ?_)
    · have h := h.1 c6
      refine qa_ild2 dX9_last_37 ?_
      exact qa_iret rfl dX9_last_38 ⟨rfl, rfl⟩ ⟨rfl, hp5, _, rfl, h⟩
    · have h := h.2 c6
      refine qa_inc2 dX9_last_31 (qa_iom1 _) ?_
      refine qa_goto (tgt := 16) dX9_last_34 (by decide) ?_
      refine qa_fgt (L' := [some (.ref 91), some (.int v1), some (.int (v2 + (-1 : Int32)))]) (⟨rfl, ⟨rfl, ⟨rfl, trivial⟩⟩⟩) ?_
      exact ih v1 (v2 + (-1 : Int32)) μ5 hp5  h
theorem tX9_last (l : Launch) {n : Nat} {v1 : Int32} {μ0 : qa_M} {Q : Int32 → qa_M → Prop} (hp0 : qa_PP μ0.2.2)  (h : wX9_last n v1 μ0 Q) : qa_Met l yX9_last cX9_last 3 (some .int) 5 0 0 [.ref 91, .int v1] 113 μ0 (qa_pI Q) := by
  refine qa_ofG (by decide) (Nat.le_of_ble_eq_true rfl) ?_
  unfold wX9_last at h
  change qa_G l yX9_last cX9_last 3 (some .int) 5 0 0 (qa_pI Q) 0 0 0 [some (.ref 91), some (.int v1), none] [] 113 μ0
  refine qa_ald0 dX9_last_0 ?_
  refine qa_ild1 dX9_last_1 ?_
  refine qa_V1I dX9_last_2 lm_X9_307 sh_91 rfl (by decide) (by decide) (Nat.le_of_ble_eq_true rfl) (tX9_asksHouse l hp0  h) (fun r1 μ1 hp1 h => ?_)
  refine qa_if_ne (tgt := 11) dX9_last_5 (by decide) (fun c2 => ?_) (fun c2 => ?_)
  · have h := h.1 c2
    refine qa_ald0 dX9_last_11 ?_
    refine qa_V0I dX9_last_12 lm_X9_96 sh_91 rfl (by decide) (by decide) (Nat.le_of_ble_eq_true rfl) (tX9_weeks l hp1  h) (fun r3 μ3 hp3 h => ?_)
    refine qa_ist2 dX9_last_15 ?_
    refine qa_fgt (L' := [some (.ref 91), some (.int v1), some (.int r3)]) (⟨rfl, ⟨rfl, ⟨rfl, trivial⟩⟩⟩) ?_
    refine tX9_last_16 l  n v1 r3 μ3 hp3  h
  · have h := h.2 c2
    refine qa_bipush (v := -2) dX9_last_8 (by decide) ?_
    exact qa_iret rfl dX9_last_10 ⟨rfl, rfl⟩ ⟨rfl, hp1, _, rfl, h⟩
