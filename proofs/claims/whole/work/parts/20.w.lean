def wJ0_isLatin1_aae02 (n : Nat) (v0 : Nat) (μ0 : qa_M) (Q : Int32 → qa_M → Prop) : Prop := Q (1 : Int32) μ0
theorem tJ0_isLatin1_aae02 (l : Launch) {n : Nat} {v0 : Nat} {μ0 : qa_M} {Q : Int32 → qa_M → Prop} (hp0 : qa_PP μ0.2.2) (k0 : v0 < 30) (h : wJ0_isLatin1_aae02 n v0 μ0 Q) : qa_Met l yJ0_isLatin1_aae02 cJ0_isLatin1_aae02 1 (some .boolean) 0 0 0 [.ref (2000 + v0)] 113 μ0 (qa_pI Q) := by
  refine qa_ofG (by decide) (Nat.le_of_ble_eq_true rfl) ?_
  unfold wJ0_isLatin1_aae02 at h
  change qa_G l yJ0_isLatin1_aae02 cJ0_isLatin1_aae02 1 (some .boolean) 0 0 0 (qa_pI Q) 0 0 0 [some (.ref (2000 + v0))] [] 113 μ0
  refine qa_gsC dJ0_isLatin1_aae02_0 lg_J0_38 ?_
  refine qa_if_eq (tgt := 17) dJ0_isLatin1_aae02_3 (by decide) (fun c1 => absurd c1 (by decide)) (fun _ => ?_)
  refine qa_ald0 dJ0_isLatin1_aae02_6 ?_
  refine qa_getSC dJ0_isLatin1_aae02_7 k0 lg_J0_15 ?_
  refine qa_if_ne (tgt := 17) dJ0_isLatin1_aae02_10 (by decide) (fun c2 => absurd c2 (by decide)) (fun _ => ?_)
  refine qa_iconst (v := 1) dJ0_isLatin1_aae02_13 (by decide) ?_
  refine qa_goto (tgt := 18) dJ0_isLatin1_aae02_14 (by decide) ?_
  exact qa_zret rfl rfl dJ0_isLatin1_aae02_18 ⟨rfl, rfl⟩ ⟨rfl, hp0, _, rfl, h⟩
def wJ3_checkIndex_8e157 (n : Nat) (v0 : Int32) (v1 : Int32) (μ0 : qa_M) (Q : Int32 → qa_M → Prop) : Prop := ((v0 < 0 → False) ∧ (¬ v0 < 0 → ((v0 < v1 → Q v0 μ0) ∧ (¬ v0 < v1 → False))))
theorem tJ3_checkIndex_8e157n (l : Launch) {n : Nat} {v0 : Int32} {v1 : Int32} {μ0 : qa_M} {Q : Int32 → qa_M → Prop} (hp0 : qa_PP μ0.2.2)  (h : wJ3_checkIndex_8e157 n v0 v1 μ0 Q) : qa_Met l yJ3_checkIndex_8e157 cJ3_checkIndex_8e157 3 (some .int) 0 0 0 [.int v0, .int v1, .null] 113 μ0 (qa_pI Q) := by
  refine qa_ofG (by decide) (Nat.le_of_ble_eq_true rfl) ?_
  unfold wJ3_checkIndex_8e157 at h
  change qa_G l yJ3_checkIndex_8e157 cJ3_checkIndex_8e157 3 (some .int) 0 0 0 (qa_pI Q) 0 0 0 [some (.int v0), some (.int v1), some .null] [] 113 μ0
  refine qa_ild0 dJ3_checkIndex_8e157_0 ?_
  refine qa_if_lt (tgt := 9) dJ3_checkIndex_8e157_1 (by decide) (fun c1 => ?_) (fun c1 => ?_)
  · have h := h.1 c1
    exact False.elim h
  · have h := h.2 c1
    refine qa_ild0 dJ3_checkIndex_8e157_4 ?_
    refine qa_ild1 dJ3_checkIndex_8e157_5 ?_
    refine qa_icmp_lt (tgt := 16) dJ3_checkIndex_8e157_6 (by decide) (fun c2 => ?_) (fun c2 => ?_)
    · have h := h.1 c2
      refine qa_ild0 dJ3_checkIndex_8e157_16 ?_
      exact qa_iret rfl dJ3_checkIndex_8e157_17 ⟨rfl, rfl⟩ ⟨rfl, hp0, _, rfl, h⟩
    · have h := h.2 c2
      exact False.elim h
theorem tJ3_checkIndex_8e157r (l : Launch) {n : Nat} {v0 : Int32} {v1 : Int32} {μ0 : qa_M} {Q : Int32 → qa_M → Prop} (hp0 : qa_PP μ0.2.2)  (h : wJ3_checkIndex_8e157 n v0 v1 μ0 Q) : qa_Met l yJ3_checkIndex_8e157 cJ3_checkIndex_8e157 3 (some .int) 0 0 0 [.int v0, .int v1, (.ref 5000)] 113 μ0 (qa_pI Q) := by
  refine qa_ofG (by decide) (Nat.le_of_ble_eq_true rfl) ?_
  unfold wJ3_checkIndex_8e157 at h
  change qa_G l yJ3_checkIndex_8e157 cJ3_checkIndex_8e157 3 (some .int) 0 0 0 (qa_pI Q) 0 0 0 [some (.int v0), some (.int v1), some (.ref 5000)] [] 113 μ0
  refine qa_ild0 dJ3_checkIndex_8e157_0 ?_
  refine qa_if_lt (tgt := 9) dJ3_checkIndex_8e157_1 (by decide) (fun c1 => ?_) (fun c1 => ?_)
  · have h := h.1 c1
    exact False.elim h
  · have h := h.2 c1
    refine qa_ild0 dJ3_checkIndex_8e157_4 ?_
    refine qa_ild1 dJ3_checkIndex_8e157_5 ?_
    refine qa_icmp_lt (tgt := 16) dJ3_checkIndex_8e157_6 (by decide) (fun c2 => ?_) (fun c2 => ?_)
    · have h := h.1 c2
      refine qa_ild0 dJ3_checkIndex_8e157_16 ?_
      exact qa_iret rfl dJ3_checkIndex_8e157_17 ⟨rfl, rfl⟩ ⟨rfl, hp0, _, rfl, h⟩
    · have h := h.2 c2
      exact False.elim h
def wJ0_checkIndex_df160 (n : Nat) (v0 : Int32) (v1 : Int32) (μ0 : qa_M) (Q : qa_M → Prop) : Prop := wJ3_checkIndex_8e157 n v0 v1 μ0 (fun r1 μ1 => Q μ1)
theorem tJ0_checkIndex_df160 (l : Launch) {n : Nat} {v0 : Int32} {v1 : Int32} {μ0 : qa_M} {Q : qa_M → Prop} (hp0 : qa_PP μ0.2.2)  (h : wJ0_checkIndex_df160 n v0 v1 μ0 Q) : qa_Met l yJ0_checkIndex_df160 cJ0_checkIndex_df160 2 none 1 0 0 [.int v0, .int v1] 113 μ0 (qa_pV Q) := by
  refine qa_ofG (by decide) (Nat.le_of_ble_eq_true rfl) ?_
  unfold wJ0_checkIndex_df160 at h
  change qa_G l yJ0_checkIndex_df160 cJ0_checkIndex_df160 2 none 1 0 0 (qa_pV Q) 0 0 0 [some (.int v0), some (.int v1)] [] 113 μ0
  refine qa_ild0 dJ0_checkIndex_df160_0 ?_
  refine qa_ild1 dJ0_checkIndex_df160_1 ?_
  refine qa_gsB dJ0_checkIndex_df160_2 lg_J0_1053 ?_ ?_
  · skip
    refine qa_S3I dJ0_checkIndex_df160_5 lm_J0_1059  (by decide) (Nat.le_of_ble_eq_true rfl) (tJ3_checkIndex_8e157n l hp0  h) (fun r1 μ1 hp1 h => ?_)
    refine qa_pop dJ0_checkIndex_df160_8 rfl ?_
    exact qa_vret rfl dJ0_checkIndex_df160_9 ⟨rfl, rfl⟩ ⟨rfl, hp1, rfl, h⟩
  · skip
    refine qa_S3I dJ0_checkIndex_df160_5 lm_J0_1059  (by decide) (Nat.le_of_ble_eq_true rfl) (tJ3_checkIndex_8e157r l hp0  h) (fun r1 μ1 hp1 h => ?_)
    refine qa_pop dJ0_checkIndex_df160_8 rfl ?_
    exact qa_vret rfl dJ0_checkIndex_df160_9 ⟨rfl, rfl⟩ ⟨rfl, hp1, rfl, h⟩
def wJ1_charAt_3b067 (n : Nat) (v0 : Nat) (v1 : Int32) (μ0 : qa_M) (Q : Int32 → qa_M → Prop) : Prop := wJ0_checkIndex_df160 n v1 (nI (qa_txt.getD v0 []).length) μ0 (fun μ1 => vp_in v1 (qa_txt.getD v0 []).length ∧ (narrow .char (.int ((((qa_txt.getD v0 []).getD v1.toNatClampNeg 0) &&& (255 : Int32)).toUInt32 % 65536).toInt32) = .int ((((qa_txt.getD v0 []).getD v1.toNatClampNeg 0) &&& (255 : Int32)).toUInt32 % 65536).toInt32 ∧ Q ((((qa_txt.getD v0 []).getD v1.toNatClampNeg 0) &&& (255 : Int32)).toUInt32 % 65536).toInt32 μ1))
theorem tJ1_charAt_3b067 (l : Launch) {n : Nat} {v0 : Nat} {v1 : Int32} {μ0 : qa_M} {Q : Int32 → qa_M → Prop} (hp0 : qa_PP μ0.2.2) (k0 : v0 < 30) (h : wJ1_charAt_3b067 n v0 v1 μ0 Q) : qa_Met l yJ1_charAt_3b067 cJ1_charAt_3b067 2 (some .char) 2 0 0 [.ref (3000 + v0), .int v1] 113 μ0 (qa_pI Q) := by
  refine qa_ofG (by decide) (Nat.le_of_ble_eq_true rfl) ?_
  unfold wJ1_charAt_3b067 at h
  change qa_G l yJ1_charAt_3b067 cJ1_charAt_3b067 2 (some .char) 2 0 0 (qa_pI Q) 0 0 0 [some (.ref (3000 + v0)), some (.int v1)] [] 113 μ0
  refine qa_ild1 dJ1_charAt_3b067_0 ?_
  refine qa_ald0 dJ1_charAt_3b067_1 ?_
  refine qa_alenS dJ1_charAt_3b067_2 k0 ?_
  refine qa_S2V dJ1_charAt_3b067_3 lm_J1_9  (by decide) (Nat.le_of_ble_eq_true rfl) (tJ0_checkIndex_df160 l hp0  h) (fun μ1 hp1 h => ?_)
  refine qa_ald0 dJ1_charAt_3b067_6 ?_
  refine qa_ild1 dJ1_charAt_3b067_7 ?_
  refine qa_baldS dJ1_charAt_3b067_8 k0 h.1 ?_
  have h := h.2
  refine qa_sipush (v := 255) dJ1_charAt_3b067_9 (by decide) ?_
  refine qa_iand dJ1_charAt_3b067_12 ?_
  refine qa_i2c dJ1_charAt_3b067_13 ?_
  exact qa_zret rfl h.1 dJ1_charAt_3b067_14 ⟨rfl, rfl⟩ ⟨rfl, hp1, _, rfl, h.2⟩
def wJ2_length_9d52b (n : Nat) (v0 : Nat) (n0 : Nat) (μ0 : qa_M) (Q : Int32 → qa_M → Prop) : Prop := Q ((nI n0) >>> ((1 : Int32) &&& 31)) μ0
theorem tJ2_length_9d52b (l : Launch) {n : Nat} {v0 : Nat} {n0 : Nat} {μ0 : qa_M} {Q : Int32 → qa_M → Prop} (hp0 : qa_PP μ0.2.2) (hs0 : qa_sh v0 = .inr (.byte, n0)) (ha0 : 1 ≤ v0 ∧ v0 ≤ 113) (h : wJ2_length_9d52b n v0 n0 μ0 Q) : qa_Met l yJ2_length_9d52b cJ2_length_9d52b 1 (some .int) 0 0 0 [.ref v0] 113 μ0 (qa_pI Q) := by
  refine qa_ofG (by decide) (Nat.le_of_ble_eq_true rfl) ?_
  unfold wJ2_length_9d52b at h
  change qa_G l yJ2_length_9d52b cJ2_length_9d52b 1 (some .int) 0 0 0 (qa_pI Q) 0 0 0 [some (.ref v0)] [] 113 μ0
  refine qa_ald0 dJ2_length_9d52b_0 ?_
  refine qa_alen (t := 1) dJ2_length_9d52b_1 hs0 rfl ha0 ?_
  refine qa_iconst (v := 1) dJ2_length_9d52b_2 (by decide) ?_
  refine qa_ishr dJ2_length_9d52b_3 ?_
  exact qa_iret rfl dJ2_length_9d52b_4 ⟨rfl, rfl⟩ ⟨rfl, hp0, _, rfl, h⟩
def wJ2_checkIndex_2214a (n : Nat) (v0 : Int32) (v1 : Nat) (n1 : Nat) (μ0 : qa_M) (Q : qa_M → Prop) : Prop := wJ2_length_9d52b n v1 n1 μ0 (fun r1 μ1 => wJ0_checkIndex_df160 n v0 r1 μ1 (fun μ2 => Q μ2))
theorem tJ2_checkIndex_2214a (l : Launch) {n : Nat} {v0 : Int32} {v1 : Nat} {n1 : Nat} {μ0 : qa_M} {Q : qa_M → Prop} (hp0 : qa_PP μ0.2.2) (hs1 : qa_sh v1 = .inr (.byte, n1)) (ha1 : 1 ≤ v1 ∧ v1 ≤ 113) (h : wJ2_checkIndex_2214a n v0 v1 n1 μ0 Q) : qa_Met l yJ2_checkIndex_2214a cJ2_checkIndex_2214a 2 none 2 0 0 [.int v0, .ref v1] 113 μ0 (qa_pV Q) := by
  refine qa_ofG (by decide) (Nat.le_of_ble_eq_true rfl) ?_
  unfold wJ2_checkIndex_2214a at h
  change qa_G l yJ2_checkIndex_2214a cJ2_checkIndex_2214a 2 none 2 0 0 (qa_pV Q) 0 0 0 [some (.int v0), some (.ref v1)] [] 113 μ0
  refine qa_ild0 dJ2_checkIndex_2214a_0 ?_
  refine qa_ald1 dJ2_checkIndex_2214a_1 ?_
  refine qa_S1I dJ2_checkIndex_2214a_2 lm_J2_48  (by decide) (Nat.le_of_ble_eq_true rfl) (tJ2_length_9d52b l hp0 hs1 ha1 h) (fun r1 μ1 hp1 h => ?_)
  refine qa_S2V dJ2_checkIndex_2214a_5 lm_J2_414  (by decide) (Nat.le_of_ble_eq_true rfl) (tJ0_checkIndex_df160 l hp1  h) (fun μ2 hp2 h => ?_)
  exact qa_vret rfl dJ2_checkIndex_2214a_8 ⟨rfl, rfl⟩ ⟨rfl, hp2, rfl, h⟩
def wJ2_getChar_3b067 (n : Nat) (v0 : Nat) (n0 : Nat) (v1 : Int32) (μ0 : qa_M) (Q : Int32 → qa_M → Prop) : Prop := False
theorem tJ2_getChar_3b067 (l : Launch) {n : Nat} {v0 : Nat} {n0 : Nat} {v1 : Int32} {μ0 : qa_M} {Q : Int32 → qa_M → Prop} (hp0 : qa_PP μ0.2.2) (hs0 : qa_sh v0 = .inr (.byte, n0)) (ha0 : 1 ≤ v0 ∧ v0 ≤ 113) (h : wJ2_getChar_3b067 n v0 n0 v1 μ0 Q) : qa_Met l yJ2_getChar_3b067 cJ2_getChar_3b067 2 (some .char) 1 0 0 [.ref v0, .int v1] 113 μ0 (qa_pI Q) := by
  refine qa_ofG (by decide) (Nat.le_of_ble_eq_true rfl) ?_
  unfold wJ2_getChar_3b067 at h
  change qa_G l yJ2_getChar_3b067 cJ2_getChar_3b067 2 (some .char) 1 0 0 (qa_pI Q) 0 0 0 [some (.ref v0), some (.int v1)] [] 113 μ0
  exact False.elim h
def wJ2_charAt_3b067 (n : Nat) (v0 : Nat) (n0 : Nat) (v1 : Int32) (μ0 : qa_M) (Q : Int32 → qa_M → Prop) : Prop := wJ2_checkIndex_2214a n v1 v0 n0 μ0 (fun μ1 => wJ2_getChar_3b067 n v0 n0 v1 μ1 (fun r2 μ2 => (narrow .char (.int r2) = .int r2 ∧ Q r2 μ2)))
theorem tJ2_charAt_3b067 (l : Launch) {n : Nat} {v0 : Nat} {n0 : Nat} {v1 : Int32} {μ0 : qa_M} {Q : Int32 → qa_M → Prop} (hp0 : qa_PP μ0.2.2) (hs0 : qa_sh v0 = .inr (.byte, n0)) (ha0 : 1 ≤ v0 ∧ v0 ≤ 113) (h : wJ2_charAt_3b067 n v0 n0 v1 μ0 Q) : qa_Met l yJ2_charAt_3b067 cJ2_charAt_3b067 2 (some .char) 3 0 0 [.ref v0, .int v1] 113 μ0 (qa_pI Q) := by
  refine qa_ofG (by decide) (Nat.le_of_ble_eq_true rfl) ?_
  unfold wJ2_charAt_3b067 at h
  change qa_G l yJ2_charAt_3b067 cJ2_charAt_3b067 2 (some .char) 3 0 0 (qa_pI Q) 0 0 0 [some (.ref v0), some (.int v1)] [] 113 μ0
  refine qa_ild1 dJ2_charAt_3b067_0 ?_
  refine qa_ald0 dJ2_charAt_3b067_1 ?_
  refine qa_S2V dJ2_charAt_3b067_2 lm_J2_67  (by decide) (Nat.le_of_ble_eq_true rfl) (tJ2_checkIndex_2214a l hp0 hs0 ha0 h) (fun μ1 hp1 h => ?_)
  refine qa_ald0 dJ2_charAt_3b067_5 ?_
  refine qa_ild1 dJ2_charAt_3b067_6 ?_
  refine qa_S2I dJ2_charAt_3b067_7 lm_J2_71  (by decide) (Nat.le_of_ble_eq_true rfl) (tJ2_getChar_3b067 l hp1 hs0 ha0 h) (fun r2 μ2 hp2 h => ?_)
  exact qa_zret rfl h.1 dJ2_charAt_3b067_10 ⟨rfl, rfl⟩ ⟨rfl, hp2, _, rfl, h.2⟩
def wJ0_charAt_5068e (n : Nat) (v0 : Nat) (v1 : Int32) (μ0 : qa_M) (Q : Int32 → qa_M → Prop) : Prop := wJ0_isLatin1_aae02 n v0 μ0 (fun r1 μ1 => ((r1 = 0 → False) ∧ (¬ r1 = 0 → wJ1_charAt_3b067 n v0 v1 μ1 (fun r3 μ3 => (narrow .char (.int r3) = .int r3 ∧ Q r3 μ3)))))
theorem tJ0_charAt_5068e (l : Launch) {n : Nat} {v0 : Nat} {v1 : Int32} {μ0 : qa_M} {Q : Int32 → qa_M → Prop} (hp0 : qa_PP μ0.2.2) (k0 : v0 < 30) (h : wJ0_charAt_5068e n v0 v1 μ0 Q) : qa_Met l yJ0_charAt_5068e cJ0_charAt_5068e 2 (some .char) 4 0 0 [.ref (2000 + v0), .int v1] 113 μ0 (qa_pI Q) := by
  refine qa_ofG (by decide) (Nat.le_of_ble_eq_true rfl) ?_
  unfold wJ0_charAt_5068e at h
  change qa_G l yJ0_charAt_5068e cJ0_charAt_5068e 2 (some .char) 4 0 0 (qa_pI Q) 0 0 0 [some (.ref (2000 + v0)), some (.int v1)] [] 113 μ0
  refine qa_ald0 dJ0_charAt_5068e_0 ?_
  refine qa_W0I dJ0_charAt_5068e_1 lm_J0_492 rfl ⟨_, k0, rfl⟩ (by decide) (Nat.le_of_ble_eq_true rfl) (tJ0_isLatin1_aae02 l hp0 k0 h) (fun r1 μ1 hp1 h => ?_)
  refine qa_if_eq (tgt := 16) dJ0_charAt_5068e_4 (by decide) (fun c2 => ?_) (fun c2 => ?_)
  · have h := h.1 c2
    refine qa_ald0 dJ0_charAt_5068e_16 ?_
    refine qa_getSV dJ0_charAt_5068e_17 k0 lg_J0_9 ?_
    refine qa_ild1 dJ0_charAt_5068e_20 ?_
    exact False.elim h
  · have h := h.2 c2
    refine qa_ald0 dJ0_charAt_5068e_7 ?_
    refine qa_getSV dJ0_charAt_5068e_8 k0 lg_J0_9 ?_
    refine qa_ild1 dJ0_charAt_5068e_11 ?_
    refine qa_S2I dJ0_charAt_5068e_12 lm_J0_495  (by decide) (Nat.le_of_ble_eq_true rfl) (tJ1_charAt_3b067 l hp1 k0 h) (fun r3 μ3 hp3 h => ?_)
    exact qa_zret rfl h.1 dJ0_charAt_5068e_15 ⟨rfl, rfl⟩ ⟨rfl, hp3, _, rfl, h.2⟩
def wJ0_coder_7d493 (n : Nat) (v0 : Nat) (μ0 : qa_M) (Q : Int32 → qa_M → Prop) : Prop := Q (0 : Int32) μ0
theorem tJ0_coder_7d493 (l : Launch) {n : Nat} {v0 : Nat} {μ0 : qa_M} {Q : Int32 → qa_M → Prop} (hp0 : qa_PP μ0.2.2) (k0 : v0 < 30) (h : wJ0_coder_7d493 n v0 μ0 Q) : qa_Met l yJ0_coder_7d493 cJ0_coder_7d493 1 (some .byte) 0 0 0 [.ref (2000 + v0)] 113 μ0 (qa_pI Q) := by
  refine qa_ofG (by decide) (Nat.le_of_ble_eq_true rfl) ?_
  unfold wJ0_coder_7d493 at h
  change qa_G l yJ0_coder_7d493 cJ0_coder_7d493 1 (some .byte) 0 0 0 (qa_pI Q) 0 0 0 [some (.ref (2000 + v0))] [] 113 μ0
  refine qa_gsC dJ0_coder_7d493_0 lg_J0_38 ?_
  refine qa_if_eq (tgt := 13) dJ0_coder_7d493_3 (by decide) (fun c1 => absurd c1 (by decide)) (fun _ => ?_)
  refine qa_ald0 dJ0_coder_7d493_6 ?_
  refine qa_getSC dJ0_coder_7d493_7 k0 lg_J0_15 ?_
  refine qa_goto (tgt := 14) dJ0_coder_7d493_10 (by decide) ?_
  exact qa_zret rfl rfl dJ0_coder_7d493_14 ⟨rfl, rfl⟩ ⟨rfl, hp0, _, rfl, h⟩
def wJ0_length_8abf5 (n : Nat) (v0 : Nat) (μ0 : qa_M) (Q : Int32 → qa_M → Prop) : Prop := wJ0_coder_7d493 n v0 μ0 (fun r1 μ1 => Q ((nI (qa_txt.getD v0 []).length) >>> (r1 &&& 31)) μ1)
theorem tJ0_length_8abf5 (l : Launch) {n : Nat} {v0 : Nat} {μ0 : qa_M} {Q : Int32 → qa_M → Prop} (hp0 : qa_PP μ0.2.2) (k0 : v0 < 30) (h : wJ0_length_8abf5 n v0 μ0 Q) : qa_Met l yJ0_length_8abf5 cJ0_length_8abf5 1 (some .int) 1 0 0 [.ref (2000 + v0)] 113 μ0 (qa_pI Q) := by
  refine qa_ofG (by decide) (Nat.le_of_ble_eq_true rfl) ?_
  unfold wJ0_length_8abf5 at h
  change qa_G l yJ0_length_8abf5 cJ0_length_8abf5 1 (some .int) 1 0 0 (qa_pI Q) 0 0 0 [some (.ref (2000 + v0))] [] 113 μ0
  refine qa_ald0 dJ0_length_8abf5_0 ?_
  refine qa_getSV dJ0_length_8abf5_1 k0 lg_J0_9 ?_
  refine qa_alenS dJ0_length_8abf5_4 k0 ?_
  refine qa_ald0 dJ0_length_8abf5_5 ?_
  refine qa_W0I dJ0_length_8abf5_6 lm_J0_335 rfl ⟨_, k0, rfl⟩ (by decide) (Nat.le_of_ble_eq_true rfl) (tJ0_coder_7d493 l hp0 k0 h) (fun r1 μ1 hp1 h => ?_)
  refine qa_ishr dJ0_length_8abf5_9 ?_
  exact qa_iret rfl dJ0_length_8abf5_10 ⟨rfl, rfl⟩ ⟨rfl, hp1, _, rfl, h⟩
def wJ6_bitCount_0f7a4 (n : Nat) (v0 : Int32) (μ0 : qa_M) (Q : Int32 → qa_M → Prop) : Prop := ∀ x1, x1 = (v0 - ((v0.toUInt32 >>> ((1 : Int32).toUInt32 &&& Int32.toUInt32 31)).toInt32 &&& (1431655765 : Int32))) → ∀ x2, x2 = ((x1 &&& (858993459 : Int32)) + ((x1.toUInt32 >>> ((2 : Int32).toUInt32 &&& Int32.toUInt32 31)).toInt32 &&& (858993459 : Int32))) → ∀ x3, x3 = ((x2 + (x2.toUInt32 >>> ((4 : Int32).toUInt32 &&& Int32.toUInt32 31)).toInt32) &&& (252645135 : Int32)) → ∀ x4, x4 = (x3 + (x3.toUInt32 >>> ((8 : Int32).toUInt32 &&& Int32.toUInt32 31)).toInt32) → ∀ x5, x5 = (x4 + (x4.toUInt32 >>> ((16 : Int32).toUInt32 &&& Int32.toUInt32 31)).toInt32) → Q (x5 &&& (63 : Int32)) μ0
theorem tJ6_bitCount_0f7a4 (l : Launch) {n : Nat} {v0 : Int32} {μ0 : qa_M} {Q : Int32 → qa_M → Prop} (hp0 : qa_PP μ0.2.2)  (h : wJ6_bitCount_0f7a4 n v0 μ0 Q) : qa_Met l yJ6_bitCount_0f7a4 cJ6_bitCount_0f7a4 1 (some .int) 0 0 0 [.int v0] 113 μ0 (qa_pI Q) := by
  refine qa_ofG (by decide) (Nat.le_of_ble_eq_true rfl) ?_
  unfold wJ6_bitCount_0f7a4 at h
  change qa_G l yJ6_bitCount_0f7a4 cJ6_bitCount_0f7a4 1 (some .int) 0 0 0 (qa_pI Q) 0 0 0 [some (.int v0)] [] 113 μ0
  refine qa_ild0 dJ6_bitCount_0f7a4_0 ?_
  refine qa_ild0 dJ6_bitCount_0f7a4_1 ?_
  refine qa_iconst (v := 1) dJ6_bitCount_0f7a4_2 (by decide) ?_
  refine qa_iushr dJ6_bitCount_0f7a4_3 ?_
  refine qa_ldcw dJ6_bitCount_0f7a4_4 lk_J6_265 ?_
  refine qa_iand dJ6_bitCount_0f7a4_7 ?_
  refine qa_isub dJ6_bitCount_0f7a4_8 ?_
  refine qa_nmI (fun x1 e1 => ?_)
  have h := h x1 e1
  refine qa_ist0 dJ6_bitCount_0f7a4_9 ?_
  refine qa_ild0 dJ6_bitCount_0f7a4_10 ?_
  refine qa_ldcw dJ6_bitCount_0f7a4_11 lk_J6_266 ?_
  refine qa_iand dJ6_bitCount_0f7a4_14 ?_
  refine qa_ild0 dJ6_bitCount_0f7a4_15 ?_
  refine qa_iconst (v := 2) dJ6_bitCount_0f7a4_16 (by decide) ?_
  refine qa_iushr dJ6_bitCount_0f7a4_17 ?_
  refine qa_ldcw dJ6_bitCount_0f7a4_18 lk_J6_266 ?_
  refine qa_iand dJ6_bitCount_0f7a4_21 ?_
  refine qa_iadd dJ6_bitCount_0f7a4_22 ?_
  refine qa_nmI (fun x2 e2 => ?_)
  have h := h x2 e2
  refine qa_ist0 dJ6_bitCount_0f7a4_23 ?_
  refine qa_ild0 dJ6_bitCount_0f7a4_24 ?_
  refine qa_ild0 dJ6_bitCount_0f7a4_25 ?_
  refine qa_iconst (v := 4) dJ6_bitCount_0f7a4_26 (by decide) ?_
  refine qa_iushr dJ6_bitCount_0f7a4_27 ?_
  refine qa_iadd dJ6_bitCount_0f7a4_28 ?_
  refine qa_ldcw dJ6_bitCount_0f7a4_29 lk_J6_267 ?_
  refine qa_iand dJ6_bitCount_0f7a4_32 ?_
  refine qa_nmI (fun x3 e3 => ?_)
  have h := h x3 e3
  refine qa_ist0 dJ6_bitCount_0f7a4_33 ?_
  refine qa_ild0 dJ6_bitCount_0f7a4_34 ?_
  refine qa_ild0 dJ6_bitCount_0f7a4_35 ?_
  refine qa_bipush (v := 8) dJ6_bitCount_0f7a4_36 (by decide) ?_
  refine qa_iushr dJ6_bitCount_0f7a4_38 ?_
  refine qa_iadd dJ6_bitCount_0f7a4_39 ?_
  refine qa_nmI (fun x4 e4 => ?_)
  have h := h x4 e4
  refine qa_ist0 dJ6_bitCount_0f7a4_40 ?_
  refine qa_ild0 dJ6_bitCount_0f7a4_41 ?_
  refine qa_ild0 dJ6_bitCount_0f7a4_42 ?_
  refine qa_bipush (v := 16) dJ6_bitCount_0f7a4_43 (by decide) ?_
  refine qa_iushr dJ6_bitCount_0f7a4_45 ?_
  refine qa_iadd dJ6_bitCount_0f7a4_46 ?_
  refine qa_nmI (fun x5 e5 => ?_)
  have h := h x5 e5
  refine qa_ist0 dJ6_bitCount_0f7a4_47 ?_
  refine qa_ild0 dJ6_bitCount_0f7a4_48 ?_
  refine qa_bipush (v := 63) dJ6_bitCount_0f7a4_49 (by decide) ?_
  refine qa_iand dJ6_bitCount_0f7a4_51 ?_
  exact qa_iret rfl dJ6_bitCount_0f7a4_52 ⟨rfl, rfl⟩ ⟨rfl, hp0, _, rfl, h⟩
def wJ6_compare_7cf53 (n : Nat) (v0 : Int32) (v1 : Int32) (μ0 : qa_M) (Q : Int32 → qa_M → Prop) : Prop := ((v1 ≤ v0 → ((¬ v0 = v1 → Q (1 : Int32) μ0) ∧ (v0 = v1 → Q (0 : Int32) μ0))) ∧ (¬ v1 ≤ v0 → Q (-1 : Int32) μ0))
theorem tJ6_compare_7cf53 (l : Launch) {n : Nat} {v0 : Int32} {v1 : Int32} {μ0 : qa_M} {Q : Int32 → qa_M → Prop} (hp0 : qa_PP μ0.2.2)  (h : wJ6_compare_7cf53 n v0 v1 μ0 Q) : qa_Met l yJ6_compare_7cf53 cJ6_compare_7cf53 2 (some .int) 0 0 0 [.int v0, .int v1] 113 μ0 (qa_pI Q) := by
  refine qa_ofG (by decide) (Nat.le_of_ble_eq_true rfl) ?_
  unfold wJ6_compare_7cf53 at h
  change qa_G l yJ6_compare_7cf53 cJ6_compare_7cf53 2 (some .int) 0 0 0 (qa_pI Q) 0 0 0 [some (.int v0), some (.int v1)] [] 113 μ0
  refine qa_ild0 dJ6_compare_7cf53_0 ?_
  refine qa_ild1 dJ6_compare_7cf53_1 ?_
  refine qa_icmp_ge (tgt := 9) dJ6_compare_7cf53_2 (by decide) (fun c1 => ?_) (fun c1 => ?_)
  · have h := h.1 c1
    refine qa_ild0 dJ6_compare_7cf53_9 ?_
    refine qa_ild1 dJ6_compare_7cf53_10 ?_
    refine qa_icmp_ne (tgt := 18) dJ6_compare_7cf53_11 (by decide) (fun c2 => ?_) (fun c2 => ?_)
    · have h := h.1 c2
      refine qa_iconst (v := 1) dJ6_compare_7cf53_18 (by decide) ?_
      exact qa_iret rfl dJ6_compare_7cf53_19 ⟨rfl, rfl⟩ ⟨rfl, hp0, _, rfl, h⟩
    · have h := h.2 c2
      refine qa_iconst (v := 0) dJ6_compare_7cf53_14 (by decide) ?_
      refine qa_goto (tgt := 19) dJ6_compare_7cf53_15 (by decide) ?_
      exact qa_iret rfl dJ6_compare_7cf53_19 ⟨rfl, rfl⟩ ⟨rfl, hp0, _, rfl, h⟩
  · have h := h.2 c1
    refine qa_iconst (v := -1) dJ6_compare_7cf53_5 (by decide) ?_
    refine qa_goto (tgt := 19) dJ6_compare_7cf53_6 (by decide) ?_
    exact qa_iret rfl dJ6_compare_7cf53_19 ⟨rfl, rfl⟩ ⟨rfl, hp0, _, rfl, h⟩
def wJ7_fill_53178_5 : Nat → Nat → Nat → Int32 → Int32 → Int32 → qa_M → (qa_M → Prop) → Prop
  | 0, _, _, _, _, _, _, _ => False
  | n + 1, v0, n0, v1, v2, v3, μ0, Q => ((v3 ≤ v2 → Q μ0) ∧ (¬ v3 ≤ v2 → vp_in v2 n0 ∧ ∀ μ3, μ3 = qa_uI μ0 v0 v2.toNatClampNeg v1 → wJ7_fill_53178_5 n v0 n0 v1 (v2 + (1 : Int32)) v3 μ3 Q))
def wJ7_fill_53178 (n : Nat) (v0 : Nat) (n0 : Nat) (v1 : Int32) (μ0 : qa_M) (Q : qa_M → Prop) : Prop := ∀ x1, x1 = (nI n0) → wJ7_fill_53178_5 n v0 n0 v1 (0 : Int32) x1 μ0  Q
theorem tJ7_fill_53178_5 (l : Launch)  {Q : qa_M → Prop}  : ∀ (n : Nat) (v0 : Nat) (n0 : Nat) (v1 : Int32) (v2 : Int32) (v3 : Int32) (μ0 : qa_M), qa_PP μ0.2.2 → qa_sh v0 = .inr (.int, n0) → 1 ≤ v0 ∧ v0 ≤ 113 → wJ7_fill_53178_5 n v0 n0 v1 v2 v3 μ0  Q → qa_G l yJ7_fill_53178 cJ7_fill_53178 4 none 0 0 0 (qa_pV Q) 0 0 5 [some (.ref v0), some (.int v1), some (.int v2), some (.int v3)] [] 113 μ0 := by
  intro n
  induction n with
  | zero =>
    intro v0 n0 v1 v2 v3 μ0 hp0 hs0 ha0 h
    rw [wJ7_fill_53178_5] at h
    exact h.elim
  | succ n ih =>
    intro v0 n0 v1 v2 v3 μ0 hp0 hs0 ha0 h
    rw [wJ7_fill_53178_5] at h
    refine qa_ild2 dJ7_fill_53178_5 ?_
    refine qa_ild3 dJ7_fill_53178_6 ?_
    refine qa_icmp_ge (tgt := 20) dJ7_fill_53178_7 (by decide) (fun c2 => ?_) (fun c2 => ?_)
    · have h := h.1 c2
      exact qa_vret rfl dJ7_fill_53178_20 ⟨rfl, rfl⟩ ⟨rfl, hp0, rfl, h⟩
    · have h := h.2 c2
      refine qa_ald0 dJ7_fill_53178_10 ?_
      refine qa_ild2 dJ7_fill_53178_11 ?_
      refine qa_ild1 dJ7_fill_53178_12 ?_
      refine qa_iast dJ7_fill_53178_13 hs0 ha0 h.1 ?_
      have h := h.2
      refine qa_nmM (fun μ3 em3 => ?_)
      have h := h μ3 em3
      have hp3 : qa_PP μ3.2.2 := by rw [em3]; exact hp0
      refine qa_inc2 dJ7_fill_53178_14 (qa_io1 _) ?_
      refine qa_goto (tgt := 5) dJ7_fill_53178_17 (by decide) ?_
      refine qa_fgt (L' := [some (.ref v0), some (.int v1), some (.int (v2 + (1 : Int32))), some (.int v3)]) (⟨rfl, ⟨rfl, ⟨rfl, ⟨rfl, trivial⟩⟩⟩⟩) ?_
      exact ih v0 n0 v1 (v2 + (1 : Int32)) v3 μ3 hp3 hs0 ha0 h
theorem tJ7_fill_53178 (l : Launch) {n : Nat} {v0 : Nat} {n0 : Nat} {v1 : Int32} {μ0 : qa_M} {Q : qa_M → Prop} (hp0 : qa_PP μ0.2.2) (hs0 : qa_sh v0 = .inr (.int, n0)) (ha0 : 1 ≤ v0 ∧ v0 ≤ 113) (h : wJ7_fill_53178 n v0 n0 v1 μ0 Q) : qa_Met l yJ7_fill_53178 cJ7_fill_53178 4 none 0 0 0 [.ref v0, .int v1] 113 μ0 (qa_pV Q) := by
  refine qa_ofG (by decide) (Nat.le_of_ble_eq_true rfl) ?_
  unfold wJ7_fill_53178 at h
  change qa_G l yJ7_fill_53178 cJ7_fill_53178 4 none 0 0 0 (qa_pV Q) 0 0 0 [some (.ref v0), some (.int v1), none, none] [] 113 μ0
  refine qa_iconst (v := 0) dJ7_fill_53178_0 (by decide) ?_
  refine qa_ist2 dJ7_fill_53178_1 ?_
  refine qa_ald0 dJ7_fill_53178_2 ?_
  refine qa_alen (t := 0) dJ7_fill_53178_3 hs0 rfl ha0 ?_
  refine qa_nmI (fun x1 e1 => ?_)
  have h := h x1 e1
  refine qa_ist3 dJ7_fill_53178_4 ?_
  refine qa_fgt (L' := [some (.ref v0), some (.int v1), some (.int (0 : Int32)), some (.int x1)]) (⟨rfl, ⟨rfl, ⟨rfl, ⟨rfl, trivial⟩⟩⟩⟩) ?_
  refine tJ7_fill_53178_5 l  n v0 n0 v1 (0 : Int32) x1 μ0 hp0 hs0 ha0 h
def wJ7_fill_d0a16_6 : Nat → Nat → Nat → Int64 → Int32 → Int32 → qa_M → (qa_M → Prop) → Prop
  | 0, _, _, _, _, _, _, _ => False
  | n + 1, v0, n0, v1, v3, v4, μ0, Q => ((v4 ≤ v3 → Q μ0) ∧ (¬ v4 ≤ v3 → vp_in v3 n0 ∧ ∀ μ3, μ3 = qa_uJ μ0 v0 v3.toNatClampNeg v1 → wJ7_fill_d0a16_6 n v0 n0 v1 (v3 + (1 : Int32)) v4 μ3 Q))
def wJ7_fill_d0a16 (n : Nat) (v0 : Nat) (n0 : Nat) (v1 : Int64) (μ0 : qa_M) (Q : qa_M → Prop) : Prop := ∀ x1, x1 = (nI n0) → wJ7_fill_d0a16_6 n v0 n0 v1 (0 : Int32) x1 μ0  Q
theorem tJ7_fill_d0a16_6 (l : Launch)  {Q : qa_M → Prop}  : ∀ (n : Nat) (v0 : Nat) (n0 : Nat) (v1 : Int64) (v3 : Int32) (v4 : Int32) (μ0 : qa_M), qa_PP μ0.2.2 → qa_sh v0 = .inr (.long, n0) → 1 ≤ v0 ∧ v0 ≤ 113 → wJ7_fill_d0a16_6 n v0 n0 v1 v3 v4 μ0  Q → qa_G l yJ7_fill_d0a16 cJ7_fill_d0a16 5 none 0 0 0 (qa_pV Q) 0 0 6 [some (.ref v0), some (.long v1), none, some (.int v3), some (.int v4)] [] 113 μ0 := by
  intro n
  induction n with
  | zero =>
    intro v0 n0 v1 v3 v4 μ0 hp0 hs0 ha0 h
    rw [wJ7_fill_d0a16_6] at h
    exact h.elim
  | succ n ih =>
    intro v0 n0 v1 v3 v4 μ0 hp0 hs0 ha0 h
    rw [wJ7_fill_d0a16_6] at h
    refine qa_ild3 dJ7_fill_d0a16_6 ?_
    refine qa_ild4 dJ7_fill_d0a16_7 ?_
    refine qa_icmp_ge (tgt := 22) dJ7_fill_d0a16_9 (by decide) (fun c2 => ?_) (fun c2 => ?_)
    · have h := h.1 c2
      exact qa_vret rfl dJ7_fill_d0a16_22 ⟨rfl, rfl⟩ ⟨rfl, hp0, rfl, h⟩
    · have h := h.2 c2
      refine qa_ald0 dJ7_fill_d0a16_12 ?_
      refine qa_ild3 dJ7_fill_d0a16_13 ?_
      refine qa_lld1 dJ7_fill_d0a16_14 ?_
      refine qa_last dJ7_fill_d0a16_15 hs0 ha0 h.1 ?_
      have h := h.2
      refine qa_nmM (fun μ3 em3 => ?_)
      have h := h μ3 em3
      have hp3 : qa_PP μ3.2.2 := by rw [em3]; exact hp0
      refine qa_inc3 dJ7_fill_d0a16_16 (qa_io1 _) ?_
      refine qa_goto (tgt := 6) dJ7_fill_d0a16_19 (by decide) ?_
      refine qa_fgt (L' := [some (.ref v0), some (.long v1), none, some (.int (v3 + (1 : Int32))), some (.int v4)]) (⟨rfl, ⟨rfl, ⟨rfl, ⟨rfl, trivial⟩⟩⟩⟩) ?_
      exact ih v0 n0 v1 (v3 + (1 : Int32)) v4 μ3 hp3 hs0 ha0 h
theorem tJ7_fill_d0a16 (l : Launch) {n : Nat} {v0 : Nat} {n0 : Nat} {v1 : Int64} {μ0 : qa_M} {Q : qa_M → Prop} (hp0 : qa_PP μ0.2.2) (hs0 : qa_sh v0 = .inr (.long, n0)) (ha0 : 1 ≤ v0 ∧ v0 ≤ 113) (h : wJ7_fill_d0a16 n v0 n0 v1 μ0 Q) : qa_Met l yJ7_fill_d0a16 cJ7_fill_d0a16 5 none 0 0 0 [.ref v0, .long v1] 113 μ0 (qa_pV Q) := by
  refine qa_ofG (by decide) (Nat.le_of_ble_eq_true rfl) ?_
  unfold wJ7_fill_d0a16 at h
  change qa_G l yJ7_fill_d0a16 cJ7_fill_d0a16 5 none 0 0 0 (qa_pV Q) 0 0 0 [some (.ref v0), some (.long v1), none, none, none] [] 113 μ0
  refine qa_iconst (v := 0) dJ7_fill_d0a16_0 (by decide) ?_
  refine qa_ist3 dJ7_fill_d0a16_1 ?_
  refine qa_ald0 dJ7_fill_d0a16_2 ?_
  refine qa_alen (t := 3) dJ7_fill_d0a16_3 hs0 rfl ha0 ?_
  refine qa_nmI (fun x1 e1 => ?_)
  have h := h x1 e1
  refine qa_ist4 dJ7_fill_d0a16_4 ?_
  refine qa_fgt (L' := [some (.ref v0), some (.long v1), none, some (.int (0 : Int32)), some (.int x1)]) (⟨rfl, ⟨rfl, ⟨rfl, ⟨rfl, trivial⟩⟩⟩⟩) ?_
  refine tJ7_fill_d0a16_6 l  n v0 n0 v1 (0 : Int32) x1 μ0 hp0 hs0 ha0 h
def wJ9_abs_067f4 (n : Nat) (v0 : Int64) (μ0 : qa_M) (Q : Int64 → qa_M → Prop) : Prop := ((0 ≤ (lg_cmp v0 (0 : Int64)) → Q v0 μ0) ∧ (¬ 0 ≤ (lg_cmp v0 (0 : Int64)) → Q (-v0) μ0))
theorem tJ9_abs_067f4 (l : Launch) {n : Nat} {v0 : Int64} {μ0 : qa_M} {Q : Int64 → qa_M → Prop} (hp0 : qa_PP μ0.2.2)  (h : wJ9_abs_067f4 n v0 μ0 Q) : qa_Met l yJ9_abs_067f4 cJ9_abs_067f4 2 (some .long) 0 0 0 [.long v0] 113 μ0 (qa_pJ Q) := by
  refine qa_ofGF (by decide +kernel) (Nat.le_of_ble_eq_true rfl) ?_
  unfold wJ9_abs_067f4 at h
  change qa_G l yJ9_abs_067f4 cJ9_abs_067f4 2 (some .long) 0 0 0 (qa_pJ Q) 0 0 0 [some (.long v0), none] [] 113 μ0
  refine qa_lld0 dJ9_abs_067f4_0 ?_
  refine qa_lconst (v := 0) dJ9_abs_067f4_1 (by decide) ?_
  refine qa_lcmp dJ9_abs_067f4_2 ?_
  refine qa_if_ge (tgt := 11) dJ9_abs_067f4_3 (by decide) (fun c1 => ?_) (fun c1 => ?_)
  · have h := h.1 c1
    refine qa_lld0 dJ9_abs_067f4_11 ?_
    exact qa_lret rfl dJ9_abs_067f4_12 ⟨rfl, rfl⟩ ⟨rfl, hp0, _, rfl, h⟩
  · have h := h.2 c1
    refine qa_lld0 dJ9_abs_067f4_6 ?_
    refine qa_lneg dJ9_abs_067f4_7 ?_
    refine qa_goto (tgt := 12) dJ9_abs_067f4_8 (by decide) ?_
    exact qa_lret rfl dJ9_abs_067f4_12 ⟨rfl, rfl⟩ ⟨rfl, hp0, _, rfl, h⟩
def wJ9_abs_0f7a4 (n : Nat) (v0 : Int32) (μ0 : qa_M) (Q : Int32 → qa_M → Prop) : Prop := ((0 ≤ v0 → Q v0 μ0) ∧ (¬ 0 ≤ v0 → Q (-v0) μ0))
theorem tJ9_abs_0f7a4 (l : Launch) {n : Nat} {v0 : Int32} {μ0 : qa_M} {Q : Int32 → qa_M → Prop} (hp0 : qa_PP μ0.2.2)  (h : wJ9_abs_0f7a4 n v0 μ0 Q) : qa_Met l yJ9_abs_0f7a4 cJ9_abs_0f7a4 1 (some .int) 0 0 0 [.int v0] 113 μ0 (qa_pI Q) := by
  refine qa_ofGF (by decide +kernel) (Nat.le_of_ble_eq_true rfl) ?_
  unfold wJ9_abs_0f7a4 at h
  change qa_G l yJ9_abs_0f7a4 cJ9_abs_0f7a4 1 (some .int) 0 0 0 (qa_pI Q) 0 0 0 [some (.int v0)] [] 113 μ0
  refine qa_ild0 dJ9_abs_0f7a4_0 ?_
  refine qa_if_ge (tgt := 9) dJ9_abs_0f7a4_1 (by decide) (fun c1 => ?_) (fun c1 => ?_)
  · have h := h.1 c1
    refine qa_ild0 dJ9_abs_0f7a4_9 ?_
    exact qa_iret rfl dJ9_abs_0f7a4_10 ⟨rfl, rfl⟩ ⟨rfl, hp0, _, rfl, h⟩
  · have h := h.2 c1
    refine qa_ild0 dJ9_abs_0f7a4_4 ?_
    refine qa_ineg dJ9_abs_0f7a4_5 ?_
    refine qa_goto (tgt := 10) dJ9_abs_0f7a4_6 (by decide) ?_
    exact qa_iret rfl dJ9_abs_0f7a4_10 ⟨rfl, rfl⟩ ⟨rfl, hp0, _, rfl, h⟩
def wJ9_floorMod_7cf53 (n : Nat) (v0 : Int32) (v1 : Int32) (μ0 : qa_M) (Q : Int32 → qa_M → Prop) : Prop := ¬ v1 = 0 ∧ ∀ x1, x1 = (v0 - v0 / v1 * v1) → ((0 ≤ (v0 ^^^ v1) → Q x1 μ0) ∧ (¬ 0 ≤ (v0 ^^^ v1) → ((x1 = 0 → Q x1 μ0) ∧ (¬ x1 = 0 → Q (x1 + v1) μ0))))
theorem tJ9_floorMod_7cf53 (l : Launch) {n : Nat} {v0 : Int32} {v1 : Int32} {μ0 : qa_M} {Q : Int32 → qa_M → Prop} (hp0 : qa_PP μ0.2.2)  (h : wJ9_floorMod_7cf53 n v0 v1 μ0 Q) : qa_Met l yJ9_floorMod_7cf53 cJ9_floorMod_7cf53 3 (some .int) 0 0 0 [.int v0, .int v1] 113 μ0 (qa_pI Q) := by
  refine qa_ofGF (by decide +kernel) (Nat.le_of_ble_eq_true rfl) ?_
  unfold wJ9_floorMod_7cf53 at h
  change qa_G l yJ9_floorMod_7cf53 cJ9_floorMod_7cf53 3 (some .int) 0 0 0 (qa_pI Q) 0 0 0 [some (.int v0), some (.int v1), none] [] 113 μ0
  refine qa_ild0 dJ9_floorMod_7cf53_0 ?_
  refine qa_ild1 dJ9_floorMod_7cf53_1 ?_
  refine qa_irem dJ9_floorMod_7cf53_2 h.1 ?_
  have h := h.2
  refine qa_nmI (fun x1 e1 => ?_)
  have h := h x1 e1
  refine qa_ist2 dJ9_floorMod_7cf53_3 ?_
  refine qa_ild0 dJ9_floorMod_7cf53_4 ?_
  refine qa_ild1 dJ9_floorMod_7cf53_5 ?_
  refine qa_ixor dJ9_floorMod_7cf53_6 ?_
  refine qa_if_ge (tgt := 18) dJ9_floorMod_7cf53_7 (by decide) (fun c2 => ?_) (fun c2 => ?_)
  · have h := h.1 c2
    refine qa_ild2 dJ9_floorMod_7cf53_18 ?_
    exact qa_iret rfl dJ9_floorMod_7cf53_19 ⟨rfl, rfl⟩ ⟨rfl, hp0, _, rfl, h⟩
  · have h := h.2 c2
    refine qa_ild2 dJ9_floorMod_7cf53_10 ?_
    refine qa_if_eq (tgt := 18) dJ9_floorMod_7cf53_11 (by decide) (fun c3 => ?_) (fun c3 => ?_)
    · have h := h.1 c3
      refine qa_ild2 dJ9_floorMod_7cf53_18 ?_
      exact qa_iret rfl dJ9_floorMod_7cf53_19 ⟨rfl, rfl⟩ ⟨rfl, hp0, _, rfl, h⟩
    · have h := h.2 c3
      refine qa_ild2 dJ9_floorMod_7cf53_14 ?_
      refine qa_ild1 dJ9_floorMod_7cf53_15 ?_
      refine qa_iadd dJ9_floorMod_7cf53_16 ?_
      exact qa_iret rfl dJ9_floorMod_7cf53_17 ⟨rfl, rfl⟩ ⟨rfl, hp0, _, rfl, h⟩
def wJ9_max_7cf53 (n : Nat) (v0 : Int32) (v1 : Int32) (μ0 : qa_M) (Q : Int32 → qa_M → Prop) : Prop := ((v0 < v1 → Q v1 μ0) ∧ (¬ v0 < v1 → Q v0 μ0))
theorem tJ9_max_7cf53 (l : Launch) {n : Nat} {v0 : Int32} {v1 : Int32} {μ0 : qa_M} {Q : Int32 → qa_M → Prop} (hp0 : qa_PP μ0.2.2)  (h : wJ9_max_7cf53 n v0 v1 μ0 Q) : qa_Met l yJ9_max_7cf53 cJ9_max_7cf53 2 (some .int) 0 0 0 [.int v0, .int v1] 113 μ0 (qa_pI Q) := by
  refine qa_ofGF (by decide +kernel) (Nat.le_of_ble_eq_true rfl) ?_
  unfold wJ9_max_7cf53 at h
  change qa_G l yJ9_max_7cf53 cJ9_max_7cf53 2 (some .int) 0 0 0 (qa_pI Q) 0 0 0 [some (.int v0), some (.int v1)] [] 113 μ0
  refine qa_ild0 dJ9_max_7cf53_0 ?_
  refine qa_ild1 dJ9_max_7cf53_1 ?_
  refine qa_icmp_lt (tgt := 9) dJ9_max_7cf53_2 (by decide) (fun c1 => ?_) (fun c1 => ?_)
  · have h := h.1 c1
    refine qa_ild1 dJ9_max_7cf53_9 ?_
    exact qa_iret rfl dJ9_max_7cf53_10 ⟨rfl, rfl⟩ ⟨rfl, hp0, _, rfl, h⟩
  · have h := h.2 c1
    refine qa_ild0 dJ9_max_7cf53_5 ?_
    refine qa_goto (tgt := 10) dJ9_max_7cf53_6 (by decide) ?_
    exact qa_iret rfl dJ9_max_7cf53_10 ⟨rfl, rfl⟩ ⟨rfl, hp0, _, rfl, h⟩
def wJ9_min_7cf53 (n : Nat) (v0 : Int32) (v1 : Int32) (μ0 : qa_M) (Q : Int32 → qa_M → Prop) : Prop := ((v1 < v0 → Q v1 μ0) ∧ (¬ v1 < v0 → Q v0 μ0))
theorem tJ9_min_7cf53 (l : Launch) {n : Nat} {v0 : Int32} {v1 : Int32} {μ0 : qa_M} {Q : Int32 → qa_M → Prop} (hp0 : qa_PP μ0.2.2)  (h : wJ9_min_7cf53 n v0 v1 μ0 Q) : qa_Met l yJ9_min_7cf53 cJ9_min_7cf53 2 (some .int) 0 0 0 [.int v0, .int v1] 113 μ0 (qa_pI Q) := by
  refine qa_ofGF (by decide +kernel) (Nat.le_of_ble_eq_true rfl) ?_
  unfold wJ9_min_7cf53 at h
  change qa_G l yJ9_min_7cf53 cJ9_min_7cf53 2 (some .int) 0 0 0 (qa_pI Q) 0 0 0 [some (.int v0), some (.int v1)] [] 113 μ0
  refine qa_ild0 dJ9_min_7cf53_0 ?_
  refine qa_ild1 dJ9_min_7cf53_1 ?_
  refine qa_icmp_gt (tgt := 9) dJ9_min_7cf53_2 (by decide) (fun c1 => ?_) (fun c1 => ?_)
  · have h := h.1 c1
    refine qa_ild1 dJ9_min_7cf53_9 ?_
    exact qa_iret rfl dJ9_min_7cf53_10 ⟨rfl, rfl⟩ ⟨rfl, hp0, _, rfl, h⟩
  · have h := h.2 c1
    refine qa_ild0 dJ9_min_7cf53_5 ?_
    refine qa_goto (tgt := 10) dJ9_min_7cf53_6 (by decide) ?_
    exact qa_iret rfl dJ9_min_7cf53_10 ⟨rfl, rfl⟩ ⟨rfl, hp0, _, rfl, h⟩
def wX0_note (n : Nat) (v0 : Nat) (v1 : Int32) (μ0 : qa_M) (Q : qa_M → Prop) : Prop := vp_in v1 30 ∧ ((¬ (μ0.1 (v0 + 9) v1.toNatClampNeg) = (-1 : Int32) → vp_in v1 30 ∧ ∀ μ2, μ2 = qa_uI μ0 (v0 + 7) 5 ((μ0.1 (v0 + 7) 5) ||| ((1 : Int32) <<< ((μ0.1 (v0 + 10) v1.toNatClampNeg) &&& 31))) → Q μ2) ∧ ((μ0.1 (v0 + 9) v1.toNatClampNeg) = (-1 : Int32) → vp_in v1 30 ∧ vp_in (μ0.1 (v0 + 10) v1.toNatClampNeg) 20 ∧ vp_in v1 30 ∧ vp_in (μ0.1 (v0 + 10) v1.toNatClampNeg) 20 ∧ ∀ μ3, μ3 = qa_uI μ0 (v0 + 11) (μ0.1 (v0 + 10) v1.toNatClampNeg).toNatClampNeg ((μ0.1 (v0 + 11) (μ0.1 (v0 + 10) v1.toNatClampNeg).toNatClampNeg) ||| ((1 : Int32) <<< ((μ0.1 (v0 + 8) v1.toNatClampNeg) &&& 31))) → Q μ3))
theorem tX0_note (l : Launch) {n : Nat} {v0 : Nat} {v1 : Int32} {μ0 : qa_M} {Q : qa_M → Prop} (hp0 : qa_PP μ0.2.2) (k0 : qa_tw v0) (h : wX0_note n v0 v1 μ0 Q) : qa_Met l yX0_note cX0_note 2 none 0 0 0 [.ref (v0 + 7), .int v1] 113 μ0 (qa_pV Q) := by
  refine qa_ofG (by decide) (Nat.le_of_ble_eq_true rfl) ?_
  unfold wX0_note at h
  change qa_G l yX0_note cX0_note 2 none 0 0 0 (qa_pV Q) 0 0 0 [some (.ref (v0 + 7)), some (.int v1)] [] 113 μ0
  refine qa_ald0 dX0_note_0 ?_
  refine qa_getR dX0_note_1 lf_X0_15 rfl (st_7 k0) (tle_7 k0) (pa_2 hp0 k0) (Nat.succ_pos _) ?_
  refine qa_ild1 dX0_note_4 ?_
  refine qa_iald dX0_note_5 (st_9 k0) (tle_9 k0) h.1 ?_
  have h := h.2
  refine qa_iconst (v := -1) dX0_note_6 (by decide) ?_
  refine qa_icmp_ne (tgt := 35) dX0_note_7 (by decide) (fun c1 => ?_) (fun c1 => ?_)
  · have h := h.1 c1
    refine qa_ald0 dX0_note_35 ?_
    refine qa_dup dX0_note_36 rfl ?_
    refine qa_getI dX0_note_37 lf_X0_47 (Or.inl rfl) (st_7 k0) (tle_7 k0) ?_
    refine qa_iconst (v := 1) dX0_note_40 (by decide) ?_
    refine qa_ald0 dX0_note_41 ?_
    refine qa_getR dX0_note_42 lf_X0_18 rfl (st_7 k0) (tle_7 k0) (pa_3 hp0 k0) (Nat.succ_pos _) ?_
    refine qa_ild1 dX0_note_45 ?_
    refine qa_iald dX0_note_46 (st_10 k0) (tle_10 k0) h.1 ?_
    have h := h.2
    refine qa_ishl dX0_note_47 ?_
    refine qa_ior dX0_note_48 ?_
    refine qa_putI dX0_note_49 lf_X0_47 rfl (st_7 k0) (tle_7 k0) rfl ?_
    refine qa_nmM (fun μ2 em2 => ?_)
    have h := h μ2 em2
    have hp2 : qa_PP μ2.2.2 := by rw [em2]; exact hp0
    exact qa_vret rfl dX0_note_52 ⟨rfl, rfl⟩ ⟨rfl, hp2, rfl, h⟩
  · have h := h.2 c1
    refine qa_ald0 dX0_note_10 ?_
    refine qa_getR dX0_note_11 lf_X0_21 rfl (st_7 k0) (tle_7 k0) (pa_4 hp0 k0) (Nat.succ_pos _) ?_
    refine qa_ald0 dX0_note_14 ?_
    refine qa_getR dX0_note_15 lf_X0_18 rfl (st_7 k0) (tle_7 k0) (pa_3 hp0 k0) (Nat.succ_pos _) ?_
    refine qa_ild1 dX0_note_18 ?_
    refine qa_iald dX0_note_19 (st_10 k0) (tle_10 k0) h.1 ?_
    have h := h.2
    refine qa_dup2 dX0_note_20 rfl rfl ?_
    refine qa_iald dX0_note_21 (st_11 k0) (tle_11 k0) h.1 ?_
    have h := h.2
    refine qa_iconst (v := 1) dX0_note_22 (by decide) ?_
    refine qa_ald0 dX0_note_23 ?_
    refine qa_getR dX0_note_24 lf_X0_9 rfl (st_7 k0) (tle_7 k0) (pa_1 hp0 k0) (Nat.succ_pos _) ?_
    refine qa_ild1 dX0_note_27 ?_
    refine qa_iald dX0_note_28 (st_8 k0) (tle_8 k0) h.1 ?_
    have h := h.2
    refine qa_ishl dX0_note_29 ?_
    refine qa_ior dX0_note_30 ?_
    refine qa_iast dX0_note_31 (st_11 k0) (tle_11 k0) h.1 ?_
    have h := h.2
    refine qa_nmM (fun μ3 em3 => ?_)
    have h := h μ3 em3
    have hp3 : qa_PP μ3.2.2 := by rw [em3]; exact hp0
    refine qa_goto (tgt := 52) dX0_note_32 (by decide) ?_
    exact qa_vret rfl dX0_note_52 ⟨rfl, rfl⟩ ⟨rfl, hp3, rfl, h⟩
def wX0_add (n : Nat) (v0 : Nat) (v1 : Int32) (v2 : Int32) (v3 : Int32) (μ0 : qa_M) (Q : qa_M → Prop) : Prop := (((30 : Int32) ≤ (μ0.1 (v0 + 7) 0) → Q μ0) ∧ (¬ (30 : Int32) ≤ (μ0.1 (v0 + 7) 0) → vp_in (μ0.1 (v0 + 7) 0) 30 ∧ ∀ μ2, μ2 = qa_uI μ0 (v0 + 8) (μ0.1 (v0 + 7) 0).toNatClampNeg v1 → vp_in (μ2.1 (v0 + 7) 0) 30 ∧ ∀ μ3, μ3 = qa_uI μ2 (v0 + 9) (μ2.1 (v0 + 7) 0).toNatClampNeg v2 → vp_in (μ3.1 (v0 + 7) 0) 30 ∧ ∀ μ4, μ4 = qa_uI μ3 (v0 + 10) (μ3.1 (v0 + 7) 0).toNatClampNeg v3 → wX0_note n v0 (μ4.1 (v0 + 7) 0) μ4 (fun μ5 => ∀ μ6, μ6 = qa_uI μ5 (v0 + 7) 0 ((μ5.1 (v0 + 7) 0) + (1 : Int32)) → Q μ6)))
theorem tX0_add (l : Launch) {n : Nat} {v0 : Nat} {v1 : Int32} {v2 : Int32} {v3 : Int32} {μ0 : qa_M} {Q : qa_M → Prop} (hp0 : qa_PP μ0.2.2) (k0 : qa_tw v0) (h : wX0_add n v0 v1 v2 v3 μ0 Q) : qa_Met l yX0_add cX0_add 4 none 1 0 0 [.ref (v0 + 7), .int v1, .int v2, .int v3] 113 μ0 (qa_pV Q) := by
  refine qa_ofG (by decide) (Nat.le_of_ble_eq_true rfl) ?_
  unfold wX0_add at h
  change qa_G l yX0_add cX0_add 4 none 1 0 0 (qa_pV Q) 0 0 0 [some (.ref (v0 + 7)), some (.int v1), some (.int v2), some (.int v3)] [] 113 μ0
  refine qa_ald0 dX0_add_0 ?_
  refine qa_getI dX0_add_1 lf_X0_24 (Or.inl rfl) (st_7 k0) (tle_7 k0) ?_
  refine qa_bipush (v := 30) dX0_add_4 (by decide) ?_
  refine qa_icmp_ge (tgt := 57) dX0_add_6 (by decide) (fun c1 => ?_) (fun c1 => ?_)
  · have h := h.1 c1
    exact qa_vret rfl dX0_add_57 ⟨rfl, rfl⟩ ⟨rfl, hp0, rfl, h⟩
  · have h := h.2 c1
    refine qa_ald0 dX0_add_9 ?_
    refine qa_getR dX0_add_10 lf_X0_9 rfl (st_7 k0) (tle_7 k0) (pa_1 hp0 k0) (Nat.succ_pos _) ?_
    refine qa_ald0 dX0_add_13 ?_
    refine qa_getI dX0_add_14 lf_X0_24 (Or.inl rfl) (st_7 k0) (tle_7 k0) ?_
    refine qa_ild1 dX0_add_17 ?_
    refine qa_iast dX0_add_18 (st_8 k0) (tle_8 k0) h.1 ?_
    have h := h.2
    refine qa_nmM (fun μ2 em2 => ?_)
    have h := h μ2 em2
    have hp2 : qa_PP μ2.2.2 := by rw [em2]; exact hp0
    refine qa_ald0 dX0_add_19 ?_
    refine qa_getR dX0_add_20 lf_X0_15 rfl (st_7 k0) (tle_7 k0) (pa_2 hp2 k0) (Nat.succ_pos _) ?_
    refine qa_ald0 dX0_add_23 ?_
    refine qa_getI dX0_add_24 lf_X0_24 (Or.inl rfl) (st_7 k0) (tle_7 k0) ?_
    refine qa_ild2 dX0_add_27 ?_
    refine qa_iast dX0_add_28 (st_9 k0) (tle_9 k0) h.1 ?_
    have h := h.2
    refine qa_nmM (fun μ3 em3 => ?_)
    have h := h μ3 em3
    have hp3 : qa_PP μ3.2.2 := by rw [em3]; exact hp2
    refine qa_ald0 dX0_add_29 ?_
    refine qa_getR dX0_add_30 lf_X0_18 rfl (st_7 k0) (tle_7 k0) (pa_3 hp3 k0) (Nat.succ_pos _) ?_
    refine qa_ald0 dX0_add_33 ?_
    refine qa_getI dX0_add_34 lf_X0_24 (Or.inl rfl) (st_7 k0) (tle_7 k0) ?_
    refine qa_ild3 dX0_add_37 ?_
    refine qa_iast dX0_add_38 (st_10 k0) (tle_10 k0) h.1 ?_
    have h := h.2
    refine qa_nmM (fun μ4 em4 => ?_)
    have h := h μ4 em4
    have hp4 : qa_PP μ4.2.2 := by rw [em4]; exact hp3
    refine qa_ald0 dX0_add_39 ?_
    refine qa_ald0 dX0_add_40 ?_
    refine qa_getI dX0_add_41 lf_X0_24 (Or.inl rfl) (st_7 k0) (tle_7 k0) ?_
    refine qa_V1V dX0_add_44 lm_X0_28 (st_7 k0) rfl (tle_7 k0) (by decide) (Nat.le_of_ble_eq_true rfl) (tX0_note l hp4 k0 h) (fun μ5 hp5 h => ?_)
    refine qa_ald0 dX0_add_47 ?_
    refine qa_dup dX0_add_48 rfl ?_
    refine qa_getI dX0_add_49 lf_X0_24 (Or.inl rfl) (st_7 k0) (tle_7 k0) ?_
    refine qa_iconst (v := 1) dX0_add_52 (by decide) ?_
    refine qa_iadd dX0_add_53 ?_
    refine qa_putI dX0_add_54 lf_X0_24 rfl (st_7 k0) (tle_7 k0) rfl ?_
    refine qa_nmM (fun μ6 em6 => ?_)
    have h := h μ6 em6
    have hp6 : qa_PP μ6.2.2 := by rw [em6]; exact hp5
    exact qa_vret rfl dX0_add_57 ⟨rfl, rfl⟩ ⟨rfl, hp6, rfl, h⟩
def wX0_noteAll_15 : Nat → Nat → Int32 → qa_M → (qa_M → Prop) → Prop
  | 0, _, _, _, _ => False
  | n + 1, v0, v1, μ0, Q => (((μ0.1 (v0 + 7) 0) ≤ v1 → Q μ0) ∧ (¬ (μ0.1 (v0 + 7) 0) ≤ v1 → wX0_note n v0 v1 μ0 (fun μ4 => wX0_noteAll_15 n v0 (v1 + (1 : Int32)) μ4 Q)))
def wX0_noteAll (n : Nat) (v0 : Nat) (μ0 : qa_M) (Q : qa_M → Prop) : Prop := wJ7_fill_53178 n (v0 + 11) 20 (0 : Int32) μ0 (fun μ1 => ∀ μ2, μ2 = qa_uI μ1 (v0 + 7) 5 (0 : Int32) → wX0_noteAll_15 n v0 (0 : Int32) μ2  Q)
theorem tX0_noteAll_15 (l : Launch)  {Q : qa_M → Prop}  : ∀ (n : Nat) (v0 : Nat) (v1 : Int32) (μ0 : qa_M), qa_PP μ0.2.2 → qa_tw v0 → wX0_noteAll_15 n v0 v1 μ0  Q → qa_G l yX0_noteAll cX0_noteAll 2 none 1 0 0 (qa_pV Q) 0 0 15 [some (.ref (v0 + 7)), some (.int v1)] [] 113 μ0 := by
  intro n
  induction n with
  | zero =>
    intro v0 v1 μ0 hp0 k0 h
    rw [wX0_noteAll_15] at h
    exact h.elim
  | succ n ih =>
    intro v0 v1 μ0 hp0 k0 h
    rw [wX0_noteAll_15] at h
    refine qa_ild1 dX0_noteAll_15 ?_
    refine qa_ald0 dX0_noteAll_16 ?_
    refine qa_getI dX0_noteAll_17 lf_X0_24 (Or.inl rfl) (st_7 k0) (tle_7 k0) ?_
    refine qa_icmp_ge (tgt := 34) dX0_noteAll_20 (by decide) (fun c3 => ?_) (fun c3 => ?_)
    · have h := h.1 c3
      exact qa_vret rfl dX0_noteAll_34 ⟨rfl, rfl⟩ ⟨rfl, hp0, rfl, h⟩
    · have h := h.2 c3
      refine qa_ald0 dX0_noteAll_23 ?_
      refine qa_ild1 dX0_noteAll_24 ?_
      refine qa_V1V dX0_noteAll_25 lm_X0_28 (st_7 k0) rfl (tle_7 k0) (by decide) (Nat.le_of_ble_eq_true rfl) (tX0_note l hp0 k0 h) (fun μ4 hp4 h => ?_)
      refine qa_inc1 dX0_noteAll_28 (qa_io1 _) ?_
      refine qa_goto (tgt := 15) dX0_noteAll_31 (by decide) ?_
      refine qa_fgt (L' := [some (.ref (v0 + 7)), some (.int (v1 + (1 : Int32)))]) (⟨rfl, ⟨rfl, trivial⟩⟩) ?_
      exact ih v0 (v1 + (1 : Int32)) μ4 hp4 k0 h
theorem tX0_noteAll (l : Launch) {n : Nat} {v0 : Nat} {μ0 : qa_M} {Q : qa_M → Prop} (hp0 : qa_PP μ0.2.2) (k0 : qa_tw v0) (h : wX0_noteAll n v0 μ0 Q) : qa_Met l yX0_noteAll cX0_noteAll 2 none 1 0 0 [.ref (v0 + 7)] 113 μ0 (qa_pV Q) := by
  refine qa_ofG (by decide) (Nat.le_of_ble_eq_true rfl) ?_
  unfold wX0_noteAll at h
  change qa_G l yX0_noteAll cX0_noteAll 2 none 1 0 0 (qa_pV Q) 0 0 0 [some (.ref (v0 + 7)), none] [] 113 μ0
  refine qa_ald0 dX0_noteAll_0 ?_
  refine qa_getR dX0_noteAll_1 lf_X0_21 rfl (st_7 k0) (tle_7 k0) (pa_4 hp0 k0) (Nat.succ_pos _) ?_
  refine qa_iconst (v := 0) dX0_noteAll_4 (by decide) ?_
  refine qa_S2V dX0_noteAll_5 lm_X0_41  (by decide) (Nat.le_of_ble_eq_true rfl) (tJ7_fill_53178 l hp0 (st_11 k0) (tle_11 k0) h) (fun μ1 hp1 h => ?_)
  refine qa_ald0 dX0_noteAll_8 ?_
  refine qa_iconst (v := 0) dX0_noteAll_9 (by decide) ?_
  refine qa_putI dX0_noteAll_10 lf_X0_47 rfl (st_7 k0) (tle_7 k0) rfl ?_
  refine qa_nmM (fun μ2 em2 => ?_)
  have h := h μ2 em2
  have hp2 : qa_PP μ2.2.2 := by rw [em2]; exact hp1
  refine qa_iconst (v := 0) dX0_noteAll_13 (by decide) ?_
  refine qa_ist1 dX0_noteAll_14 ?_
  refine qa_fgt (L' := [some (.ref (v0 + 7)), some (.int (0 : Int32))]) (⟨rfl, ⟨rfl, trivial⟩⟩) ?_
  refine tX0_noteAll_15 l  n v0 (0 : Int32) μ2 hp2 k0 h
def wX0_copyFrom (n : Nat) (v0 : Nat) (v1 : Nat) (μ0 : qa_M) (Q : qa_M → Prop) : Prop := ∀ μ1, μ1 = qa_uI μ0 (v0 + 7) 0 (μ0.1 (v1 + 7) 0) → ∀ μ2, μ2 = qa_cpI μ1 (v1 + 8) (v0 + 8) (0 : Int32).toNatClampNeg (0 : Int32).toNatClampNeg (30 : Int32).toNatClampNeg → ∀ μ3, μ3 = qa_cpI μ2 (v1 + 9) (v0 + 9) (0 : Int32).toNatClampNeg (0 : Int32).toNatClampNeg (30 : Int32).toNatClampNeg → ∀ μ4, μ4 = qa_cpI μ3 (v1 + 10) (v0 + 10) (0 : Int32).toNatClampNeg (0 : Int32).toNatClampNeg (30 : Int32).toNatClampNeg → wX0_noteAll n v0 μ4 (fun μ5 => Q μ5)
theorem tX0_copyFrom (l : Launch) {n : Nat} {v0 : Nat} {v1 : Nat} {μ0 : qa_M} {Q : qa_M → Prop} (hp0 : qa_PP μ0.2.2) (k0 : qa_tw v0) (k1 : qa_tw v1) (h : wX0_copyFrom n v0 v1 μ0 Q) : qa_Met l yX0_copyFrom cX0_copyFrom 2 none 2 0 0 [.ref (v0 + 7), .ref (v1 + 7)] 113 μ0 (qa_pV Q) := by
  refine qa_ofG (by decide) (Nat.le_of_ble_eq_true rfl) ?_
  unfold wX0_copyFrom at h
  change qa_G l yX0_copyFrom cX0_copyFrom 2 none 2 0 0 (qa_pV Q) 0 0 0 [some (.ref (v0 + 7)), some (.ref (v1 + 7))] [] 113 μ0
  refine qa_ald0 dX0_copyFrom_0 ?_
  refine qa_ald1 dX0_copyFrom_1 ?_
  refine qa_getI dX0_copyFrom_2 lf_X0_24 (Or.inl rfl) (st_7 k1) (tle_7 k1) ?_
  refine qa_putI dX0_copyFrom_5 lf_X0_24 rfl (st_7 k0) (tle_7 k0) rfl ?_
  refine qa_nmM (fun μ1 em1 => ?_)
  have h := h μ1 em1
  have hp1 : qa_PP μ1.2.2 := by rw [em1]; exact hp0
  refine qa_ald1 dX0_copyFrom_8 ?_
  refine qa_getR dX0_copyFrom_9 lf_X0_9 rfl (st_7 k1) (tle_7 k1) (pa_1 hp1 k1) (Nat.succ_pos _) ?_
  refine qa_iconst (v := 0) dX0_copyFrom_12 (by decide) ?_
  refine qa_ald0 dX0_copyFrom_13 ?_
  refine qa_getR dX0_copyFrom_14 lf_X0_9 rfl (st_7 k0) (tle_7 k0) (pa_1 hp1 k0) (Nat.succ_pos _) ?_
  refine qa_iconst (v := 0) dX0_copyFrom_17 (by decide) ?_
  refine qa_bipush (v := 30) dX0_copyFrom_18 (by decide) ?_
  refine qa_copyI dX0_copyFrom_20 lac_X0_35 lac_n lac_s lac_i (st_8 k1) (st_8 k0) (tle_8 k1) (tle_8 k0) (by decide) (by decide) (by decide) (by decide) (by decide) (by decide) ?_
  refine qa_nmM (fun μ2 em2 => ?_)
  have h := h μ2 em2
  have hp2 : qa_PP μ2.2.2 := by rw [em2]; exact hp1
  refine qa_ald1 dX0_copyFrom_23 ?_
  refine qa_getR dX0_copyFrom_24 lf_X0_15 rfl (st_7 k1) (tle_7 k1) (pa_2 hp2 k1) (Nat.succ_pos _) ?_
  refine qa_iconst (v := 0) dX0_copyFrom_27 (by decide) ?_
  refine qa_ald0 dX0_copyFrom_28 ?_
  refine qa_getR dX0_copyFrom_29 lf_X0_15 rfl (st_7 k0) (tle_7 k0) (pa_2 hp2 k0) (Nat.succ_pos _) ?_
  refine qa_iconst (v := 0) dX0_copyFrom_32 (by decide) ?_
  refine qa_bipush (v := 30) dX0_copyFrom_33 (by decide) ?_
  refine qa_copyI dX0_copyFrom_35 lac_X0_35 lac_n lac_s lac_i (st_9 k1) (st_9 k0) (tle_9 k1) (tle_9 k0) (by decide) (by decide) (by decide) (by decide) (by decide) (by decide) ?_
  refine qa_nmM (fun μ3 em3 => ?_)
  have h := h μ3 em3
  have hp3 : qa_PP μ3.2.2 := by rw [em3]; exact hp2
  refine qa_ald1 dX0_copyFrom_38 ?_
  refine qa_getR dX0_copyFrom_39 lf_X0_18 rfl (st_7 k1) (tle_7 k1) (pa_3 hp3 k1) (Nat.succ_pos _) ?_
  refine qa_iconst (v := 0) dX0_copyFrom_42 (by decide) ?_
  refine qa_ald0 dX0_copyFrom_43 ?_
  refine qa_getR dX0_copyFrom_44 lf_X0_18 rfl (st_7 k0) (tle_7 k0) (pa_3 hp3 k0) (Nat.succ_pos _) ?_
  refine qa_iconst (v := 0) dX0_copyFrom_47 (by decide) ?_
  refine qa_bipush (v := 30) dX0_copyFrom_48 (by decide) ?_
  refine qa_copyI dX0_copyFrom_50 lac_X0_35 lac_n lac_s lac_i (st_10 k1) (st_10 k0) (tle_10 k1) (tle_10 k0) (by decide) (by decide) (by decide) (by decide) (by decide) (by decide) ?_
  refine qa_nmM (fun μ4 em4 => ?_)
  have h := h μ4 em4
  have hp4 : qa_PP μ4.2.2 := by rw [em4]; exact hp3
  refine qa_ald0 dX0_copyFrom_53 ?_
  refine qa_V0V dX0_copyFrom_54 lm_X0_32 (st_7 k0) rfl (tle_7 k0) (by decide) (Nat.le_of_ble_eq_true rfl) (tX0_noteAll l hp4 k0 h) (fun μ5 hp5 h => ?_)
  exact qa_vret rfl dX0_copyFrom_57 ⟨rfl, rfl⟩ ⟨rfl, hp5, rfl, h⟩
def wX0_keepFirst (n : Nat) (v0 : Nat) (v1 : Int32) (μ0 : qa_M) (Q : qa_M → Prop) : Prop := ∀ μ1, μ1 = qa_uI μ0 (v0 + 7) 0 v1 → wX0_noteAll n v0 μ1 (fun μ2 => Q μ2)
theorem tX0_keepFirst (l : Launch) {n : Nat} {v0 : Nat} {v1 : Int32} {μ0 : qa_M} {Q : qa_M → Prop} (hp0 : qa_PP μ0.2.2) (k0 : qa_tw v0) (h : wX0_keepFirst n v0 v1 μ0 Q) : qa_Met l yX0_keepFirst cX0_keepFirst 2 none 2 0 0 [.ref (v0 + 7), .int v1] 113 μ0 (qa_pV Q) := by
  refine qa_ofG (by decide) (Nat.le_of_ble_eq_true rfl) ?_
  unfold wX0_keepFirst at h
  change qa_G l yX0_keepFirst cX0_keepFirst 2 none 2 0 0 (qa_pV Q) 0 0 0 [some (.ref (v0 + 7)), some (.int v1)] [] 113 μ0
  refine qa_ald0 dX0_keepFirst_0 ?_
  refine qa_ild1 dX0_keepFirst_1 ?_
  refine qa_putI dX0_keepFirst_2 lf_X0_24 rfl (st_7 k0) (tle_7 k0) rfl ?_
  refine qa_nmM (fun μ1 em1 => ?_)
  have h := h μ1 em1
  have hp1 : qa_PP μ1.2.2 := by rw [em1]; exact hp0
  refine qa_ald0 dX0_keepFirst_5 ?_
  refine qa_V0V dX0_keepFirst_6 lm_X0_32 (st_7 k0) rfl (tle_7 k0) (by decide) (Nat.le_of_ble_eq_true rfl) (tX0_noteAll l hp1 k0 h) (fun μ2 hp2 h => ?_)
  exact qa_vret rfl dX0_keepFirst_9 ⟨rfl, rfl⟩ ⟨rfl, hp2, rfl, h⟩
def wX1_asTold (n : Nat) (v1 : Nat) (μ0 : qa_M) (Q : qa_M → Prop) : Prop := ∀ μ1, μ1 = qa_uI μ0 31 0 (μ0.1 v1 2) → ∀ μ2, μ2 = qa_uI μ1 31 1 (μ1.1 v1 3) → ∀ μ3, μ3 = qa_uI μ2 31 2 (μ2.1 v1 9) → ∀ μ4, μ4 = qa_uI μ3 31 3 (μ3.1 v1 10) → ∀ μ5, μ5 = qa_uI μ4 31 4 (0 : Int32) → ∀ μ6, μ6 = qa_uI μ5 31 5 (-1 : Int32) → ∀ μ7, μ7 = qa_uI μ6 31 6 (-1 : Int32) → ∀ μ8, μ8 = qa_uI μ7 31 7 (μ7.1 v1 1) → Q μ8
theorem tX1_asTold (l : Launch) {n : Nat} {v1 : Nat} {μ0 : qa_M} {Q : qa_M → Prop} (hp0 : qa_PP μ0.2.2) (k1 : qa_tw v1) (h : wX1_asTold n v1 μ0 Q) : qa_Met l yX1_asTold cX1_asTold 2 none 0 0 0 [.ref 31, .ref v1] 113 μ0 (qa_pV Q) := by
  refine qa_ofG (by decide) (Nat.le_of_ble_eq_true rfl) ?_
  unfold wX1_asTold at h
  change qa_G l yX1_asTold cX1_asTold 2 none 0 0 0 (qa_pV Q) 0 0 0 [some (.ref 31), some (.ref v1)] [] 113 μ0
  refine qa_ald0 dX1_asTold_0 ?_
  refine qa_ald1 dX1_asTold_1 ?_
  refine qa_getI dX1_asTold_2 lf_X1_9 (Or.inl rfl) (st_0 k1) (tle_0 k1) ?_
  refine qa_putI dX1_asTold_5 lf_X1_15 rfl sh_31 (by decide) rfl ?_
  refine qa_nmM (fun μ1 em1 => ?_)
  have h := h μ1 em1
  have hp1 : qa_PP μ1.2.2 := by rw [em1]; exact hp0
  refine qa_ald0 dX1_asTold_8 ?_
  refine qa_ald1 dX1_asTold_9 ?_
  refine qa_getI dX1_asTold_10 lf_X1_18 (Or.inl rfl) (st_0 k1) (tle_0 k1) ?_
  refine qa_putI dX1_asTold_13 lf_X1_21 rfl sh_31 (by decide) rfl ?_
  refine qa_nmM (fun μ2 em2 => ?_)
  have h := h μ2 em2
  have hp2 : qa_PP μ2.2.2 := by rw [em2]; exact hp1
  refine qa_ald0 dX1_asTold_16 ?_
  refine qa_ald1 dX1_asTold_17 ?_
  refine qa_getI dX1_asTold_18 lf_X1_22 (Or.inl rfl) (st_0 k1) (tle_0 k1) ?_
  refine qa_putI dX1_asTold_21 lf_X1_25 rfl sh_31 (by decide) rfl ?_
  refine qa_nmM (fun μ3 em3 => ?_)
  have h := h μ3 em3
  have hp3 : qa_PP μ3.2.2 := by rw [em3]; exact hp2
  refine qa_ald0 dX1_asTold_24 ?_
  refine qa_ald1 dX1_asTold_25 ?_
  refine qa_getI dX1_asTold_26 lf_X1_26 (Or.inl rfl) (st_0 k1) (tle_0 k1) ?_
  refine qa_putI dX1_asTold_29 lf_X1_29 rfl sh_31 (by decide) rfl ?_
  refine qa_nmM (fun μ4 em4 => ?_)
  have h := h μ4 em4
  have hp4 : qa_PP μ4.2.2 := by rw [em4]; exact hp3
  refine qa_ald0 dX1_asTold_32 ?_
  refine qa_iconst (v := 0) dX1_asTold_33 (by decide) ?_
  refine qa_putI dX1_asTold_34 lf_X1_30 rfl sh_31 (by decide) rfl ?_
  refine qa_nmM (fun μ5 em5 => ?_)
  have h := h μ5 em5
  have hp5 : qa_PP μ5.2.2 := by rw [em5]; exact hp4
  refine qa_ald0 dX1_asTold_37 ?_
  refine qa_iconst (v := -1) dX1_asTold_38 (by decide) ?_
  refine qa_putI dX1_asTold_39 lf_X1_33 rfl sh_31 (by decide) rfl ?_
  refine qa_nmM (fun μ6 em6 => ?_)
  have h := h μ6 em6
  have hp6 : qa_PP μ6.2.2 := by rw [em6]; exact hp5
  refine qa_ald0 dX1_asTold_42 ?_
  refine qa_iconst (v := -1) dX1_asTold_43 (by decide) ?_
  refine qa_putI dX1_asTold_44 lf_X1_36 rfl sh_31 (by decide) rfl ?_
  refine qa_nmM (fun μ7 em7 => ?_)
  have h := h μ7 em7
  have hp7 : qa_PP μ7.2.2 := by rw [em7]; exact hp6
  refine qa_ald0 dX1_asTold_47 ?_
  refine qa_ald1 dX1_asTold_48 ?_
  refine qa_getI dX1_asTold_49 lf_X1_39 (Or.inl rfl) (st_0 k1) (tle_0 k1) ?_
  refine qa_putI dX1_asTold_52 lf_X1_42 rfl sh_31 (by decide) rfl ?_
  refine qa_nmM (fun μ8 em8 => ?_)
  have h := h μ8 em8
  have hp8 : qa_PP μ8.2.2 := by rw [em8]; exact hp7
  exact qa_vret rfl dX1_asTold_55 ⟨rfl, rfl⟩ ⟨rfl, hp8, rfl, h⟩
def wX2_fail (n : Nat) (v1 : Int32) (μ0 : qa_M) (Q : qa_M → Prop) : Prop := ((¬ (μ0.1 27 7) = 0 → Q μ0) ∧ ((μ0.1 27 7) = 0 → ∀ μ2, μ2 = qa_uI μ0 27 7 v1 → ∀ μ3, μ3 = qa_uI μ2 27 8 (μ2.1 27 4) → Q μ3))
theorem tX2_fail (l : Launch) {n : Nat} {v1 : Int32} {μ0 : qa_M} {Q : qa_M → Prop} (hp0 : qa_PP μ0.2.2)  (h : wX2_fail n v1 μ0 Q) : qa_Met l yX2_fail cX2_fail 2 none 0 0 0 [.ref 27, .int v1] 113 μ0 (qa_pV Q) := by
  refine qa_ofG (by decide) (Nat.le_of_ble_eq_true rfl) ?_
  unfold wX2_fail at h
  change qa_G l yX2_fail cX2_fail 2 none 0 0 0 (qa_pV Q) 0 0 0 [some (.ref 27), some (.int v1)] [] 113 μ0
  refine qa_ald0 dX2_fail_0 ?_
  refine qa_getI dX2_fail_1 lf_X2_9 (Or.inl rfl) sh_27 (by decide) ?_
  refine qa_if_ne (tgt := 20) dX2_fail_4 (by decide) (fun c1 => ?_) (fun c1 => ?_)
  · have h := h.1 c1
    exact qa_vret rfl dX2_fail_20 ⟨rfl, rfl⟩ ⟨rfl, hp0, rfl, h⟩
  · have h := h.2 c1
    refine qa_ald0 dX2_fail_7 ?_
    refine qa_ild1 dX2_fail_8 ?_
    refine qa_putI dX2_fail_9 lf_X2_9 rfl sh_27 (by decide) rfl ?_
    refine qa_nmM (fun μ2 em2 => ?_)
    have h := h μ2 em2
    have hp2 : qa_PP μ2.2.2 := by rw [em2]; exact hp0
    refine qa_ald0 dX2_fail_12 ?_
    refine qa_ald0 dX2_fail_13 ?_
    refine qa_getI dX2_fail_14 lf_X2_170 (Or.inl rfl) sh_27 (by decide) ?_
    refine qa_putI dX2_fail_17 lf_X2_15 rfl sh_27 (by decide) rfl ?_
    refine qa_nmM (fun μ3 em3 => ?_)
    have h := h μ3 em3
    have hp3 : qa_PP μ3.2.2 := by rw [em3]; exact hp2
    exact qa_vret rfl dX2_fail_20 ⟨rfl, rfl⟩ ⟨rfl, hp3, rfl, h⟩
def wX2_isDigit (n : Nat) (v0 : Int32) (μ0 : qa_M) (Q : Int32 → qa_M → Prop) : Prop := ((v0 < (48 : Int32) → Q (0 : Int32) μ0) ∧ (¬ v0 < (48 : Int32) → (((57 : Int32) < v0 → Q (0 : Int32) μ0) ∧ (¬ (57 : Int32) < v0 → Q (1 : Int32) μ0))))
theorem tX2_isDigit (l : Launch) {n : Nat} {v0 : Int32} {μ0 : qa_M} {Q : Int32 → qa_M → Prop} (hp0 : qa_PP μ0.2.2)  (h : wX2_isDigit n v0 μ0 Q) : qa_Met l yX2_isDigit cX2_isDigit 1 (some .boolean) 0 0 0 [.int v0] 113 μ0 (qa_pI Q) := by
  refine qa_ofG (by decide) (Nat.le_of_ble_eq_true rfl) ?_
  unfold wX2_isDigit at h
  change qa_G l yX2_isDigit cX2_isDigit 1 (some .boolean) 0 0 0 (qa_pI Q) 0 0 0 [some (.int v0)] [] 113 μ0
  refine qa_ild0 dX2_isDigit_0 ?_
  refine qa_bipush (v := 48) dX2_isDigit_1 (by decide) ?_
  refine qa_icmp_lt (tgt := 16) dX2_isDigit_3 (by decide) (fun c1 => ?_) (fun c1 => ?_)
  · have h := h.1 c1
    refine qa_iconst (v := 0) dX2_isDigit_16 (by decide) ?_
    exact qa_zret rfl rfl dX2_isDigit_17 ⟨rfl, rfl⟩ ⟨rfl, hp0, _, rfl, h⟩
  · have h := h.2 c1
    refine qa_ild0 dX2_isDigit_6 ?_
    refine qa_bipush (v := 57) dX2_isDigit_7 (by decide) ?_
    refine qa_icmp_gt (tgt := 16) dX2_isDigit_9 (by decide) (fun c2 => ?_) (fun c2 => ?_)
    · have h := h.1 c2
      refine qa_iconst (v := 0) dX2_isDigit_16 (by decide) ?_
      exact qa_zret rfl rfl dX2_isDigit_17 ⟨rfl, rfl⟩ ⟨rfl, hp0, _, rfl, h⟩
    · have h := h.2 c2
      refine qa_iconst (v := 1) dX2_isDigit_12 (by decide) ?_
      refine qa_goto (tgt := 17) dX2_isDigit_13 (by decide) ?_
      exact qa_zret rfl rfl dX2_isDigit_17 ⟨rfl, rfl⟩ ⟨rfl, hp0, _, rfl, h⟩
def wX2_isLowerCase (n : Nat) (v0 : Int32) (μ0 : qa_M) (Q : Int32 → qa_M → Prop) : Prop := ((v0 < (97 : Int32) → Q (0 : Int32) μ0) ∧ (¬ v0 < (97 : Int32) → (((122 : Int32) < v0 → Q (0 : Int32) μ0) ∧ (¬ (122 : Int32) < v0 → Q (1 : Int32) μ0))))
theorem tX2_isLowerCase (l : Launch) {n : Nat} {v0 : Int32} {μ0 : qa_M} {Q : Int32 → qa_M → Prop} (hp0 : qa_PP μ0.2.2)  (h : wX2_isLowerCase n v0 μ0 Q) : qa_Met l yX2_isLowerCase cX2_isLowerCase 1 (some .boolean) 0 0 0 [.int v0] 113 μ0 (qa_pI Q) := by
  refine qa_ofG (by decide) (Nat.le_of_ble_eq_true rfl) ?_
  unfold wX2_isLowerCase at h
  change qa_G l yX2_isLowerCase cX2_isLowerCase 1 (some .boolean) 0 0 0 (qa_pI Q) 0 0 0 [some (.int v0)] [] 113 μ0
  refine qa_ild0 dX2_isLowerCase_0 ?_
  refine qa_bipush (v := 97) dX2_isLowerCase_1 (by decide) ?_
  refine qa_icmp_lt (tgt := 16) dX2_isLowerCase_3 (by decide) (fun c1 => ?_) (fun c1 => ?_)
  · have h := h.1 c1
    refine qa_iconst (v := 0) dX2_isLowerCase_16 (by decide) ?_
    exact qa_zret rfl rfl dX2_isLowerCase_17 ⟨rfl, rfl⟩ ⟨rfl, hp0, _, rfl, h⟩
  · have h := h.2 c1
    refine qa_ild0 dX2_isLowerCase_6 ?_
    refine qa_bipush (v := 122) dX2_isLowerCase_7 (by decide) ?_
    refine qa_icmp_gt (tgt := 16) dX2_isLowerCase_9 (by decide) (fun c2 => ?_) (fun c2 => ?_)
    · have h := h.1 c2
      refine qa_iconst (v := 0) dX2_isLowerCase_16 (by decide) ?_
      exact qa_zret rfl rfl dX2_isLowerCase_17 ⟨rfl, rfl⟩ ⟨rfl, hp0, _, rfl, h⟩
    · have h := h.2 c2
      refine qa_iconst (v := 1) dX2_isLowerCase_12 (by decide) ?_
      refine qa_goto (tgt := 17) dX2_isLowerCase_13 (by decide) ?_
      exact qa_zret rfl rfl dX2_isLowerCase_17 ⟨rfl, rfl⟩ ⟨rfl, hp0, _, rfl, h⟩
def wX2_isWord_28 : Nat → Nat → Int32 → qa_M → (Int32 → qa_M → Prop) → Prop
  | 0, _, _, _, _ => False
  | n + 1, v1, v2, μ0, Q => wJ0_length_8abf5 n v1 μ0 (fun r4 μ4 => ((r4 ≤ v2 → Q (1 : Int32) μ4) ∧ (¬ r4 ≤ v2 → vp_in ((μ4.1 27 4) + v2) 800 ∧ wJ0_charAt_5068e n v1 v2 μ4 (fun r6 μ6 => (((μ4.1 2 ((μ4.1 27 4) + v2).toNatClampNeg) = r6 → wX2_isWord_28 n v1 (v2 + (1 : Int32)) μ6 Q) ∧ (¬ (μ4.1 2 ((μ4.1 27 4) + v2).toNatClampNeg) = r6 → Q (0 : Int32) μ6))))))
def wX2_isWord (n : Nat) (v1 : Nat) (μ0 : qa_M) (Q : Int32 → qa_M → Prop) : Prop := ((¬ (μ0.1 27 3) = (1 : Int32) → Q (0 : Int32) μ0) ∧ ((μ0.1 27 3) = (1 : Int32) → wJ0_length_8abf5 n v1 μ0 (fun r2 μ2 => ((((μ0.1 27 5) - (μ0.1 27 4)) = r2 → wX2_isWord_28 n v1 (0 : Int32) μ2  Q) ∧ (¬ ((μ0.1 27 5) - (μ0.1 27 4)) = r2 → Q (0 : Int32) μ2)))))
theorem tX2_isWord_28 (l : Launch)  {Q : Int32 → qa_M → Prop}  : ∀ (n : Nat) (v1 : Nat) (v2 : Int32) (μ0 : qa_M), qa_PP μ0.2.2 → v1 < 30 → wX2_isWord_28 n v1 v2 μ0  Q → qa_G l yX2_isWord cX2_isWord 3 (some .boolean) 5 0 0 (qa_pI Q) 0 0 28 [some (.ref 27), some (.ref (2000 + v1)), some (.int v2)] [] 113 μ0 := by
  intro n
  induction n with
  | zero =>
    intro v1 v2 μ0 hp0 k1 h
    rw [wX2_isWord_28] at h
    exact h.elim
  | succ n ih =>
    intro v1 v2 μ0 hp0 k1 h
    rw [wX2_isWord_28] at h
    refine qa_ild2 dX2_isWord_28 ?_
    refine qa_ald1 dX2_isWord_29 ?_
    refine qa_W0I dX2_isWord_30 lm_X2_173 rfl ⟨_, k1, rfl⟩ (by decide) (Nat.le_of_ble_eq_true rfl) (tJ0_length_8abf5 l hp0 k1 h) (fun r4 μ4 hp4 h => ?_)
    refine qa_icmp_ge (tgt := 63) dX2_isWord_33 (by decide) (fun c5 => ?_) (fun c5 => ?_)
    · have h := h.1 c5
      refine qa_iconst (v := 1) dX2_isWord_63 (by decide) ?_
      exact qa_zret rfl rfl dX2_isWord_64 ⟨rfl, rfl⟩ ⟨rfl, hp4, _, rfl, h⟩
    · have h := h.2 c5
      refine qa_ald0 dX2_isWord_36 ?_
      refine qa_getR dX2_isWord_37 lf_X2_18 rfl sh_27 (by decide) (pp_27_0 hp4) (by decide) ?_
      refine qa_ald0 dX2_isWord_40 ?_
      refine qa_getI dX2_isWord_41 lf_X2_170 (Or.inl rfl) sh_27 (by decide) ?_
      refine qa_ild2 dX2_isWord_44 ?_
      refine qa_iadd dX2_isWord_45 ?_
      refine qa_bald dX2_isWord_46 sh_2 (by decide) h.1 ?_
      have h := h.2
      refine qa_ald1 dX2_isWord_47 ?_
      refine qa_ild2 dX2_isWord_48 ?_
      refine qa_W1I dX2_isWord_49 lm_X2_178 rfl ⟨_, k1, rfl⟩ (by decide) (Nat.le_of_ble_eq_true rfl) (tJ0_charAt_5068e l hp4 k1 h) (fun r6 μ6 hp6 h => ?_)
      refine qa_icmp_eq (tgt := 57) dX2_isWord_52 (by decide) (fun c7 => ?_) (fun c7 => ?_)
      · have h := h.1 c7
        refine qa_inc2 dX2_isWord_57 (qa_io1 _) ?_
        refine qa_goto (tgt := 28) dX2_isWord_60 (by decide) ?_
        refine qa_fgt (L' := [some (.ref 27), some (.ref (2000 + v1)), some (.int (v2 + (1 : Int32)))]) (⟨rfl, ⟨rfl, ⟨rfl, trivial⟩⟩⟩) ?_
        exact ih v1 (v2 + (1 : Int32)) μ6 hp6 k1 h
      · have h := h.2 c7
        refine qa_iconst (v := 0) dX2_isWord_55 (by decide) ?_
        exact qa_zret rfl rfl dX2_isWord_56 ⟨rfl, rfl⟩ ⟨rfl, hp6, _, rfl, h⟩
theorem tX2_isWord (l : Launch) {n : Nat} {v1 : Nat} {μ0 : qa_M} {Q : Int32 → qa_M → Prop} (hp0 : qa_PP μ0.2.2) (k1 : v1 < 30) (h : wX2_isWord n v1 μ0 Q) : qa_Met l yX2_isWord cX2_isWord 3 (some .boolean) 5 0 0 [.ref 27, .ref (2000 + v1)] 113 μ0 (qa_pI Q) := by
  refine qa_ofG (by decide) (Nat.le_of_ble_eq_true rfl) ?_
  unfold wX2_isWord at h
  change qa_G l yX2_isWord cX2_isWord 3 (some .boolean) 5 0 0 (qa_pI Q) 0 0 0 [some (.ref 27), some (.ref (2000 + v1)), none] [] 113 μ0
  refine qa_ald0 dX2_isWord_0 ?_
  refine qa_getI dX2_isWord_1 lf_X2_41 (Or.inl rfl) sh_27 (by decide) ?_
  refine qa_iconst (v := 1) dX2_isWord_4 (by decide) ?_
  refine qa_icmp_ne (tgt := 24) dX2_isWord_5 (by decide) (fun c1 => ?_) (fun c1 => ?_)
  · have h := h.1 c1
    refine qa_iconst (v := 0) dX2_isWord_24 (by decide) ?_
    exact qa_zret rfl rfl dX2_isWord_25 ⟨rfl, rfl⟩ ⟨rfl, hp0, _, rfl, h⟩
  · have h := h.2 c1
    refine qa_ald0 dX2_isWord_8 ?_
    refine qa_getI dX2_isWord_9 lf_X2_35 (Or.inl rfl) sh_27 (by decide) ?_
    refine qa_ald0 dX2_isWord_12 ?_
    refine qa_getI dX2_isWord_13 lf_X2_170 (Or.inl rfl) sh_27 (by decide) ?_
    refine qa_isub dX2_isWord_16 ?_
    refine qa_ald1 dX2_isWord_17 ?_
    refine qa_W0I dX2_isWord_18 lm_X2_173 rfl ⟨_, k1, rfl⟩ (by decide) (Nat.le_of_ble_eq_true rfl) (tJ0_length_8abf5 l hp0 k1 h) (fun r2 μ2 hp2 h => ?_)
    refine qa_icmp_eq (tgt := 26) dX2_isWord_21 (by decide) (fun c3 => ?_) (fun c3 => ?_)
    · have h := h.1 c3
      refine qa_iconst (v := 0) dX2_isWord_26 (by decide) ?_
      refine qa_ist2 dX2_isWord_27 ?_
      refine qa_fgt (L' := [some (.ref 27), some (.ref (2000 + v1)), some (.int (0 : Int32))]) (⟨rfl, ⟨rfl, ⟨rfl, trivial⟩⟩⟩) ?_
      refine tX2_isWord_28 l  n v1 (0 : Int32) μ2 hp2 k1 h
    · have h := h.2 c3
      refine qa_iconst (v := 0) dX2_isWord_24 (by decide) ?_
      exact qa_zret rfl rfl dX2_isWord_25 ⟨rfl, rfl⟩ ⟨rfl, hp2, _, rfl, h⟩
def wX2_readWord_5 : Nat → qa_M → (qa_M → Prop) → Prop
  | 0, _, _ => False
  | n + 1, μ0, Q => (((μ0.1 27 1) ≤ (μ0.1 27 5) → Q μ0) ∧ (¬ (μ0.1 27 1) ≤ (μ0.1 27 5) → vp_in (μ0.1 27 5) 800 ∧ wX2_isLowerCase n (μ0.1 2 (μ0.1 27 5).toNatClampNeg) μ0 (fun r3 μ3 => ((r3 = 0 → Q μ3) ∧ (¬ r3 = 0 → ∀ μ5, μ5 = qa_uI μ3 27 5 ((μ3.1 27 5) + (1 : Int32)) → wX2_readWord_5 n  μ5 Q)))))
def wX2_readWord (n : Nat)  (μ0 : qa_M) (Q : qa_M → Prop) : Prop := ∀ μ1, μ1 = qa_uI μ0 27 3 (1 : Int32) → wX2_readWord_5 n  μ1  Q
theorem tX2_readWord_5 (l : Launch)  {Q : qa_M → Prop}  : ∀ (n : Nat)  (μ0 : qa_M), qa_PP μ0.2.2 → wX2_readWord_5 n  μ0  Q → qa_G l yX2_readWord cX2_readWord 1 none 1 0 0 (qa_pV Q) 0 0 5 [some (.ref 27)] [] 113 μ0 := by
  intro n
  induction n with
  | zero =>
    intro  μ0 hp0  h
    rw [wX2_readWord_5] at h
    exact h.elim
  | succ n ih =>
    intro  μ0 hp0  h
    rw [wX2_readWord_5] at h
    refine qa_ald0 dX2_readWord_5 ?_
    refine qa_getI dX2_readWord_6 lf_X2_35 (Or.inl rfl) sh_27 (by decide) ?_
    refine qa_ald0 dX2_readWord_9 ?_
    refine qa_getI dX2_readWord_10 lf_X2_32 (Or.inl rfl) sh_27 (by decide) ?_
    refine qa_icmp_ge (tgt := 44) dX2_readWord_13 (by decide) (fun c2 => ?_) (fun c2 => ?_)
    · have h := h.1 c2
      exact qa_vret rfl dX2_readWord_44 ⟨rfl, rfl⟩ ⟨rfl, hp0, rfl, h⟩
    · have h := h.2 c2
      refine qa_ald0 dX2_readWord_16 ?_
      refine qa_getR dX2_readWord_17 lf_X2_18 rfl sh_27 (by decide) (pp_27_0 hp0) (by decide) ?_
      refine qa_ald0 dX2_readWord_20 ?_
      refine qa_getI dX2_readWord_21 lf_X2_35 (Or.inl rfl) sh_27 (by decide) ?_
      refine qa_bald dX2_readWord_24 sh_2 (by decide) h.1 ?_
      have h := h.2
      refine qa_S1I dX2_readWord_25 lm_X2_182  (by decide) (Nat.le_of_ble_eq_true rfl) (tX2_isLowerCase l hp0  h) (fun r3 μ3 hp3 h => ?_)
      refine qa_if_eq (tgt := 44) dX2_readWord_28 (by decide) (fun c4 => ?_) (fun c4 => ?_)
      · have h := h.1 c4
        exact qa_vret rfl dX2_readWord_44 ⟨rfl, rfl⟩ ⟨rfl, hp3, rfl, h⟩
      · have h := h.2 c4
        refine qa_ald0 dX2_readWord_31 ?_
        refine qa_dup dX2_readWord_32 rfl ?_
        refine qa_getI dX2_readWord_33 lf_X2_35 (Or.inl rfl) sh_27 (by decide) ?_
        refine qa_iconst (v := 1) dX2_readWord_36 (by decide) ?_
        refine qa_iadd dX2_readWord_37 ?_
        refine qa_putI dX2_readWord_38 lf_X2_35 rfl sh_27 (by decide) rfl ?_
        refine qa_nmM (fun μ5 em5 => ?_)
        have h := h μ5 em5
        have hp5 : qa_PP μ5.2.2 := by rw [em5]; exact hp3
        refine qa_goto (tgt := 5) dX2_readWord_41 (by decide) ?_
        refine qa_fgt (L' := [some (.ref 27)]) (⟨rfl, trivial⟩) ?_
        exact ih  μ5 hp5  h
theorem tX2_readWord (l : Launch) {n : Nat}  {μ0 : qa_M} {Q : qa_M → Prop} (hp0 : qa_PP μ0.2.2)  (h : wX2_readWord n  μ0 Q) : qa_Met l yX2_readWord cX2_readWord 1 none 1 0 0 [.ref 27] 113 μ0 (qa_pV Q) := by
  refine qa_ofG (by decide) (Nat.le_of_ble_eq_true rfl) ?_
  unfold wX2_readWord at h
  change qa_G l yX2_readWord cX2_readWord 1 none 1 0 0 (qa_pV Q) 0 0 0 [some (.ref 27)] [] 113 μ0
  refine qa_ald0 dX2_readWord_0 ?_
  refine qa_iconst (v := 1) dX2_readWord_1 (by decide) ?_
  refine qa_putI dX2_readWord_2 lf_X2_41 rfl sh_27 (by decide) rfl ?_
  refine qa_nmM (fun μ1 em1 => ?_)
  have h := h μ1 em1
  have hp1 : qa_PP μ1.2.2 := by rw [em1]; exact hp0
  refine qa_fgt (L' := [some (.ref 27)]) (⟨rfl, trivial⟩) ?_
  refine tX2_readWord_5 l  n  μ1 hp1  h
def wX2_readNumber_10 : Nat → qa_M → (qa_M → Prop) → Prop
  | 0, _, _ => False
  | n + 1, μ0, Q => (((μ0.1 27 1) ≤ (μ0.1 27 5) → Q μ0) ∧ (¬ (μ0.1 27 1) ≤ (μ0.1 27 5) → vp_in (μ0.1 27 5) 800 ∧ wX2_isDigit n (μ0.1 2 (μ0.1 27 5).toNatClampNeg) μ0 (fun r4 μ4 => ((r4 = 0 → Q μ4) ∧ (¬ r4 = 0 → vp_in (μ4.1 27 5) 800 ∧ wJ9_min_7cf53 n (1000000 : Int32) ((((μ4.1 27 6) * (10 : Int32)) + (μ4.1 2 (μ4.1 27 5).toNatClampNeg)) - (48 : Int32)) μ4 (fun r6 μ6 => ∀ μ7, μ7 = qa_uI μ6 27 6 r6 → ∀ μ8, μ8 = qa_uI μ7 27 5 ((μ7.1 27 5) + (1 : Int32)) → wX2_readNumber_10 n  μ8 Q))))))
def wX2_readNumber (n : Nat)  (μ0 : qa_M) (Q : qa_M → Prop) : Prop := ∀ μ1, μ1 = qa_uI μ0 27 3 (2 : Int32) → ∀ μ2, μ2 = qa_uI μ1 27 6 (0 : Int32) → wX2_readNumber_10 n  μ2  Q
theorem tX2_readNumber_10 (l : Launch)  {Q : qa_M → Prop}  : ∀ (n : Nat)  (μ0 : qa_M), qa_PP μ0.2.2 → wX2_readNumber_10 n  μ0  Q → qa_G l yX2_readNumber cX2_readNumber 1 none 1 0 0 (qa_pV Q) 0 0 10 [some (.ref 27)] [] 113 μ0 := by
  intro n
  induction n with
  | zero =>
    intro  μ0 hp0  h
    rw [wX2_readNumber_10] at h
    exact h.elim
  | succ n ih =>
    intro  μ0 hp0  h
    rw [wX2_readNumber_10] at h
    refine qa_ald0 dX2_readNumber_10 ?_
    refine qa_getI dX2_readNumber_11 lf_X2_35 (Or.inl rfl) sh_27 (by decide) ?_
    refine qa_ald0 dX2_readNumber_14 ?_
    refine qa_getI dX2_readNumber_15 lf_X2_32 (Or.inl rfl) sh_27 (by decide) ?_
    refine qa_icmp_ge (tgt := 78) dX2_readNumber_18 (by decide) (fun c3 => ?_) (fun c3 => ?_)
    · have h := h.1 c3
      exact qa_vret rfl dX2_readNumber_78 ⟨rfl, rfl⟩ ⟨rfl, hp0, rfl, h⟩
    · have h := h.2 c3
      refine qa_ald0 dX2_readNumber_21 ?_
      refine qa_getR dX2_readNumber_22 lf_X2_18 rfl sh_27 (by decide) (pp_27_0 hp0) (by decide) ?_
      refine qa_ald0 dX2_readNumber_25 ?_
      refine qa_getI dX2_readNumber_26 lf_X2_35 (Or.inl rfl) sh_27 (by decide) ?_
      refine qa_bald dX2_readNumber_29 sh_2 (by decide) h.1 ?_
      have h := h.2
      refine qa_S1I dX2_readNumber_30 lm_X2_189  (by decide) (Nat.le_of_ble_eq_true rfl) (tX2_isDigit l hp0  h) (fun r4 μ4 hp4 h => ?_)
      refine qa_if_eq (tgt := 78) dX2_readNumber_33 (by decide) (fun c5 => ?_) (fun c5 => ?_)
      · have h := h.1 c5
        exact qa_vret rfl dX2_readNumber_78 ⟨rfl, rfl⟩ ⟨rfl, hp4, rfl, h⟩
      · have h := h.2 c5
        refine qa_ald0 dX2_readNumber_36 ?_
        refine qa_ldc dX2_readNumber_37 lk_X2_195 ?_
        refine qa_ald0 dX2_readNumber_39 ?_
        refine qa_getI dX2_readNumber_40 lf_X2_167 (Or.inl rfl) sh_27 (by decide) ?_
        refine qa_bipush (v := 10) dX2_readNumber_43 (by decide) ?_
        refine qa_imul dX2_readNumber_45 ?_
        refine qa_ald0 dX2_readNumber_46 ?_
        refine qa_getR dX2_readNumber_47 lf_X2_18 rfl sh_27 (by decide) (pp_27_0 hp4) (by decide) ?_
        refine qa_ald0 dX2_readNumber_50 ?_
        refine qa_getI dX2_readNumber_51 lf_X2_35 (Or.inl rfl) sh_27 (by decide) ?_
        refine qa_bald dX2_readNumber_54 sh_2 (by decide) h.1 ?_
        have h := h.2
        refine qa_iadd dX2_readNumber_55 ?_
        refine qa_bipush (v := 48) dX2_readNumber_56 (by decide) ?_
        refine qa_isub dX2_readNumber_58 ?_
        refine qa_S2I dX2_readNumber_59 lm_X2_26  (by decide) (Nat.le_of_ble_eq_true rfl) (tJ9_min_7cf53 l hp4  h) (fun r6 μ6 hp6 h => ?_)
        refine qa_putI dX2_readNumber_62 lf_X2_167 rfl sh_27 (by decide) rfl ?_
        refine qa_nmM (fun μ7 em7 => ?_)
        have h := h μ7 em7
        have hp7 : qa_PP μ7.2.2 := by rw [em7]; exact hp6
        refine qa_ald0 dX2_readNumber_65 ?_
        refine qa_dup dX2_readNumber_66 rfl ?_
        refine qa_getI dX2_readNumber_67 lf_X2_35 (Or.inl rfl) sh_27 (by decide) ?_
        refine qa_iconst (v := 1) dX2_readNumber_70 (by decide) ?_
        refine qa_iadd dX2_readNumber_71 ?_
        refine qa_putI dX2_readNumber_72 lf_X2_35 rfl sh_27 (by decide) rfl ?_
        refine qa_nmM (fun μ8 em8 => ?_)
        have h := h μ8 em8
        have hp8 : qa_PP μ8.2.2 := by rw [em8]; exact hp7
        refine qa_goto (tgt := 10) dX2_readNumber_75 (by decide) ?_
        refine qa_fgt (L' := [some (.ref 27)]) (⟨rfl, trivial⟩) ?_
        exact ih  μ8 hp8  h
theorem tX2_readNumber (l : Launch) {n : Nat}  {μ0 : qa_M} {Q : qa_M → Prop} (hp0 : qa_PP μ0.2.2)  (h : wX2_readNumber n  μ0 Q) : qa_Met l yX2_readNumber cX2_readNumber 1 none 1 0 0 [.ref 27] 113 μ0 (qa_pV Q) := by
  refine qa_ofG (by decide) (Nat.le_of_ble_eq_true rfl) ?_
  unfold wX2_readNumber at h
  change qa_G l yX2_readNumber cX2_readNumber 1 none 1 0 0 (qa_pV Q) 0 0 0 [some (.ref 27)] [] 113 μ0
  refine qa_ald0 dX2_readNumber_0 ?_
  refine qa_iconst (v := 2) dX2_readNumber_1 (by decide) ?_
  refine qa_putI dX2_readNumber_2 lf_X2_41 rfl sh_27 (by decide) rfl ?_
  refine qa_nmM (fun μ1 em1 => ?_)
  have h := h μ1 em1
  have hp1 : qa_PP μ1.2.2 := by rw [em1]; exact hp0
  refine qa_ald0 dX2_readNumber_5 ?_
  refine qa_iconst (v := 0) dX2_readNumber_6 (by decide) ?_
  refine qa_putI dX2_readNumber_7 lf_X2_167 rfl sh_27 (by decide) rfl ?_
  refine qa_nmM (fun μ2 em2 => ?_)
  have h := h μ2 em2
  have hp2 : qa_PP μ2.2.2 := by rw [em2]; exact hp1
  refine qa_fgt (L' := [some (.ref 27)]) (⟨rfl, trivial⟩) ?_
  refine tX2_readNumber_10 l  n  μ2 hp2  h
def wX2_step_47 (n : Nat)  (μ0 : qa_M) (K0 : qa_M → Prop) (Q : qa_M → Prop) : Prop := ∀ μ4, μ4 = qa_uI μ0 27 4 ((μ0.1 27 4) + (1 : Int32)) → K0  μ4
def wX2_step_8 : Nat → qa_M → (qa_M → Prop) → (qa_M → Prop) → Prop
  | 0, _, _, _ => False
  | n + 1, μ0, K0, Q => (((μ0.1 27 1) ≤ (μ0.1 27 4) → K0  μ0) ∧ (¬ (μ0.1 27 1) ≤ (μ0.1 27 4) → vp_in (μ0.1 27 4) 800 ∧ (((μ0.1 2 (μ0.1 27 4).toNatClampNeg) = (32 : Int32) → wX2_step_47 n  μ0 (fun  μk => wX2_step_8 n  μk K0 Q) Q) ∧ (¬ (μ0.1 2 (μ0.1 27 4).toNatClampNeg) = (32 : Int32) → vp_in (μ0.1 27 4) 800 ∧ ((¬ (μ0.1 2 (μ0.1 27 4).toNatClampNeg) = (10 : Int32) → K0  μ0) ∧ ((μ0.1 2 (μ0.1 27 4).toNatClampNeg) = (10 : Int32) → wX2_step_47 n  μ0 (fun  μk => wX2_step_8 n  μk K0 Q) Q))))))
def wX2_step_151 (n : Nat) (s0 : Int32) (μ0 : qa_M)  (Q : qa_M → Prop) : Prop := ∀ μ15, μ15 = qa_uI μ0 27 3 s0 → ∀ μ16, μ16 = qa_uI μ15 27 5 ((μ15.1 27 5) + (1 : Int32)) → Q μ16
def wX2_step (n : Nat)  (μ0 : qa_M) (Q : qa_M → Prop) : Prop := ∀ μ1, μ1 = qa_uI μ0 27 4 (μ0.1 27 5) → wX2_step_8 n  μ1 (fun  μ6 => ∀ μ8, μ8 = qa_uI μ6 27 5 (μ6.1 27 4) → (((μ8.1 27 4) < (μ8.1 27 1) → vp_in (μ8.1 27 4) 800 ∧ wX2_isLowerCase n (μ8.1 2 (μ8.1 27 4).toNatClampNeg) μ8 (fun r10 μ10 => ((r10 = 0 → vp_in (μ10.1 27 4) 800 ∧ wX2_isDigit n (μ10.1 2 (μ10.1 27 4).toNatClampNeg) μ10 (fun r12 μ12 => ((r12 = 0 → vp_in (μ12.1 27 4) 800 ∧ ((¬ (μ12.1 2 (μ12.1 27 4).toNatClampNeg) = (59 : Int32) → wX2_step_151 n (4 : Int32) μ12  Q) ∧ ((μ12.1 2 (μ12.1 27 4).toNatClampNeg) = (59 : Int32) → wX2_step_151 n (3 : Int32) μ12  Q))) ∧ (¬ r12 = 0 → wX2_readNumber n  μ12 (fun μ17 => Q μ17))))) ∧ (¬ r10 = 0 → wX2_readWord n  μ10 (fun μ18 => Q μ18))))) ∧ (¬ (μ8.1 27 4) < (μ8.1 27 1) → ∀ μ19, μ19 = qa_uI μ8 27 3 (0 : Int32) → Q μ19))) Q
theorem tX2_step_47 (l : Launch) {K0 : qa_M → Prop} {Q : qa_M → Prop} (hK0 : ∀  (μ : qa_M), qa_PP μ.2.2 → K0  μ → qa_G l yX2_step cX2_step 1 none 2 0 0 (qa_pV Q) 0 0 8 [some (.ref 27)] [] 113 μ) : ∀ (n : Nat)  (μ0 : qa_M), qa_PP μ0.2.2 → wX2_step_47 n  μ0 K0 Q → qa_G l yX2_step cX2_step 1 none 2 0 0 (qa_pV Q) 0 0 47 [some (.ref 27)] [] 113 μ0 := by
  intro n
  intro  μ0 hp0  h
  unfold wX2_step_47 at h
  refine qa_ald0 dX2_step_47 ?_
  refine qa_dup dX2_step_48 rfl ?_
  refine qa_getI dX2_step_49 lf_X2_170 (Or.inl rfl) sh_27 (by decide) ?_
  refine qa_iconst (v := 1) dX2_step_52 (by decide) ?_
  refine qa_iadd dX2_step_53 ?_
  refine qa_putI dX2_step_54 lf_X2_170 rfl sh_27 (by decide) rfl ?_
  refine qa_nmM (fun μ4 em4 => ?_)
  have h := h μ4 em4
  have hp4 : qa_PP μ4.2.2 := by rw [em4]; exact hp0
  refine qa_goto (tgt := 8) dX2_step_57 (by decide) ?_
  refine qa_fgt (L' := [some (.ref 27)]) (⟨rfl, trivial⟩) ?_
  exact hK0  μ4 hp4  h
theorem tX2_step_8 (l : Launch) {K0 : qa_M → Prop} {Q : qa_M → Prop} (hK0 : ∀  (μ : qa_M), qa_PP μ.2.2 → K0  μ → qa_G l yX2_step cX2_step 1 none 2 0 0 (qa_pV Q) 0 0 60 [some (.ref 27)] [] 113 μ) : ∀ (n : Nat)  (μ0 : qa_M), qa_PP μ0.2.2 → wX2_step_8 n  μ0 K0 Q → qa_G l yX2_step cX2_step 1 none 2 0 0 (qa_pV Q) 0 0 8 [some (.ref 27)] [] 113 μ0 := by
  intro n
  induction n with
  | zero =>
    intro  μ0 hp0  h
    rw [wX2_step_8] at h
    exact h.elim
  | succ n ih =>
    intro  μ0 hp0  h
    rw [wX2_step_8] at h
    refine qa_ald0 dX2_step_8 ?_
    refine qa_getI dX2_step_9 lf_X2_170 (Or.inl rfl) sh_27 (by decide) ?_
    refine qa_ald0 dX2_step_12 ?_
    refine qa_getI dX2_step_13 lf_X2_32 (Or.inl rfl) sh_27 (by decide) ?_
    refine qa_icmp_ge (tgt := 60) dX2_step_16 (by decide) (fun c2 => ?_) (fun c2 => ?_)
    · have h := h.1 c2
      refine qa_fgt (L' := [some (.ref 27)]) (⟨rfl, trivial⟩) ?_
      exact hK0  μ0 hp0  h
    · have h := h.2 c2
      refine qa_ald0 dX2_step_19 ?_
      refine qa_getR dX2_step_20 lf_X2_18 rfl sh_27 (by decide) (pp_27_0 hp0) (by decide) ?_
      refine qa_ald0 dX2_step_23 ?_
      refine qa_getI dX2_step_24 lf_X2_170 (Or.inl rfl) sh_27 (by decide) ?_
      refine qa_bald dX2_step_27 sh_2 (by decide) h.1 ?_
      have h := h.2
      refine qa_bipush (v := 32) dX2_step_28 (by decide) ?_
      refine qa_icmp_eq (tgt := 47) dX2_step_30 (by decide) (fun c3 => ?_) (fun c3 => ?_)
      · have h := h.1 c3
        refine qa_fgt (L' := [some (.ref 27)]) (⟨rfl, trivial⟩) ?_
        refine tX2_step_47 l ih n  μ0 hp0  h
      · have h := h.2 c3
        refine qa_ald0 dX2_step_33 ?_
        refine qa_getR dX2_step_34 lf_X2_18 rfl sh_27 (by decide) (pp_27_0 hp0) (by decide) ?_
        refine qa_ald0 dX2_step_37 ?_
        refine qa_getI dX2_step_38 lf_X2_170 (Or.inl rfl) sh_27 (by decide) ?_
        refine qa_bald dX2_step_41 sh_2 (by decide) h.1 ?_
        have h := h.2
        refine qa_bipush (v := 10) dX2_step_42 (by decide) ?_
        refine qa_icmp_ne (tgt := 60) dX2_step_44 (by decide) (fun c5 => ?_) (fun c5 => ?_)
        · have h := h.1 c5
          refine qa_fgt (L' := [some (.ref 27)]) (⟨rfl, trivial⟩) ?_
          exact hK0  μ0 hp0  h
        · have h := h.2 c5
          refine qa_fgt (L' := [some (.ref 27)]) (⟨rfl, trivial⟩) ?_
          refine tX2_step_47 l ih n  μ0 hp0  h
theorem tX2_step_151 (l : Launch)  {Q : qa_M → Prop}  : ∀ (n : Nat) (s0 : Int32) (μ0 : qa_M), qa_PP μ0.2.2 → wX2_step_151 n s0 μ0  Q → qa_G l yX2_step cX2_step 1 none 2 0 0 (qa_pV Q) 0 0 151 [some (.ref 27)] [.int s0, .ref 27] 113 μ0 := by
  intro n
  intro s0 μ0 hp0  h
  unfold wX2_step_151 at h
  refine qa_putI dX2_step_151 lf_X2_41 rfl sh_27 (by decide) rfl ?_
  refine qa_nmM (fun μ15 em15 => ?_)
  have h := h μ15 em15
  have hp15 : qa_PP μ15.2.2 := by rw [em15]; exact hp0
  refine qa_ald0 dX2_step_154 ?_
  refine qa_dup dX2_step_155 rfl ?_
  refine qa_getI dX2_step_156 lf_X2_35 (Or.inl rfl) sh_27 (by decide) ?_
  refine qa_iconst (v := 1) dX2_step_159 (by decide) ?_
  refine qa_iadd dX2_step_160 ?_
  refine qa_putI dX2_step_161 lf_X2_35 rfl sh_27 (by decide) rfl ?_
  refine qa_nmM (fun μ16 em16 => ?_)
  have h := h μ16 em16
  have hp16 : qa_PP μ16.2.2 := by rw [em16]; exact hp15
  exact qa_vret rfl dX2_step_164 ⟨rfl, rfl⟩ ⟨rfl, hp16, rfl, h⟩
theorem tX2_step (l : Launch) {n : Nat}  {μ0 : qa_M} {Q : qa_M → Prop} (hp0 : qa_PP μ0.2.2)  (h : wX2_step n  μ0 Q) : qa_Met l yX2_step cX2_step 1 none 2 0 0 [.ref 27] 113 μ0 (qa_pV Q) := by
  refine qa_ofG (by decide) (Nat.le_of_ble_eq_true rfl) ?_
  unfold wX2_step at h
  change qa_G l yX2_step cX2_step 1 none 2 0 0 (qa_pV Q) 0 0 0 [some (.ref 27)] [] 113 μ0
  refine qa_ald0 dX2_step_0 ?_
  refine qa_ald0 dX2_step_1 ?_
  refine qa_getI dX2_step_2 lf_X2_35 (Or.inl rfl) sh_27 (by decide) ?_
  refine qa_putI dX2_step_5 lf_X2_170 rfl sh_27 (by decide) rfl ?_
  refine qa_nmM (fun μ1 em1 => ?_)
  have h := h μ1 em1
  have hp1 : qa_PP μ1.2.2 := by rw [em1]; exact hp0
  refine qa_fgt (L' := [some (.ref 27)]) (⟨rfl, trivial⟩) ?_
  refine tX2_step_8 l ?_ n  μ1 hp1  h
  · intro  μ6 hp6  h
    refine qa_ald0 dX2_step_60 ?_
    refine qa_ald0 dX2_step_61 ?_
    refine qa_getI dX2_step_62 lf_X2_170 (Or.inl rfl) sh_27 (by decide) ?_
    refine qa_putI dX2_step_65 lf_X2_35 rfl sh_27 (by decide) rfl ?_
    refine qa_nmM (fun μ8 em8 => ?_)
    have h := h μ8 em8
    have hp8 : qa_PP μ8.2.2 := by rw [em8]; exact hp6
    refine qa_ald0 dX2_step_68 ?_
    refine qa_getI dX2_step_69 lf_X2_170 (Or.inl rfl) sh_27 (by decide) ?_
    refine qa_ald0 dX2_step_72 ?_
    refine qa_getI dX2_step_73 lf_X2_32 (Or.inl rfl) sh_27 (by decide) ?_
    refine qa_icmp_lt (tgt := 87) dX2_step_76 (by decide) (fun c9 => ?_) (fun c9 => ?_)
    · have h := h.1 c9
      refine qa_ald0 dX2_step_87 ?_
      refine qa_getR dX2_step_88 lf_X2_18 rfl sh_27 (by decide) (pp_27_0 hp8) (by decide) ?_
      refine qa_ald0 dX2_step_91 ?_
      refine qa_getI dX2_step_92 lf_X2_170 (Or.inl rfl) sh_27 (by decide) ?_
      refine qa_bald dX2_step_95 sh_2 (by decide) h.1 ?_
      have h := h.2
      refine qa_S1I dX2_step_96 lm_X2_182  (by decide) (Nat.le_of_ble_eq_true rfl) (tX2_isLowerCase l hp8  h) (fun r10 μ10 hp10 h => ?_)
      refine qa_if_eq (tgt := 109) dX2_step_99 (by decide) (fun c11 => ?_) (fun c11 => ?_)
      · have h := h.1 c11
        refine qa_ald0 dX2_step_109 ?_
        refine qa_getR dX2_step_110 lf_X2_18 rfl sh_27 (by decide) (pp_27_0 hp10) (by decide) ?_
        refine qa_ald0 dX2_step_113 ?_
        refine qa_getI dX2_step_114 lf_X2_170 (Or.inl rfl) sh_27 (by decide) ?_
        refine qa_bald dX2_step_117 sh_2 (by decide) h.1 ?_
        have h := h.2
        refine qa_S1I dX2_step_118 lm_X2_189  (by decide) (Nat.le_of_ble_eq_true rfl) (tX2_isDigit l hp10  h) (fun r12 μ12 hp12 h => ?_)
        refine qa_if_eq (tgt := 131) dX2_step_121 (by decide) (fun c13 => ?_) (fun c13 => ?_)
        · have h := h.1 c13
          refine qa_ald0 dX2_step_131 ?_
          refine qa_ald0 dX2_step_132 ?_
          refine qa_getR dX2_step_133 lf_X2_18 rfl sh_27 (by decide) (pp_27_0 hp12) (by decide) ?_
          refine qa_ald0 dX2_step_136 ?_
          refine qa_getI dX2_step_137 lf_X2_170 (Or.inl rfl) sh_27 (by decide) ?_
          refine qa_bald dX2_step_140 sh_2 (by decide) h.1 ?_
          have h := h.2
          refine qa_bipush (v := 59) dX2_step_141 (by decide) ?_
          refine qa_icmp_ne (tgt := 150) dX2_step_143 (by decide) (fun c14 => ?_) (fun c14 => ?_)
          · have h := h.1 c14
            refine qa_iconst (v := 4) dX2_step_150 (by decide) ?_
            refine qa_fgt (L' := [some (.ref 27)]) (⟨rfl, trivial⟩) ?_
            refine tX2_step_151 l  n (4 : Int32) μ12 hp12  h
          · have h := h.2 c14
            refine qa_iconst (v := 3) dX2_step_146 (by decide) ?_
            refine qa_goto (tgt := 151) dX2_step_147 (by decide) ?_
            refine qa_fgt (L' := [some (.ref 27)]) (⟨rfl, trivial⟩) ?_
            refine tX2_step_151 l  n (3 : Int32) μ12 hp12  h
        · have h := h.2 c13
          refine qa_ald0 dX2_step_124 ?_
          refine qa_V0V dX2_step_125 lm_X2_192 sh_27 rfl (by decide) (by decide) (Nat.le_of_ble_eq_true rfl) (tX2_readNumber l hp12  h) (fun μ17 hp17 h => ?_)
          refine qa_goto (tgt := 164) dX2_step_128 (by decide) ?_
          exact qa_vret rfl dX2_step_164 ⟨rfl, rfl⟩ ⟨rfl, hp17, rfl, h⟩
      · have h := h.2 c11
        refine qa_ald0 dX2_step_102 ?_
        refine qa_V0V dX2_step_103 lm_X2_186 sh_27 rfl (by decide) (by decide) (Nat.le_of_ble_eq_true rfl) (tX2_readWord l hp10  h) (fun μ18 hp18 h => ?_)
        refine qa_goto (tgt := 164) dX2_step_106 (by decide) ?_
        exact qa_vret rfl dX2_step_164 ⟨rfl, rfl⟩ ⟨rfl, hp18, rfl, h⟩
    · have h := h.2 c9
      refine qa_ald0 dX2_step_79 ?_
      refine qa_iconst (v := 0) dX2_step_80 (by decide) ?_
      refine qa_putI dX2_step_81 lf_X2_41 rfl sh_27 (by decide) rfl ?_
      refine qa_nmM (fun μ19 em19 => ?_)
      have h := h μ19 em19
      have hp19 : qa_PP μ19.2.2 := by rw [em19]; exact hp8
      refine qa_goto (tgt := 164) dX2_step_84 (by decide) ?_
      exact qa_vret rfl dX2_step_164 ⟨rfl, rfl⟩ ⟨rfl, hp19, rfl, h⟩
def wX2_takeWord (n : Nat) (v1 : Nat) (μ0 : qa_M) (Q : qa_M → Prop) : Prop := (((μ0.1 27 7) = 0 → wX2_isWord n v1 μ0 (fun r2 μ2 => ((r2 = 0 → wX2_fail n (1 : Int32) μ2 (fun μ4 => Q μ4)) ∧ (¬ r2 = 0 → wX2_step n  μ2 (fun μ5 => Q μ5))))) ∧ (¬ (μ0.1 27 7) = 0 → Q μ0))
theorem tX2_takeWord (l : Launch) {n : Nat} {v1 : Nat} {μ0 : qa_M} {Q : qa_M → Prop} (hp0 : qa_PP μ0.2.2) (k1 : v1 < 30) (h : wX2_takeWord n v1 μ0 Q) : qa_Met l yX2_takeWord cX2_takeWord 2 none 6 0 0 [.ref 27, .ref (2000 + v1)] 113 μ0 (qa_pV Q) := by
  refine qa_ofG (by decide) (Nat.le_of_ble_eq_true rfl) ?_
  unfold wX2_takeWord at h
  change qa_G l yX2_takeWord cX2_takeWord 2 none 6 0 0 (qa_pV Q) 0 0 0 [some (.ref 27), some (.ref (2000 + v1))] [] 113 μ0
  refine qa_ald0 dX2_takeWord_0 ?_
  refine qa_getI dX2_takeWord_1 lf_X2_9 (Or.inl rfl) sh_27 (by decide) ?_
  refine qa_if_eq (tgt := 8) dX2_takeWord_4 (by decide) (fun c1 => ?_) (fun c1 => ?_)
  · have h := h.1 c1
    refine qa_ald0 dX2_takeWord_8 ?_
    refine qa_ald1 dX2_takeWord_9 ?_
    refine qa_V1I dX2_takeWord_10 lm_X2_57 sh_27 rfl (by decide) (by decide) (Nat.le_of_ble_eq_true rfl) (tX2_isWord l hp0 k1 h) (fun r2 μ2 hp2 h => ?_)
    refine qa_if_eq (tgt := 23) dX2_takeWord_13 (by decide) (fun c3 => ?_) (fun c3 => ?_)
    · have h := h.1 c3
      refine qa_ald0 dX2_takeWord_23 ?_
      refine qa_iconst (v := 1) dX2_takeWord_24 (by decide) ?_
      refine qa_V1V dX2_takeWord_25 lm_X2_79 sh_27 rfl (by decide) (by decide) (Nat.le_of_ble_eq_true rfl) (tX2_fail l hp2  h) (fun μ4 hp4 h => ?_)
      exact qa_vret rfl dX2_takeWord_28 ⟨rfl, rfl⟩ ⟨rfl, hp4, rfl, h⟩
    · have h := h.2 c3
      refine qa_ald0 dX2_takeWord_16 ?_
      refine qa_V0V dX2_takeWord_17 lm_X2_38 sh_27 rfl (by decide) (by decide) (Nat.le_of_ble_eq_true rfl) (tX2_step l hp2  h) (fun μ5 hp5 h => ?_)
      refine qa_goto (tgt := 28) dX2_takeWord_20 (by decide) ?_
      exact qa_vret rfl dX2_takeWord_28 ⟨rfl, rfl⟩ ⟨rfl, hp5, rfl, h⟩
  · have h := h.2 c1
    exact qa_vret rfl dX2_takeWord_7 ⟨rfl, rfl⟩ ⟨rfl, hp0, rfl, h⟩
def wX2_takeNumber (n : Nat) (v1 : Int32) (v2 : Int32) (μ0 : qa_M) (Q : Int32 → qa_M → Prop) : Prop := (((μ0.1 27 7) = 0 → (((μ0.1 27 3) = (2 : Int32) → (((μ0.1 27 6) < v1 → wX2_fail n (2 : Int32) μ0 (fun μ4 => Q v1 μ4)) ∧ (¬ (μ0.1 27 6) < v1 → (((μ0.1 27 6) ≤ v2 → ∀ x6, x6 = (μ0.1 27 6) → wX2_step n  μ0 (fun μ7 => Q x6 μ7)) ∧ (¬ (μ0.1 27 6) ≤ v2 → wX2_fail n (2 : Int32) μ0 (fun μ8 => Q v1 μ8)))))) ∧ (¬ (μ0.1 27 3) = (2 : Int32) → wX2_fail n (1 : Int32) μ0 (fun μ9 => Q v1 μ9)))) ∧ (¬ (μ0.1 27 7) = 0 → Q v1 μ0))
theorem tX2_takeNumber (l : Launch) {n : Nat} {v1 : Int32} {v2 : Int32} {μ0 : qa_M} {Q : Int32 → qa_M → Prop} (hp0 : qa_PP μ0.2.2)  (h : wX2_takeNumber n v1 v2 μ0 Q) : qa_Met l yX2_takeNumber cX2_takeNumber 4 (some .int) 3 0 0 [.ref 27, .int v1, .int v2] 113 μ0 (qa_pI Q) := by
  refine qa_ofG (by decide) (Nat.le_of_ble_eq_true rfl) ?_
  unfold wX2_takeNumber at h
  change qa_G l yX2_takeNumber cX2_takeNumber 4 (some .int) 3 0 0 (qa_pI Q) 0 0 0 [some (.ref 27), some (.int v1), some (.int v2), none] [] 113 μ0
  refine qa_ald0 dX2_takeNumber_0 ?_
  refine qa_getI dX2_takeNumber_1 lf_X2_9 (Or.inl rfl) sh_27 (by decide) ?_
  refine qa_if_eq (tgt := 9) dX2_takeNumber_4 (by decide) (fun c1 => ?_) (fun c1 => ?_)
  · have h := h.1 c1
    refine qa_ald0 dX2_takeNumber_9 ?_
    refine qa_getI dX2_takeNumber_10 lf_X2_41 (Or.inl rfl) sh_27 (by decide) ?_
    refine qa_iconst (v := 2) dX2_takeNumber_13 (by decide) ?_
    refine qa_icmp_eq (tgt := 24) dX2_takeNumber_14 (by decide) (fun c2 => ?_) (fun c2 => ?_)
    · have h := h.1 c2
      refine qa_ald0 dX2_takeNumber_24 ?_
      refine qa_getI dX2_takeNumber_25 lf_X2_167 (Or.inl rfl) sh_27 (by decide) ?_
      refine qa_ild1 dX2_takeNumber_28 ?_
      refine qa_icmp_lt (tgt := 40) dX2_takeNumber_29 (by decide) (fun c3 => ?_) (fun c3 => ?_)
      · have h := h.1 c3
        refine qa_ald0 dX2_takeNumber_40 ?_
        refine qa_iconst (v := 2) dX2_takeNumber_41 (by decide) ?_
        refine qa_V1V dX2_takeNumber_42 lm_X2_79 sh_27 rfl (by decide) (by decide) (Nat.le_of_ble_eq_true rfl) (tX2_fail l hp0  h) (fun μ4 hp4 h => ?_)
        refine qa_ild1 dX2_takeNumber_45 ?_
        exact qa_iret rfl dX2_takeNumber_46 ⟨rfl, rfl⟩ ⟨rfl, hp4, _, rfl, h⟩
      · have h := h.2 c3
        refine qa_ald0 dX2_takeNumber_32 ?_
        refine qa_getI dX2_takeNumber_33 lf_X2_167 (Or.inl rfl) sh_27 (by decide) ?_
        refine qa_ild2 dX2_takeNumber_36 ?_
        refine qa_icmp_le (tgt := 47) dX2_takeNumber_37 (by decide) (fun c5 => ?_) (fun c5 => ?_)
        · have h := h.1 c5
          refine qa_ald0 dX2_takeNumber_47 ?_
          refine qa_getI dX2_takeNumber_48 lf_X2_167 (Or.inl rfl) sh_27 (by decide) ?_
          refine qa_nmI (fun x6 e6 => ?_)
          have h := h x6 e6
          refine qa_ist3 dX2_takeNumber_51 ?_
          refine qa_ald0 dX2_takeNumber_52 ?_
          refine qa_V0V dX2_takeNumber_53 lm_X2_38 sh_27 rfl (by decide) (by decide) (Nat.le_of_ble_eq_true rfl) (tX2_step l hp0  h) (fun μ7 hp7 h => ?_)
          refine qa_ild3 dX2_takeNumber_56 ?_
          exact qa_iret rfl dX2_takeNumber_57 ⟨rfl, rfl⟩ ⟨rfl, hp7, _, rfl, h⟩
        · have h := h.2 c5
          refine qa_ald0 dX2_takeNumber_40 ?_
          refine qa_iconst (v := 2) dX2_takeNumber_41 (by decide) ?_
          refine qa_V1V dX2_takeNumber_42 lm_X2_79 sh_27 rfl (by decide) (by decide) (Nat.le_of_ble_eq_true rfl) (tX2_fail l hp0  h) (fun μ8 hp8 h => ?_)
          refine qa_ild1 dX2_takeNumber_45 ?_
          exact qa_iret rfl dX2_takeNumber_46 ⟨rfl, rfl⟩ ⟨rfl, hp8, _, rfl, h⟩
    · have h := h.2 c2
      refine qa_ald0 dX2_takeNumber_17 ?_
      refine qa_iconst (v := 1) dX2_takeNumber_18 (by decide) ?_
      refine qa_V1V dX2_takeNumber_19 lm_X2_79 sh_27 rfl (by decide) (by decide) (Nat.le_of_ble_eq_true rfl) (tX2_fail l hp0  h) (fun μ9 hp9 h => ?_)
      refine qa_ild1 dX2_takeNumber_22 ?_
      exact qa_iret rfl dX2_takeNumber_23 ⟨rfl, rfl⟩ ⟨rfl, hp9, _, rfl, h⟩
  · have h := h.2 c1
    refine qa_ild1 dX2_takeNumber_7 ?_
    exact qa_iret rfl dX2_takeNumber_8 ⟨rfl, rfl⟩ ⟨rfl, hp0, _, rfl, h⟩
def wX2_takeNumberOf (n : Nat) (v1 : Nat) (v2 : Int32) (v3 : Int32) (μ0 : qa_M) (Q : Int32 → qa_M → Prop) : Prop := wX2_takeWord n v1 μ0 (fun μ1 => wX2_takeNumber n v2 v3 μ1 (fun r2 μ2 => Q r2 μ2))
theorem tX2_takeNumberOf (l : Launch) {n : Nat} {v1 : Nat} {v2 : Int32} {v3 : Int32} {μ0 : qa_M} {Q : Int32 → qa_M → Prop} (hp0 : qa_PP μ0.2.2) (k1 : v1 < 30) (h : wX2_takeNumberOf n v1 v2 v3 μ0 Q) : qa_Met l yX2_takeNumberOf cX2_takeNumberOf 4 (some .int) 7 0 0 [.ref 27, .ref (2000 + v1), .int v2, .int v3] 113 μ0 (qa_pI Q) := by
  refine qa_ofG (by decide) (Nat.le_of_ble_eq_true rfl) ?_
  unfold wX2_takeNumberOf at h
  change qa_G l yX2_takeNumberOf cX2_takeNumberOf 4 (some .int) 7 0 0 (qa_pI Q) 0 0 0 [some (.ref 27), some (.ref (2000 + v1)), some (.int v2), some (.int v3)] [] 113 μ0
  refine qa_ald0 dX2_takeNumberOf_0 ?_
  refine qa_ald1 dX2_takeNumberOf_1 ?_
  refine qa_V1V dX2_takeNumberOf_2 lm_X2_88 sh_27 rfl (by decide) (by decide) (Nat.le_of_ble_eq_true rfl) (tX2_takeWord l hp0 k1 h) (fun μ1 hp1 h => ?_)
  refine qa_ald0 dX2_takeNumberOf_5 ?_
  refine qa_ild2 dX2_takeNumberOf_6 ?_
  refine qa_ild3 dX2_takeNumberOf_7 ?_
  refine qa_V2I dX2_takeNumberOf_8 lm_X2_132 sh_27 rfl (by decide) (by decide) (Nat.le_of_ble_eq_true rfl) (tX2_takeNumber l hp1  h) (fun r2 μ2 hp2 h => ?_)
  exact qa_iret rfl dX2_takeNumberOf_11 ⟨rfl, rfl⟩ ⟨rfl, hp2, _, rfl, h⟩
def wX2_readTown (n : Nat)  (μ0 : qa_M) (Q : qa_M → Prop) : Prop := wX2_takeWord n 0 μ0 (fun μ1 => wX2_takeNumberOf n 1 (1 : Int32) (20 : Int32) μ1 (fun r2 μ2 => ∀ μ3, μ3 = qa_uI μ2 (μ1.2.2 27 2) 1 r2 → wX2_takeNumberOf n 2 (0 : Int32) (3 : Int32) μ3 (fun r4 μ4 => ∀ μ5, μ5 = qa_uI μ4 (μ3.2.2 27 2) 2 r4 → wX2_takeNumberOf n 3 (1 : Int32) (30 : Int32) μ5 (fun r6 μ6 => ∀ μ7, μ7 = qa_uI μ6 (μ5.2.2 27 2) 3 r6 → wX2_takeNumberOf n 4 (0 : Int32) (10 : Int32) μ7 (fun r8 μ8 => ∀ μ9, μ9 = qa_uI μ8 (μ7.2.2 27 2) 4 r8 → Q μ9)))))
theorem tX2_readTown (l : Launch) {n : Nat}  {μ0 : qa_M} {Q : qa_M → Prop} (hp0 : qa_PP μ0.2.2)  (h : wX2_readTown n  μ0 Q) : qa_Met l yX2_readTown cX2_readTown 1 none 8 0 0 [.ref 27] 113 μ0 (qa_pV Q) := by
  refine qa_ofG (by decide) (Nat.le_of_ble_eq_true rfl) ?_
  unfold wX2_readTown at h
  change qa_G l yX2_readTown cX2_readTown 1 none 8 0 0 (qa_pV Q) 0 0 0 [some (.ref 27)] [] 113 μ0
  refine qa_ald0 dX2_readTown_0 ?_
  refine qa_ldcS (i := 0) (tx := "town") dX2_readTown_1 (by decide) ?_
  refine qa_V1V dX2_readTown_3 lm_X2_88 sh_27 rfl (by decide) (by decide) (Nat.le_of_ble_eq_true rfl) (tX2_takeWord l hp0 (by decide) h) (fun μ1 hp1 h => ?_)
  refine qa_ald0 dX2_readTown_6 ?_
  refine qa_getR dX2_readTown_7 lf_X2_22 rfl sh_27 (by decide) rfl (qa_tw0 hp1.2.2.2) ?_
  refine qa_ald0 dX2_readTown_10 ?_
  refine qa_ldcS (i := 1) (tx := "weeks") dX2_readTown_11 (by decide) ?_
  refine qa_iconst (v := 1) dX2_readTown_13 (by decide) ?_
  refine qa_bipush (v := 20) dX2_readTown_14 (by decide) ?_
  refine qa_V3I dX2_readTown_16 lm_X2_94 sh_27 rfl (by decide) (by decide) (Nat.le_of_ble_eq_true rfl) (tX2_takeNumberOf l hp1 (by decide) h) (fun r2 μ2 hp2 h => ?_)
  refine qa_putI dX2_readTown_19 lf_X2_98 rfl (st_0 hp1.2.2.2) (tle_0 hp1.2.2.2) rfl ?_
  refine qa_nmM (fun μ3 em3 => ?_)
  have h := h μ3 em3
  have hp3 : qa_PP μ3.2.2 := by rw [em3]; exact hp2
  refine qa_ald0 dX2_readTown_22 ?_
  refine qa_getR dX2_readTown_23 lf_X2_22 rfl sh_27 (by decide) rfl (qa_tw0 hp3.2.2.2) ?_
  refine qa_ald0 dX2_readTown_26 ?_
  refine qa_ldcS (i := 2) (tx := "law") dX2_readTown_27 (by decide) ?_
  refine qa_iconst (v := 0) dX2_readTown_29 (by decide) ?_
  refine qa_iconst (v := 3) dX2_readTown_30 (by decide) ?_
  refine qa_V3I dX2_readTown_31 lm_X2_94 sh_27 rfl (by decide) (by decide) (Nat.le_of_ble_eq_true rfl) (tX2_takeNumberOf l hp3 (by decide) h) (fun r4 μ4 hp4 h => ?_)
  refine qa_putI dX2_readTown_34 lf_X2_102 rfl (st_0 hp3.2.2.2) (tle_0 hp3.2.2.2) rfl ?_
  refine qa_nmM (fun μ5 em5 => ?_)
  have h := h μ5 em5
  have hp5 : qa_PP μ5.2.2 := by rw [em5]; exact hp4
  refine qa_ald0 dX2_readTown_37 ?_
  refine qa_getR dX2_readTown_38 lf_X2_22 rfl sh_27 (by decide) rfl (qa_tw0 hp5.2.2.2) ?_
  refine qa_ald0 dX2_readTown_41 ?_
  refine qa_ldcS (i := 3) (tx := "heavy") dX2_readTown_42 (by decide) ?_
  refine qa_iconst (v := 1) dX2_readTown_44 (by decide) ?_
  refine qa_bipush (v := 30) dX2_readTown_45 (by decide) ?_
  refine qa_V3I dX2_readTown_47 lm_X2_94 sh_27 rfl (by decide) (by decide) (Nat.le_of_ble_eq_true rfl) (tX2_takeNumberOf l hp5 (by decide) h) (fun r6 μ6 hp6 h => ?_)
  refine qa_putI dX2_readTown_50 lf_X2_106 rfl (st_0 hp5.2.2.2) (tle_0 hp5.2.2.2) rfl ?_
  refine qa_nmM (fun μ7 em7 => ?_)
  have h := h μ7 em7
  have hp7 : qa_PP μ7.2.2 := by rw [em7]; exact hp6
  refine qa_ald0 dX2_readTown_53 ?_
  refine qa_getR dX2_readTown_54 lf_X2_22 rfl sh_27 (by decide) rfl (qa_tw0 hp7.2.2.2) ?_
  refine qa_ald0 dX2_readTown_57 ?_
  refine qa_ldcS (i := 4) (tx := "odds") dX2_readTown_58 (by decide) ?_
  refine qa_iconst (v := 0) dX2_readTown_60 (by decide) ?_
  refine qa_bipush (v := 10) dX2_readTown_61 (by decide) ?_
  refine qa_V3I dX2_readTown_63 lm_X2_94 sh_27 rfl (by decide) (by decide) (Nat.le_of_ble_eq_true rfl) (tX2_takeNumberOf l hp7 (by decide) h) (fun r8 μ8 hp8 h => ?_)
  refine qa_putI dX2_readTown_66 lf_X2_110 rfl (st_0 hp7.2.2.2) (tle_0 hp7.2.2.2) rfl ?_
  refine qa_nmM (fun μ9 em9 => ?_)
  have h := h μ9 em9
  have hp9 : qa_PP μ9.2.2 := by rw [em9]; exact hp8
  exact qa_vret rfl dX2_readTown_69 ⟨rfl, rfl⟩ ⟨rfl, hp9, rfl, h⟩
def wX2_startLine (n : Nat) (v1 : Int32) (v2 : Int32) (μ0 : qa_M) (Q : qa_M → Prop) : Prop := ((v1 < v2 → wX2_step n  μ0 (fun μ2 => Q μ2)) ∧ (¬ v1 < v2 → wX2_fail n (3 : Int32) μ0 (fun μ3 => Q μ3)))
theorem tX2_startLine (l : Launch) {n : Nat} {v1 : Int32} {v2 : Int32} {μ0 : qa_M} {Q : qa_M → Prop} (hp0 : qa_PP μ0.2.2)  (h : wX2_startLine n v1 v2 μ0 Q) : qa_Met l yX2_startLine cX2_startLine 3 none 3 0 0 [.ref 27, .int v1, .int v2] 113 μ0 (qa_pV Q) := by
  refine qa_ofG (by decide) (Nat.le_of_ble_eq_true rfl) ?_
  unfold wX2_startLine at h
  change qa_G l yX2_startLine cX2_startLine 3 none 3 0 0 (qa_pV Q) 0 0 0 [some (.ref 27), some (.int v1), some (.int v2)] [] 113 μ0
  refine qa_ild1 dX2_startLine_0 ?_
  refine qa_ild2 dX2_startLine_1 ?_
  refine qa_icmp_lt (tgt := 13) dX2_startLine_2 (by decide) (fun c1 => ?_) (fun c1 => ?_)
  · have h := h.1 c1
    refine qa_ald0 dX2_startLine_13 ?_
    refine qa_V0V dX2_startLine_14 lm_X2_38 sh_27 rfl (by decide) (by decide) (Nat.le_of_ble_eq_true rfl) (tX2_step l hp0  h) (fun μ2 hp2 h => ?_)
    exact qa_vret rfl dX2_startLine_17 ⟨rfl, rfl⟩ ⟨rfl, hp2, rfl, h⟩
  · have h := h.2 c1
    refine qa_ald0 dX2_startLine_5 ?_
    refine qa_iconst (v := 3) dX2_startLine_6 (by decide) ?_
    refine qa_V1V dX2_startLine_7 lm_X2_79 sh_27 rfl (by decide) (by decide) (Nat.le_of_ble_eq_true rfl) (tX2_fail l hp0  h) (fun μ3 hp3 h => ?_)
    refine qa_goto (tgt := 17) dX2_startLine_10 (by decide) ?_
    exact qa_vret rfl dX2_startLine_17 ⟨rfl, rfl⟩ ⟨rfl, hp3, rfl, h⟩
def wX2_readHouse_65 (n : Nat) (v1 : Int32) (μ0 : qa_M)  (Q : qa_M → Prop) : Prop := vp_in (μ0.1 (μ0.2.2 27 2) 5) 8 ∧ ∀ μ6, μ6 = qa_uI μ0 ((μ0.2.2 27 2) + 1) (μ0.1 (μ0.2.2 27 2) 5).toNatClampNeg v1 → ∀ μ7, μ7 = qa_uI μ6 (μ6.2.2 27 2) 5 ((μ6.1 (μ6.2.2 27 2) 5) + (1 : Int32)) → Q μ7
def wX2_readHouse (n : Nat)  (μ0 : qa_M) (Q : qa_M → Prop) : Prop := wX2_startLine n (μ0.1 (μ0.2.2 27 2) 5) (8 : Int32) μ0 (fun μ1 => wX2_takeNumberOf n 6 (0 : Int32) (40 : Int32) μ1 (fun r2 μ2 => (((μ2.1 27 7) = 0 → wX2_isWord n 7 μ2 (fun r4 μ4 => ((r4 = 0 → wX2_readHouse_65 n r2 μ4  Q) ∧ (¬ r4 = 0 → ∀ μ8, μ8 = qa_uI μ4 (μ4.2.2 27 2) 9 ((μ4.1 (μ4.2.2 27 2) 9) ||| ((1 : Int32) <<< ((μ4.1 (μ4.2.2 27 2) 5) &&& 31))) → wX2_step n  μ8 (fun μ9 => wX2_readHouse_65 n r2 μ9  Q))))) ∧ (¬ (μ2.1 27 7) = 0 → Q μ2))))
theorem tX2_readHouse_65 (l : Launch)  {Q : qa_M → Prop}  : ∀ (n : Nat) (v1 : Int32) (μ0 : qa_M), qa_PP μ0.2.2 → wX2_readHouse_65 n v1 μ0  Q → qa_G l yX2_readHouse cX2_readHouse 2 none 8 0 0 (qa_pV Q) 0 0 65 [some (.ref 27), some (.int v1)] [] 113 μ0 := by
  intro n
  intro v1 μ0 hp0  h
  unfold wX2_readHouse_65 at h
  refine qa_ald0 dX2_readHouse_65 ?_
  refine qa_getR dX2_readHouse_66 lf_X2_22 rfl sh_27 (by decide) rfl (qa_tw0 hp0.2.2.2) ?_
  refine qa_getR dX2_readHouse_69 lf_X2_126 rfl (st_0 hp0.2.2.2) (tle_0 hp0.2.2.2) (pt_11 hp0 hp0.2.2.2) (Nat.succ_pos _) ?_
  refine qa_ald0 dX2_readHouse_72 ?_
  refine qa_getR dX2_readHouse_73 lf_X2_22 rfl sh_27 (by decide) rfl (qa_tw0 hp0.2.2.2) ?_
  refine qa_getI dX2_readHouse_76 lf_X2_112 (Or.inl rfl) (st_0 hp0.2.2.2) (tle_0 hp0.2.2.2) ?_
  refine qa_ild1 dX2_readHouse_79 ?_
  refine qa_iast dX2_readHouse_80 (st_1 hp0.2.2.2) (tle_1 hp0.2.2.2) h.1 ?_
  have h := h.2
  refine qa_nmM (fun μ6 em6 => ?_)
  have h := h μ6 em6
  have hp6 : qa_PP μ6.2.2 := by rw [em6]; exact hp0
  refine qa_ald0 dX2_readHouse_81 ?_
  refine qa_getR dX2_readHouse_82 lf_X2_22 rfl sh_27 (by decide) rfl (qa_tw0 hp6.2.2.2) ?_
  refine qa_dup dX2_readHouse_85 rfl ?_
  refine qa_getI dX2_readHouse_86 lf_X2_112 (Or.inl rfl) (st_0 hp6.2.2.2) (tle_0 hp6.2.2.2) ?_
  refine qa_iconst (v := 1) dX2_readHouse_89 (by decide) ?_
  refine qa_iadd dX2_readHouse_90 ?_
  refine qa_putI dX2_readHouse_91 lf_X2_112 rfl (st_0 hp6.2.2.2) (tle_0 hp6.2.2.2) rfl ?_
  refine qa_nmM (fun μ7 em7 => ?_)
  have h := h μ7 em7
  have hp7 : qa_PP μ7.2.2 := by rw [em7]; exact hp6
  exact qa_vret rfl dX2_readHouse_94 ⟨rfl, rfl⟩ ⟨rfl, hp7, rfl, h⟩
theorem tX2_readHouse (l : Launch) {n : Nat}  {μ0 : qa_M} {Q : qa_M → Prop} (hp0 : qa_PP μ0.2.2)  (h : wX2_readHouse n  μ0 Q) : qa_Met l yX2_readHouse cX2_readHouse 2 none 8 0 0 [.ref 27] 113 μ0 (qa_pV Q) := by
  refine qa_ofG (by decide) (Nat.le_of_ble_eq_true rfl) ?_
  unfold wX2_readHouse at h
  change qa_G l yX2_readHouse cX2_readHouse 2 none 8 0 0 (qa_pV Q) 0 0 0 [some (.ref 27), none] [] 113 μ0
  refine qa_ald0 dX2_readHouse_0 ?_
  refine qa_ald0 dX2_readHouse_1 ?_
  refine qa_getR dX2_readHouse_2 lf_X2_22 rfl sh_27 (by decide) rfl (qa_tw0 hp0.2.2.2) ?_
  refine qa_getI dX2_readHouse_5 lf_X2_112 (Or.inl rfl) (st_0 hp0.2.2.2) (tle_0 hp0.2.2.2) ?_
  refine qa_bipush (v := 8) dX2_readHouse_8 (by decide) ?_
  refine qa_V2V dX2_readHouse_10 lm_X2_115 sh_27 rfl (by decide) (by decide) (Nat.le_of_ble_eq_true rfl) (tX2_startLine l hp0  h) (fun μ1 hp1 h => ?_)
  refine qa_ald0 dX2_readHouse_13 ?_
  refine qa_ldcS (i := 6) (tx := "push") dX2_readHouse_14 (by decide) ?_
  refine qa_iconst (v := 0) dX2_readHouse_16 (by decide) ?_
  refine qa_bipush (v := 40) dX2_readHouse_17 (by decide) ?_
  refine qa_V3I dX2_readHouse_19 lm_X2_94 sh_27 rfl (by decide) (by decide) (Nat.le_of_ble_eq_true rfl) (tX2_takeNumberOf l hp1 (by decide) h) (fun r2 μ2 hp2 h => ?_)
  refine qa_ist1 dX2_readHouse_22 ?_
  refine qa_ald0 dX2_readHouse_23 ?_
  refine qa_getI dX2_readHouse_24 lf_X2_9 (Or.inl rfl) sh_27 (by decide) ?_
  refine qa_if_eq (tgt := 31) dX2_readHouse_27 (by decide) (fun c3 => ?_) (fun c3 => ?_)
  · have h := h.1 c3
    refine qa_ald0 dX2_readHouse_31 ?_
    refine qa_ldcS (i := 7) (tx := "leans") dX2_readHouse_32 (by decide) ?_
    refine qa_V1I dX2_readHouse_34 lm_X2_57 sh_27 rfl (by decide) (by decide) (Nat.le_of_ble_eq_true rfl) (tX2_isWord l hp2 (by decide) h) (fun r4 μ4 hp4 h => ?_)
    refine qa_if_eq (tgt := 65) dX2_readHouse_37 (by decide) (fun c5 => ?_) (fun c5 => ?_)
    · have h := h.1 c5
      refine qa_fgt (L' := [some (.ref 27), some (.int r2)]) (⟨rfl, ⟨rfl, trivial⟩⟩) ?_
      refine tX2_readHouse_65 l  n r2 μ4 hp4  h
    · have h := h.2 c5
      refine qa_ald0 dX2_readHouse_40 ?_
      refine qa_getR dX2_readHouse_41 lf_X2_22 rfl sh_27 (by decide) rfl (qa_tw0 hp4.2.2.2) ?_
      refine qa_dup dX2_readHouse_44 rfl ?_
      refine qa_getI dX2_readHouse_45 lf_X2_123 (Or.inl rfl) (st_0 hp4.2.2.2) (tle_0 hp4.2.2.2) ?_
      refine qa_iconst (v := 1) dX2_readHouse_48 (by decide) ?_
      refine qa_ald0 dX2_readHouse_49 ?_
      refine qa_getR dX2_readHouse_50 lf_X2_22 rfl sh_27 (by decide) rfl (qa_tw0 hp4.2.2.2) ?_
      refine qa_getI dX2_readHouse_53 lf_X2_112 (Or.inl rfl) (st_0 hp4.2.2.2) (tle_0 hp4.2.2.2) ?_
      refine qa_ishl dX2_readHouse_56 ?_
      refine qa_ior dX2_readHouse_57 ?_
      refine qa_putI dX2_readHouse_58 lf_X2_123 rfl (st_0 hp4.2.2.2) (tle_0 hp4.2.2.2) rfl ?_
      refine qa_nmM (fun μ8 em8 => ?_)
      have h := h μ8 em8
      have hp8 : qa_PP μ8.2.2 := by rw [em8]; exact hp4
      refine qa_ald0 dX2_readHouse_61 ?_
      refine qa_V0V dX2_readHouse_62 lm_X2_38 sh_27 rfl (by decide) (by decide) (Nat.le_of_ble_eq_true rfl) (tX2_step l hp8  h) (fun μ9 hp9 h => ?_)
      refine qa_fgt (L' := [some (.ref 27), some (.int r2)]) (⟨rfl, ⟨rfl, trivial⟩⟩) ?_
      refine tX2_readHouse_65 l  n r2 μ9 hp9  h
  · have h := h.2 c3
    exact qa_vret rfl dX2_readHouse_30 ⟨rfl, rfl⟩ ⟨rfl, hp2, rfl, h⟩
def wX2_readPlace (n : Nat)  (μ0 : qa_M) (Q : qa_M → Prop) : Prop := wX2_startLine n (μ0.1 (μ0.2.2 27 2) 6) (10 : Int32) μ0 (fun μ1 => wX2_takeNumber n (0 : Int32) (7 : Int32) μ1 (fun r2 μ2 => wX2_takeNumberOf n 9 (0 : Int32) (20 : Int32) μ2 (fun r3 μ3 => wX2_takeNumberOf n 10 (0 : Int32) (20 : Int32) μ3 (fun r4 μ4 => ((¬ (μ4.1 27 7) = 0 → Q μ4) ∧ ((μ4.1 27 7) = 0 → vp_in r2 8 ∧ ∀ μ6, μ6 = qa_uI μ4 ((μ4.2.2 27 2) + 2) r2.toNatClampNeg r3 → vp_in r2 8 ∧ ∀ μ7, μ7 = qa_uI μ6 ((μ6.2.2 27 2) + 3) r2.toNatClampNeg r4 → ∀ μ8, μ8 = qa_uI μ7 (μ7.2.2 27 2) 6 ((μ7.1 (μ7.2.2 27 2) 6) + (1 : Int32)) → Q μ8))))))
theorem tX2_readPlace (l : Launch) {n : Nat}  {μ0 : qa_M} {Q : qa_M → Prop} (hp0 : qa_PP μ0.2.2)  (h : wX2_readPlace n  μ0 Q) : qa_Met l yX2_readPlace cX2_readPlace 4 none 8 0 0 [.ref 27] 113 μ0 (qa_pV Q) := by
  refine qa_ofG (by decide) (Nat.le_of_ble_eq_true rfl) ?_
  unfold wX2_readPlace at h
  change qa_G l yX2_readPlace cX2_readPlace 4 none 8 0 0 (qa_pV Q) 0 0 0 [some (.ref 27), none, none, none] [] 113 μ0
  refine qa_ald0 dX2_readPlace_0 ?_
  refine qa_ald0 dX2_readPlace_1 ?_
  refine qa_getR dX2_readPlace_2 lf_X2_22 rfl sh_27 (by decide) rfl (qa_tw0 hp0.2.2.2) ?_
  refine qa_getI dX2_readPlace_5 lf_X2_129 (Or.inl rfl) (st_0 hp0.2.2.2) (tle_0 hp0.2.2.2) ?_
  refine qa_bipush (v := 10) dX2_readPlace_8 (by decide) ?_
  refine qa_V2V dX2_readPlace_10 lm_X2_115 sh_27 rfl (by decide) (by decide) (Nat.le_of_ble_eq_true rfl) (tX2_startLine l hp0  h) (fun μ1 hp1 h => ?_)
  refine qa_ald0 dX2_readPlace_13 ?_
  refine qa_iconst (v := 0) dX2_readPlace_14 (by decide) ?_
  refine qa_bipush (v := 7) dX2_readPlace_15 (by decide) ?_
  refine qa_V2I dX2_readPlace_17 lm_X2_132 sh_27 rfl (by decide) (by decide) (Nat.le_of_ble_eq_true rfl) (tX2_takeNumber l hp1  h) (fun r2 μ2 hp2 h => ?_)
  refine qa_ist1 dX2_readPlace_20 ?_
  refine qa_ald0 dX2_readPlace_21 ?_
  refine qa_ldcS (i := 9) (tx := "sun") dX2_readPlace_22 (by decide) ?_
  refine qa_iconst (v := 0) dX2_readPlace_24 (by decide) ?_
  refine qa_bipush (v := 20) dX2_readPlace_25 (by decide) ?_
  refine qa_V3I dX2_readPlace_27 lm_X2_94 sh_27 rfl (by decide) (by decide) (Nat.le_of_ble_eq_true rfl) (tX2_takeNumberOf l hp2 (by decide) h) (fun r3 μ3 hp3 h => ?_)
  refine qa_ist2 dX2_readPlace_30 ?_
  refine qa_ald0 dX2_readPlace_31 ?_
  refine qa_ldcS (i := 10) (tx := "smell") dX2_readPlace_32 (by decide) ?_
  refine qa_iconst (v := 0) dX2_readPlace_34 (by decide) ?_
  refine qa_bipush (v := 20) dX2_readPlace_35 (by decide) ?_
  refine qa_V3I dX2_readPlace_37 lm_X2_94 sh_27 rfl (by decide) (by decide) (Nat.le_of_ble_eq_true rfl) (tX2_takeNumberOf l hp3 (by decide) h) (fun r4 μ4 hp4 h => ?_)
  refine qa_ist3 dX2_readPlace_40 ?_
  refine qa_ald0 dX2_readPlace_41 ?_
  refine qa_getI dX2_readPlace_42 lf_X2_9 (Or.inl rfl) sh_27 (by decide) ?_
  refine qa_if_ne (tgt := 81) dX2_readPlace_45 (by decide) (fun c5 => ?_) (fun c5 => ?_)
  · have h := h.1 c5
    exact qa_vret rfl dX2_readPlace_81 ⟨rfl, rfl⟩ ⟨rfl, hp4, rfl, h⟩
  · have h := h.2 c5
    refine qa_ald0 dX2_readPlace_48 ?_
    refine qa_getR dX2_readPlace_49 lf_X2_22 rfl sh_27 (by decide) rfl (qa_tw0 hp4.2.2.2) ?_
    refine qa_getR dX2_readPlace_52 lf_X2_139 rfl (st_0 hp4.2.2.2) (tle_0 hp4.2.2.2) (pt_12 hp4 hp4.2.2.2) (Nat.succ_pos _) ?_
    refine qa_ild1 dX2_readPlace_55 ?_
    refine qa_ild2 dX2_readPlace_56 ?_
    refine qa_iast dX2_readPlace_57 (st_2 hp4.2.2.2) (tle_2 hp4.2.2.2) h.1 ?_
    have h := h.2
    refine qa_nmM (fun μ6 em6 => ?_)
    have h := h μ6 em6
    have hp6 : qa_PP μ6.2.2 := by rw [em6]; exact hp4
    refine qa_ald0 dX2_readPlace_58 ?_
    refine qa_getR dX2_readPlace_59 lf_X2_22 rfl sh_27 (by decide) rfl (qa_tw0 hp6.2.2.2) ?_
    refine qa_getR dX2_readPlace_62 lf_X2_142 rfl (st_0 hp6.2.2.2) (tle_0 hp6.2.2.2) (pt_13 hp6 hp6.2.2.2) (Nat.succ_pos _) ?_
    refine qa_ild1 dX2_readPlace_65 ?_
    refine qa_ild3 dX2_readPlace_66 ?_
    refine qa_iast dX2_readPlace_67 (st_3 hp6.2.2.2) (tle_3 hp6.2.2.2) h.1 ?_
    have h := h.2
    refine qa_nmM (fun μ7 em7 => ?_)
    have h := h μ7 em7
    have hp7 : qa_PP μ7.2.2 := by rw [em7]; exact hp6
    refine qa_ald0 dX2_readPlace_68 ?_
    refine qa_getR dX2_readPlace_69 lf_X2_22 rfl sh_27 (by decide) rfl (qa_tw0 hp7.2.2.2) ?_
    refine qa_dup dX2_readPlace_72 rfl ?_
    refine qa_getI dX2_readPlace_73 lf_X2_129 (Or.inl rfl) (st_0 hp7.2.2.2) (tle_0 hp7.2.2.2) ?_
    refine qa_iconst (v := 1) dX2_readPlace_76 (by decide) ?_
    refine qa_iadd dX2_readPlace_77 ?_
    refine qa_putI dX2_readPlace_78 lf_X2_129 rfl (st_0 hp7.2.2.2) (tle_0 hp7.2.2.2) rfl ?_
    refine qa_nmM (fun μ8 em8 => ?_)
    have h := h μ8 em8
    have hp8 : qa_PP μ8.2.2 := by rw [em8]; exact hp7
    exact qa_vret rfl dX2_readPlace_81 ⟨rfl, rfl⟩ ⟨rfl, hp8, rfl, h⟩
