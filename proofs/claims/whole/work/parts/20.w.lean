def wJ0_isLatin1_aae02 (n : Nat) (v0 : Nat) (μ0 : qa_M) (Q : Int32 → qa_M → Prop) : Prop := Q (1 : Int32) μ0
theorem tJ0_isLatin1_aae02 (l : Launch) {n : Nat} {v0 : Nat} {μ0 : qa_M} {Q : Int32 → qa_M → Prop} (hp0 : qa_PP μ0.2.2) (k0 : v0 < 30) (h : wJ0_isLatin1_aae02 n v0 μ0 Q) : qa_Met l yJ0_isLatin1_aae02 cJ0_isLatin1_aae02 1 (some .boolean) 0 0 0 [.ref (2000 + v0)] 113 μ0 (qa_pI Q) := by
  refine qa_ofG (by decide) (by decide) ?_
  unfold wJ0_isLatin1_aae02 at h
  change qa_G l yJ0_isLatin1_aae02 cJ0_isLatin1_aae02 1 (some .boolean) 0 0 0 (qa_pI Q) 0 0 0 [some (.ref (2000 + v0))] [] 113 μ0
  refine qa_gsC dJ0_isLatin1_aae02_0 lg_J0_38 ?_
  refine qa_if_eq (tgt := 17) dJ0_isLatin1_aae02_3 (by decide) (fun c1 => absurd c1 (by decide)) (fun _ => ?_)
  refine qa_ald0 dJ0_isLatin1_aae02_6 ?_
  refine qa_getSC dJ0_isLatin1_aae02_7 k0 lg_J0_15 ?_
  refine qa_if_ne (tgt := 17) dJ0_isLatin1_aae02_10 (by decide) (fun c2 => absurd c2 (by decide)) (fun _ => ?_)
  refine qa_iconst (v := 1) dJ0_isLatin1_aae02_13 (by decide) ?_
  refine qa_goto (tgt := 18) dJ0_isLatin1_aae02_14 (by decide) ?_
  exact qa_zret rfl rfl dJ0_isLatin1_aae02_18 ⟨rfl, rfl⟩ ⟨rfl, hp0, _, rfl, h⟩
def wJ3_checkIndex_8e157 (n : Nat) (v0 : Int32) (v1 : Int32) (μ0 : qa_M) (Q : Int32 → qa_M → Prop) : Prop := ((v0 < 0 → False) ∧ (¬ v0 < 0 → ((v0 < v1 → Q v0 μ0) ∧ (¬ v0 < v1 → False))))
theorem tJ3_checkIndex_8e157n (l : Launch) {n : Nat} {v0 : Int32} {v1 : Int32} {μ0 : qa_M} {Q : Int32 → qa_M → Prop} (hp0 : qa_PP μ0.2.2)  (h : wJ3_checkIndex_8e157 n v0 v1 μ0 Q) : qa_Met l yJ3_checkIndex_8e157 cJ3_checkIndex_8e157 3 (some .int) 0 0 0 [.int v0, .int v1, .null] 113 μ0 (qa_pI Q) := by
  refine qa_ofG (by decide) (by decide) ?_
  unfold wJ3_checkIndex_8e157 at h
  change qa_G l yJ3_checkIndex_8e157 cJ3_checkIndex_8e157 3 (some .int) 0 0 0 (qa_pI Q) 0 0 0 [some (.int v0), some (.int v1), some .null] [] 113 μ0
  refine qa_ild0 dJ3_checkIndex_8e157_0 ?_
  refine qa_if_lt (tgt := 9) dJ3_checkIndex_8e157_1 (by decide) (fun c1 => ?_) (fun c1 => ?_)
  · have h := h.1 c1
    refine qa_ald2 dJ3_checkIndex_8e157_9 ?_
    refine qa_ild0 dJ3_checkIndex_8e157_10 ?_
    refine qa_ild1 dJ3_checkIndex_8e157_11 ?_
    exact False.elim h
  · have h := h.2 c1
    refine qa_ild0 dJ3_checkIndex_8e157_4 ?_
    refine qa_ild1 dJ3_checkIndex_8e157_5 ?_
    refine qa_icmp_lt (tgt := 16) dJ3_checkIndex_8e157_6 (by decide) (fun c2 => ?_) (fun c2 => ?_)
    · have h := h.1 c2
      refine qa_ild0 dJ3_checkIndex_8e157_16 ?_
      exact qa_iret rfl dJ3_checkIndex_8e157_17 ⟨rfl, rfl⟩ ⟨rfl, hp0, _, rfl, h⟩
    · have h := h.2 c2
      refine qa_ald2 dJ3_checkIndex_8e157_9 ?_
      refine qa_ild0 dJ3_checkIndex_8e157_10 ?_
      refine qa_ild1 dJ3_checkIndex_8e157_11 ?_
      exact False.elim h
theorem tJ3_checkIndex_8e157r (l : Launch) {n : Nat} {v0 : Int32} {v1 : Int32} {μ0 : qa_M} {Q : Int32 → qa_M → Prop} (hp0 : qa_PP μ0.2.2)  (h : wJ3_checkIndex_8e157 n v0 v1 μ0 Q) : qa_Met l yJ3_checkIndex_8e157 cJ3_checkIndex_8e157 3 (some .int) 0 0 0 [.int v0, .int v1, .ref 5000] 113 μ0 (qa_pI Q) := by
  refine qa_ofG (by decide) (by decide) ?_
  unfold wJ3_checkIndex_8e157 at h
  change qa_G l yJ3_checkIndex_8e157 cJ3_checkIndex_8e157 3 (some .int) 0 0 0 (qa_pI Q) 0 0 0 [some (.int v0), some (.int v1), some .ref 5000] [] 113 μ0
  refine qa_ild0 dJ3_checkIndex_8e157_0 ?_
  refine qa_if_lt (tgt := 9) dJ3_checkIndex_8e157_1 (by decide) (fun c1 => ?_) (fun c1 => ?_)
  · have h := h.1 c1
    refine qa_ald2 dJ3_checkIndex_8e157_9 ?_
    refine qa_ild0 dJ3_checkIndex_8e157_10 ?_
    refine qa_ild1 dJ3_checkIndex_8e157_11 ?_
    exact False.elim h
  · have h := h.2 c1
    refine qa_ild0 dJ3_checkIndex_8e157_4 ?_
    refine qa_ild1 dJ3_checkIndex_8e157_5 ?_
    refine qa_icmp_lt (tgt := 16) dJ3_checkIndex_8e157_6 (by decide) (fun c2 => ?_) (fun c2 => ?_)
    · have h := h.1 c2
      refine qa_ild0 dJ3_checkIndex_8e157_16 ?_
      exact qa_iret rfl dJ3_checkIndex_8e157_17 ⟨rfl, rfl⟩ ⟨rfl, hp0, _, rfl, h⟩
    · have h := h.2 c2
      refine qa_ald2 dJ3_checkIndex_8e157_9 ?_
      refine qa_ild0 dJ3_checkIndex_8e157_10 ?_
      refine qa_ild1 dJ3_checkIndex_8e157_11 ?_
      exact False.elim h
def wJ0_checkIndex_df160 (n : Nat) (v0 : Int32) (v1 : Int32) (μ0 : qa_M) (Q : qa_M → Prop) : Prop := wJ3_checkIndex_8e157 n v0 v1 μ0 (fun r1 μ1 => Q μ1)
theorem tJ0_checkIndex_df160 (l : Launch) {n : Nat} {v0 : Int32} {v1 : Int32} {μ0 : qa_M} {Q : qa_M → Prop} (hp0 : qa_PP μ0.2.2)  (h : wJ0_checkIndex_df160 n v0 v1 μ0 Q) : qa_Met l yJ0_checkIndex_df160 cJ0_checkIndex_df160 2 none 1 0 0 [.int v0, .int v1] 113 μ0 (qa_pV Q) := by
  refine qa_ofG (by decide) (by decide) ?_
  unfold wJ0_checkIndex_df160 at h
  change qa_G l yJ0_checkIndex_df160 cJ0_checkIndex_df160 2 none 1 0 0 (qa_pV Q) 0 0 0 [some (.int v0), some (.int v1)] [] 113 μ0
  refine qa_ild0 dJ0_checkIndex_df160_0 ?_
  refine qa_ild1 dJ0_checkIndex_df160_1 ?_
  refine qa_gsB dJ0_checkIndex_df160_2 lg_J0_1053 ?_ ?_
  · skip
    refine qa_S3I dJ0_checkIndex_df160_5 lm_J0_1059  (by decide) (Nat.le_of_ble_eq_true rfl) (tJ3_checkIndex_8e157n l hp0  h) (fun r1 μ1 hp1 h => ?_)
    refine qa_pop dJ0_checkIndex_df160_8 rfl ?_
    exact qa_vret rfl dJ0_checkIndex_df160_9 ⟨rfl, rfl⟩ ⟨rfl, hp1, rfl, h⟩
  · skip
    refine qa_S3I dJ0_checkIndex_df160_5 lm_J0_1059  (by decide) (Nat.le_of_ble_eq_true rfl) (tJ3_checkIndex_8e157r l hp0  h) (fun r1 μ1 hp1 h => ?_)
    refine qa_pop dJ0_checkIndex_df160_8 rfl ?_
    exact qa_vret rfl dJ0_checkIndex_df160_9 ⟨rfl, rfl⟩ ⟨rfl, hp1, rfl, h⟩
def wJ1_charAt_3b067 (n : Nat) (v0 : Nat) (v1 : Int32) (μ0 : qa_M) (Q : Int32 → qa_M → Prop) : Prop := wJ0_checkIndex_df160 n v1 (nI (qa_txt.getD v0 []).length) μ0 (fun μ1 => vp_in v1 (qa_txt.getD v0 []).length ∧ (narrow .char (.int ((((qa_txt.getD v0 []).getD v1.toNatClampNeg 0) &&& (255 : Int32)).toUInt32 % 65536).toInt32) = .int ((((qa_txt.getD v0 []).getD v1.toNatClampNeg 0) &&& (255 : Int32)).toUInt32 % 65536).toInt32 ∧ Q ((((qa_txt.getD v0 []).getD v1.toNatClampNeg 0) &&& (255 : Int32)).toUInt32 % 65536).toInt32 μ1))
theorem tJ1_charAt_3b067 (l : Launch) {n : Nat} {v0 : Nat} {v1 : Int32} {μ0 : qa_M} {Q : Int32 → qa_M → Prop} (hp0 : qa_PP μ0.2.2) (k0 : v0 < 30) (h : wJ1_charAt_3b067 n v0 v1 μ0 Q) : qa_Met l yJ1_charAt_3b067 cJ1_charAt_3b067 2 (some .char) 2 0 0 [.ref (3000 + v0), .int v1] 113 μ0 (qa_pI Q) := by
  refine qa_ofG (by decide) (by decide) ?_
  unfold wJ1_charAt_3b067 at h
  change qa_G l yJ1_charAt_3b067 cJ1_charAt_3b067 2 (some .char) 2 0 0 (qa_pI Q) 0 0 0 [some (.ref (3000 + v0)), some (.int v1)] [] 113 μ0
  refine qa_ild1 dJ1_charAt_3b067_0 ?_
  refine qa_ald0 dJ1_charAt_3b067_1 ?_
  refine qa_alenS dJ1_charAt_3b067_2 k0 ?_
  refine qa_S2V dJ1_charAt_3b067_3 lm_J1_9  (by decide) (Nat.le_of_ble_eq_true rfl) (tJ0_checkIndex_df160 l hp0  h) (fun μ1 hp1 h => ?_)
  refine qa_ald0 dJ1_charAt_3b067_6 ?_
  refine qa_ild1 dJ1_charAt_3b067_7 ?_
  refine qa_baldS dJ1_charAt_3b067_8 k0 h.1 ?_
  have h := h.2
  refine qa_sipush (v := 255) dJ1_charAt_3b067_9 (by decide) ?_
  refine qa_iand dJ1_charAt_3b067_12 ?_
  refine qa_i2c dJ1_charAt_3b067_13 ?_
  exact qa_zret rfl h.1 dJ1_charAt_3b067_14 ⟨rfl, rfl⟩ ⟨rfl, hp1, _, rfl, h.2⟩
def wJ2_length_9d52b (n : Nat) (v0 : Nat) (n0 : Nat) (μ0 : qa_M) (Q : Int32 → qa_M → Prop) : Prop := Q ((nI n0) >>> ((1 : Int32) &&& 31)) μ0
theorem tJ2_length_9d52b (l : Launch) {n : Nat} {v0 : Nat} {n0 : Nat} {μ0 : qa_M} {Q : Int32 → qa_M → Prop} (hp0 : qa_PP μ0.2.2) (hs0 : qa_sh v0 = .inr (.byte, n0)) (ha0 : 1 ≤ v0 ∧ v0 ≤ 113) (h : wJ2_length_9d52b n v0 n0 μ0 Q) : qa_Met l yJ2_length_9d52b cJ2_length_9d52b 1 (some .int) 0 0 0 [.ref v0] 113 μ0 (qa_pI Q) := by
  refine qa_ofG (by decide) (by decide) ?_
  unfold wJ2_length_9d52b at h
  change qa_G l yJ2_length_9d52b cJ2_length_9d52b 1 (some .int) 0 0 0 (qa_pI Q) 0 0 0 [some (.ref v0)] [] 113 μ0
  refine qa_ald0 dJ2_length_9d52b_0 ?_
  refine qa_alen (t := 1) dJ2_length_9d52b_1 hs0 rfl ha0 ?_
  refine qa_iconst (v := 1) dJ2_length_9d52b_2 (by decide) ?_
  refine qa_ishr dJ2_length_9d52b_3 ?_
  exact qa_iret rfl dJ2_length_9d52b_4 ⟨rfl, rfl⟩ ⟨rfl, hp0, _, rfl, h⟩
def wJ2_checkIndex_2214a (n : Nat) (v0 : Int32) (v1 : Nat) (n1 : Nat) (μ0 : qa_M) (Q : qa_M → Prop) : Prop := wJ2_length_9d52b n v1 n1 μ0 (fun r1 μ1 => wJ0_checkIndex_df160 n v0 r1 μ1 (fun μ2 => Q μ2))
theorem tJ2_checkIndex_2214a (l : Launch) {n : Nat} {v0 : Int32} {v1 : Nat} {n1 : Nat} {μ0 : qa_M} {Q : qa_M → Prop} (hp0 : qa_PP μ0.2.2) (hs1 : qa_sh v1 = .inr (.byte, n1)) (ha1 : 1 ≤ v1 ∧ v1 ≤ 113) (h : wJ2_checkIndex_2214a n v0 v1 n1 μ0 Q) : qa_Met l yJ2_checkIndex_2214a cJ2_checkIndex_2214a 2 none 2 0 0 [.int v0, .ref v1] 113 μ0 (qa_pV Q) := by
  refine qa_ofG (by decide) (by decide) ?_
  unfold wJ2_checkIndex_2214a at h
  change qa_G l yJ2_checkIndex_2214a cJ2_checkIndex_2214a 2 none 2 0 0 (qa_pV Q) 0 0 0 [some (.int v0), some (.ref v1)] [] 113 μ0
  refine qa_ild0 dJ2_checkIndex_2214a_0 ?_
  refine qa_ald1 dJ2_checkIndex_2214a_1 ?_
  refine qa_S1I dJ2_checkIndex_2214a_2 lm_J2_48  (by decide) (Nat.le_of_ble_eq_true rfl) (tJ2_length_9d52b l hp0 hs1 ha1 h) (fun r1 μ1 hp1 h => ?_)
  refine qa_S2V dJ2_checkIndex_2214a_5 lm_J2_414  (by decide) (Nat.le_of_ble_eq_true rfl) (tJ0_checkIndex_df160 l hp1  h) (fun μ2 hp2 h => ?_)
  exact qa_vret rfl dJ2_checkIndex_2214a_8 ⟨rfl, rfl⟩ ⟨rfl, hp2, rfl, h⟩
def wJ2_getChar_3b067 (n : Nat) (v0 : Nat) (n0 : Nat) (v1 : Int32) (μ0 : qa_M) (Q : Int32 → qa_M → Prop) : Prop := False
theorem tJ2_getChar_3b067 (l : Launch) {n : Nat} {v0 : Nat} {n0 : Nat} {v1 : Int32} {μ0 : qa_M} {Q : Int32 → qa_M → Prop} (hp0 : qa_PP μ0.2.2) (hs0 : qa_sh v0 = .inr (.byte, n0)) (ha0 : 1 ≤ v0 ∧ v0 ≤ 113) (h : wJ2_getChar_3b067 n v0 n0 v1 μ0 Q) : qa_Met l yJ2_getChar_3b067 cJ2_getChar_3b067 2 (some .char) 1 0 0 [.ref v0, .int v1] 113 μ0 (qa_pI Q) := by
  refine qa_ofG (by decide) (by decide) ?_
  unfold wJ2_getChar_3b067 at h
  change qa_G l yJ2_getChar_3b067 cJ2_getChar_3b067 2 (some .char) 1 0 0 (qa_pI Q) 0 0 0 [some (.ref v0), some (.int v1)] [] 113 μ0
  exact False.elim h
def wJ2_charAt_3b067 (n : Nat) (v0 : Nat) (n0 : Nat) (v1 : Int32) (μ0 : qa_M) (Q : Int32 → qa_M → Prop) : Prop := wJ2_checkIndex_2214a n v1 v0 n0 μ0 (fun μ1 => wJ2_getChar_3b067 n v0 n0 v1 μ1 (fun r2 μ2 => (narrow .char (.int r2) = .int r2 ∧ Q r2 μ2)))
theorem tJ2_charAt_3b067 (l : Launch) {n : Nat} {v0 : Nat} {n0 : Nat} {v1 : Int32} {μ0 : qa_M} {Q : Int32 → qa_M → Prop} (hp0 : qa_PP μ0.2.2) (hs0 : qa_sh v0 = .inr (.byte, n0)) (ha0 : 1 ≤ v0 ∧ v0 ≤ 113) (h : wJ2_charAt_3b067 n v0 n0 v1 μ0 Q) : qa_Met l yJ2_charAt_3b067 cJ2_charAt_3b067 2 (some .char) 3 0 0 [.ref v0, .int v1] 113 μ0 (qa_pI Q) := by
  refine qa_ofG (by decide) (by decide) ?_
  unfold wJ2_charAt_3b067 at h
  change qa_G l yJ2_charAt_3b067 cJ2_charAt_3b067 2 (some .char) 3 0 0 (qa_pI Q) 0 0 0 [some (.ref v0), some (.int v1)] [] 113 μ0
  refine qa_ild1 dJ2_charAt_3b067_0 ?_
  refine qa_ald0 dJ2_charAt_3b067_1 ?_
  refine qa_S2V dJ2_charAt_3b067_2 lm_J2_67  (by decide) (Nat.le_of_ble_eq_true rfl) (tJ2_checkIndex_2214a l hp0 hs0 ha0 h) (fun μ1 hp1 h => ?_)
  refine qa_ald0 dJ2_charAt_3b067_5 ?_
  refine qa_ild1 dJ2_charAt_3b067_6 ?_
  refine qa_S2I dJ2_charAt_3b067_7 lm_J2_71  (by decide) (Nat.le_of_ble_eq_true rfl) (tJ2_getChar_3b067 l hp1 hs0 ha0 h) (fun r2 μ2 hp2 h => ?_)
  exact qa_zret rfl h.1 dJ2_charAt_3b067_10 ⟨rfl, rfl⟩ ⟨rfl, hp2, _, rfl, h.2⟩
def wJ0_charAt_5068e (n : Nat) (v0 : Nat) (v1 : Int32) (μ0 : qa_M) (Q : Int32 → qa_M → Prop) : Prop := wJ0_isLatin1_aae02 n v0 μ0 (fun r1 μ1 => ((r1 = 0 → False) ∧ (¬ r1 = 0 → wJ1_charAt_3b067 n v0 v1 μ1 (fun r3 μ3 => (narrow .char (.int r3) = .int r3 ∧ Q r3 μ3)))))
theorem tJ0_charAt_5068e (l : Launch) {n : Nat} {v0 : Nat} {v1 : Int32} {μ0 : qa_M} {Q : Int32 → qa_M → Prop} (hp0 : qa_PP μ0.2.2) (k0 : v0 < 30) (h : wJ0_charAt_5068e n v0 v1 μ0 Q) : qa_Met l yJ0_charAt_5068e cJ0_charAt_5068e 2 (some .char) 4 0 0 [.ref (2000 + v0), .int v1] 113 μ0 (qa_pI Q) := by
  refine qa_ofG (by decide) (by decide) ?_
  unfold wJ0_charAt_5068e at h
  change qa_G l yJ0_charAt_5068e cJ0_charAt_5068e 2 (some .char) 4 0 0 (qa_pI Q) 0 0 0 [some (.ref (2000 + v0)), some (.int v1)] [] 113 μ0
  refine qa_ald0 dJ0_charAt_5068e_0 ?_
  refine qa_W0I dJ0_charAt_5068e_1 lm_J0_492 rfl ⟨_, k0, rfl⟩ (by decide) (Nat.le_of_ble_eq_true rfl) (tJ0_isLatin1_aae02 l hp0 k0 h) (fun r1 μ1 hp1 h => ?_)
  refine qa_if_eq (tgt := 16) dJ0_charAt_5068e_4 (by decide) (fun c2 => ?_) (fun c2 => ?_)
  · have h := h.1 c2
    refine qa_ald0 dJ0_charAt_5068e_16 ?_
    refine qa_getSV dJ0_charAt_5068e_17 k0 lg_J0_9 ?_
    refine qa_ild1 dJ0_charAt_5068e_20 ?_
    exact False.elim h
  · have h := h.2 c2
    refine qa_ald0 dJ0_charAt_5068e_7 ?_
    refine qa_getSV dJ0_charAt_5068e_8 k0 lg_J0_9 ?_
    refine qa_ild1 dJ0_charAt_5068e_11 ?_
    refine qa_S2I dJ0_charAt_5068e_12 lm_J0_495  (by decide) (Nat.le_of_ble_eq_true rfl) (tJ1_charAt_3b067 l hp1 k0 h) (fun r3 μ3 hp3 h => ?_)
    exact qa_zret rfl h.1 dJ0_charAt_5068e_15 ⟨rfl, rfl⟩ ⟨rfl, hp3, _, rfl, h.2⟩
def wJ0_coder_7d493 (n : Nat) (v0 : Nat) (μ0 : qa_M) (Q : Int32 → qa_M → Prop) : Prop := Q (0 : Int32) μ0
theorem tJ0_coder_7d493 (l : Launch) {n : Nat} {v0 : Nat} {μ0 : qa_M} {Q : Int32 → qa_M → Prop} (hp0 : qa_PP μ0.2.2) (k0 : v0 < 30) (h : wJ0_coder_7d493 n v0 μ0 Q) : qa_Met l yJ0_coder_7d493 cJ0_coder_7d493 1 (some .byte) 0 0 0 [.ref (2000 + v0)] 113 μ0 (qa_pI Q) := by
  refine qa_ofG (by decide) (by decide) ?_
  unfold wJ0_coder_7d493 at h
  change qa_G l yJ0_coder_7d493 cJ0_coder_7d493 1 (some .byte) 0 0 0 (qa_pI Q) 0 0 0 [some (.ref (2000 + v0))] [] 113 μ0
  refine qa_gsC dJ0_coder_7d493_0 lg_J0_38 ?_
  refine qa_if_eq (tgt := 13) dJ0_coder_7d493_3 (by decide) (fun c1 => absurd c1 (by decide)) (fun _ => ?_)
  refine qa_ald0 dJ0_coder_7d493_6 ?_
  refine qa_getSC dJ0_coder_7d493_7 k0 lg_J0_15 ?_
  refine qa_goto (tgt := 14) dJ0_coder_7d493_10 (by decide) ?_
  exact qa_zret rfl rfl dJ0_coder_7d493_14 ⟨rfl, rfl⟩ ⟨rfl, hp0, _, rfl, h⟩
def wJ0_length_8abf5 (n : Nat) (v0 : Nat) (μ0 : qa_M) (Q : Int32 → qa_M → Prop) : Prop := wJ0_coder_7d493 n v0 μ0 (fun r1 μ1 => Q ((nI (qa_txt.getD v0 []).length) >>> (r1 &&& 31)) μ1)
theorem tJ0_length_8abf5 (l : Launch) {n : Nat} {v0 : Nat} {μ0 : qa_M} {Q : Int32 → qa_M → Prop} (hp0 : qa_PP μ0.2.2) (k0 : v0 < 30) (h : wJ0_length_8abf5 n v0 μ0 Q) : qa_Met l yJ0_length_8abf5 cJ0_length_8abf5 1 (some .int) 1 0 0 [.ref (2000 + v0)] 113 μ0 (qa_pI Q) := by
  refine qa_ofG (by decide) (by decide) ?_
  unfold wJ0_length_8abf5 at h
  change qa_G l yJ0_length_8abf5 cJ0_length_8abf5 1 (some .int) 1 0 0 (qa_pI Q) 0 0 0 [some (.ref (2000 + v0))] [] 113 μ0
  refine qa_ald0 dJ0_length_8abf5_0 ?_
  refine qa_getSV dJ0_length_8abf5_1 k0 lg_J0_9 ?_
  refine qa_alenS dJ0_length_8abf5_4 k0 ?_
  refine qa_ald0 dJ0_length_8abf5_5 ?_
  refine qa_W0I dJ0_length_8abf5_6 lm_J0_335 rfl ⟨_, k0, rfl⟩ (by decide) (Nat.le_of_ble_eq_true rfl) (tJ0_coder_7d493 l hp0 k0 h) (fun r1 μ1 hp1 h => ?_)
  refine qa_ishr dJ0_length_8abf5_9 ?_
  exact qa_iret rfl dJ0_length_8abf5_10 ⟨rfl, rfl⟩ ⟨rfl, hp1, _, rfl, h⟩
def wJ6_bitCount_0f7a4 (n : Nat) (v0 : Int32) (μ0 : qa_M) (Q : Int32 → qa_M → Prop) : Prop := ∀ x1, x1 = (v0 - ((v0.toUInt32 >>> ((1 : Int32).toUInt32 &&& Int32.toUInt32 31)).toInt32 &&& (1431655765 : Int32))) → ∀ x2, x2 = ((x1 &&& (858993459 : Int32)) + ((x1.toUInt32 >>> ((2 : Int32).toUInt32 &&& Int32.toUInt32 31)).toInt32 &&& (858993459 : Int32))) → ∀ x3, x3 = ((x2 + (x2.toUInt32 >>> ((4 : Int32).toUInt32 &&& Int32.toUInt32 31)).toInt32) &&& (252645135 : Int32)) → ∀ x4, x4 = (x3 + (x3.toUInt32 >>> ((8 : Int32).toUInt32 &&& Int32.toUInt32 31)).toInt32) → ∀ x5, x5 = (x4 + (x4.toUInt32 >>> ((16 : Int32).toUInt32 &&& Int32.toUInt32 31)).toInt32) → Q (x5 &&& (63 : Int32)) μ0
theorem tJ6_bitCount_0f7a4 (l : Launch) {n : Nat} {v0 : Int32} {μ0 : qa_M} {Q : Int32 → qa_M → Prop} (hp0 : qa_PP μ0.2.2)  (h : wJ6_bitCount_0f7a4 n v0 μ0 Q) : qa_Met l yJ6_bitCount_0f7a4 cJ6_bitCount_0f7a4 1 (some .int) 0 0 0 [.int v0] 113 μ0 (qa_pI Q) := by
  refine qa_ofG (by decide) (by decide) ?_
  unfold wJ6_bitCount_0f7a4 at h
  change qa_G l yJ6_bitCount_0f7a4 cJ6_bitCount_0f7a4 1 (some .int) 0 0 0 (qa_pI Q) 0 0 0 [some (.int v0)] [] 113 μ0
  refine qa_ild0 dJ6_bitCount_0f7a4_0 ?_
  refine qa_ild0 dJ6_bitCount_0f7a4_1 ?_
  refine qa_iconst (v := 1) dJ6_bitCount_0f7a4_2 (by decide) ?_
  refine qa_iushr dJ6_bitCount_0f7a4_3 ?_
  refine qa_ldcw dJ6_bitCount_0f7a4_4 lk_J6_265 ?_
  refine qa_iand dJ6_bitCount_0f7a4_7 ?_
  refine qa_isub dJ6_bitCount_0f7a4_8 ?_
  refine qa_nmI (fun x1 e1 => ?_)
  have h := h x1 e1
  refine qa_ist0 dJ6_bitCount_0f7a4_9 ?_
  refine qa_ild0 dJ6_bitCount_0f7a4_10 ?_
  refine qa_ldcw dJ6_bitCount_0f7a4_11 lk_J6_266 ?_
  refine qa_iand dJ6_bitCount_0f7a4_14 ?_
  refine qa_ild0 dJ6_bitCount_0f7a4_15 ?_
  refine qa_iconst (v := 2) dJ6_bitCount_0f7a4_16 (by decide) ?_
  refine qa_iushr dJ6_bitCount_0f7a4_17 ?_
  refine qa_ldcw dJ6_bitCount_0f7a4_18 lk_J6_266 ?_
  refine qa_iand dJ6_bitCount_0f7a4_21 ?_
  refine qa_iadd dJ6_bitCount_0f7a4_22 ?_
  refine qa_nmI (fun x2 e2 => ?_)
  have h := h x2 e2
  refine qa_ist0 dJ6_bitCount_0f7a4_23 ?_
  refine qa_ild0 dJ6_bitCount_0f7a4_24 ?_
  refine qa_ild0 dJ6_bitCount_0f7a4_25 ?_
  refine qa_iconst (v := 4) dJ6_bitCount_0f7a4_26 (by decide) ?_
  refine qa_iushr dJ6_bitCount_0f7a4_27 ?_
  refine qa_iadd dJ6_bitCount_0f7a4_28 ?_
  refine qa_ldcw dJ6_bitCount_0f7a4_29 lk_J6_267 ?_
  refine qa_iand dJ6_bitCount_0f7a4_32 ?_
  refine qa_nmI (fun x3 e3 => ?_)
  have h := h x3 e3
  refine qa_ist0 dJ6_bitCount_0f7a4_33 ?_
  refine qa_ild0 dJ6_bitCount_0f7a4_34 ?_
  refine qa_ild0 dJ6_bitCount_0f7a4_35 ?_
  refine qa_bipush (v := 8) dJ6_bitCount_0f7a4_36 (by decide) ?_
  refine qa_iushr dJ6_bitCount_0f7a4_38 ?_
  refine qa_iadd dJ6_bitCount_0f7a4_39 ?_
  refine qa_nmI (fun x4 e4 => ?_)
  have h := h x4 e4
  refine qa_ist0 dJ6_bitCount_0f7a4_40 ?_
  refine qa_ild0 dJ6_bitCount_0f7a4_41 ?_
  refine qa_ild0 dJ6_bitCount_0f7a4_42 ?_
  refine qa_bipush (v := 16) dJ6_bitCount_0f7a4_43 (by decide) ?_
  refine qa_iushr dJ6_bitCount_0f7a4_45 ?_
  refine qa_iadd dJ6_bitCount_0f7a4_46 ?_
  refine qa_nmI (fun x5 e5 => ?_)
  have h := h x5 e5
  refine qa_ist0 dJ6_bitCount_0f7a4_47 ?_
  refine qa_ild0 dJ6_bitCount_0f7a4_48 ?_
  refine qa_bipush (v := 63) dJ6_bitCount_0f7a4_49 (by decide) ?_
  refine qa_iand dJ6_bitCount_0f7a4_51 ?_
  exact qa_iret rfl dJ6_bitCount_0f7a4_52 ⟨rfl, rfl⟩ ⟨rfl, hp0, _, rfl, h⟩
def wJ6_compare_7cf53 (n : Nat) (v0 : Int32) (v1 : Int32) (μ0 : qa_M) (Q : Int32 → qa_M → Prop) : Prop := ((v1 ≤ v0 → ((¬ v0 = v1 → Q (1 : Int32) μ0) ∧ (v0 = v1 → Q (0 : Int32) μ0))) ∧ (¬ v1 ≤ v0 → Q (-1 : Int32) μ0))
theorem tJ6_compare_7cf53 (l : Launch) {n : Nat} {v0 : Int32} {v1 : Int32} {μ0 : qa_M} {Q : Int32 → qa_M → Prop} (hp0 : qa_PP μ0.2.2)  (h : wJ6_compare_7cf53 n v0 v1 μ0 Q) : qa_Met l yJ6_compare_7cf53 cJ6_compare_7cf53 2 (some .int) 0 0 0 [.int v0, .int v1] 113 μ0 (qa_pI Q) := by
  refine qa_ofG (by decide) (by decide) ?_
  unfold wJ6_compare_7cf53 at h
  change qa_G l yJ6_compare_7cf53 cJ6_compare_7cf53 2 (some .int) 0 0 0 (qa_pI Q) 0 0 0 [some (.int v0), some (.int v1)] [] 113 μ0
  refine qa_ild0 dJ6_compare_7cf53_0 ?_
  refine qa_ild1 dJ6_compare_7cf53_1 ?_
  refine qa_icmp_ge (tgt := 9) dJ6_compare_7cf53_2 (by decide) (fun c1 => ?_) (fun c1 => ?_)
  · have h := h.1 c1
    refine qa_ild0 dJ6_compare_7cf53_9 ?_
    refine qa_ild1 dJ6_compare_7cf53_10 ?_
    refine qa_icmp_ne (tgt := 18) dJ6_compare_7cf53_11 (by decide) (fun c2 => ?_) (fun c2 => ?_)
    · have h := h.1 c2
      refine qa_iconst (v := 1) dJ6_compare_7cf53_18 (by decide) ?_
      exact qa_iret rfl dJ6_compare_7cf53_19 ⟨rfl, rfl⟩ ⟨rfl, hp0, _, rfl, h⟩
    · have h := h.2 c2
      refine qa_iconst (v := 0) dJ6_compare_7cf53_14 (by decide) ?_
      refine qa_goto (tgt := 19) dJ6_compare_7cf53_15 (by decide) ?_
      exact qa_iret rfl dJ6_compare_7cf53_19 ⟨rfl, rfl⟩ ⟨rfl, hp0, _, rfl, h⟩
  · have h := h.2 c1
    refine qa_iconst (v := -1) dJ6_compare_7cf53_5 (by decide) ?_
    refine qa_goto (tgt := 19) dJ6_compare_7cf53_6 (by decide) ?_
    exact qa_iret rfl dJ6_compare_7cf53_19 ⟨rfl, rfl⟩ ⟨rfl, hp0, _, rfl, h⟩
def wJ7_fill_53178_5 : Nat → Nat → Nat → Int32 → Int32 → Int32 → qa_M → (qa_M → Prop) → Prop
  | 0, _, _, _, _, _, _, _ => False
  | n + 1, v0, n0, v1, v2, v3, μ0, Q => ((v3 ≤ v2 → Q μ0) ∧ (¬ v3 ≤ v2 → vp_in v2 n0 ∧ ∀ μ3, μ3 = qa_uI μ0 v0 v2.toNatClampNeg v1 → wJ7_fill_53178_5 n v0 n0 v1 (v2 + (1 : Int32)) v3 μ3 Q))
def wJ7_fill_53178 (n : Nat) (v0 : Nat) (n0 : Nat) (v1 : Int32) (μ0 : qa_M) (Q : qa_M → Prop) : Prop := ∀ x1, x1 = (nI n0) → wJ7_fill_53178_5 n v0 n0 v1 (0 : Int32) x1 μ0  Q
theorem tJ7_fill_53178_5 (l : Launch)  {Q : qa_M → Prop}  : ∀ (n : Nat) (v0 : Nat) (n0 : Nat) (v1 : Int32) (v2 : Int32) (v3 : Int32) (μ0 : qa_M), qa_PP μ0.2.2 → qa_sh v0 = .inr (.int, n0) → 1 ≤ v0 ∧ v0 ≤ 113 → wJ7_fill_53178_5 n v0 n0 v1 v2 v3 μ0  Q → qa_G l yJ7_fill_53178 cJ7_fill_53178 4 none 0 0 0 (qa_pV Q) 0 0 5 [some (.ref v0), some (.int v1), some (.int v2), some (.int v3)] [] 113 μ0 := by
  intro n
  induction n with
  | zero =>
    intro v0 n0 v1 v2 v3 μ0 hp0 hs0 ha0 h
    rw [wJ7_fill_53178_5] at h
    exact h.elim
  | succ n ih =>
    intro v0 n0 v1 v2 v3 μ0 hp0 hs0 ha0 h
    rw [wJ7_fill_53178_5] at h
    refine qa_ild2 dJ7_fill_53178_5 ?_
    refine qa_ild3 dJ7_fill_53178_6 ?_
    refine qa_icmp_ge (tgt := 20) dJ7_fill_53178_7 (by decide) (fun c2 => ?_) (fun c2 => ?_)
    · have h := h.1 c2
      exact qa_vret rfl dJ7_fill_53178_20 ⟨rfl, rfl⟩ ⟨rfl, hp0, rfl, h⟩
    · have h := h.2 c2
      refine qa_ald0 dJ7_fill_53178_10 ?_
      refine qa_ild2 dJ7_fill_53178_11 ?_
      refine qa_ild1 dJ7_fill_53178_12 ?_
      refine qa_iast dJ7_fill_53178_13 hs0 ha0 h.1 ?_
      have h := h.2
      refine qa_nmM (fun μ3 em3 => ?_)
      have h := h μ3 em3
      have hp3 : qa_PP μ3.2.2 := by rw [em3]; exact hp0
      refine qa_inc2 dJ7_fill_53178_14 (qa_io1 _) ?_
      refine qa_goto (tgt := 5) dJ7_fill_53178_17 (by decide) ?_
      refine qa_fgt (L' := [some (.ref v0), some (.int v1), some (.int (v2 + (1 : Int32))), some (.int v3)]) (⟨rfl, ⟨rfl, ⟨rfl, ⟨rfl, trivial⟩⟩⟩⟩) ?_
      exact ih v0 n0 v1 (v2 + (1 : Int32)) v3 μ3 hp3 hs0 ha0 h
theorem tJ7_fill_53178 (l : Launch) {n : Nat} {v0 : Nat} {n0 : Nat} {v1 : Int32} {μ0 : qa_M} {Q : qa_M → Prop} (hp0 : qa_PP μ0.2.2) (hs0 : qa_sh v0 = .inr (.int, n0)) (ha0 : 1 ≤ v0 ∧ v0 ≤ 113) (h : wJ7_fill_53178 n v0 n0 v1 μ0 Q) : qa_Met l yJ7_fill_53178 cJ7_fill_53178 4 none 0 0 0 [.ref v0, .int v1] 113 μ0 (qa_pV Q) := by
  refine qa_ofG (by decide) (by decide) ?_
  unfold wJ7_fill_53178 at h
  change qa_G l yJ7_fill_53178 cJ7_fill_53178 4 none 0 0 0 (qa_pV Q) 0 0 0 [some (.ref v0), some (.int v1), none, none] [] 113 μ0
  refine qa_iconst (v := 0) dJ7_fill_53178_0 (by decide) ?_
  refine qa_ist2 dJ7_fill_53178_1 ?_
  refine qa_ald0 dJ7_fill_53178_2 ?_
  refine qa_alen (t := 0) dJ7_fill_53178_3 hs0 rfl ha0 ?_
  refine qa_nmI (fun x1 e1 => ?_)
  have h := h x1 e1
  refine qa_ist3 dJ7_fill_53178_4 ?_
  refine qa_fgt (L' := [some (.ref v0), some (.int v1), some (.int (0 : Int32)), some (.int x1)]) (⟨rfl, ⟨rfl, ⟨rfl, ⟨rfl, trivial⟩⟩⟩⟩) ?_
  refine tJ7_fill_53178_5 l  n v0 n0 v1 (0 : Int32) x1 μ0 hp0 hs0 ha0 h
def wJ7_fill_d0a16_6 : Nat → Nat → Nat → Int64 → Int32 → Int32 → qa_M → (qa_M → Prop) → Prop
  | 0, _, _, _, _, _, _, _ => False
  | n + 1, v0, n0, v1, v3, v4, μ0, Q => ((v4 ≤ v3 → Q μ0) ∧ (¬ v4 ≤ v3 → vp_in v3 n0 ∧ ∀ μ3, μ3 = qa_uJ μ0 v0 v3.toNatClampNeg v1 → wJ7_fill_d0a16_6 n v0 n0 v1 (v3 + (1 : Int32)) v4 μ3 Q))
def wJ7_fill_d0a16 (n : Nat) (v0 : Nat) (n0 : Nat) (v1 : Int64) (μ0 : qa_M) (Q : qa_M → Prop) : Prop := ∀ x1, x1 = (nI n0) → wJ7_fill_d0a16_6 n v0 n0 v1 (0 : Int32) x1 μ0  Q
theorem tJ7_fill_d0a16_6 (l : Launch)  {Q : qa_M → Prop}  : ∀ (n : Nat) (v0 : Nat) (n0 : Nat) (v1 : Int64) (v3 : Int32) (v4 : Int32) (μ0 : qa_M), qa_PP μ0.2.2 → qa_sh v0 = .inr (.long, n0) → 1 ≤ v0 ∧ v0 ≤ 113 → wJ7_fill_d0a16_6 n v0 n0 v1 v3 v4 μ0  Q → qa_G l yJ7_fill_d0a16 cJ7_fill_d0a16 5 none 0 0 0 (qa_pV Q) 0 0 6 [some (.ref v0), some (.long v1), none, some (.int v3), some (.int v4)] [] 113 μ0 := by
  intro n
  induction n with
  | zero =>
    intro v0 n0 v1 v3 v4 μ0 hp0 hs0 ha0 h
    rw [wJ7_fill_d0a16_6] at h
    exact h.elim
  | succ n ih =>
    intro v0 n0 v1 v3 v4 μ0 hp0 hs0 ha0 h
    rw [wJ7_fill_d0a16_6] at h
    refine qa_ild3 dJ7_fill_d0a16_6 ?_
    refine qa_ild4 dJ7_fill_d0a16_7 ?_
    refine qa_icmp_ge (tgt := 22) dJ7_fill_d0a16_9 (by decide) (fun c2 => ?_) (fun c2 => ?_)
    · have h := h.1 c2
      exact qa_vret rfl dJ7_fill_d0a16_22 ⟨rfl, rfl⟩ ⟨rfl, hp0, rfl, h⟩
    · have h := h.2 c2
      refine qa_ald0 dJ7_fill_d0a16_12 ?_
      refine qa_ild3 dJ7_fill_d0a16_13 ?_
      refine qa_lld1 dJ7_fill_d0a16_14 ?_
      refine qa_last dJ7_fill_d0a16_15 hs0 ha0 h.1 ?_
      have h := h.2
      refine qa_nmM (fun μ3 em3 => ?_)
      have h := h μ3 em3
      have hp3 : qa_PP μ3.2.2 := by rw [em3]; exact hp0
      refine qa_inc3 dJ7_fill_d0a16_16 (qa_io1 _) ?_
      refine qa_goto (tgt := 6) dJ7_fill_d0a16_19 (by decide) ?_
      refine qa_fgt (L' := [some (.ref v0), some (.long v1), none, some (.int (v3 + (1 : Int32))), some (.int v4)]) (⟨rfl, ⟨rfl, ⟨rfl, ⟨rfl, trivial⟩⟩⟩⟩) ?_
      exact ih v0 n0 v1 (v3 + (1 : Int32)) v4 μ3 hp3 hs0 ha0 h
theorem tJ7_fill_d0a16 (l : Launch) {n : Nat} {v0 : Nat} {n0 : Nat} {v1 : Int64} {μ0 : qa_M} {Q : qa_M → Prop} (hp0 : qa_PP μ0.2.2) (hs0 : qa_sh v0 = .inr (.long, n0)) (ha0 : 1 ≤ v0 ∧ v0 ≤ 113) (h : wJ7_fill_d0a16 n v0 n0 v1 μ0 Q) : qa_Met l yJ7_fill_d0a16 cJ7_fill_d0a16 5 none 0 0 0 [.ref v0, .long v1] 113 μ0 (qa_pV Q) := by
  refine qa_ofG (by decide) (by decide) ?_
  unfold wJ7_fill_d0a16 at h
  change qa_G l yJ7_fill_d0a16 cJ7_fill_d0a16 5 none 0 0 0 (qa_pV Q) 0 0 0 [some (.ref v0), some (.long v1), none, none, none] [] 113 μ0
  refine qa_iconst (v := 0) dJ7_fill_d0a16_0 (by decide) ?_
  refine qa_ist3 dJ7_fill_d0a16_1 ?_
  refine qa_ald0 dJ7_fill_d0a16_2 ?_
  refine qa_alen (t := 3) dJ7_fill_d0a16_3 hs0 rfl ha0 ?_
  refine qa_nmI (fun x1 e1 => ?_)
  have h := h x1 e1
  refine qa_ist4 dJ7_fill_d0a16_4 ?_
  refine qa_fgt (L' := [some (.ref v0), some (.long v1), none, some (.int (0 : Int32)), some (.int x1)]) (⟨rfl, ⟨rfl, ⟨rfl, ⟨rfl, trivial⟩⟩⟩⟩) ?_
  refine tJ7_fill_d0a16_6 l  n v0 n0 v1 (0 : Int32) x1 μ0 hp0 hs0 ha0 h
def wJ9_abs_067f4 (n : Nat) (v0 : Int64) (μ0 : qa_M) (Q : Int64 → qa_M → Prop) : Prop := ((0 ≤ (lg_cmp v0 (0 : Int64)) → Q v0 μ0) ∧ (¬ 0 ≤ (lg_cmp v0 (0 : Int64)) → Q (-v0) μ0))
theorem tJ9_abs_067f4 (l : Launch) {n : Nat} {v0 : Int64} {μ0 : qa_M} {Q : Int64 → qa_M → Prop} (hp0 : qa_PP μ0.2.2)  (h : wJ9_abs_067f4 n v0 μ0 Q) : qa_Met l yJ9_abs_067f4 cJ9_abs_067f4 2 (some .long) 0 0 0 [.long v0] 113 μ0 (qa_pJ Q) := by
  refine qa_ofG (by decide) (by decide) ?_
  unfold wJ9_abs_067f4 at h
  change qa_G l yJ9_abs_067f4 cJ9_abs_067f4 2 (some .long) 0 0 0 (qa_pJ Q) 0 0 0 [some (.long v0), none] [] 113 μ0
  refine qa_lld0 dJ9_abs_067f4_0 ?_
  refine qa_lconst (v := 0) dJ9_abs_067f4_1 (by decide) ?_
  refine qa_lcmp dJ9_abs_067f4_2 ?_
  refine qa_if_ge (tgt := 11) dJ9_abs_067f4_3 (by decide) (fun c1 => ?_) (fun c1 => ?_)
  · have h := h.1 c1
    refine qa_lld0 dJ9_abs_067f4_11 ?_
    exact qa_lret rfl dJ9_abs_067f4_12 ⟨rfl, rfl⟩ ⟨rfl, hp0, _, rfl, h⟩
  · have h := h.2 c1
    refine qa_lld0 dJ9_abs_067f4_6 ?_
    refine qa_lneg dJ9_abs_067f4_7 ?_
    refine qa_goto (tgt := 12) dJ9_abs_067f4_8 (by decide) ?_
    exact qa_lret rfl dJ9_abs_067f4_12 ⟨rfl, rfl⟩ ⟨rfl, hp0, _, rfl, h⟩
def wJ9_abs_0f7a4 (n : Nat) (v0 : Int32) (μ0 : qa_M) (Q : Int32 → qa_M → Prop) : Prop := ((0 ≤ v0 → Q v0 μ0) ∧ (¬ 0 ≤ v0 → Q (-v0) μ0))
theorem tJ9_abs_0f7a4 (l : Launch) {n : Nat} {v0 : Int32} {μ0 : qa_M} {Q : Int32 → qa_M → Prop} (hp0 : qa_PP μ0.2.2)  (h : wJ9_abs_0f7a4 n v0 μ0 Q) : qa_Met l yJ9_abs_0f7a4 cJ9_abs_0f7a4 1 (some .int) 0 0 0 [.int v0] 113 μ0 (qa_pI Q) := by
  refine qa_ofG (by decide) (by decide) ?_
  unfold wJ9_abs_0f7a4 at h
  change qa_G l yJ9_abs_0f7a4 cJ9_abs_0f7a4 1 (some .int) 0 0 0 (qa_pI Q) 0 0 0 [some (.int v0)] [] 113 μ0
  refine qa_ild0 dJ9_abs_0f7a4_0 ?_
  refine qa_if_ge (tgt := 9) dJ9_abs_0f7a4_1 (by decide) (fun c1 => ?_) (fun c1 => ?_)
  · have h := h.1 c1
    refine qa_ild0 dJ9_abs_0f7a4_9 ?_
    exact qa_iret rfl dJ9_abs_0f7a4_10 ⟨rfl, rfl⟩ ⟨rfl, hp0, _, rfl, h⟩
  · have h := h.2 c1
    refine qa_ild0 dJ9_abs_0f7a4_4 ?_
    refine qa_ineg dJ9_abs_0f7a4_5 ?_
    refine qa_goto (tgt := 10) dJ9_abs_0f7a4_6 (by decide) ?_
    exact qa_iret rfl dJ9_abs_0f7a4_10 ⟨rfl, rfl⟩ ⟨rfl, hp0, _, rfl, h⟩
def wJ9_floorMod_7cf53 (n : Nat) (v0 : Int32) (v1 : Int32) (μ0 : qa_M) (Q : Int32 → qa_M → Prop) : Prop := ¬ v1 = 0 ∧ ∀ x1, x1 = (v0 - v0 / v1 * v1) → ((0 ≤ (v0 ^^^ v1) → Q x1 μ0) ∧ (¬ 0 ≤ (v0 ^^^ v1) → ((x1 = 0 → Q x1 μ0) ∧ (¬ x1 = 0 → Q (x1 + v1) μ0))))
theorem tJ9_floorMod_7cf53 (l : Launch) {n : Nat} {v0 : Int32} {v1 : Int32} {μ0 : qa_M} {Q : Int32 → qa_M → Prop} (hp0 : qa_PP μ0.2.2)  (h : wJ9_floorMod_7cf53 n v0 v1 μ0 Q) : qa_Met l yJ9_floorMod_7cf53 cJ9_floorMod_7cf53 3 (some .int) 0 0 0 [.int v0, .int v1] 113 μ0 (qa_pI Q) := by
  refine qa_ofG (by decide) (by decide) ?_
  unfold wJ9_floorMod_7cf53 at h
  change qa_G l yJ9_floorMod_7cf53 cJ9_floorMod_7cf53 3 (some .int) 0 0 0 (qa_pI Q) 0 0 0 [some (.int v0), some (.int v1), none] [] 113 μ0
  refine qa_ild0 dJ9_floorMod_7cf53_0 ?_
  refine qa_ild1 dJ9_floorMod_7cf53_1 ?_
  refine qa_irem dJ9_floorMod_7cf53_2 h.1 ?_
  have h := h.2
  refine qa_nmI (fun x1 e1 => ?_)
  have h := h x1 e1
  refine qa_ist2 dJ9_floorMod_7cf53_3 ?_
  refine qa_ild0 dJ9_floorMod_7cf53_4 ?_
  refine qa_ild1 dJ9_floorMod_7cf53_5 ?_
  refine qa_ixor dJ9_floorMod_7cf53_6 ?_
  refine qa_if_ge (tgt := 18) dJ9_floorMod_7cf53_7 (by decide) (fun c2 => ?_) (fun c2 => ?_)
  · have h := h.1 c2
    refine qa_ild2 dJ9_floorMod_7cf53_18 ?_
    exact qa_iret rfl dJ9_floorMod_7cf53_19 ⟨rfl, rfl⟩ ⟨rfl, hp0, _, rfl, h⟩
  · have h := h.2 c2
    refine qa_ild2 dJ9_floorMod_7cf53_10 ?_
    refine qa_if_eq (tgt := 18) dJ9_floorMod_7cf53_11 (by decide) (fun c3 => ?_) (fun c3 => ?_)
    · have h := h.1 c3
      refine qa_ild2 dJ9_floorMod_7cf53_18 ?_
      exact qa_iret rfl dJ9_floorMod_7cf53_19 ⟨rfl, rfl⟩ ⟨rfl, hp0, _, rfl, h⟩
    · have h := h.2 c3
      refine qa_ild2 dJ9_floorMod_7cf53_14 ?_
      refine qa_ild1 dJ9_floorMod_7cf53_15 ?_
      refine qa_iadd dJ9_floorMod_7cf53_16 ?_
      exact qa_iret rfl dJ9_floorMod_7cf53_17 ⟨rfl, rfl⟩ ⟨rfl, hp0, _, rfl, h⟩
def wJ9_max_7cf53 (n : Nat) (v0 : Int32) (v1 : Int32) (μ0 : qa_M) (Q : Int32 → qa_M → Prop) : Prop := ((v0 < v1 → Q v1 μ0) ∧ (¬ v0 < v1 → Q v0 μ0))
theorem tJ9_max_7cf53 (l : Launch) {n : Nat} {v0 : Int32} {v1 : Int32} {μ0 : qa_M} {Q : Int32 → qa_M → Prop} (hp0 : qa_PP μ0.2.2)  (h : wJ9_max_7cf53 n v0 v1 μ0 Q) : qa_Met l yJ9_max_7cf53 cJ9_max_7cf53 2 (some .int) 0 0 0 [.int v0, .int v1] 113 μ0 (qa_pI Q) := by
  refine qa_ofG (by decide) (by decide) ?_
  unfold wJ9_max_7cf53 at h
  change qa_G l yJ9_max_7cf53 cJ9_max_7cf53 2 (some .int) 0 0 0 (qa_pI Q) 0 0 0 [some (.int v0), some (.int v1)] [] 113 μ0
  refine qa_ild0 dJ9_max_7cf53_0 ?_
  refine qa_ild1 dJ9_max_7cf53_1 ?_
  refine qa_icmp_lt (tgt := 9) dJ9_max_7cf53_2 (by decide) (fun c1 => ?_) (fun c1 => ?_)
  · have h := h.1 c1
    refine qa_ild1 dJ9_max_7cf53_9 ?_
    exact qa_iret rfl dJ9_max_7cf53_10 ⟨rfl, rfl⟩ ⟨rfl, hp0, _, rfl, h⟩
  · have h := h.2 c1
    refine qa_ild0 dJ9_max_7cf53_5 ?_
    refine qa_goto (tgt := 10) dJ9_max_7cf53_6 (by decide) ?_
    exact qa_iret rfl dJ9_max_7cf53_10 ⟨rfl, rfl⟩ ⟨rfl, hp0, _, rfl, h⟩
def wJ9_min_7cf53 (n : Nat) (v0 : Int32) (v1 : Int32) (μ0 : qa_M) (Q : Int32 → qa_M → Prop) : Prop := ((v1 < v0 → Q v1 μ0) ∧ (¬ v1 < v0 → Q v0 μ0))
theorem tJ9_min_7cf53 (l : Launch) {n : Nat} {v0 : Int32} {v1 : Int32} {μ0 : qa_M} {Q : Int32 → qa_M → Prop} (hp0 : qa_PP μ0.2.2)  (h : wJ9_min_7cf53 n v0 v1 μ0 Q) : qa_Met l yJ9_min_7cf53 cJ9_min_7cf53 2 (some .int) 0 0 0 [.int v0, .int v1] 113 μ0 (qa_pI Q) := by
  refine qa_ofG (by decide) (by decide) ?_
  unfold wJ9_min_7cf53 at h
  change qa_G l yJ9_min_7cf53 cJ9_min_7cf53 2 (some .int) 0 0 0 (qa_pI Q) 0 0 0 [some (.int v0), some (.int v1)] [] 113 μ0
  refine qa_ild0 dJ9_min_7cf53_0 ?_
  refine qa_ild1 dJ9_min_7cf53_1 ?_
  refine qa_icmp_gt (tgt := 9) dJ9_min_7cf53_2 (by decide) (fun c1 => ?_) (fun c1 => ?_)
  · have h := h.1 c1
    refine qa_ild1 dJ9_min_7cf53_9 ?_
    exact qa_iret rfl dJ9_min_7cf53_10 ⟨rfl, rfl⟩ ⟨rfl, hp0, _, rfl, h⟩
  · have h := h.2 c1
    refine qa_ild0 dJ9_min_7cf53_5 ?_
    refine qa_goto (tgt := 10) dJ9_min_7cf53_6 (by decide) ?_
    exact qa_iret rfl dJ9_min_7cf53_10 ⟨rfl, rfl⟩ ⟨rfl, hp0, _, rfl, h⟩
def wX0_note (n : Nat) (v0 : Nat) (v1 : Int32) (μ0 : qa_M) (Q : qa_M → Prop) : Prop := vp_in v1 30 ∧ ((¬ (μ0.1 (v0 + 9) v1.toNatClampNeg) = (-1 : Int32) → vp_in v1 30 ∧ ∀ μ2, μ2 = qa_uI μ0 (v0 + 7) 5 ((μ0.1 (v0 + 7) 5) ||| ((1 : Int32) <<< ((μ0.1 (v0 + 10) v1.toNatClampNeg) &&& 31))) → Q μ2) ∧ ((μ0.1 (v0 + 9) v1.toNatClampNeg) = (-1 : Int32) → vp_in v1 30 ∧ vp_in (μ0.1 (v0 + 10) v1.toNatClampNeg) 20 ∧ vp_in v1 30 ∧ vp_in (μ0.1 (v0 + 10) v1.toNatClampNeg) 20 ∧ ∀ μ3, μ3 = qa_uI μ0 (v0 + 11) (μ0.1 (v0 + 10) v1.toNatClampNeg).toNatClampNeg ((μ0.1 (v0 + 11) (μ0.1 (v0 + 10) v1.toNatClampNeg).toNatClampNeg) ||| ((1 : Int32) <<< ((μ0.1 (v0 + 8) v1.toNatClampNeg) &&& 31))) → Q μ3))
theorem tX0_note (l : Launch) {n : Nat} {v0 : Nat} {v1 : Int32} {μ0 : qa_M} {Q : qa_M → Prop} (hp0 : qa_PP μ0.2.2) (k0 : qa_tw v0) (h : wX0_note n v0 v1 μ0 Q) : qa_Met l yX0_note cX0_note 2 none 0 0 0 [.ref (v0 + 7), .int v1] 113 μ0 (qa_pV Q) := by
  refine qa_ofG (by decide) (by decide) ?_
  unfold wX0_note at h
  change qa_G l yX0_note cX0_note 2 none 0 0 0 (qa_pV Q) 0 0 0 [some (.ref (v0 + 7)), some (.int v1)] [] 113 μ0
  refine qa_ald0 dX0_note_0 ?_
  refine qa_getR dX0_note_1 lf_X0_15 rfl (st_7 k0) (lt_7 k0) (pa_2 hp0 k0) (Nat.succ_pos _) ?_
  refine qa_ild1 dX0_note_4 ?_
  refine qa_iald dX0_note_5 (st_9 k0) (lt_9 k0) h.1 ?_
  have h := h.2
  refine qa_iconst (v := -1) dX0_note_6 (by decide) ?_
  refine qa_icmp_ne (tgt := 35) dX0_note_7 (by decide) (fun c1 => ?_) (fun c1 => ?_)
  · have h := h.1 c1
    refine qa_ald0 dX0_note_35 ?_
    refine qa_dup dX0_note_36 rfl ?_
    refine qa_getI dX0_note_37 lf_X0_47 (Or.inl rfl) (st_7 k0) (lt_7 k0) ?_
    refine qa_iconst (v := 1) dX0_note_40 (by decide) ?_
    refine qa_ald0 dX0_note_41 ?_
    refine qa_getR dX0_note_42 lf_X0_18 rfl (st_7 k0) (lt_7 k0) (pa_3 hp0 k0) (Nat.succ_pos _) ?_
    refine qa_ild1 dX0_note_45 ?_
    refine qa_iald dX0_note_46 (st_10 k0) (lt_10 k0) h.1 ?_
    have h := h.2
    refine qa_ishl dX0_note_47 ?_
    refine qa_ior dX0_note_48 ?_
    refine qa_putI dX0_note_49 lf_X0_47 rfl (st_7 k0) (lt_7 k0) rfl ?_
    refine qa_nmM (fun μ2 em2 => ?_)
    have h := h μ2 em2
    have hp2 : qa_PP μ2.2.2 := by rw [em2]; exact hp0
    exact qa_vret rfl dX0_note_52 ⟨rfl, rfl⟩ ⟨rfl, hp2, rfl, h⟩
  · have h := h.2 c1
    refine qa_ald0 dX0_note_10 ?_
    refine qa_getR dX0_note_11 lf_X0_21 rfl (st_7 k0) (lt_7 k0) (pa_4 hp0 k0) (Nat.succ_pos _) ?_
    refine qa_ald0 dX0_note_14 ?_
    refine qa_getR dX0_note_15 lf_X0_18 rfl (st_7 k0) (lt_7 k0) (pa_3 hp0 k0) (Nat.succ_pos _) ?_
    refine qa_ild1 dX0_note_18 ?_
    refine qa_iald dX0_note_19 (st_10 k0) (lt_10 k0) h.1 ?_
    have h := h.2
    refine qa_dup2 dX0_note_20 rfl rfl ?_
    refine qa_iald dX0_note_21 (st_11 k0) (lt_11 k0) h.1 ?_
    have h := h.2
    refine qa_iconst (v := 1) dX0_note_22 (by decide) ?_
    refine qa_ald0 dX0_note_23 ?_
    refine qa_getR dX0_note_24 lf_X0_9 rfl (st_7 k0) (lt_7 k0) (pa_1 hp0 k0) (Nat.succ_pos _) ?_
    refine qa_ild1 dX0_note_27 ?_
    refine qa_iald dX0_note_28 (st_8 k0) (lt_8 k0) h.1 ?_
    have h := h.2
    refine qa_ishl dX0_note_29 ?_
    refine qa_ior dX0_note_30 ?_
    refine qa_iast dX0_note_31 (st_11 k0) (lt_11 k0) h.1 ?_
    have h := h.2
    refine qa_nmM (fun μ3 em3 => ?_)
    have h := h μ3 em3
    have hp3 : qa_PP μ3.2.2 := by rw [em3]; exact hp0
    refine qa_goto (tgt := 52) dX0_note_32 (by decide) ?_
    exact qa_vret rfl dX0_note_52 ⟨rfl, rfl⟩ ⟨rfl, hp3, rfl, h⟩
def wX0_add (n : Nat) (v0 : Nat) (v1 : Int32) (v2 : Int32) (v3 : Int32) (μ0 : qa_M) (Q : qa_M → Prop) : Prop := (((30 : Int32) ≤ (μ0.1 (v0 + 7) 0) → Q μ0) ∧ (¬ (30 : Int32) ≤ (μ0.1 (v0 + 7) 0) → vp_in (μ0.1 (v0 + 7) 0) 30 ∧ ∀ μ2, μ2 = qa_uI μ0 (v0 + 8) (μ0.1 (v0 + 7) 0).toNatClampNeg v1 → vp_in (μ2.1 (v0 + 7) 0) 30 ∧ ∀ μ3, μ3 = qa_uI μ2 (v0 + 9) (μ2.1 (v0 + 7) 0).toNatClampNeg v2 → vp_in (μ3.1 (v0 + 7) 0) 30 ∧ ∀ μ4, μ4 = qa_uI μ3 (v0 + 10) (μ3.1 (v0 + 7) 0).toNatClampNeg v3 → wX0_note n v0 (μ4.1 (v0 + 7) 0) μ4 (fun μ5 => ∀ μ6, μ6 = qa_uI μ5 (v0 + 7) 0 ((μ5.1 (v0 + 7) 0) + (1 : Int32)) → Q μ6)))
theorem tX0_add (l : Launch) {n : Nat} {v0 : Nat} {v1 : Int32} {v2 : Int32} {v3 : Int32} {μ0 : qa_M} {Q : qa_M → Prop} (hp0 : qa_PP μ0.2.2) (k0 : qa_tw v0) (h : wX0_add n v0 v1 v2 v3 μ0 Q) : qa_Met l yX0_add cX0_add 4 none 1 0 0 [.ref (v0 + 7), .int v1, .int v2, .int v3] 113 μ0 (qa_pV Q) := by
  refine qa_ofG (by decide) (by decide) ?_
  unfold wX0_add at h
  change qa_G l yX0_add cX0_add 4 none 1 0 0 (qa_pV Q) 0 0 0 [some (.ref (v0 + 7)), some (.int v1), some (.int v2), some (.int v3)] [] 113 μ0
  refine qa_ald0 dX0_add_0 ?_
  refine qa_getI dX0_add_1 lf_X0_24 (Or.inl rfl) (st_7 k0) (lt_7 k0) ?_
  refine qa_bipush (v := 30) dX0_add_4 (by decide) ?_
  refine qa_icmp_ge (tgt := 57) dX0_add_6 (by decide) (fun c1 => ?_) (fun c1 => ?_)
  · have h := h.1 c1
    exact qa_vret rfl dX0_add_57 ⟨rfl, rfl⟩ ⟨rfl, hp0, rfl, h⟩
  · have h := h.2 c1
    refine qa_ald0 dX0_add_9 ?_
    refine qa_getR dX0_add_10 lf_X0_9 rfl (st_7 k0) (lt_7 k0) (pa_1 hp0 k0) (Nat.succ_pos _) ?_
    refine qa_ald0 dX0_add_13 ?_
    refine qa_getI dX0_add_14 lf_X0_24 (Or.inl rfl) (st_7 k0) (lt_7 k0) ?_
    refine qa_ild1 dX0_add_17 ?_
    refine qa_iast dX0_add_18 (st_8 k0) (lt_8 k0) h.1 ?_
    have h := h.2
    refine qa_nmM (fun μ2 em2 => ?_)
    have h := h μ2 em2
    have hp2 : qa_PP μ2.2.2 := by rw [em2]; exact hp0
    refine qa_ald0 dX0_add_19 ?_
    refine qa_getR dX0_add_20 lf_X0_15 rfl (st_7 k0) (lt_7 k0) (pa_2 hp2 k0) (Nat.succ_pos _) ?_
    refine qa_ald0 dX0_add_23 ?_
    refine qa_getI dX0_add_24 lf_X0_24 (Or.inl rfl) (st_7 k0) (lt_7 k0) ?_
    refine qa_ild2 dX0_add_27 ?_
    refine qa_iast dX0_add_28 (st_9 k0) (lt_9 k0) h.1 ?_
    have h := h.2
    refine qa_nmM (fun μ3 em3 => ?_)
    have h := h μ3 em3
    have hp3 : qa_PP μ3.2.2 := by rw [em3]; exact hp2
    refine qa_ald0 dX0_add_29 ?_
    refine qa_getR dX0_add_30 lf_X0_18 rfl (st_7 k0) (lt_7 k0) (pa_3 hp3 k0) (Nat.succ_pos _) ?_
    refine qa_ald0 dX0_add_33 ?_
    refine qa_getI dX0_add_34 lf_X0_24 (Or.inl rfl) (st_7 k0) (lt_7 k0) ?_
    refine qa_ild3 dX0_add_37 ?_
    refine qa_iast dX0_add_38 (st_10 k0) (lt_10 k0) h.1 ?_
    have h := h.2
    refine qa_nmM (fun μ4 em4 => ?_)
    have h := h μ4 em4
    have hp4 : qa_PP μ4.2.2 := by rw [em4]; exact hp3
    refine qa_ald0 dX0_add_39 ?_
    refine qa_ald0 dX0_add_40 ?_
    refine qa_getI dX0_add_41 lf_X0_24 (Or.inl rfl) (st_7 k0) (lt_7 k0) ?_
    refine qa_V1V dX0_add_44 lm_X0_28 (st_7 k0) rfl (lt_7 k0) (by decide) (Nat.le_of_ble_eq_true rfl) (tX0_note l hp4 k0 h) (fun μ5 hp5 h => ?_)
    refine qa_ald0 dX0_add_47 ?_
    refine qa_dup dX0_add_48 rfl ?_
    refine qa_getI dX0_add_49 lf_X0_24 (Or.inl rfl) (st_7 k0) (lt_7 k0) ?_
    refine qa_iconst (v := 1) dX0_add_52 (by decide) ?_
    refine qa_iadd dX0_add_53 ?_
    refine qa_putI dX0_add_54 lf_X0_24 rfl (st_7 k0) (lt_7 k0) rfl ?_
    refine qa_nmM (fun μ6 em6 => ?_)
    have h := h μ6 em6
    have hp6 : qa_PP μ6.2.2 := by rw [em6]; exact hp5
    exact qa_vret rfl dX0_add_57 ⟨rfl, rfl⟩ ⟨rfl, hp6, rfl, h⟩
def wX0_noteAll_15 : Nat → Nat → Int32 → qa_M → (qa_M → Prop) → Prop
  | 0, _, _, _, _ => False
  | n + 1, v0, v1, μ0, Q => (((μ0.1 (v0 + 7) 0) ≤ v1 → Q μ0) ∧ (¬ (μ0.1 (v0 + 7) 0) ≤ v1 → wX0_note n v0 v1 μ0 (fun μ4 => wX0_noteAll_15 n v0 (v1 + (1 : Int32)) μ4 Q)))
def wX0_noteAll (n : Nat) (v0 : Nat) (μ0 : qa_M) (Q : qa_M → Prop) : Prop := wJ7_fill_53178 n (v0 + 11) 20 (0 : Int32) μ0 (fun μ1 => ∀ μ2, μ2 = qa_uI μ1 (v0 + 7) 5 (0 : Int32) → wX0_noteAll_15 n v0 (0 : Int32) μ2  Q)
theorem tX0_noteAll_15 (l : Launch)  {Q : qa_M → Prop}  : ∀ (n : Nat) (v0 : Nat) (v1 : Int32) (μ0 : qa_M), qa_PP μ0.2.2 → qa_tw v0 → wX0_noteAll_15 n v0 v1 μ0  Q → qa_G l yX0_noteAll cX0_noteAll 2 none 1 0 0 (qa_pV Q) 0 0 15 [some (.ref (v0 + 7)), some (.int v1)] [] 113 μ0 := by
  intro n
  induction n with
  | zero =>
    intro v0 v1 μ0 hp0 k0 h
    rw [wX0_noteAll_15] at h
    exact h.elim
  | succ n ih =>
    intro v0 v1 μ0 hp0 k0 h
    rw [wX0_noteAll_15] at h
    refine qa_ild1 dX0_noteAll_15 ?_
    refine qa_ald0 dX0_noteAll_16 ?_
    refine qa_getI dX0_noteAll_17 lf_X0_24 (Or.inl rfl) (st_7 k0) (lt_7 k0) ?_
    refine qa_icmp_ge (tgt := 34) dX0_noteAll_20 (by decide) (fun c3 => ?_) (fun c3 => ?_)
    · have h := h.1 c3
      exact qa_vret rfl dX0_noteAll_34 ⟨rfl, rfl⟩ ⟨rfl, hp0, rfl, h⟩
    · have h := h.2 c3
      refine qa_ald0 dX0_noteAll_23 ?_
      refine qa_ild1 dX0_noteAll_24 ?_
      refine qa_V1V dX0_noteAll_25 lm_X0_28 (st_7 k0) rfl (lt_7 k0) (by decide) (Nat.le_of_ble_eq_true rfl) (tX0_note l hp0 k0 h) (fun μ4 hp4 h => ?_)
      refine qa_inc1 dX0_noteAll_28 (qa_io1 _) ?_
      refine qa_goto (tgt := 15) dX0_noteAll_31 (by decide) ?_
      refine qa_fgt (L' := [some (.ref (v0 + 7)), some (.int (v1 + (1 : Int32)))]) (⟨rfl, ⟨rfl, trivial⟩⟩) ?_
      exact ih v0 (v1 + (1 : Int32)) μ4 hp4 k0 h
theorem tX0_noteAll (l : Launch) {n : Nat} {v0 : Nat} {μ0 : qa_M} {Q : qa_M → Prop} (hp0 : qa_PP μ0.2.2) (k0 : qa_tw v0) (h : wX0_noteAll n v0 μ0 Q) : qa_Met l yX0_noteAll cX0_noteAll 2 none 1 0 0 [.ref (v0 + 7)] 113 μ0 (qa_pV Q) := by
  refine qa_ofG (by decide) (by decide) ?_
  unfold wX0_noteAll at h
  change qa_G l yX0_noteAll cX0_noteAll 2 none 1 0 0 (qa_pV Q) 0 0 0 [some (.ref (v0 + 7)), none] [] 113 μ0
  refine qa_ald0 dX0_noteAll_0 ?_
  refine qa_getR dX0_noteAll_1 lf_X0_21 rfl (st_7 k0) (lt_7 k0) (pa_4 hp0 k0) (Nat.succ_pos _) ?_
  refine qa_iconst (v := 0) dX0_noteAll_4 (by decide) ?_
  refine qa_S2V dX0_noteAll_5 lm_X0_41  (by decide) (Nat.le_of_ble_eq_true rfl) (tJ7_fill_53178 l hp0 (st_11 k0) (lt_11 k0) h) (fun μ1 hp1 h => ?_)
  refine qa_ald0 dX0_noteAll_8 ?_
  refine qa_iconst (v := 0) dX0_noteAll_9 (by decide) ?_
  refine qa_putI dX0_noteAll_10 lf_X0_47 rfl (st_7 k0) (lt_7 k0) rfl ?_
  refine qa_nmM (fun μ2 em2 => ?_)
  have h := h μ2 em2
  have hp2 : qa_PP μ2.2.2 := by rw [em2]; exact hp1
  refine qa_iconst (v := 0) dX0_noteAll_13 (by decide) ?_
  refine qa_ist1 dX0_noteAll_14 ?_
  refine qa_fgt (L' := [some (.ref (v0 + 7)), some (.int (0 : Int32))]) (⟨rfl, ⟨rfl, trivial⟩⟩) ?_
  refine tX0_noteAll_15 l  n v0 (0 : Int32) μ2 hp2 k0 h
def wX0_copyFrom (n : Nat) (v0 : Nat) (v1 : Nat) (μ0 : qa_M) (Q : qa_M → Prop) : Prop := ∀ μ1, μ1 = qa_uI μ0 (v0 + 7) 0 (μ0.1 (v1 + 7) 0) → ∀ μ2, μ2 = qa_cpI μ1 (v1 + 8) (v0 + 8) (0 : Int32).toNatClampNeg (0 : Int32).toNatClampNeg (30 : Int32).toNatClampNeg → ∀ μ3, μ3 = qa_cpI μ2 (v1 + 9) (v0 + 9) (0 : Int32).toNatClampNeg (0 : Int32).toNatClampNeg (30 : Int32).toNatClampNeg → ∀ μ4, μ4 = qa_cpI μ3 (v1 + 10) (v0 + 10) (0 : Int32).toNatClampNeg (0 : Int32).toNatClampNeg (30 : Int32).toNatClampNeg → wX0_noteAll n v0 μ4 (fun μ5 => Q μ5)
theorem tX0_copyFrom (l : Launch) {n : Nat} {v0 : Nat} {v1 : Nat} {μ0 : qa_M} {Q : qa_M → Prop} (hp0 : qa_PP μ0.2.2) (k0 : qa_tw v0) (k1 : qa_tw v1) (h : wX0_copyFrom n v0 v1 μ0 Q) : qa_Met l yX0_copyFrom cX0_copyFrom 2 none 2 0 0 [.ref (v0 + 7), .ref (v1 + 7)] 113 μ0 (qa_pV Q) := by
  refine qa_ofG (by decide) (by decide) ?_
  unfold wX0_copyFrom at h
  change qa_G l yX0_copyFrom cX0_copyFrom 2 none 2 0 0 (qa_pV Q) 0 0 0 [some (.ref (v0 + 7)), some (.ref (v1 + 7))] [] 113 μ0
  refine qa_ald0 dX0_copyFrom_0 ?_
  refine qa_ald1 dX0_copyFrom_1 ?_
  refine qa_getI dX0_copyFrom_2 lf_X0_24 (Or.inl rfl) (st_7 k1) (lt_7 k1) ?_
  refine qa_putI dX0_copyFrom_5 lf_X0_24 rfl (st_7 k0) (lt_7 k0) rfl ?_
  refine qa_nmM (fun μ1 em1 => ?_)
  have h := h μ1 em1
  have hp1 : qa_PP μ1.2.2 := by rw [em1]; exact hp0
  refine qa_ald1 dX0_copyFrom_8 ?_
  refine qa_getR dX0_copyFrom_9 lf_X0_9 rfl (st_7 k1) (lt_7 k1) (pa_1 hp1 k1) (Nat.succ_pos _) ?_
  refine qa_iconst (v := 0) dX0_copyFrom_12 (by decide) ?_
  refine qa_ald0 dX0_copyFrom_13 ?_
  refine qa_getR dX0_copyFrom_14 lf_X0_9 rfl (st_7 k0) (lt_7 k0) (pa_1 hp1 k0) (Nat.succ_pos _) ?_
  refine qa_iconst (v := 0) dX0_copyFrom_17 (by decide) ?_
  refine qa_bipush (v := 30) dX0_copyFrom_18 (by decide) ?_
  refine qa_copyI dX0_copyFrom_20 lac_X0_35 lac_n lac_s lac_i (st_8 k1) (st_8 k0) (lt_8 k1) (lt_8 k0) (by decide) (by decide) (by decide) (by decide) (by decide) (by decide) ?_
  refine qa_nmM (fun μ2 em2 => ?_)
  have h := h μ2 em2
  have hp2 : qa_PP μ2.2.2 := by rw [em2]; exact hp1
  refine qa_ald1 dX0_copyFrom_23 ?_
  refine qa_getR dX0_copyFrom_24 lf_X0_15 rfl (st_7 k1) (lt_7 k1) (pa_2 hp2 k1) (Nat.succ_pos _) ?_
  refine qa_iconst (v := 0) dX0_copyFrom_27 (by decide) ?_
  refine qa_ald0 dX0_copyFrom_28 ?_
  refine qa_getR dX0_copyFrom_29 lf_X0_15 rfl (st_7 k0) (lt_7 k0) (pa_2 hp2 k0) (Nat.succ_pos _) ?_
  refine qa_iconst (v := 0) dX0_copyFrom_32 (by decide) ?_
  refine qa_bipush (v := 30) dX0_copyFrom_33 (by decide) ?_
  refine qa_copyI dX0_copyFrom_35 lac_X0_35 lac_n lac_s lac_i (st_9 k1) (st_9 k0) (lt_9 k1) (lt_9 k0) (by decide) (by decide) (by decide) (by decide) (by decide) (by decide) ?_
  refine qa_nmM (fun μ3 em3 => ?_)
  have h := h μ3 em3
  have hp3 : qa_PP μ3.2.2 := by rw [em3]; exact hp2
  refine qa_ald1 dX0_copyFrom_38 ?_
  refine qa_getR dX0_copyFrom_39 lf_X0_18 rfl (st_7 k1) (lt_7 k1) (pa_3 hp3 k1) (Nat.succ_pos _) ?_
  refine qa_iconst (v := 0) dX0_copyFrom_42 (by decide) ?_
  refine qa_ald0 dX0_copyFrom_43 ?_
  refine qa_getR dX0_copyFrom_44 lf_X0_18 rfl (st_7 k0) (lt_7 k0) (pa_3 hp3 k0) (Nat.succ_pos _) ?_
  refine qa_iconst (v := 0) dX0_copyFrom_47 (by decide) ?_
  refine qa_bipush (v := 30) dX0_copyFrom_48 (by decide) ?_
  refine qa_copyI dX0_copyFrom_50 lac_X0_35 lac_n lac_s lac_i (st_10 k1) (st_10 k0) (lt_10 k1) (lt_10 k0) (by decide) (by decide) (by decide) (by decide) (by decide) (by decide) ?_
  refine qa_nmM (fun μ4 em4 => ?_)
  have h := h μ4 em4
  have hp4 : qa_PP μ4.2.2 := by rw [em4]; exact hp3
  refine qa_ald0 dX0_copyFrom_53 ?_
  refine qa_V0V dX0_copyFrom_54 lm_X0_32 (st_7 k0) rfl (lt_7 k0) (by decide) (Nat.le_of_ble_eq_true rfl) (tX0_noteAll l hp4 k0 h) (fun μ5 hp5 h => ?_)
  exact qa_vret rfl dX0_copyFrom_57 ⟨rfl, rfl⟩ ⟨rfl, hp5, rfl, h⟩
def wX0_keepFirst (n : Nat) (v0 : Nat) (v1 : Int32) (μ0 : qa_M) (Q : qa_M → Prop) : Prop := ∀ μ1, μ1 = qa_uI μ0 (v0 + 7) 0 v1 → wX0_noteAll n v0 μ1 (fun μ2 => Q μ2)
theorem tX0_keepFirst (l : Launch) {n : Nat} {v0 : Nat} {v1 : Int32} {μ0 : qa_M} {Q : qa_M → Prop} (hp0 : qa_PP μ0.2.2) (k0 : qa_tw v0) (h : wX0_keepFirst n v0 v1 μ0 Q) : qa_Met l yX0_keepFirst cX0_keepFirst 2 none 2 0 0 [.ref (v0 + 7), .int v1] 113 μ0 (qa_pV Q) := by
  refine qa_ofG (by decide) (by decide) ?_
  unfold wX0_keepFirst at h
  change qa_G l yX0_keepFirst cX0_keepFirst 2 none 2 0 0 (qa_pV Q) 0 0 0 [some (.ref (v0 + 7)), some (.int v1)] [] 113 μ0
  refine qa_ald0 dX0_keepFirst_0 ?_
  refine qa_ild1 dX0_keepFirst_1 ?_
  refine qa_putI dX0_keepFirst_2 lf_X0_24 rfl (st_7 k0) (lt_7 k0) rfl ?_
  refine qa_nmM (fun μ1 em1 => ?_)
  have h := h μ1 em1
  have hp1 : qa_PP μ1.2.2 := by rw [em1]; exact hp0
  refine qa_ald0 dX0_keepFirst_5 ?_
  refine qa_V0V dX0_keepFirst_6 lm_X0_32 (st_7 k0) rfl (lt_7 k0) (by decide) (Nat.le_of_ble_eq_true rfl) (tX0_noteAll l hp1 k0 h) (fun μ2 hp2 h => ?_)
  exact qa_vret rfl dX0_keepFirst_9 ⟨rfl, rfl⟩ ⟨rfl, hp2, rfl, h⟩
def wX1_asTold (n : Nat) (v1 : Nat) (μ0 : qa_M) (Q : qa_M → Prop) : Prop := ∀ μ1, μ1 = qa_uI μ0 31 0 (μ0.1 v1 2) → ∀ μ2, μ2 = qa_uI μ1 31 1 (μ1.1 v1 3) → ∀ μ3, μ3 = qa_uI μ2 31 2 (μ2.1 v1 9) → ∀ μ4, μ4 = qa_uI μ3 31 3 (μ3.1 v1 10) → ∀ μ5, μ5 = qa_uI μ4 31 4 (0 : Int32) → ∀ μ6, μ6 = qa_uI μ5 31 5 (-1 : Int32) → ∀ μ7, μ7 = qa_uI μ6 31 6 (-1 : Int32) → ∀ μ8, μ8 = qa_uI μ7 31 7 (μ7.1 v1 1) → Q μ8
theorem tX1_asTold (l : Launch) {n : Nat} {v1 : Nat} {μ0 : qa_M} {Q : qa_M → Prop} (hp0 : qa_PP μ0.2.2) (k1 : qa_tw v1) (h : wX1_asTold n v1 μ0 Q) : qa_Met l yX1_asTold cX1_asTold 2 none 0 0 0 [.ref 31, .ref v1] 113 μ0 (qa_pV Q) := by
  refine qa_ofG (by decide) (by decide) ?_
  unfold wX1_asTold at h
  change qa_G l yX1_asTold cX1_asTold 2 none 0 0 0 (qa_pV Q) 0 0 0 [some (.ref 31), some (.ref v1)] [] 113 μ0
  refine qa_ald0 dX1_asTold_0 ?_
  refine qa_ald1 dX1_asTold_1 ?_
  refine qa_getI dX1_asTold_2 lf_X1_9 (Or.inl rfl) (st_0 k1) (lt_0 k1) ?_
  refine qa_putI dX1_asTold_5 lf_X1_15 rfl sh_31 (by decide) rfl ?_
  refine qa_nmM (fun μ1 em1 => ?_)
  have h := h μ1 em1
  have hp1 : qa_PP μ1.2.2 := by rw [em1]; exact hp0
  refine qa_ald0 dX1_asTold_8 ?_
  refine qa_ald1 dX1_asTold_9 ?_
  refine qa_getI dX1_asTold_10 lf_X1_18 (Or.inl rfl) (st_0 k1) (lt_0 k1) ?_
  refine qa_putI dX1_asTold_13 lf_X1_21 rfl sh_31 (by decide) rfl ?_
  refine qa_nmM (fun μ2 em2 => ?_)
  have h := h μ2 em2
  have hp2 : qa_PP μ2.2.2 := by rw [em2]; exact hp1
  refine qa_ald0 dX1_asTold_16 ?_
  refine qa_ald1 dX1_asTold_17 ?_
  refine qa_getI dX1_asTold_18 lf_X1_22 (Or.inl rfl) (st_0 k1) (lt_0 k1) ?_
  refine qa_putI dX1_asTold_21 lf_X1_25 rfl sh_31 (by decide) rfl ?_
  refine qa_nmM (fun μ3 em3 => ?_)
  have h := h μ3 em3
  have hp3 : qa_PP μ3.2.2 := by rw [em3]; exact hp2
  refine qa_ald0 dX1_asTold_24 ?_
  refine qa_ald1 dX1_asTold_25 ?_
  refine qa_getI dX1_asTold_26 lf_X1_26 (Or.inl rfl) (st_0 k1) (lt_0 k1) ?_
  refine qa_putI dX1_asTold_29 lf_X1_29 rfl sh_31 (by decide) rfl ?_
  refine qa_nmM (fun μ4 em4 => ?_)
  have h := h μ4 em4
  have hp4 : qa_PP μ4.2.2 := by rw [em4]; exact hp3
  refine qa_ald0 dX1_asTold_32 ?_
  refine qa_iconst (v := 0) dX1_asTold_33 (by decide) ?_
  refine qa_putI dX1_asTold_34 lf_X1_30 rfl sh_31 (by decide) rfl ?_
  refine qa_nmM (fun μ5 em5 => ?_)
  have h := h μ5 em5
  have hp5 : qa_PP μ5.2.2 := by rw [em5]; exact hp4
  refine qa_ald0 dX1_asTold_37 ?_
  refine qa_iconst (v := -1) dX1_asTold_38 (by decide) ?_
  refine qa_putI dX1_asTold_39 lf_X1_33 rfl sh_31 (by decide) rfl ?_
  refine qa_nmM (fun μ6 em6 => ?_)
  have h := h μ6 em6
  have hp6 : qa_PP μ6.2.2 := by rw [em6]; exact hp5
  refine qa_ald0 dX1_asTold_42 ?_
  refine qa_iconst (v := -1) dX1_asTold_43 (by decide) ?_
  refine qa_putI dX1_asTold_44 lf_X1_36 rfl sh_31 (by decide) rfl ?_
  refine qa_nmM (fun μ7 em7 => ?_)
  have h := h μ7 em7
  have hp7 : qa_PP μ7.2.2 := by rw [em7]; exact hp6
  refine qa_ald0 dX1_asTold_47 ?_
  refine qa_ald1 dX1_asTold_48 ?_
  refine qa_getI dX1_asTold_49 lf_X1_39 (Or.inl rfl) (st_0 k1) (lt_0 k1) ?_
  refine qa_putI dX1_asTold_52 lf_X1_42 rfl sh_31 (by decide) rfl ?_
  refine qa_nmM (fun μ8 em8 => ?_)
  have h := h μ8 em8
  have hp8 : qa_PP μ8.2.2 := by rw [em8]; exact hp7
  exact qa_vret rfl dX1_asTold_55 ⟨rfl, rfl⟩ ⟨rfl, hp8, rfl, h⟩
def wX2_fail (n : Nat) (v1 : Int32) (μ0 : qa_M) (Q : qa_M → Prop) : Prop := ((¬ (μ0.1 27 7) = 0 → Q μ0) ∧ ((μ0.1 27 7) = 0 → ∀ μ2, μ2 = qa_uI μ0 27 7 v1 → ∀ μ3, μ3 = qa_uI μ2 27 8 (μ2.1 27 4) → Q μ3))
theorem tX2_fail (l : Launch) {n : Nat} {v1 : Int32} {μ0 : qa_M} {Q : qa_M → Prop} (hp0 : qa_PP μ0.2.2)  (h : wX2_fail n v1 μ0 Q) : qa_Met l yX2_fail cX2_fail 2 none 0 0 0 [.ref 27, .int v1] 113 μ0 (qa_pV Q) := by
  refine qa_ofG (by decide) (by decide) ?_
  unfold wX2_fail at h
  change qa_G l yX2_fail cX2_fail 2 none 0 0 0 (qa_pV Q) 0 0 0 [some (.ref 27), some (.int v1)] [] 113 μ0
  refine qa_ald0 dX2_fail_0 ?_
  refine qa_getI dX2_fail_1 lf_X2_9 (Or.inl rfl) sh_27 (by decide) ?_
  refine qa_if_ne (tgt := 20) dX2_fail_4 (by decide) (fun c1 => ?_) (fun c1 => ?_)
  · have h := h.1 c1
    exact qa_vret rfl dX2_fail_20 ⟨rfl, rfl⟩ ⟨rfl, hp0, rfl, h⟩
  · have h := h.2 c1
    refine qa_ald0 dX2_fail_7 ?_
    refine qa_ild1 dX2_fail_8 ?_
    refine qa_putI dX2_fail_9 lf_X2_9 rfl sh_27 (by decide) rfl ?_
    refine qa_nmM (fun μ2 em2 => ?_)
    have h := h μ2 em2
    have hp2 : qa_PP μ2.2.2 := by rw [em2]; exact hp0
    refine qa_ald0 dX2_fail_12 ?_
    refine qa_ald0 dX2_fail_13 ?_
    refine qa_getI dX2_fail_14 lf_X2_170 (Or.inl rfl) sh_27 (by decide) ?_
    refine qa_putI dX2_fail_17 lf_X2_15 rfl sh_27 (by decide) rfl ?_
    refine qa_nmM (fun μ3 em3 => ?_)
    have h := h μ3 em3
    have hp3 : qa_PP μ3.2.2 := by rw [em3]; exact hp2
    exact qa_vret rfl dX2_fail_20 ⟨rfl, rfl⟩ ⟨rfl, hp3, rfl, h⟩
def wX2_isDigit (n : Nat) (v0 : Int32) (μ0 : qa_M) (Q : Int32 → qa_M → Prop) : Prop := ((v0 < (48 : Int32) → Q (0 : Int32) μ0) ∧ (¬ v0 < (48 : Int32) → (((57 : Int32) < v0 → Q (0 : Int32) μ0) ∧ (¬ (57 : Int32) < v0 → Q (1 : Int32) μ0))))
theorem tX2_isDigit (l : Launch) {n : Nat} {v0 : Int32} {μ0 : qa_M} {Q : Int32 → qa_M → Prop} (hp0 : qa_PP μ0.2.2)  (h : wX2_isDigit n v0 μ0 Q) : qa_Met l yX2_isDigit cX2_isDigit 1 (some .boolean) 0 0 0 [.int v0] 113 μ0 (qa_pI Q) := by
  refine qa_ofG (by decide) (by decide) ?_
  unfold wX2_isDigit at h
  change qa_G l yX2_isDigit cX2_isDigit 1 (some .boolean) 0 0 0 (qa_pI Q) 0 0 0 [some (.int v0)] [] 113 μ0
  refine qa_ild0 dX2_isDigit_0 ?_
  refine qa_bipush (v := 48) dX2_isDigit_1 (by decide) ?_
  refine qa_icmp_lt (tgt := 16) dX2_isDigit_3 (by decide) (fun c1 => ?_) (fun c1 => ?_)
  · have h := h.1 c1
    refine qa_iconst (v := 0) dX2_isDigit_16 (by decide) ?_
    exact qa_zret rfl rfl dX2_isDigit_17 ⟨rfl, rfl⟩ ⟨rfl, hp0, _, rfl, h⟩
  · have h := h.2 c1
    refine qa_ild0 dX2_isDigit_6 ?_
    refine qa_bipush (v := 57) dX2_isDigit_7 (by decide) ?_
    refine qa_icmp_gt (tgt := 16) dX2_isDigit_9 (by decide) (fun c2 => ?_) (fun c2 => ?_)
    · have h := h.1 c2
      refine qa_iconst (v := 0) dX2_isDigit_16 (by decide) ?_
      exact qa_zret rfl rfl dX2_isDigit_17 ⟨rfl, rfl⟩ ⟨rfl, hp0, _, rfl, h⟩
    · have h := h.2 c2
      refine qa_iconst (v := 1) dX2_isDigit_12 (by decide) ?_
      refine qa_goto (tgt := 17) dX2_isDigit_13 (by decide) ?_
      exact qa_zret rfl rfl dX2_isDigit_17 ⟨rfl, rfl⟩ ⟨rfl, hp0, _, rfl, h⟩
def wX2_isLowerCase (n : Nat) (v0 : Int32) (μ0 : qa_M) (Q : Int32 → qa_M → Prop) : Prop := ((v0 < (97 : Int32) → Q (0 : Int32) μ0) ∧ (¬ v0 < (97 : Int32) → (((122 : Int32) < v0 → Q (0 : Int32) μ0) ∧ (¬ (122 : Int32) < v0 → Q (1 : Int32) μ0))))
theorem tX2_isLowerCase (l : Launch) {n : Nat} {v0 : Int32} {μ0 : qa_M} {Q : Int32 → qa_M → Prop} (hp0 : qa_PP μ0.2.2)  (h : wX2_isLowerCase n v0 μ0 Q) : qa_Met l yX2_isLowerCase cX2_isLowerCase 1 (some .boolean) 0 0 0 [.int v0] 113 μ0 (qa_pI Q) := by
  refine qa_ofG (by decide) (by decide) ?_
  unfold wX2_isLowerCase at h
  change qa_G l yX2_isLowerCase cX2_isLowerCase 1 (some .boolean) 0 0 0 (qa_pI Q) 0 0 0 [some (.int v0)] [] 113 μ0
  refine qa_ild0 dX2_isLowerCase_0 ?_
  refine qa_bipush (v := 97) dX2_isLowerCase_1 (by decide) ?_
  refine qa_icmp_lt (tgt := 16) dX2_isLowerCase_3 (by decide) (fun c1 => ?_) (fun c1 => ?_)
  · have h := h.1 c1
    refine qa_iconst (v := 0) dX2_isLowerCase_16 (by decide) ?_
    exact qa_zret rfl rfl dX2_isLowerCase_17 ⟨rfl, rfl⟩ ⟨rfl, hp0, _, rfl, h⟩
  · have h := h.2 c1
    refine qa_ild0 dX2_isLowerCase_6 ?_
    refine qa_bipush (v := 122) dX2_isLowerCase_7 (by decide) ?_
    refine qa_icmp_gt (tgt := 16) dX2_isLowerCase_9 (by decide) (fun c2 => ?_) (fun c2 => ?_)
    · have h := h.1 c2
      refine qa_iconst (v := 0) dX2_isLowerCase_16 (by decide) ?_
      exact qa_zret rfl rfl dX2_isLowerCase_17 ⟨rfl, rfl⟩ ⟨rfl, hp0, _, rfl, h⟩
    · have h := h.2 c2
      refine qa_iconst (v := 1) dX2_isLowerCase_12 (by decide) ?_
      refine qa_goto (tgt := 17) dX2_isLowerCase_13 (by decide) ?_
      exact qa_zret rfl rfl dX2_isLowerCase_17 ⟨rfl, rfl⟩ ⟨rfl, hp0, _, rfl, h⟩
def wX2_isWord_28 : Nat → Nat → Int32 → qa_M → (Int32 → qa_M → Prop) → Prop
  | 0, _, _, _, _ => False
  | n + 1, v1, v2, μ0, Q => wJ0_length_8abf5 n v1 μ0 (fun r4 μ4 => ((r4 ≤ v2 → Q (1 : Int32) μ4) ∧ (¬ r4 ≤ v2 → vp_in ((μ4.1 27 4) + v2) 800 ∧ wJ0_charAt_5068e n v1 v2 μ4 (fun r6 μ6 => (((μ4.1 2 ((μ4.1 27 4) + v2).toNatClampNeg) = r6 → wX2_isWord_28 n v1 (v2 + (1 : Int32)) μ6 Q) ∧ (¬ (μ4.1 2 ((μ4.1 27 4) + v2).toNatClampNeg) = r6 → Q (0 : Int32) μ6))))))
def wX2_isWord (n : Nat) (v1 : Nat) (μ0 : qa_M) (Q : Int32 → qa_M → Prop) : Prop := ((¬ (μ0.1 27 3) = (1 : Int32) → Q (0 : Int32) μ0) ∧ ((μ0.1 27 3) = (1 : Int32) → wJ0_length_8abf5 n v1 μ0 (fun r2 μ2 => ((((μ0.1 27 5) - (μ0.1 27 4)) = r2 → wX2_isWord_28 n v1 (0 : Int32) μ2  Q) ∧ (¬ ((μ0.1 27 5) - (μ0.1 27 4)) = r2 → Q (0 : Int32) μ2)))))
theorem tX2_isWord_28 (l : Launch)  {Q : Int32 → qa_M → Prop}  : ∀ (n : Nat) (v1 : Nat) (v2 : Int32) (μ0 : qa_M), qa_PP μ0.2.2 → v1 < 30 → wX2_isWord_28 n v1 v2 μ0  Q → qa_G l yX2_isWord cX2_isWord 3 (some .boolean) 5 0 0 (qa_pI Q) 0 0 28 [some (.ref 27), some (.ref (2000 + v1)), some (.int v2)] [] 113 μ0 := by
  intro n
  induction n with
  | zero =>
    intro v1 v2 μ0 hp0 k1 h
    rw [wX2_isWord_28] at h
    exact h.elim
  | succ n ih =>
    intro v1 v2 μ0 hp0 k1 h
    rw [wX2_isWord_28] at h
    refine qa_ild2 dX2_isWord_28 ?_
    refine qa_ald1 dX2_isWord_29 ?_
    refine qa_W0I dX2_isWord_30 lm_X2_173 rfl ⟨_, k1, rfl⟩ (by decide) (Nat.le_of_ble_eq_true rfl) (tJ0_length_8abf5 l hp0 k1 h) (fun r4 μ4 hp4 h => ?_)
    refine qa_icmp_ge (tgt := 63) dX2_isWord_33 (by decide) (fun c5 => ?_) (fun c5 => ?_)
    · have h := h.1 c5
      refine qa_iconst (v := 1) dX2_isWord_63 (by decide) ?_
      exact qa_zret rfl rfl dX2_isWord_64 ⟨rfl, rfl⟩ ⟨rfl, hp4, _, rfl, h⟩
    · have h := h.2 c5
      refine qa_ald0 dX2_isWord_36 ?_
      refine qa_getR dX2_isWord_37 lf_X2_18 rfl sh_27 (by decide) (pp_27_0 hp4) (by decide) ?_
      refine qa_ald0 dX2_isWord_40 ?_
      refine qa_getI dX2_isWord_41 lf_X2_170 (Or.inl rfl) sh_27 (by decide) ?_
      refine qa_ild2 dX2_isWord_44 ?_
      refine qa_iadd dX2_isWord_45 ?_
      refine qa_bald dX2_isWord_46 sh_2 (by decide) h.1 ?_
      have h := h.2
      refine qa_ald1 dX2_isWord_47 ?_
      refine qa_ild2 dX2_isWord_48 ?_
      refine qa_W1I dX2_isWord_49 lm_X2_178 rfl ⟨_, k1, rfl⟩ (by decide) (Nat.le_of_ble_eq_true rfl) (tJ0_charAt_5068e l hp4 k1 h) (fun r6 μ6 hp6 h => ?_)
      refine qa_icmp_eq (tgt := 57) dX2_isWord_52 (by decide) (fun c7 => ?_) (fun c7 => ?_)
      · have h := h.1 c7
        refine qa_inc2 dX2_isWord_57 (qa_io1 _) ?_
        refine qa_goto (tgt := 28) dX2_isWord_60 (by decide) ?_
        refine qa_fgt (L' := [some (.ref 27), some (.ref (2000 + v1)), some (.int (v2 + (1 : Int32)))]) (⟨rfl, ⟨rfl, ⟨rfl, trivial⟩⟩⟩) ?_
        exact ih v1 (v2 + (1 : Int32)) μ6 hp6 k1 h
      · have h := h.2 c7
        refine qa_iconst (v := 0) dX2_isWord_55 (by decide) ?_
        exact qa_zret rfl rfl dX2_isWord_56 ⟨rfl, rfl⟩ ⟨rfl, hp6, _, rfl, h⟩
theorem tX2_isWord (l : Launch) {n : Nat} {v1 : Nat} {μ0 : qa_M} {Q : Int32 → qa_M → Prop} (hp0 : qa_PP μ0.2.2) (k1 : v1 < 30) (h : wX2_isWord n v1 μ0 Q) : qa_Met l yX2_isWord cX2_isWord 3 (some .boolean) 5 0 0 [.ref 27, .ref (2000 + v1)] 113 μ0 (qa_pI Q) := by
  refine qa_ofG (by decide) (by decide) ?_
  unfold wX2_isWord at h
  change qa_G l yX2_isWord cX2_isWord 3 (some .boolean) 5 0 0 (qa_pI Q) 0 0 0 [some (.ref 27), some (.ref (2000 + v1)), none] [] 113 μ0
  refine qa_ald0 dX2_isWord_0 ?_
  refine qa_getI dX2_isWord_1 lf_X2_41 (Or.inl rfl) sh_27 (by decide) ?_
  refine qa_iconst (v := 1) dX2_isWord_4 (by decide) ?_
  refine qa_icmp_ne (tgt := 24) dX2_isWord_5 (by decide) (fun c1 => ?_) (fun c1 => ?_)
  · have h := h.1 c1
    refine qa_iconst (v := 0) dX2_isWord_24 (by decide) ?_
    exact qa_zret rfl rfl dX2_isWord_25 ⟨rfl, rfl⟩ ⟨rfl, hp0, _, rfl, h⟩
  · have h := h.2 c1
    refine qa_ald0 dX2_isWord_8 ?_
    refine qa_getI dX2_isWord_9 lf_X2_35 (Or.inl rfl) sh_27 (by decide) ?_
    refine qa_ald0 dX2_isWord_12 ?_
    refine qa_getI dX2_isWord_13 lf_X2_170 (Or.inl rfl) sh_27 (by decide) ?_
    refine qa_isub dX2_isWord_16 ?_
    refine qa_ald1 dX2_isWord_17 ?_
    refine qa_W0I dX2_isWord_18 lm_X2_173 rfl ⟨_, k1, rfl⟩ (by decide) (Nat.le_of_ble_eq_true rfl) (tJ0_length_8abf5 l hp0 k1 h) (fun r2 μ2 hp2 h => ?_)
    refine qa_icmp_eq (tgt := 26) dX2_isWord_21 (by decide) (fun c3 => ?_) (fun c3 => ?_)
    · have h := h.1 c3
      refine qa_iconst (v := 0) dX2_isWord_26 (by decide) ?_
      refine qa_ist2 dX2_isWord_27 ?_
      refine qa_fgt (L' := [some (.ref 27), some (.ref (2000 + v1)), some (.int (0 : Int32))]) (⟨rfl, ⟨rfl, ⟨rfl, trivial⟩⟩⟩) ?_
      refine tX2_isWord_28 l  n v1 (0 : Int32) μ2 hp2 k1 h
    · have h := h.2 c3
      refine qa_iconst (v := 0) dX2_isWord_24 (by decide) ?_
      exact qa_zret rfl rfl dX2_isWord_25 ⟨rfl, rfl⟩ ⟨rfl, hp2, _, rfl, h⟩
def wX2_readWord_5 : Nat → qa_M → (qa_M → Prop) → Prop
  | 0, _, _ => False
  | n + 1, μ0, Q => (((μ0.1 27 1) ≤ (μ0.1 27 5) → Q μ0) ∧ (¬ (μ0.1 27 1) ≤ (μ0.1 27 5) → vp_in (μ0.1 27 5) 800 ∧ wX2_isLowerCase n (μ0.1 2 (μ0.1 27 5).toNatClampNeg) μ0 (fun r3 μ3 => ((r3 = 0 → Q μ3) ∧ (¬ r3 = 0 → ∀ μ5, μ5 = qa_uI μ3 27 5 ((μ3.1 27 5) + (1 : Int32)) → wX2_readWord_5 n  μ5 Q)))))
def wX2_readWord (n : Nat)  (μ0 : qa_M) (Q : qa_M → Prop) : Prop := ∀ μ1, μ1 = qa_uI μ0 27 3 (1 : Int32) → wX2_readWord_5 n  μ1  Q
theorem tX2_readWord_5 (l : Launch)  {Q : qa_M → Prop}  : ∀ (n : Nat)  (μ0 : qa_M), qa_PP μ0.2.2 → wX2_readWord_5 n  μ0  Q → qa_G l yX2_readWord cX2_readWord 1 none 1 0 0 (qa_pV Q) 0 0 5 [some (.ref 27)] [] 113 μ0 := by
  intro n
  induction n with
  | zero =>
    intro  μ0 hp0  h
    rw [wX2_readWord_5] at h
    exact h.elim
  | succ n ih =>
    intro  μ0 hp0  h
    rw [wX2_readWord_5] at h
    refine qa_ald0 dX2_readWord_5 ?_
    refine qa_getI dX2_readWord_6 lf_X2_35 (Or.inl rfl) sh_27 (by decide) ?_
    refine qa_ald0 dX2_readWord_9 ?_
    refine qa_getI dX2_readWord_10 lf_X2_32 (Or.inl rfl) sh_27 (by decide) ?_
    refine qa_icmp_ge (tgt := 44) dX2_readWord_13 (by decide) (fun c2 => ?_) (fun c2 => ?_)
    · have h := h.1 c2
      exact qa_vret rfl dX2_readWord_44 ⟨rfl, rfl⟩ ⟨rfl, hp0, rfl, h⟩
    · have h := h.2 c2
      refine qa_ald0 dX2_readWord_16 ?_
      refine qa_getR dX2_readWord_17 lf_X2_18 rfl sh_27 (by decide) (pp_27_0 hp0) (by decide) ?_
      refine qa_ald0 dX2_readWord_20 ?_
      refine qa_getI dX2_readWord_21 lf_X2_35 (Or.inl rfl) sh_27 (by decide) ?_
      refine qa_bald dX2_readWord_24 sh_2 (by decide) h.1 ?_
      have h := h.2
      refine qa_S1I dX2_readWord_25 lm_X2_182  (by decide) (Nat.le_of_ble_eq_true rfl) (tX2_isLowerCase l hp0  h) (fun r3 μ3 hp3 h => ?_)
      refine qa_if_eq (tgt := 44) dX2_readWord_28 (by decide) (fun c4 => ?_) (fun c4 => ?_)
      · have h := h.1 c4
        exact qa_vret rfl dX2_readWord_44 ⟨rfl, rfl⟩ ⟨rfl, hp3, rfl, h⟩
      · have h := h.2 c4
        refine qa_ald0 dX2_readWord_31 ?_
        refine qa_dup dX2_readWord_32 rfl ?_
        refine qa_getI dX2_readWord_33 lf_X2_35 (Or.inl rfl) sh_27 (by decide) ?_
        refine qa_iconst (v := 1) dX2_readWord_36 (by decide) ?_
        refine qa_iadd dX2_readWord_37 ?_
        refine qa_putI dX2_readWord_38 lf_X2_35 rfl sh_27 (by decide) rfl ?_
        refine qa_nmM (fun μ5 em5 => ?_)
        have h := h μ5 em5
        have hp5 : qa_PP μ5.2.2 := by rw [em5]; exact hp3
        refine qa_goto (tgt := 5) dX2_readWord_41 (by decide) ?_
        refine qa_fgt (L' := [some (.ref 27)]) (⟨rfl, trivial⟩) ?_
        exact ih  μ5 hp5  h
theorem tX2_readWord (l : Launch) {n : Nat}  {μ0 : qa_M} {Q : qa_M → Prop} (hp0 : qa_PP μ0.2.2)  (h : wX2_readWord n  μ0 Q) : qa_Met l yX2_readWord cX2_readWord 1 none 1 0 0 [.ref 27] 113 μ0 (qa_pV Q) := by
  refine qa_ofG (by decide) (by decide) ?_
  unfold wX2_readWord at h
  change qa_G l yX2_readWord cX2_readWord 1 none 1 0 0 (qa_pV Q) 0 0 0 [some (.ref 27)] [] 113 μ0
  refine qa_ald0 dX2_readWord_0 ?_
  refine qa_iconst (v := 1) dX2_readWord_1 (by decide) ?_
  refine qa_putI dX2_readWord_2 lf_X2_41 rfl sh_27 (by decide) rfl ?_
  refine qa_nmM (fun μ1 em1 => ?_)
  have h := h μ1 em1
  have hp1 : qa_PP μ1.2.2 := by rw [em1]; exact hp0
  refine qa_fgt (L' := [some (.ref 27)]) (⟨rfl, trivial⟩) ?_
  refine tX2_readWord_5 l  n  μ1 hp1  h
def wX2_readNumber_10 : Nat → qa_M → (qa_M → Prop) → Prop
  | 0, _, _ => False
  | n + 1, μ0, Q => (((μ0.1 27 1) ≤ (μ0.1 27 5) → Q μ0) ∧ (¬ (μ0.1 27 1) ≤ (μ0.1 27 5) → vp_in (μ0.1 27 5) 800 ∧ wX2_isDigit n (μ0.1 2 (μ0.1 27 5).toNatClampNeg) μ0 (fun r4 μ4 => ((r4 = 0 → Q μ4) ∧ (¬ r4 = 0 → vp_in (μ4.1 27 5) 800 ∧ wJ9_min_7cf53 n (1000000 : Int32) ((((μ4.1 27 6) * (10 : Int32)) + (μ4.1 2 (μ4.1 27 5).toNatClampNeg)) - (48 : Int32)) μ4 (fun r6 μ6 => ∀ μ7, μ7 = qa_uI μ6 27 6 r6 → ∀ μ8, μ8 = qa_uI μ7 27 5 ((μ7.1 27 5) + (1 : Int32)) → wX2_readNumber_10 n  μ8 Q))))))
def wX2_readNumber (n : Nat)  (μ0 : qa_M) (Q : qa_M → Prop) : Prop := ∀ μ1, μ1 = qa_uI μ0 27 3 (2 : Int32) → ∀ μ2, μ2 = qa_uI μ1 27 6 (0 : Int32) → wX2_readNumber_10 n  μ2  Q
theorem tX2_readNumber_10 (l : Launch)  {Q : qa_M → Prop}  : ∀ (n : Nat)  (μ0 : qa_M), qa_PP μ0.2.2 → wX2_readNumber_10 n  μ0  Q → qa_G l yX2_readNumber cX2_readNumber 1 none 1 0 0 (qa_pV Q) 0 0 10 [some (.ref 27)] [] 113 μ0 := by
  intro n
  induction n with
  | zero =>
    intro  μ0 hp0  h
    rw [wX2_readNumber_10] at h
    exact h.elim
  | succ n ih =>
    intro  μ0 hp0  h
    rw [wX2_readNumber_10] at h
    refine qa_ald0 dX2_readNumber_10 ?_
    refine qa_getI dX2_readNumber_11 lf_X2_35 (Or.inl rfl) sh_27 (by decide) ?_
    refine qa_ald0 dX2_readNumber_14 ?_
    refine qa_getI dX2_readNumber_15 lf_X2_32 (Or.inl rfl) sh_27 (by decide) ?_
    refine qa_icmp_ge (tgt := 78) dX2_readNumber_18 (by decide) (fun c3 => ?_) (fun c3 => ?_)
    · have h := h.1 c3
      exact qa_vret rfl dX2_readNumber_78 ⟨rfl, rfl⟩ ⟨rfl, hp0, rfl, h⟩
    · have h := h.2 c3
      refine qa_ald0 dX2_readNumber_21 ?_
      refine qa_getR dX2_readNumber_22 lf_X2_18 rfl sh_27 (by decide) (pp_27_0 hp0) (by decide) ?_
      refine qa_ald0 dX2_readNumber_25 ?_
      refine qa_getI dX2_readNumber_26 lf_X2_35 (Or.inl rfl) sh_27 (by decide) ?_
      refine qa_bald dX2_readNumber_29 sh_2 (by decide) h.1 ?_
      have h := h.2
      refine qa_S1I dX2_readNumber_30 lm_X2_189  (by decide) (Nat.le_of_ble_eq_true rfl) (tX2_isDigit l hp0  h) (fun r4 μ4 hp4 h => ?_)
      refine qa_if_eq (tgt := 78) dX2_readNumber_33 (by decide) (fun c5 => ?_) (fun c5 => ?_)
      · have h := h.1 c5
        exact qa_vret rfl dX2_readNumber_78 ⟨rfl, rfl⟩ ⟨rfl, hp4, rfl, h⟩
      · have h := h.2 c5
        refine qa_ald0 dX2_readNumber_36 ?_
        refine qa_ldc dX2_readNumber_37 lk_X2_195 ?_
        refine qa_ald0 dX2_readNumber_39 ?_
        refine qa_getI dX2_readNumber_40 lf_X2_167 (Or.inl rfl) sh_27 (by decide) ?_
        refine qa_bipush (v := 10) dX2_readNumber_43 (by decide) ?_
        refine qa_imul dX2_readNumber_45 ?_
        refine qa_ald0 dX2_readNumber_46 ?_
        refine qa_getR dX2_readNumber_47 lf_X2_18 rfl sh_27 (by decide) (pp_27_0 hp4) (by decide) ?_
        refine qa_ald0 dX2_readNumber_50 ?_
        refine qa_getI dX2_readNumber_51 lf_X2_35 (Or.inl rfl) sh_27 (by decide) ?_
        refine qa_bald dX2_readNumber_54 sh_2 (by decide) h.1 ?_
        have h := h.2
        refine qa_iadd dX2_readNumber_55 ?_
        refine qa_bipush (v := 48) dX2_readNumber_56 (by decide) ?_
        refine qa_isub dX2_readNumber_58 ?_
        refine qa_S2I dX2_readNumber_59 lm_X2_26  (by decide) (Nat.le_of_ble_eq_true rfl) (tJ9_min_7cf53 l hp4  h) (fun r6 μ6 hp6 h => ?_)
        refine qa_putI dX2_readNumber_62 lf_X2_167 rfl sh_27 (by decide) rfl ?_
        refine qa_nmM (fun μ7 em7 => ?_)
        have h := h μ7 em7
        have hp7 : qa_PP μ7.2.2 := by rw [em7]; exact hp6
        refine qa_ald0 dX2_readNumber_65 ?_
        refine qa_dup dX2_readNumber_66 rfl ?_
        refine qa_getI dX2_readNumber_67 lf_X2_35 (Or.inl rfl) sh_27 (by decide) ?_
        refine qa_iconst (v := 1) dX2_readNumber_70 (by decide) ?_
        refine qa_iadd dX2_readNumber_71 ?_
        refine qa_putI dX2_readNumber_72 lf_X2_35 rfl sh_27 (by decide) rfl ?_
        refine qa_nmM (fun μ8 em8 => ?_)
        have h := h μ8 em8
        have hp8 : qa_PP μ8.2.2 := by rw [em8]; exact hp7
        refine qa_goto (tgt := 10) dX2_readNumber_75 (by decide) ?_
        refine qa_fgt (L' := [some (.ref 27)]) (⟨rfl, trivial⟩) ?_
        exact ih  μ8 hp8  h
theorem tX2_readNumber (l : Launch) {n : Nat}  {μ0 : qa_M} {Q : qa_M → Prop} (hp0 : qa_PP μ0.2.2)  (h : wX2_readNumber n  μ0 Q) : qa_Met l yX2_readNumber cX2_readNumber 1 none 1 0 0 [.ref 27] 113 μ0 (qa_pV Q) := by
  refine qa_ofG (by decide) (by decide) ?_
  unfold wX2_readNumber at h
  change qa_G l yX2_readNumber cX2_readNumber 1 none 1 0 0 (qa_pV Q) 0 0 0 [some (.ref 27)] [] 113 μ0
  refine qa_ald0 dX2_readNumber_0 ?_
  refine qa_iconst (v := 2) dX2_readNumber_1 (by decide) ?_
  refine qa_putI dX2_readNumber_2 lf_X2_41 rfl sh_27 (by decide) rfl ?_
  refine qa_nmM (fun μ1 em1 => ?_)
  have h := h μ1 em1
  have hp1 : qa_PP μ1.2.2 := by rw [em1]; exact hp0
  refine qa_ald0 dX2_readNumber_5 ?_
  refine qa_iconst (v := 0) dX2_readNumber_6 (by decide) ?_
  refine qa_putI dX2_readNumber_7 lf_X2_167 rfl sh_27 (by decide) rfl ?_
  refine qa_nmM (fun μ2 em2 => ?_)
  have h := h μ2 em2
  have hp2 : qa_PP μ2.2.2 := by rw [em2]; exact hp1
  refine qa_fgt (L' := [some (.ref 27)]) (⟨rfl, trivial⟩) ?_
  refine tX2_readNumber_10 l  n  μ2 hp2  h
def wX2_step_47 (n : Nat)  (μ0 : qa_M) (K0 : qa_M → Prop) (Q : qa_M → Prop) : Prop := ∀ μ4, μ4 = qa_uI μ0 27 4 ((μ0.1 27 4) + (1 : Int32)) → K0  μ4
def wX2_step_8 : Nat → qa_M → (qa_M → Prop) → (qa_M → Prop) → Prop
  | 0, _, _, _ => False
  | n + 1, μ0, K0, Q => (((μ0.1 27 1) ≤ (μ0.1 27 4) → K0  μ0) ∧ (¬ (μ0.1 27 1) ≤ (μ0.1 27 4) → vp_in (μ0.1 27 4) 800 ∧ (((μ0.1 2 (μ0.1 27 4).toNatClampNeg) = (32 : Int32) → wX2_step_47 n  μ0 (fun  μk => wX2_step_8 n  μk K0 Q) Q) ∧ (¬ (μ0.1 2 (μ0.1 27 4).toNatClampNeg) = (32 : Int32) → vp_in (μ0.1 27 4) 800 ∧ ((¬ (μ0.1 2 (μ0.1 27 4).toNatClampNeg) = (10 : Int32) → K0  μ0) ∧ ((μ0.1 2 (μ0.1 27 4).toNatClampNeg) = (10 : Int32) → wX2_step_47 n  μ0 (fun  μk => wX2_step_8 n  μk K0 Q) Q))))))
def wX2_step_151 (n : Nat) (s0 : Int32) (μ0 : qa_M)  (Q : qa_M → Prop) : Prop := ∀ μ15, μ15 = qa_uI μ0 27 3 s0 → ∀ μ16, μ16 = qa_uI μ15 27 5 ((μ15.1 27 5) + (1 : Int32)) → Q μ16
def wX2_step (n : Nat)  (μ0 : qa_M) (Q : qa_M → Prop) : Prop := ∀ μ1, μ1 = qa_uI μ0 27 4 (μ0.1 27 5) → wX2_step_8 n  μ1 (fun  μ6 => ∀ μ8, μ8 = qa_uI μ6 27 5 (μ6.1 27 4) → (((μ8.1 27 4) < (μ8.1 27 1) → vp_in (μ8.1 27 4) 800 ∧ wX2_isLowerCase n (μ8.1 2 (μ8.1 27 4).toNatClampNeg) μ8 (fun r10 μ10 => ((r10 = 0 → vp_in (μ10.1 27 4) 800 ∧ wX2_isDigit n (μ10.1 2 (μ10.1 27 4).toNatClampNeg) μ10 (fun r12 μ12 => ((r12 = 0 → vp_in (μ12.1 27 4) 800 ∧ ((¬ (μ12.1 2 (μ12.1 27 4).toNatClampNeg) = (59 : Int32) → wX2_step_151 n (4 : Int32) μ12  Q) ∧ ((μ12.1 2 (μ12.1 27 4).toNatClampNeg) = (59 : Int32) → wX2_step_151 n (3 : Int32) μ12  Q))) ∧ (¬ r12 = 0 → wX2_readNumber n  μ12 (fun μ17 => Q μ17))))) ∧ (¬ r10 = 0 → wX2_readWord n  μ10 (fun μ18 => Q μ18))))) ∧ (¬ (μ8.1 27 4) < (μ8.1 27 1) → ∀ μ19, μ19 = qa_uI μ8 27 3 (0 : Int32) → Q μ19))) Q
theorem tX2_step_47 (l : Launch) {K0 : qa_M → Prop} {Q : qa_M → Prop} (hK0 : ∀  (μ : qa_M), qa_PP μ.2.2 → K0  μ → qa_G l yX2_step cX2_step 1 none 2 0 0 (qa_pV Q) 0 0 8 [some (.ref 27)] [] 113 μ) : ∀ (n : Nat)  (μ0 : qa_M), qa_PP μ0.2.2 → wX2_step_47 n  μ0 K0 Q → qa_G l yX2_step cX2_step 1 none 2 0 0 (qa_pV Q) 0 0 47 [some (.ref 27)] [] 113 μ0 := by
  intro n
  intro  μ0 hp0  h
  unfold wX2_step_47 at h
  refine qa_ald0 dX2_step_47 ?_
  refine qa_dup dX2_step_48 rfl ?_
  refine qa_getI dX2_step_49 lf_X2_170 (Or.inl rfl) sh_27 (by decide) ?_
  refine qa_iconst (v := 1) dX2_step_52 (by decide) ?_
  refine qa_iadd dX2_step_53 ?_
  refine qa_putI dX2_step_54 lf_X2_170 rfl sh_27 (by decide) rfl ?_
  refine qa_nmM (fun μ4 em4 => ?_)
  have h := h μ4 em4
  have hp4 : qa_PP μ4.2.2 := by rw [em4]; exact hp0
  refine qa_goto (tgt := 8) dX2_step_57 (by decide) ?_
  refine qa_fgt (L' := [some (.ref 27)]) (⟨rfl, trivial⟩) ?_
  exact hK0  μ4 hp4  h
theorem tX2_step_8 (l : Launch) {K0 : qa_M → Prop} {Q : qa_M → Prop} (hK0 : ∀  (μ : qa_M), qa_PP μ.2.2 → K0  μ → qa_G l yX2_step cX2_step 1 none 2 0 0 (qa_pV Q) 0 0 60 [some (.ref 27)] [] 113 μ) : ∀ (n : Nat)  (μ0 : qa_M), qa_PP μ0.2.2 → wX2_step_8 n  μ0 K0 Q → qa_G l yX2_step cX2_step 1 none 2 0 0 (qa_pV Q) 0 0 8 [some (.ref 27)] [] 113 μ0 := by
  intro n
  induction n with
  | zero =>
    intro  μ0 hp0  h
    rw [wX2_step_8] at h
    exact h.elim
  | succ n ih =>
    intro  μ0 hp0  h
    rw [wX2_step_8] at h
    refine qa_ald0 dX2_step_8 ?_
    refine qa_getI dX2_step_9 lf_X2_170 (Or.inl rfl) sh_27 (by decide) ?_
    refine qa_ald0 dX2_step_12 ?_
    refine qa_getI dX2_step_13 lf_X2_32 (Or.inl rfl) sh_27 (by decide) ?_
    refine qa_icmp_ge (tgt := 60) dX2_step_16 (by decide) (fun c2 => ?_) (fun c2 => ?_)
    · have h := h.1 c2
      refine qa_fgt (L' := [some (.ref 27)]) (⟨rfl, trivial⟩) ?_
      exact hK0  μ0 hp0  h
    · have h := h.2 c2
      refine qa_ald0 dX2_step_19 ?_
      refine qa_getR dX2_step_20 lf_X2_18 rfl sh_27 (by decide) (pp_27_0 hp0) (by decide) ?_
      refine qa_ald0 dX2_step_23 ?_
      refine qa_getI dX2_step_24 lf_X2_170 (Or.inl rfl) sh_27 (by decide) ?_
      refine qa_bald dX2_step_27 sh_2 (by decide) h.1 ?_
      have h := h.2
      refine qa_bipush (v := 32) dX2_step_28 (by decide) ?_
      refine qa_icmp_eq (tgt := 47) dX2_step_30 (by decide) (fun c3 => ?_) (fun c3 => ?_)
      · have h := h.1 c3
        refine qa_fgt (L' := [some (.ref 27)]) (⟨rfl, trivial⟩) ?_
        refine tX2_step_47 l ih n  μ0 hp0  h
      · have h := h.2 c3
        refine qa_ald0 dX2_step_33 ?_
        refine qa_getR dX2_step_34 lf_X2_18 rfl sh_27 (by decide) (pp_27_0 hp0) (by decide) ?_
        refine qa_ald0 dX2_step_37 ?_
        refine qa_getI dX2_step_38 lf_X2_170 (Or.inl rfl) sh_27 (by decide) ?_
        refine qa_bald dX2_step_41 sh_2 (by decide) h.1 ?_
        have h := h.2
        refine qa_bipush (v := 10) dX2_step_42 (by decide) ?_
        refine qa_icmp_ne (tgt := 60) dX2_step_44 (by decide) (fun c5 => ?_) (fun c5 => ?_)
        · have h := h.1 c5
          refine qa_fgt (L' := [some (.ref 27)]) (⟨rfl, trivial⟩) ?_
          exact hK0  μ0 hp0  h
        · have h := h.2 c5
          refine qa_fgt (L' := [some (.ref 27)]) (⟨rfl, trivial⟩) ?_
          refine tX2_step_47 l ih n  μ0 hp0  h
theorem tX2_step_151 (l : Launch)  {Q : qa_M → Prop}  : ∀ (n : Nat) (s0 : Int32) (μ0 : qa_M), qa_PP μ0.2.2 → wX2_step_151 n s0 μ0  Q → qa_G l yX2_step cX2_step 1 none 2 0 0 (qa_pV Q) 0 0 151 [some (.ref 27)] [.int s0, .ref 27] 113 μ0 := by
  intro n
  intro s0 μ0 hp0  h
  unfold wX2_step_151 at h
  refine qa_putI dX2_step_151 lf_X2_41 rfl sh_27 (by decide) rfl ?_
  refine qa_nmM (fun μ15 em15 => ?_)
  have h := h μ15 em15
  have hp15 : qa_PP μ15.2.2 := by rw [em15]; exact hp0
  refine qa_ald0 dX2_step_154 ?_
  refine qa_dup dX2_step_155 rfl ?_
  refine qa_getI dX2_step_156 lf_X2_35 (Or.inl rfl) sh_27 (by decide) ?_
  refine qa_iconst (v := 1) dX2_step_159 (by decide) ?_
  refine qa_iadd dX2_step_160 ?_
  refine qa_putI dX2_step_161 lf_X2_35 rfl sh_27 (by decide) rfl ?_
  refine qa_nmM (fun μ16 em16 => ?_)
  have h := h μ16 em16
  have hp16 : qa_PP μ16.2.2 := by rw [em16]; exact hp15
  exact qa_vret rfl dX2_step_164 ⟨rfl, rfl⟩ ⟨rfl, hp16, rfl, h⟩
theorem tX2_step (l : Launch) {n : Nat}  {μ0 : qa_M} {Q : qa_M → Prop} (hp0 : qa_PP μ0.2.2)  (h : wX2_step n  μ0 Q) : qa_Met l yX2_step cX2_step 1 none 2 0 0 [.ref 27] 113 μ0 (qa_pV Q) := by
  refine qa_ofG (by decide) (by decide) ?_
  unfold wX2_step at h
  change qa_G l yX2_step cX2_step 1 none 2 0 0 (qa_pV Q) 0 0 0 [some (.ref 27)] [] 113 μ0
  refine qa_ald0 dX2_step_0 ?_
  refine qa_ald0 dX2_step_1 ?_
  refine qa_getI dX2_step_2 lf_X2_35 (Or.inl rfl) sh_27 (by decide) ?_
  refine qa_putI dX2_step_5 lf_X2_170 rfl sh_27 (by decide) rfl ?_
  refine qa_nmM (fun μ1 em1 => ?_)
  have h := h μ1 em1
  have hp1 : qa_PP μ1.2.2 := by rw [em1]; exact hp0
  refine qa_fgt (L' := [some (.ref 27)]) (⟨rfl, trivial⟩) ?_
  refine tX2_step_8 l ?_ n  μ1 hp1  h
  · intro  μ6 hp6  h
    refine qa_ald0 dX2_step_60 ?_
    refine qa_ald0 dX2_step_61 ?_
    refine qa_getI dX2_step_62 lf_X2_170 (Or.inl rfl) sh_27 (by decide) ?_
    refine qa_putI dX2_step_65 lf_X2_35 rfl sh_27 (by decide) rfl ?_
    refine qa_nmM (fun μ8 em8 => ?_)
    have h := h μ8 em8
    have hp8 : qa_PP μ8.2.2 := by rw [em8]; exact hp6
    refine qa_ald0 dX2_step_68 ?_
    refine qa_getI dX2_step_69 lf_X2_170 (Or.inl rfl) sh_27 (by decide) ?_
    refine qa_ald0 dX2_step_72 ?_
    refine qa_getI dX2_step_73 lf_X2_32 (Or.inl rfl) sh_27 (by decide) ?_
    refine qa_icmp_lt (tgt := 87) dX2_step_76 (by decide) (fun c9 => ?_) (fun c9 => ?_)
    · have h := h.1 c9
      refine qa_ald0 dX2_step_87 ?_
      refine qa_getR dX2_step_88 lf_X2_18 rfl sh_27 (by decide) (pp_27_0 hp8) (by decide) ?_
      refine qa_ald0 dX2_step_91 ?_
      refine qa_getI dX2_step_92 lf_X2_170 (Or.inl rfl) sh_27 (by decide) ?_
      refine qa_bald dX2_step_95 sh_2 (by decide) h.1 ?_
      have h := h.2
      refine qa_S1I dX2_step_96 lm_X2_182  (by decide) (Nat.le_of_ble_eq_true rfl) (tX2_isLowerCase l hp8  h) (fun r10 μ10 hp10 h => ?_)
      refine qa_if_eq (tgt := 109) dX2_step_99 (by decide) (fun c11 => ?_) (fun c11 => ?_)
      · have h := h.1 c11
        refine qa_ald0 dX2_step_109 ?_
        refine qa_getR dX2_step_110 lf_X2_18 rfl sh_27 (by decide) (pp_27_0 hp10) (by decide) ?_
        refine qa_ald0 dX2_step_113 ?_
        refine qa_getI dX2_step_114 lf_X2_170 (Or.inl rfl) sh_27 (by decide) ?_
        refine qa_bald dX2_step_117 sh_2 (by decide) h.1 ?_
        have h := h.2
        refine qa_S1I dX2_step_118 lm_X2_189  (by decide) (Nat.le_of_ble_eq_true rfl) (tX2_isDigit l hp10  h) (fun r12 μ12 hp12 h => ?_)
        refine qa_if_eq (tgt := 131) dX2_step_121 (by decide) (fun c13 => ?_) (fun c13 => ?_)
        · have h := h.1 c13
          refine qa_ald0 dX2_step_131 ?_
          refine qa_ald0 dX2_step_132 ?_
          refine qa_getR dX2_step_133 lf_X2_18 rfl sh_27 (by decide) (pp_27_0 hp12) (by decide) ?_
          refine qa_ald0 dX2_step_136 ?_
          refine qa_getI dX2_step_137 lf_X2_170 (Or.inl rfl) sh_27 (by decide) ?_
          refine qa_bald dX2_step_140 sh_2 (by decide) h.1 ?_
          have h := h.2
          refine qa_bipush (v := 59) dX2_step_141 (by decide) ?_
          refine qa_icmp_ne (tgt := 150) dX2_step_143 (by decide) (fun c14 => ?_) (fun c14 => ?_)
          · have h := h.1 c14
            refine qa_iconst (v := 4) dX2_step_150 (by decide) ?_
            refine qa_fgt (L' := [some (.ref 27)]) (⟨rfl, trivial⟩) ?_
            refine tX2_step_151 l  n (4 : Int32) μ12 hp12  h
          · have h := h.2 c14
            refine qa_iconst (v := 3) dX2_step_146 (by decide) ?_
            refine qa_goto (tgt := 151) dX2_step_147 (by decide) ?_
            refine qa_fgt (L' := [some (.ref 27)]) (⟨rfl, trivial⟩) ?_
            refine tX2_step_151 l  n (3 : Int32) μ12 hp12  h
        · have h := h.2 c13
          refine qa_ald0 dX2_step_124 ?_
          refine qa_V0V dX2_step_125 lm_X2_192 sh_27 rfl (by decide) (by decide) (Nat.le_of_ble_eq_true rfl) (tX2_readNumber l hp12  h) (fun μ17 hp17 h => ?_)
          refine qa_goto (tgt := 164) dX2_step_128 (by decide) ?_
          exact qa_vret rfl dX2_step_164 ⟨rfl, rfl⟩ ⟨rfl, hp17, rfl, h⟩
      · have h := h.2 c11
        refine qa_ald0 dX2_step_102 ?_
        refine qa_V0V dX2_step_103 lm_X2_186 sh_27 rfl (by decide) (by decide) (Nat.le_of_ble_eq_true rfl) (tX2_readWord l hp10  h) (fun μ18 hp18 h => ?_)
        refine qa_goto (tgt := 164) dX2_step_106 (by decide) ?_
        exact qa_vret rfl dX2_step_164 ⟨rfl, rfl⟩ ⟨rfl, hp18, rfl, h⟩
    · have h := h.2 c9
      refine qa_ald0 dX2_step_79 ?_
      refine qa_iconst (v := 0) dX2_step_80 (by decide) ?_
      refine qa_putI dX2_step_81 lf_X2_41 rfl sh_27 (by decide) rfl ?_
      refine qa_nmM (fun μ19 em19 => ?_)
      have h := h μ19 em19
      have hp19 : qa_PP μ19.2.2 := by rw [em19]; exact hp8
      refine qa_goto (tgt := 164) dX2_step_84 (by decide) ?_
      exact qa_vret rfl dX2_step_164 ⟨rfl, rfl⟩ ⟨rfl, hp19, rfl, h⟩
def wX2_takeWord (n : Nat) (v1 : Nat) (μ0 : qa_M) (Q : qa_M → Prop) : Prop := (((μ0.1 27 7) = 0 → wX2_isWord n v1 μ0 (fun r2 μ2 => ((r2 = 0 → wX2_fail n (1 : Int32) μ2 (fun μ4 => Q μ4)) ∧ (¬ r2 = 0 → wX2_step n  μ2 (fun μ5 => Q μ5))))) ∧ (¬ (μ0.1 27 7) = 0 → Q μ0))
theorem tX2_takeWord (l : Launch) {n : Nat} {v1 : Nat} {μ0 : qa_M} {Q : qa_M → Prop} (hp0 : qa_PP μ0.2.2) (k1 : v1 < 30) (h : wX2_takeWord n v1 μ0 Q) : qa_Met l yX2_takeWord cX2_takeWord 2 none 6 0 0 [.ref 27, .ref (2000 + v1)] 113 μ0 (qa_pV Q) := by
  refine qa_ofG (by decide) (by decide) ?_
  unfold wX2_takeWord at h
  change qa_G l yX2_takeWord cX2_takeWord 2 none 6 0 0 (qa_pV Q) 0 0 0 [some (.ref 27), some (.ref (2000 + v1))] [] 113 μ0
  refine qa_ald0 dX2_takeWord_0 ?_
  refine qa_getI dX2_takeWord_1 lf_X2_9 (Or.inl rfl) sh_27 (by decide) ?_
  refine qa_if_eq (tgt := 8) dX2_takeWord_4 (by decide) (fun c1 => ?_) (fun c1 => ?_)
  · have h := h.1 c1
    refine qa_ald0 dX2_takeWord_8 ?_
    refine qa_ald1 dX2_takeWord_9 ?_
    refine qa_V1I dX2_takeWord_10 lm_X2_57 sh_27 rfl (by decide) (by decide) (Nat.le_of_ble_eq_true rfl) (tX2_isWord l hp0 k1 h) (fun r2 μ2 hp2 h => ?_)
    refine qa_if_eq (tgt := 23) dX2_takeWord_13 (by decide) (fun c3 => ?_) (fun c3 => ?_)
    · have h := h.1 c3
      refine qa_ald0 dX2_takeWord_23 ?_
      refine qa_iconst (v := 1) dX2_takeWord_24 (by decide) ?_
      refine qa_V1V dX2_takeWord_25 lm_X2_79 sh_27 rfl (by decide) (by decide) (Nat.le_of_ble_eq_true rfl) (tX2_fail l hp2  h) (fun μ4 hp4 h => ?_)
      exact qa_vret rfl dX2_takeWord_28 ⟨rfl, rfl⟩ ⟨rfl, hp4, rfl, h⟩
    · have h := h.2 c3
      refine qa_ald0 dX2_takeWord_16 ?_
      refine qa_V0V dX2_takeWord_17 lm_X2_38 sh_27 rfl (by decide) (by decide) (Nat.le_of_ble_eq_true rfl) (tX2_step l hp2  h) (fun μ5 hp5 h => ?_)
      refine qa_goto (tgt := 28) dX2_takeWord_20 (by decide) ?_
      exact qa_vret rfl dX2_takeWord_28 ⟨rfl, rfl⟩ ⟨rfl, hp5, rfl, h⟩
  · have h := h.2 c1
    exact qa_vret rfl dX2_takeWord_7 ⟨rfl, rfl⟩ ⟨rfl, hp0, rfl, h⟩
def wX2_takeNumber (n : Nat) (v1 : Int32) (v2 : Int32) (μ0 : qa_M) (Q : Int32 → qa_M → Prop) : Prop := (((μ0.1 27 7) = 0 → (((μ0.1 27 3) = (2 : Int32) → (((μ0.1 27 6) < v1 → wX2_fail n (2 : Int32) μ0 (fun μ4 => Q v1 μ4)) ∧ (¬ (μ0.1 27 6) < v1 → (((μ0.1 27 6) ≤ v2 → ∀ x6, x6 = (μ0.1 27 6) → wX2_step n  μ0 (fun μ7 => Q x6 μ7)) ∧ (¬ (μ0.1 27 6) ≤ v2 → wX2_fail n (2 : Int32) μ0 (fun μ8 => Q v1 μ8)))))) ∧ (¬ (μ0.1 27 3) = (2 : Int32) → wX2_fail n (1 : Int32) μ0 (fun μ9 => Q v1 μ9)))) ∧ (¬ (μ0.1 27 7) = 0 → Q v1 μ0))
theorem tX2_takeNumber (l : Launch) {n : Nat} {v1 : Int32} {v2 : Int32} {μ0 : qa_M} {Q : Int32 → qa_M → Prop} (hp0 : qa_PP μ0.2.2)  (h : wX2_takeNumber n v1 v2 μ0 Q) : qa_Met l yX2_takeNumber cX2_takeNumber 4 (some .int) 3 0 0 [.ref 27, .int v1, .int v2] 113 μ0 (qa_pI Q) := by
  refine qa_ofG (by decide) (by decide) ?_
  unfold wX2_takeNumber at h
  change qa_G l yX2_takeNumber cX2_takeNumber 4 (some .int) 3 0 0 (qa_pI Q) 0 0 0 [some (.ref 27), some (.int v1), some (.int v2), none] [] 113 μ0
  refine qa_ald0 dX2_takeNumber_0 ?_
  refine qa_getI dX2_takeNumber_1 lf_X2_9 (Or.inl rfl) sh_27 (by decide) ?_
  refine qa_if_eq (tgt := 9) dX2_takeNumber_4 (by decide) (fun c1 => ?_) (fun c1 => ?_)
  · have h := h.1 c1
    refine qa_ald0 dX2_takeNumber_9 ?_
    refine qa_getI dX2_takeNumber_10 lf_X2_41 (Or.inl rfl) sh_27 (by decide) ?_
    refine qa_iconst (v := 2) dX2_takeNumber_13 (by decide) ?_
    refine qa_icmp_eq (tgt := 24) dX2_takeNumber_14 (by decide) (fun c2 => ?_) (fun c2 => ?_)
    · have h := h.1 c2
      refine qa_ald0 dX2_takeNumber_24 ?_
      refine qa_getI dX2_takeNumber_25 lf_X2_167 (Or.inl rfl) sh_27 (by decide) ?_
      refine qa_ild1 dX2_takeNumber_28 ?_
      refine qa_icmp_lt (tgt := 40) dX2_takeNumber_29 (by decide) (fun c3 => ?_) (fun c3 => ?_)
      · have h := h.1 c3
        refine qa_ald0 dX2_takeNumber_40 ?_
        refine qa_iconst (v := 2) dX2_takeNumber_41 (by decide) ?_
        refine qa_V1V dX2_takeNumber_42 lm_X2_79 sh_27 rfl (by decide) (by decide) (Nat.le_of_ble_eq_true rfl) (tX2_fail l hp0  h) (fun μ4 hp4 h => ?_)
        refine qa_ild1 dX2_takeNumber_45 ?_
        exact qa_iret rfl dX2_takeNumber_46 ⟨rfl, rfl⟩ ⟨rfl, hp4, _, rfl, h⟩
      · have h := h.2 c3
        refine qa_ald0 dX2_takeNumber_32 ?_
        refine qa_getI dX2_takeNumber_33 lf_X2_167 (Or.inl rfl) sh_27 (by decide) ?_
        refine qa_ild2 dX2_takeNumber_36 ?_
        refine qa_icmp_le (tgt := 47) dX2_takeNumber_37 (by decide) (fun c5 => ?_) (fun c5 => ?_)
        · have h := h.1 c5
          refine qa_ald0 dX2_takeNumber_47 ?_
          refine qa_getI dX2_takeNumber_48 lf_X2_167 (Or.inl rfl) sh_27 (by decide) ?_
          refine qa_nmI (fun x6 e6 => ?_)
          have h := h x6 e6
          refine qa_ist3 dX2_takeNumber_51 ?_
          refine qa_ald0 dX2_takeNumber_52 ?_
          refine qa_V0V dX2_takeNumber_53 lm_X2_38 sh_27 rfl (by decide) (by decide) (Nat.le_of_ble_eq_true rfl) (tX2_step l hp0  h) (fun μ7 hp7 h => ?_)
          refine qa_ild3 dX2_takeNumber_56 ?_
          exact qa_iret rfl dX2_takeNumber_57 ⟨rfl, rfl⟩ ⟨rfl, hp7, _, rfl, h⟩
        · have h := h.2 c5
          refine qa_ald0 dX2_takeNumber_40 ?_
          refine qa_iconst (v := 2) dX2_takeNumber_41 (by decide) ?_
          refine qa_V1V dX2_takeNumber_42 lm_X2_79 sh_27 rfl (by decide) (by decide) (Nat.le_of_ble_eq_true rfl) (tX2_fail l hp0  h) (fun μ8 hp8 h => ?_)
          refine qa_ild1 dX2_takeNumber_45 ?_
          exact qa_iret rfl dX2_takeNumber_46 ⟨rfl, rfl⟩ ⟨rfl, hp8, _, rfl, h⟩
    · have h := h.2 c2
      refine qa_ald0 dX2_takeNumber_17 ?_
      refine qa_iconst (v := 1) dX2_takeNumber_18 (by decide) ?_
      refine qa_V1V dX2_takeNumber_19 lm_X2_79 sh_27 rfl (by decide) (by decide) (Nat.le_of_ble_eq_true rfl) (tX2_fail l hp0  h) (fun μ9 hp9 h => ?_)
      refine qa_ild1 dX2_takeNumber_22 ?_
      exact qa_iret rfl dX2_takeNumber_23 ⟨rfl, rfl⟩ ⟨rfl, hp9, _, rfl, h⟩
  · have h := h.2 c1
    refine qa_ild1 dX2_takeNumber_7 ?_
    exact qa_iret rfl dX2_takeNumber_8 ⟨rfl, rfl⟩ ⟨rfl, hp0, _, rfl, h⟩
def wX2_takeNumberOf (n : Nat) (v1 : Nat) (v2 : Int32) (v3 : Int32) (μ0 : qa_M) (Q : Int32 → qa_M → Prop) : Prop := wX2_takeWord n v1 μ0 (fun μ1 => wX2_takeNumber n v2 v3 μ1 (fun r2 μ2 => Q r2 μ2))
theorem tX2_takeNumberOf (l : Launch) {n : Nat} {v1 : Nat} {v2 : Int32} {v3 : Int32} {μ0 : qa_M} {Q : Int32 → qa_M → Prop} (hp0 : qa_PP μ0.2.2) (k1 : v1 < 30) (h : wX2_takeNumberOf n v1 v2 v3 μ0 Q) : qa_Met l yX2_takeNumberOf cX2_takeNumberOf 4 (some .int) 7 0 0 [.ref 27, .ref (2000 + v1), .int v2, .int v3] 113 μ0 (qa_pI Q) := by
  refine qa_ofG (by decide) (by decide) ?_
  unfold wX2_takeNumberOf at h
  change qa_G l yX2_takeNumberOf cX2_takeNumberOf 4 (some .int) 7 0 0 (qa_pI Q) 0 0 0 [some (.ref 27), some (.ref (2000 + v1)), some (.int v2), some (.int v3)] [] 113 μ0
  refine qa_ald0 dX2_takeNumberOf_0 ?_
  refine qa_ald1 dX2_takeNumberOf_1 ?_
  refine qa_V1V dX2_takeNumberOf_2 lm_X2_88 sh_27 rfl (by decide) (by decide) (Nat.le_of_ble_eq_true rfl) (tX2_takeWord l hp0 k1 h) (fun μ1 hp1 h => ?_)
  refine qa_ald0 dX2_takeNumberOf_5 ?_
  refine qa_ild2 dX2_takeNumberOf_6 ?_
  refine qa_ild3 dX2_takeNumberOf_7 ?_
  refine qa_V2I dX2_takeNumberOf_8 lm_X2_132 sh_27 rfl (by decide) (by decide) (Nat.le_of_ble_eq_true rfl) (tX2_takeNumber l hp1  h) (fun r2 μ2 hp2 h => ?_)
  exact qa_iret rfl dX2_takeNumberOf_11 ⟨rfl, rfl⟩ ⟨rfl, hp2, _, rfl, h⟩
def wX2_readTown (n : Nat)  (μ0 : qa_M) (Q : qa_M → Prop) : Prop := wX2_takeWord n 0 μ0 (fun μ1 => wX2_takeNumberOf n 1 (1 : Int32) (20 : Int32) μ1 (fun r2 μ2 => ∀ μ3, μ3 = qa_uI μ2 (μ1.2.2 27 2) 1 r2 → wX2_takeNumberOf n 2 (0 : Int32) (3 : Int32) μ3 (fun r4 μ4 => ∀ μ5, μ5 = qa_uI μ4 (μ3.2.2 27 2) 2 r4 → wX2_takeNumberOf n 3 (1 : Int32) (30 : Int32) μ5 (fun r6 μ6 => ∀ μ7, μ7 = qa_uI μ6 (μ5.2.2 27 2) 3 r6 → wX2_takeNumberOf n 4 (0 : Int32) (10 : Int32) μ7 (fun r8 μ8 => ∀ μ9, μ9 = qa_uI μ8 (μ7.2.2 27 2) 4 r8 → Q μ9)))))
theorem tX2_readTown (l : Launch) {n : Nat}  {μ0 : qa_M} {Q : qa_M → Prop} (hp0 : qa_PP μ0.2.2)  (h : wX2_readTown n  μ0 Q) : qa_Met l yX2_readTown cX2_readTown 1 none 8 0 0 [.ref 27] 113 μ0 (qa_pV Q) := by
  refine qa_ofG (by decide) (by decide) ?_
  unfold wX2_readTown at h
  change qa_G l yX2_readTown cX2_readTown 1 none 8 0 0 (qa_pV Q) 0 0 0 [some (.ref 27)] [] 113 μ0
  refine qa_ald0 dX2_readTown_0 ?_
  refine qa_ldcS (i := 0) (tx := "town") dX2_readTown_1 (by decide) ?_
  refine qa_V1V dX2_readTown_3 lm_X2_88 sh_27 rfl (by decide) (by decide) (Nat.le_of_ble_eq_true rfl) (tX2_takeWord l hp0 (by decide) h) (fun μ1 hp1 h => ?_)
  refine qa_ald0 dX2_readTown_6 ?_
  refine qa_getR dX2_readTown_7 lf_X2_22 rfl sh_27 (by decide) rfl (qa_tw0 hp1.2.2.2) ?_
  refine qa_ald0 dX2_readTown_10 ?_
  refine qa_ldcS (i := 1) (tx := "weeks") dX2_readTown_11 (by decide) ?_
  refine qa_iconst (v := 1) dX2_readTown_13 (by decide) ?_
  refine qa_bipush (v := 20) dX2_readTown_14 (by decide) ?_
  refine qa_V3I dX2_readTown_16 lm_X2_94 sh_27 rfl (by decide) (by decide) (Nat.le_of_ble_eq_true rfl) (tX2_takeNumberOf l hp1 (by decide) h) (fun r2 μ2 hp2 h => ?_)
  refine qa_putI dX2_readTown_19 lf_X2_98 rfl (st_0 hp1.2.2.2) (lt_0 hp1.2.2.2) rfl ?_
  refine qa_nmM (fun μ3 em3 => ?_)
  have h := h μ3 em3
  have hp3 : qa_PP μ3.2.2 := by rw [em3]; exact hp2
  refine qa_ald0 dX2_readTown_22 ?_
  refine qa_getR dX2_readTown_23 lf_X2_22 rfl sh_27 (by decide) rfl (qa_tw0 hp3.2.2.2) ?_
  refine qa_ald0 dX2_readTown_26 ?_
  refine qa_ldcS (i := 2) (tx := "law") dX2_readTown_27 (by decide) ?_
  refine qa_iconst (v := 0) dX2_readTown_29 (by decide) ?_
  refine qa_iconst (v := 3) dX2_readTown_30 (by decide) ?_
  refine qa_V3I dX2_readTown_31 lm_X2_94 sh_27 rfl (by decide) (by decide) (Nat.le_of_ble_eq_true rfl) (tX2_takeNumberOf l hp3 (by decide) h) (fun r4 μ4 hp4 h => ?_)
  refine qa_putI dX2_readTown_34 lf_X2_102 rfl (st_0 hp3.2.2.2) (lt_0 hp3.2.2.2) rfl ?_
  refine qa_nmM (fun μ5 em5 => ?_)
  have h := h μ5 em5
  have hp5 : qa_PP μ5.2.2 := by rw [em5]; exact hp4
  refine qa_ald0 dX2_readTown_37 ?_
  refine qa_getR dX2_readTown_38 lf_X2_22 rfl sh_27 (by decide) rfl (qa_tw0 hp5.2.2.2) ?_
  refine qa_ald0 dX2_readTown_41 ?_
  refine qa_ldcS (i := 3) (tx := "heavy") dX2_readTown_42 (by decide) ?_
  refine qa_iconst (v := 1) dX2_readTown_44 (by decide) ?_
  refine qa_bipush (v := 30) dX2_readTown_45 (by decide) ?_
  refine qa_V3I dX2_readTown_47 lm_X2_94 sh_27 rfl (by decide) (by decide) (Nat.le_of_ble_eq_true rfl) (tX2_takeNumberOf l hp5 (by decide) h) (fun r6 μ6 hp6 h => ?_)
  refine qa_putI dX2_readTown_50 lf_X2_106 rfl (st_0 hp5.2.2.2) (lt_0 hp5.2.2.2) rfl ?_
  refine qa_nmM (fun μ7 em7 => ?_)
  have h := h μ7 em7
  have hp7 : qa_PP μ7.2.2 := by rw [em7]; exact hp6
  refine qa_ald0 dX2_readTown_53 ?_
  refine qa_getR dX2_readTown_54 lf_X2_22 rfl sh_27 (by decide) rfl (qa_tw0 hp7.2.2.2) ?_
  refine qa_ald0 dX2_readTown_57 ?_
  refine qa_ldcS (i := 4) (tx := "odds") dX2_readTown_58 (by decide) ?_
  refine qa_iconst (v := 0) dX2_readTown_60 (by decide) ?_
  refine qa_bipush (v := 10) dX2_readTown_61 (by decide) ?_
  refine qa_V3I dX2_readTown_63 lm_X2_94 sh_27 rfl (by decide) (by decide) (Nat.le_of_ble_eq_true rfl) (tX2_takeNumberOf l hp7 (by decide) h) (fun r8 μ8 hp8 h => ?_)
  refine qa_putI dX2_readTown_66 lf_X2_110 rfl (st_0 hp7.2.2.2) (lt_0 hp7.2.2.2) rfl ?_
  refine qa_nmM (fun μ9 em9 => ?_)
  have h := h μ9 em9
  have hp9 : qa_PP μ9.2.2 := by rw [em9]; exact hp8
  exact qa_vret rfl dX2_readTown_69 ⟨rfl, rfl⟩ ⟨rfl, hp9, rfl, h⟩
def wX2_startLine (n : Nat) (v1 : Int32) (v2 : Int32) (μ0 : qa_M) (Q : qa_M → Prop) : Prop := ((v1 < v2 → wX2_step n  μ0 (fun μ2 => Q μ2)) ∧ (¬ v1 < v2 → wX2_fail n (3 : Int32) μ0 (fun μ3 => Q μ3)))
theorem tX2_startLine (l : Launch) {n : Nat} {v1 : Int32} {v2 : Int32} {μ0 : qa_M} {Q : qa_M → Prop} (hp0 : qa_PP μ0.2.2)  (h : wX2_startLine n v1 v2 μ0 Q) : qa_Met l yX2_startLine cX2_startLine 3 none 3 0 0 [.ref 27, .int v1, .int v2] 113 μ0 (qa_pV Q) := by
  refine qa_ofG (by decide) (by decide) ?_
  unfold wX2_startLine at h
  change qa_G l yX2_startLine cX2_startLine 3 none 3 0 0 (qa_pV Q) 0 0 0 [some (.ref 27), some (.int v1), some (.int v2)] [] 113 μ0
  refine qa_ild1 dX2_startLine_0 ?_
  refine qa_ild2 dX2_startLine_1 ?_
  refine qa_icmp_lt (tgt := 13) dX2_startLine_2 (by decide) (fun c1 => ?_) (fun c1 => ?_)
  · have h := h.1 c1
    refine qa_ald0 dX2_startLine_13 ?_
    refine qa_V0V dX2_startLine_14 lm_X2_38 sh_27 rfl (by decide) (by decide) (Nat.le_of_ble_eq_true rfl) (tX2_step l hp0  h) (fun μ2 hp2 h => ?_)
    exact qa_vret rfl dX2_startLine_17 ⟨rfl, rfl⟩ ⟨rfl, hp2, rfl, h⟩
  · have h := h.2 c1
    refine qa_ald0 dX2_startLine_5 ?_
    refine qa_iconst (v := 3) dX2_startLine_6 (by decide) ?_
    refine qa_V1V dX2_startLine_7 lm_X2_79 sh_27 rfl (by decide) (by decide) (Nat.le_of_ble_eq_true rfl) (tX2_fail l hp0  h) (fun μ3 hp3 h => ?_)
    refine qa_goto (tgt := 17) dX2_startLine_10 (by decide) ?_
    exact qa_vret rfl dX2_startLine_17 ⟨rfl, rfl⟩ ⟨rfl, hp3, rfl, h⟩
def wX2_readHouse_65 (n : Nat) (v1 : Int32) (μ0 : qa_M)  (Q : qa_M → Prop) : Prop := vp_in (μ0.1 (μ0.2.2 27 2) 5) 8 ∧ ∀ μ6, μ6 = qa_uI μ0 ((μ0.2.2 27 2) + 1) (μ0.1 (μ0.2.2 27 2) 5).toNatClampNeg v1 → ∀ μ7, μ7 = qa_uI μ6 (μ6.2.2 27 2) 5 ((μ6.1 (μ6.2.2 27 2) 5) + (1 : Int32)) → Q μ7
def wX2_readHouse (n : Nat)  (μ0 : qa_M) (Q : qa_M → Prop) : Prop := wX2_startLine n (μ0.1 (μ0.2.2 27 2) 5) (8 : Int32) μ0 (fun μ1 => wX2_takeNumberOf n 6 (0 : Int32) (40 : Int32) μ1 (fun r2 μ2 => (((μ2.1 27 7) = 0 → wX2_isWord n 7 μ2 (fun r4 μ4 => ((r4 = 0 → wX2_readHouse_65 n r2 μ4  Q) ∧ (¬ r4 = 0 → ∀ μ8, μ8 = qa_uI μ4 (μ4.2.2 27 2) 9 ((μ4.1 (μ4.2.2 27 2) 9) ||| ((1 : Int32) <<< ((μ4.1 (μ4.2.2 27 2) 5) &&& 31))) → wX2_step n  μ8 (fun μ9 => wX2_readHouse_65 n r2 μ9  Q))))) ∧ (¬ (μ2.1 27 7) = 0 → Q μ2))))
theorem tX2_readHouse_65 (l : Launch)  {Q : qa_M → Prop}  : ∀ (n : Nat) (v1 : Int32) (μ0 : qa_M), qa_PP μ0.2.2 → wX2_readHouse_65 n v1 μ0  Q → qa_G l yX2_readHouse cX2_readHouse 2 none 8 0 0 (qa_pV Q) 0 0 65 [some (.ref 27), some (.int v1)] [] 113 μ0 := by
  intro n
  intro v1 μ0 hp0  h
  unfold wX2_readHouse_65 at h
  refine qa_ald0 dX2_readHouse_65 ?_
  refine qa_getR dX2_readHouse_66 lf_X2_22 rfl sh_27 (by decide) rfl (qa_tw0 hp0.2.2.2) ?_
  refine qa_getR dX2_readHouse_69 lf_X2_126 rfl (st_0 hp0.2.2.2) (lt_0 hp0.2.2.2) (pt_11 hp0 hp0.2.2.2) (Nat.succ_pos _) ?_
  refine qa_ald0 dX2_readHouse_72 ?_
  refine qa_getR dX2_readHouse_73 lf_X2_22 rfl sh_27 (by decide) rfl (qa_tw0 hp0.2.2.2) ?_
  refine qa_getI dX2_readHouse_76 lf_X2_112 (Or.inl rfl) (st_0 hp0.2.2.2) (lt_0 hp0.2.2.2) ?_
  refine qa_ild1 dX2_readHouse_79 ?_
  refine qa_iast dX2_readHouse_80 (st_1 hp0.2.2.2) (lt_1 hp0.2.2.2) h.1 ?_
  have h := h.2
  refine qa_nmM (fun μ6 em6 => ?_)
  have h := h μ6 em6
  have hp6 : qa_PP μ6.2.2 := by rw [em6]; exact hp0
  refine qa_ald0 dX2_readHouse_81 ?_
  refine qa_getR dX2_readHouse_82 lf_X2_22 rfl sh_27 (by decide) rfl (qa_tw0 hp6.2.2.2) ?_
  refine qa_dup dX2_readHouse_85 rfl ?_
  refine qa_getI dX2_readHouse_86 lf_X2_112 (Or.inl rfl) (st_0 hp6.2.2.2) (lt_0 hp6.2.2.2) ?_
  refine qa_iconst (v := 1) dX2_readHouse_89 (by decide) ?_
  refine qa_iadd dX2_readHouse_90 ?_
  refine qa_putI dX2_readHouse_91 lf_X2_112 rfl (st_0 hp6.2.2.2) (lt_0 hp6.2.2.2) rfl ?_
  refine qa_nmM (fun μ7 em7 => ?_)
  have h := h μ7 em7
  have hp7 : qa_PP μ7.2.2 := by rw [em7]; exact hp6
  exact qa_vret rfl dX2_readHouse_94 ⟨rfl, rfl⟩ ⟨rfl, hp7, rfl, h⟩
theorem tX2_readHouse (l : Launch) {n : Nat}  {μ0 : qa_M} {Q : qa_M → Prop} (hp0 : qa_PP μ0.2.2)  (h : wX2_readHouse n  μ0 Q) : qa_Met l yX2_readHouse cX2_readHouse 2 none 8 0 0 [.ref 27] 113 μ0 (qa_pV Q) := by
  refine qa_ofG (by decide) (by decide) ?_
  unfold wX2_readHouse at h
  change qa_G l yX2_readHouse cX2_readHouse 2 none 8 0 0 (qa_pV Q) 0 0 0 [some (.ref 27), none] [] 113 μ0
  refine qa_ald0 dX2_readHouse_0 ?_
  refine qa_ald0 dX2_readHouse_1 ?_
  refine qa_getR dX2_readHouse_2 lf_X2_22 rfl sh_27 (by decide) rfl (qa_tw0 hp0.2.2.2) ?_
  refine qa_getI dX2_readHouse_5 lf_X2_112 (Or.inl rfl) (st_0 hp0.2.2.2) (lt_0 hp0.2.2.2) ?_
  refine qa_bipush (v := 8) dX2_readHouse_8 (by decide) ?_
  refine qa_V2V dX2_readHouse_10 lm_X2_115 sh_27 rfl (by decide) (by decide) (Nat.le_of_ble_eq_true rfl) (tX2_startLine l hp0  h) (fun μ1 hp1 h => ?_)
  refine qa_ald0 dX2_readHouse_13 ?_
  refine qa_ldcS (i := 6) (tx := "push") dX2_readHouse_14 (by decide) ?_
  refine qa_iconst (v := 0) dX2_readHouse_16 (by decide) ?_
  refine qa_bipush (v := 40) dX2_readHouse_17 (by decide) ?_
  refine qa_V3I dX2_readHouse_19 lm_X2_94 sh_27 rfl (by decide) (by decide) (Nat.le_of_ble_eq_true rfl) (tX2_takeNumberOf l hp1 (by decide) h) (fun r2 μ2 hp2 h => ?_)
  refine qa_ist1 dX2_readHouse_22 ?_
  refine qa_ald0 dX2_readHouse_23 ?_
  refine qa_getI dX2_readHouse_24 lf_X2_9 (Or.inl rfl) sh_27 (by decide) ?_
  refine qa_if_eq (tgt := 31) dX2_readHouse_27 (by decide) (fun c3 => ?_) (fun c3 => ?_)
  · have h := h.1 c3
    refine qa_ald0 dX2_readHouse_31 ?_
    refine qa_ldcS (i := 7) (tx := "leans") dX2_readHouse_32 (by decide) ?_
    refine qa_V1I dX2_readHouse_34 lm_X2_57 sh_27 rfl (by decide) (by decide) (Nat.le_of_ble_eq_true rfl) (tX2_isWord l hp2 (by decide) h) (fun r4 μ4 hp4 h => ?_)
    refine qa_if_eq (tgt := 65) dX2_readHouse_37 (by decide) (fun c5 => ?_) (fun c5 => ?_)
    · have h := h.1 c5
      refine qa_fgt (L' := [some (.ref 27), some (.int r2)]) (⟨rfl, ⟨rfl, trivial⟩⟩) ?_
      refine tX2_readHouse_65 l  n r2 μ4 hp4  h
    · have h := h.2 c5
      refine qa_ald0 dX2_readHouse_40 ?_
      refine qa_getR dX2_readHouse_41 lf_X2_22 rfl sh_27 (by decide) rfl (qa_tw0 hp4.2.2.2) ?_
      refine qa_dup dX2_readHouse_44 rfl ?_
      refine qa_getI dX2_readHouse_45 lf_X2_123 (Or.inl rfl) (st_0 hp4.2.2.2) (lt_0 hp4.2.2.2) ?_
      refine qa_iconst (v := 1) dX2_readHouse_48 (by decide) ?_
      refine qa_ald0 dX2_readHouse_49 ?_
      refine qa_getR dX2_readHouse_50 lf_X2_22 rfl sh_27 (by decide) rfl (qa_tw0 hp4.2.2.2) ?_
      refine qa_getI dX2_readHouse_53 lf_X2_112 (Or.inl rfl) (st_0 hp4.2.2.2) (lt_0 hp4.2.2.2) ?_
      refine qa_ishl dX2_readHouse_56 ?_
      refine qa_ior dX2_readHouse_57 ?_
      refine qa_putI dX2_readHouse_58 lf_X2_123 rfl (st_0 hp4.2.2.2) (lt_0 hp4.2.2.2) rfl ?_
      refine qa_nmM (fun μ8 em8 => ?_)
      have h := h μ8 em8
      have hp8 : qa_PP μ8.2.2 := by rw [em8]; exact hp4
      refine qa_ald0 dX2_readHouse_61 ?_
      refine qa_V0V dX2_readHouse_62 lm_X2_38 sh_27 rfl (by decide) (by decide) (Nat.le_of_ble_eq_true rfl) (tX2_step l hp8  h) (fun μ9 hp9 h => ?_)
      refine qa_fgt (L' := [some (.ref 27), some (.int r2)]) (⟨rfl, ⟨rfl, trivial⟩⟩) ?_
      refine tX2_readHouse_65 l  n r2 μ9 hp9  h
  · have h := h.2 c3
    exact qa_vret rfl dX2_readHouse_30 ⟨rfl, rfl⟩ ⟨rfl, hp2, rfl, h⟩
def wX2_readPlace (n : Nat)  (μ0 : qa_M) (Q : qa_M → Prop) : Prop := wX2_startLine n (μ0.1 (μ0.2.2 27 2) 6) (10 : Int32) μ0 (fun μ1 => wX2_takeNumber n (0 : Int32) (7 : Int32) μ1 (fun r2 μ2 => wX2_takeNumberOf n 9 (0 : Int32) (20 : Int32) μ2 (fun r3 μ3 => wX2_takeNumberOf n 10 (0 : Int32) (20 : Int32) μ3 (fun r4 μ4 => ((¬ (μ4.1 27 7) = 0 → Q μ4) ∧ ((μ4.1 27 7) = 0 → vp_in r2 8 ∧ ∀ μ6, μ6 = qa_uI μ4 ((μ4.2.2 27 2) + 2) r2.toNatClampNeg r3 → vp_in r2 8 ∧ ∀ μ7, μ7 = qa_uI μ6 ((μ6.2.2 27 2) + 3) r2.toNatClampNeg r4 → ∀ μ8, μ8 = qa_uI μ7 (μ7.2.2 27 2) 6 ((μ7.1 (μ7.2.2 27 2) 6) + (1 : Int32)) → Q μ8))))))
theorem tX2_readPlace (l : Launch) {n : Nat}  {μ0 : qa_M} {Q : qa_M → Prop} (hp0 : qa_PP μ0.2.2)  (h : wX2_readPlace n  μ0 Q) : qa_Met l yX2_readPlace cX2_readPlace 4 none 8 0 0 [.ref 27] 113 μ0 (qa_pV Q) := by
  refine qa_ofG (by decide) (by decide) ?_
  unfold wX2_readPlace at h
  change qa_G l yX2_readPlace cX2_readPlace 4 none 8 0 0 (qa_pV Q) 0 0 0 [some (.ref 27), none, none, none] [] 113 μ0
  refine qa_ald0 dX2_readPlace_0 ?_
  refine qa_ald0 dX2_readPlace_1 ?_
  refine qa_getR dX2_readPlace_2 lf_X2_22 rfl sh_27 (by decide) rfl (qa_tw0 hp0.2.2.2) ?_
  refine qa_getI dX2_readPlace_5 lf_X2_129 (Or.inl rfl) (st_0 hp0.2.2.2) (lt_0 hp0.2.2.2) ?_
  refine qa_bipush (v := 10) dX2_readPlace_8 (by decide) ?_
  refine qa_V2V dX2_readPlace_10 lm_X2_115 sh_27 rfl (by decide) (by decide) (Nat.le_of_ble_eq_true rfl) (tX2_startLine l hp0  h) (fun μ1 hp1 h => ?_)
  refine qa_ald0 dX2_readPlace_13 ?_
  refine qa_iconst (v := 0) dX2_readPlace_14 (by decide) ?_
  refine qa_bipush (v := 7) dX2_readPlace_15 (by decide) ?_
  refine qa_V2I dX2_readPlace_17 lm_X2_132 sh_27 rfl (by decide) (by decide) (Nat.le_of_ble_eq_true rfl) (tX2_takeNumber l hp1  h) (fun r2 μ2 hp2 h => ?_)
  refine qa_ist1 dX2_readPlace_20 ?_
  refine qa_ald0 dX2_readPlace_21 ?_
  refine qa_ldcS (i := 9) (tx := "sun") dX2_readPlace_22 (by decide) ?_
  refine qa_iconst (v := 0) dX2_readPlace_24 (by decide) ?_
  refine qa_bipush (v := 20) dX2_readPlace_25 (by decide) ?_
  refine qa_V3I dX2_readPlace_27 lm_X2_94 sh_27 rfl (by decide) (by decide) (Nat.le_of_ble_eq_true rfl) (tX2_takeNumberOf l hp2 (by decide) h) (fun r3 μ3 hp3 h => ?_)
  refine qa_ist2 dX2_readPlace_30 ?_
  refine qa_ald0 dX2_readPlace_31 ?_
  refine qa_ldcS (i := 10) (tx := "smell") dX2_readPlace_32 (by decide) ?_
  refine qa_iconst (v := 0) dX2_readPlace_34 (by decide) ?_
  refine qa_bipush (v := 20) dX2_readPlace_35 (by decide) ?_
  refine qa_V3I dX2_readPlace_37 lm_X2_94 sh_27 rfl (by decide) (by decide) (Nat.le_of_ble_eq_true rfl) (tX2_takeNumberOf l hp3 (by decide) h) (fun r4 μ4 hp4 h => ?_)
  refine qa_ist3 dX2_readPlace_40 ?_
  refine qa_ald0 dX2_readPlace_41 ?_
  refine qa_getI dX2_readPlace_42 lf_X2_9 (Or.inl rfl) sh_27 (by decide) ?_
  refine qa_if_ne (tgt := 81) dX2_readPlace_45 (by decide) (fun c5 => ?_) (fun c5 => ?_)
  · have h := h.1 c5
    exact qa_vret rfl dX2_readPlace_81 ⟨rfl, rfl⟩ ⟨rfl, hp4, rfl, h⟩
  · have h := h.2 c5
    refine qa_ald0 dX2_readPlace_48 ?_
    refine qa_getR dX2_readPlace_49 lf_X2_22 rfl sh_27 (by decide) rfl (qa_tw0 hp4.2.2.2) ?_
    refine qa_getR dX2_readPlace_52 lf_X2_139 rfl (st_0 hp4.2.2.2) (lt_0 hp4.2.2.2) (pt_12 hp4 hp4.2.2.2) (Nat.succ_pos _) ?_
    refine qa_ild1 dX2_readPlace_55 ?_
    refine qa_ild2 dX2_readPlace_56 ?_
    refine qa_iast dX2_readPlace_57 (st_2 hp4.2.2.2) (lt_2 hp4.2.2.2) h.1 ?_
    have h := h.2
    refine qa_nmM (fun μ6 em6 => ?_)
    have h := h μ6 em6
    have hp6 : qa_PP μ6.2.2 := by rw [em6]; exact hp4
    refine qa_ald0 dX2_readPlace_58 ?_
    refine qa_getR dX2_readPlace_59 lf_X2_22 rfl sh_27 (by decide) rfl (qa_tw0 hp6.2.2.2) ?_
    refine qa_getR dX2_readPlace_62 lf_X2_142 rfl (st_0 hp6.2.2.2) (lt_0 hp6.2.2.2) (pt_13 hp6 hp6.2.2.2) (Nat.succ_pos _) ?_
    refine qa_ild1 dX2_readPlace_65 ?_
    refine qa_ild3 dX2_readPlace_66 ?_
    refine qa_iast dX2_readPlace_67 (st_3 hp6.2.2.2) (lt_3 hp6.2.2.2) h.1 ?_
    have h := h.2
    refine qa_nmM (fun μ7 em7 => ?_)
    have h := h μ7 em7
    have hp7 : qa_PP μ7.2.2 := by rw [em7]; exact hp6
    refine qa_ald0 dX2_readPlace_68 ?_
    refine qa_getR dX2_readPlace_69 lf_X2_22 rfl sh_27 (by decide) rfl (qa_tw0 hp7.2.2.2) ?_
    refine qa_dup dX2_readPlace_72 rfl ?_
    refine qa_getI dX2_readPlace_73 lf_X2_129 (Or.inl rfl) (st_0 hp7.2.2.2) (lt_0 hp7.2.2.2) ?_
    refine qa_iconst (v := 1) dX2_readPlace_76 (by decide) ?_
    refine qa_iadd dX2_readPlace_77 ?_
    refine qa_putI dX2_readPlace_78 lf_X2_129 rfl (st_0 hp7.2.2.2) (lt_0 hp7.2.2.2) rfl ?_
    refine qa_nmM (fun μ8 em8 => ?_)
    have h := h μ8 em8
    have hp8 : qa_PP μ8.2.2 := by rw [em8]; exact hp7
    exact qa_vret rfl dX2_readPlace_81 ⟨rfl, rfl⟩ ⟨rfl, hp8, rfl, h⟩
def wX2_readSnow (n : Nat)  (μ0 : qa_M) (Q : qa_M → Prop) : Prop := wX2_startLine n (μ0.1 (μ0.2.2 27 2) 7) (4 : Int32) μ0 (fun μ1 => wX2_takeNumberOf n 12 (0 : Int32) (19 : Int32) μ1 (fun r2 μ2 => ((¬ (μ2.1 27 7) = 0 → Q μ2) ∧ ((μ2.1 27 7) = 0 → ∀ μ4, μ4 = qa_uI μ2 (μ2.2.2 27 2) 10 ((μ2.1 (μ2.2.2 27 2) 10) ||| ((1 : Int32) <<< (r2 &&& 31))) → ∀ μ5, μ5 = qa_uI μ4 (μ4.2.2 27 2) 7 ((μ4.1 (μ4.2.2 27 2) 7) + (1 : Int32)) → Q μ5))))
theorem tX2_readSnow (l : Launch) {n : Nat}  {μ0 : qa_M} {Q : qa_M → Prop} (hp0 : qa_PP μ0.2.2)  (h : wX2_readSnow n  μ0 Q) : qa_Met l yX2_readSnow cX2_readSnow 2 none 8 0 0 [.ref 27] 113 μ0 (qa_pV Q) := by
  refine qa_ofG (by decide) (by decide) ?_
  unfold wX2_readSnow at h
  change qa_G l yX2_readSnow cX2_readSnow 2 none 8 0 0 (qa_pV Q) 0 0 0 [some (.ref 27), none] [] 113 μ0
  refine qa_ald0 dX2_readSnow_0 ?_
  refine qa_ald0 dX2_readSnow_1 ?_
  refine qa_getR dX2_readSnow_2 lf_X2_22 rfl sh_27 (by decide) rfl (qa_tw0 hp0.2.2.2) ?_
  refine qa_getI dX2_readSnow_5 lf_X2_145 (Or.inl rfl) (st_0 hp0.2.2.2) (lt_0 hp0.2.2.2) ?_
  refine qa_iconst (v := 4) dX2_readSnow_8 (by decide) ?_
  refine qa_V2V dX2_readSnow_9 lm_X2_115 sh_27 rfl (by decide) (by decide) (Nat.le_of_ble_eq_true rfl) (tX2_startLine l hp0  h) (fun μ1 hp1 h => ?_)
  refine qa_ald0 dX2_readSnow_12 ?_
  refine qa_ldcS (i := 12) (tx := "at") dX2_readSnow_13 (by decide) ?_
  refine qa_iconst (v := 0) dX2_readSnow_15 (by decide) ?_
  refine qa_bipush (v := 19) dX2_readSnow_16 (by decide) ?_
  refine qa_V3I dX2_readSnow_18 lm_X2_94 sh_27 rfl (by decide) (by decide) (Nat.le_of_ble_eq_true rfl) (tX2_takeNumberOf l hp1 (by decide) h) (fun r2 μ2 hp2 h => ?_)
  refine qa_ist1 dX2_readSnow_21 ?_
  refine qa_ald0 dX2_readSnow_22 ?_
  refine qa_getI dX2_readSnow_23 lf_X2_9 (Or.inl rfl) sh_27 (by decide) ?_
  refine qa_if_ne (tgt := 57) dX2_readSnow_26 (by decide) (fun c3 => ?_) (fun c3 => ?_)
  · have h := h.1 c3
    exact qa_vret rfl dX2_readSnow_57 ⟨rfl, rfl⟩ ⟨rfl, hp2, rfl, h⟩
  · have h := h.2 c3
    refine qa_ald0 dX2_readSnow_29 ?_
    refine qa_getR dX2_readSnow_30 lf_X2_22 rfl sh_27 (by decide) rfl (qa_tw0 hp2.2.2.2) ?_
    refine qa_dup dX2_readSnow_33 rfl ?_
    refine qa_getI dX2_readSnow_34 lf_X2_150 (Or.inl rfl) (st_0 hp2.2.2.2) (lt_0 hp2.2.2.2) ?_
    refine qa_iconst (v := 1) dX2_readSnow_37 (by decide) ?_
    refine qa_ild1 dX2_readSnow_38 ?_
    refine qa_ishl dX2_readSnow_39 ?_
    refine qa_ior dX2_readSnow_40 ?_
    refine qa_putI dX2_readSnow_41 lf_X2_150 rfl (st_0 hp2.2.2.2) (lt_0 hp2.2.2.2) rfl ?_
    refine qa_nmM (fun μ4 em4 => ?_)
    have h := h μ4 em4
    have hp4 : qa_PP μ4.2.2 := by rw [em4]; exact hp2
    refine qa_ald0 dX2_readSnow_44 ?_
    refine qa_getR dX2_readSnow_45 lf_X2_22 rfl sh_27 (by decide) rfl (qa_tw0 hp4.2.2.2) ?_
    refine qa_dup dX2_readSnow_48 rfl ?_
    refine qa_getI dX2_readSnow_49 lf_X2_145 (Or.inl rfl) (st_0 hp4.2.2.2) (lt_0 hp4.2.2.2) ?_
    refine qa_iconst (v := 1) dX2_readSnow_52 (by decide) ?_
    refine qa_iadd dX2_readSnow_53 ?_
    refine qa_putI dX2_readSnow_54 lf_X2_145 rfl (st_0 hp4.2.2.2) (lt_0 hp4.2.2.2) rfl ?_
    refine qa_nmM (fun μ5 em5 => ?_)
    have h := h μ5 em5
    have hp5 : qa_PP μ5.2.2 := by rw [em5]; exact hp4
    exact qa_vret rfl dX2_readSnow_57 ⟨rfl, rfl⟩ ⟨rfl, hp5, rfl, h⟩
def wX2_readLetter (n : Nat)  (μ0 : qa_M) (Q : qa_M → Prop) : Prop := wX2_startLine n (μ0.1 (μ0.2.2 27 2) 8) (8 : Int32) μ0 (fun μ1 => wX2_takeNumber n (0 : Int32) ((μ1.1 (μ1.2.2 27 2) 5) - (1 : Int32)) μ1 (fun r2 μ2 => wX2_takeNumberOf n 14 (0 : Int32) (7 : Int32) μ2 (fun r3 μ3 => wX2_takeNumberOf n 12 (0 : Int32) (19 : Int32) μ3 (fun r4 μ4 => ((¬ (μ4.1 27 7) = 0 → Q μ4) ∧ ((μ4.1 27 7) = 0 → vp_in (μ4.1 (μ4.2.2 27 2) 8) 8 ∧ ∀ μ6, μ6 = qa_uI μ4 ((μ4.2.2 27 2) + 4) (μ4.1 (μ4.2.2 27 2) 8).toNatClampNeg r2 → vp_in (μ6.1 (μ6.2.2 27 2) 8) 8 ∧ ∀ μ7, μ7 = qa_uI μ6 ((μ6.2.2 27 2) + 5) (μ6.1 (μ6.2.2 27 2) 8).toNatClampNeg r3 → vp_in (μ7.1 (μ7.2.2 27 2) 8) 8 ∧ ∀ μ8, μ8 = qa_uI μ7 ((μ7.2.2 27 2) + 6) (μ7.1 (μ7.2.2 27 2) 8).toNatClampNeg r4 → ∀ μ9, μ9 = qa_uI μ8 (μ8.2.2 27 2) 8 ((μ8.1 (μ8.2.2 27 2) 8) + (1 : Int32)) → Q μ9))))))
theorem tX2_readLetter (l : Launch) {n : Nat}  {μ0 : qa_M} {Q : qa_M → Prop} (hp0 : qa_PP μ0.2.2)  (h : wX2_readLetter n  μ0 Q) : qa_Met l yX2_readLetter cX2_readLetter 4 none 8 0 0 [.ref 27] 113 μ0 (qa_pV Q) := by
  refine qa_ofG (by decide) (by decide) ?_
  unfold wX2_readLetter at h
  change qa_G l yX2_readLetter cX2_readLetter 4 none 8 0 0 (qa_pV Q) 0 0 0 [some (.ref 27), none, none, none] [] 113 μ0
  refine qa_ald0 dX2_readLetter_0 ?_
  refine qa_ald0 dX2_readLetter_1 ?_
  refine qa_getR dX2_readLetter_2 lf_X2_22 rfl sh_27 (by decide) rfl (qa_tw0 hp0.2.2.2) ?_
  refine qa_getI dX2_readLetter_5 lf_X2_153 (Or.inl rfl) (st_0 hp0.2.2.2) (lt_0 hp0.2.2.2) ?_
  refine qa_bipush (v := 8) dX2_readLetter_8 (by decide) ?_
  refine qa_V2V dX2_readLetter_10 lm_X2_115 sh_27 rfl (by decide) (by decide) (Nat.le_of_ble_eq_true rfl) (tX2_startLine l hp0  h) (fun μ1 hp1 h => ?_)
  refine qa_ald0 dX2_readLetter_13 ?_
  refine qa_iconst (v := 0) dX2_readLetter_14 (by decide) ?_
  refine qa_ald0 dX2_readLetter_15 ?_
  refine qa_getR dX2_readLetter_16 lf_X2_22 rfl sh_27 (by decide) rfl (qa_tw0 hp1.2.2.2) ?_
  refine qa_getI dX2_readLetter_19 lf_X2_112 (Or.inl rfl) (st_0 hp1.2.2.2) (lt_0 hp1.2.2.2) ?_
  refine qa_iconst (v := 1) dX2_readLetter_22 (by decide) ?_
  refine qa_isub dX2_readLetter_23 ?_
  refine qa_V2I dX2_readLetter_24 lm_X2_132 sh_27 rfl (by decide) (by decide) (Nat.le_of_ble_eq_true rfl) (tX2_takeNumber l hp1  h) (fun r2 μ2 hp2 h => ?_)
  refine qa_ist1 dX2_readLetter_27 ?_
  refine qa_ald0 dX2_readLetter_28 ?_
  refine qa_ldcS (i := 14) (tx := "to") dX2_readLetter_29 (by decide) ?_
  refine qa_iconst (v := 0) dX2_readLetter_31 (by decide) ?_
  refine qa_bipush (v := 7) dX2_readLetter_32 (by decide) ?_
  refine qa_V3I dX2_readLetter_34 lm_X2_94 sh_27 rfl (by decide) (by decide) (Nat.le_of_ble_eq_true rfl) (tX2_takeNumberOf l hp2 (by decide) h) (fun r3 μ3 hp3 h => ?_)
  refine qa_ist2 dX2_readLetter_37 ?_
  refine qa_ald0 dX2_readLetter_38 ?_
  refine qa_ldcS (i := 12) (tx := "at") dX2_readLetter_39 (by decide) ?_
  refine qa_iconst (v := 0) dX2_readLetter_41 (by decide) ?_
  refine qa_bipush (v := 19) dX2_readLetter_42 (by decide) ?_
  refine qa_V3I dX2_readLetter_44 lm_X2_94 sh_27 rfl (by decide) (by decide) (Nat.le_of_ble_eq_true rfl) (tX2_takeNumberOf l hp3 (by decide) h) (fun r4 μ4 hp4 h => ?_)
  refine qa_ist3 dX2_readLetter_47 ?_
  refine qa_ald0 dX2_readLetter_48 ?_
  refine qa_getI dX2_readLetter_49 lf_X2_9 (Or.inl rfl) sh_27 (by decide) ?_
  refine qa_if_ne (tgt := 116) dX2_readLetter_52 (by decide) (fun c5 => ?_) (fun c5 => ?_)
  · have h := h.1 c5
    exact qa_vret rfl dX2_readLetter_116 ⟨rfl, rfl⟩ ⟨rfl, hp4, rfl, h⟩
  · have h := h.2 c5
    refine qa_ald0 dX2_readLetter_55 ?_
    refine qa_getR dX2_readLetter_56 lf_X2_22 rfl sh_27 (by decide) rfl (qa_tw0 hp4.2.2.2) ?_
    refine qa_getR dX2_readLetter_59 lf_X2_158 rfl (st_0 hp4.2.2.2) (lt_0 hp4.2.2.2) (pt_14 hp4 hp4.2.2.2) (Nat.succ_pos _) ?_
    refine qa_ald0 dX2_readLetter_62 ?_
    refine qa_getR dX2_readLetter_63 lf_X2_22 rfl sh_27 (by decide) rfl (qa_tw0 hp4.2.2.2) ?_
    refine qa_getI dX2_readLetter_66 lf_X2_153 (Or.inl rfl) (st_0 hp4.2.2.2) (lt_0 hp4.2.2.2) ?_
    refine qa_ild1 dX2_readLetter_69 ?_
    refine qa_iast dX2_readLetter_70 (st_4 hp4.2.2.2) (lt_4 hp4.2.2.2) h.1 ?_
    have h := h.2
    refine qa_nmM (fun μ6 em6 => ?_)
    have h := h μ6 em6
    have hp6 : qa_PP μ6.2.2 := by rw [em6]; exact hp4
    refine qa_ald0 dX2_readLetter_71 ?_
    refine qa_getR dX2_readLetter_72 lf_X2_22 rfl sh_27 (by decide) rfl (qa_tw0 hp6.2.2.2) ?_
    refine qa_getR dX2_readLetter_75 lf_X2_161 rfl (st_0 hp6.2.2.2) (lt_0 hp6.2.2.2) (pt_15 hp6 hp6.2.2.2) (Nat.succ_pos _) ?_
    refine qa_ald0 dX2_readLetter_78 ?_
    refine qa_getR dX2_readLetter_79 lf_X2_22 rfl sh_27 (by decide) rfl (qa_tw0 hp6.2.2.2) ?_
    refine qa_getI dX2_readLetter_82 lf_X2_153 (Or.inl rfl) (st_0 hp6.2.2.2) (lt_0 hp6.2.2.2) ?_
    refine qa_ild2 dX2_readLetter_85 ?_
    refine qa_iast dX2_readLetter_86 (st_5 hp6.2.2.2) (lt_5 hp6.2.2.2) h.1 ?_
    have h := h.2
    refine qa_nmM (fun μ7 em7 => ?_)
    have h := h μ7 em7
    have hp7 : qa_PP μ7.2.2 := by rw [em7]; exact hp6
    refine qa_ald0 dX2_readLetter_87 ?_
    refine qa_getR dX2_readLetter_88 lf_X2_22 rfl sh_27 (by decide) rfl (qa_tw0 hp7.2.2.2) ?_
    refine qa_getR dX2_readLetter_91 lf_X2_164 rfl (st_0 hp7.2.2.2) (lt_0 hp7.2.2.2) (pt_16 hp7 hp7.2.2.2) (Nat.succ_pos _) ?_
    refine qa_ald0 dX2_readLetter_94 ?_
    refine qa_getR dX2_readLetter_95 lf_X2_22 rfl sh_27 (by decide) rfl (qa_tw0 hp7.2.2.2) ?_
    refine qa_getI dX2_readLetter_98 lf_X2_153 (Or.inl rfl) (st_0 hp7.2.2.2) (lt_0 hp7.2.2.2) ?_
    refine qa_ild3 dX2_readLetter_101 ?_
    refine qa_iast dX2_readLetter_102 (st_6 hp7.2.2.2) (lt_6 hp7.2.2.2) h.1 ?_
    have h := h.2
    refine qa_nmM (fun μ8 em8 => ?_)
    have h := h μ8 em8
    have hp8 : qa_PP μ8.2.2 := by rw [em8]; exact hp7
    refine qa_ald0 dX2_readLetter_103 ?_
    refine qa_getR dX2_readLetter_104 lf_X2_22 rfl sh_27 (by decide) rfl (qa_tw0 hp8.2.2.2) ?_
    refine qa_dup dX2_readLetter_107 rfl ?_
    refine qa_getI dX2_readLetter_108 lf_X2_153 (Or.inl rfl) (st_0 hp8.2.2.2) (lt_0 hp8.2.2.2) ?_
    refine qa_iconst (v := 1) dX2_readLetter_111 (by decide) ?_
    refine qa_iadd dX2_readLetter_112 ?_
    refine qa_putI dX2_readLetter_113 lf_X2_153 rfl (st_0 hp8.2.2.2) (lt_0 hp8.2.2.2) rfl ?_
    refine qa_nmM (fun μ9 em9 => ?_)
    have h := h μ9 em9
    have hp9 : qa_PP μ9.2.2 := by rw [em9]; exact hp8
    exact qa_vret rfl dX2_readLetter_116 ⟨rfl, rfl⟩ ⟨rfl, hp9, rfl, h⟩
def wX2_takeSemicolon (n : Nat)  (μ0 : qa_M) (Q : qa_M → Prop) : Prop := (((μ0.1 27 7) = 0 → ((¬ (μ0.1 27 3) = (3 : Int32) → wX2_fail n (1 : Int32) μ0 (fun μ3 => Q μ3)) ∧ ((μ0.1 27 3) = (3 : Int32) → wX2_step n  μ0 (fun μ4 => Q μ4)))) ∧ (¬ (μ0.1 27 7) = 0 → Q μ0))
theorem tX2_takeSemicolon (l : Launch) {n : Nat}  {μ0 : qa_M} {Q : qa_M → Prop} (hp0 : qa_PP μ0.2.2)  (h : wX2_takeSemicolon n  μ0 Q) : qa_Met l yX2_takeSemicolon cX2_takeSemicolon 1 none 3 0 0 [.ref 27] 113 μ0 (qa_pV Q) := by
  refine qa_ofG (by decide) (by decide) ?_
  unfold wX2_takeSemicolon at h
  change qa_G l yX2_takeSemicolon cX2_takeSemicolon 1 none 3 0 0 (qa_pV Q) 0 0 0 [some (.ref 27)] [] 113 μ0
  refine qa_ald0 dX2_takeSemicolon_0 ?_
  refine qa_getI dX2_takeSemicolon_1 lf_X2_9 (Or.inl rfl) sh_27 (by decide) ?_
  refine qa_if_eq (tgt := 8) dX2_takeSemicolon_4 (by decide) (fun c1 => ?_) (fun c1 => ?_)
  · have h := h.1 c1
    refine qa_ald0 dX2_takeSemicolon_8 ?_
    refine qa_getI dX2_takeSemicolon_9 lf_X2_41 (Or.inl rfl) sh_27 (by decide) ?_
    refine qa_iconst (v := 3) dX2_takeSemicolon_12 (by decide) ?_
    refine qa_icmp_ne (tgt := 23) dX2_takeSemicolon_13 (by decide) (fun c2 => ?_) (fun c2 => ?_)
    · have h := h.1 c2
      refine qa_ald0 dX2_takeSemicolon_23 ?_
      refine qa_iconst (v := 1) dX2_takeSemicolon_24 (by decide) ?_
      refine qa_V1V dX2_takeSemicolon_25 lm_X2_79 sh_27 rfl (by decide) (by decide) (Nat.le_of_ble_eq_true rfl) (tX2_fail l hp0  h) (fun μ3 hp3 h => ?_)
      exact qa_vret rfl dX2_takeSemicolon_28 ⟨rfl, rfl⟩ ⟨rfl, hp3, rfl, h⟩
    · have h := h.2 c2
      refine qa_ald0 dX2_takeSemicolon_16 ?_
      refine qa_V0V dX2_takeSemicolon_17 lm_X2_38 sh_27 rfl (by decide) (by decide) (Nat.le_of_ble_eq_true rfl) (tX2_step l hp0  h) (fun μ4 hp4 h => ?_)
      refine qa_goto (tgt := 28) dX2_takeSemicolon_20 (by decide) ?_
      exact qa_vret rfl dX2_takeSemicolon_28 ⟨rfl, rfl⟩ ⟨rfl, hp4, rfl, h⟩
  · have h := h.2 c1
    exact qa_vret rfl dX2_takeSemicolon_7 ⟨rfl, rfl⟩ ⟨rfl, hp0, rfl, h⟩
def wX2_readLine_86 (n : Nat)  (μ0 : qa_M)  (Q : qa_M → Prop) : Prop := wX2_takeSemicolon n  μ0 (fun μ11 => ((¬ (μ11.1 27 7) = 0 → Q μ11) ∧ ((μ11.1 27 7) = 0 → ∀ μ13, μ13 = qa_uI μ11 (μ11.2.2 27 2) 0 ((μ11.1 (μ11.2.2 27 2) 0) + (1 : Int32)) → Q μ13)))
def wX2_readLine (n : Nat)  (μ0 : qa_M) (Q : qa_M → Prop) : Prop := ((¬ (μ0.1 (μ0.2.2 27 2) 0) = 0 → wX2_isWord n 5 μ0 (fun r2 μ2 => ((r2 = 0 → wX2_isWord n 8 μ2 (fun r4 μ4 => ((r4 = 0 → wX2_isWord n 11 μ4 (fun r6 μ6 => ((r6 = 0 → wX2_isWord n 13 μ6 (fun r8 μ8 => ((r8 = 0 → wX2_fail n (1 : Int32) μ8 (fun μ10 => wX2_readLine_86 n  μ10  Q)) ∧ (¬ r8 = 0 → wX2_readLetter n  μ8 (fun μ14 => wX2_readLine_86 n  μ14  Q))))) ∧ (¬ r6 = 0 → wX2_readSnow n  μ6 (fun μ15 => wX2_readLine_86 n  μ15  Q))))) ∧ (¬ r4 = 0 → wX2_readPlace n  μ4 (fun μ16 => wX2_readLine_86 n  μ16  Q))))) ∧ (¬ r2 = 0 → wX2_readHouse n  μ2 (fun μ17 => wX2_readLine_86 n  μ17  Q))))) ∧ ((μ0.1 (μ0.2.2 27 2) 0) = 0 → wX2_readTown n  μ0 (fun μ18 => wX2_readLine_86 n  μ18  Q)))
theorem tX2_readLine_86 (l : Launch)  {Q : qa_M → Prop}  : ∀ (n : Nat)  (μ0 : qa_M), qa_PP μ0.2.2 → wX2_readLine_86 n  μ0  Q → qa_G l yX2_readLine cX2_readLine 1 none 9 0 0 (qa_pV Q) 0 0 86 [some (.ref 27)] [] 113 μ0 := by
  intro n
  intro  μ0 hp0  h
  unfold wX2_readLine_86 at h
  refine qa_ald0 dX2_readLine_86 ?_
  refine qa_V0V dX2_readLine_87 lm_X2_83 sh_27 rfl (by decide) (by decide) (Nat.le_of_ble_eq_true rfl) (tX2_takeSemicolon l hp0  h) (fun μ11 hp11 h => ?_)
  refine qa_ald0 dX2_readLine_90 ?_
  refine qa_getI dX2_readLine_91 lf_X2_9 (Or.inl rfl) sh_27 (by decide) ?_
  refine qa_if_ne (tgt := 110) dX2_readLine_94 (by decide) (fun c12 => ?_) (fun c12 => ?_)
  · have h := h.1 c12
    exact qa_vret rfl dX2_readLine_110 ⟨rfl, rfl⟩ ⟨rfl, hp11, rfl, h⟩
  · have h := h.2 c12
    refine qa_ald0 dX2_readLine_97 ?_
    refine qa_getR dX2_readLine_98 lf_X2_22 rfl sh_27 (by decide) rfl (qa_tw0 hp11.2.2.2) ?_
    refine qa_dup dX2_readLine_101 rfl ?_
    refine qa_getI dX2_readLine_102 lf_X2_47 (Or.inl rfl) (st_0 hp11.2.2.2) (lt_0 hp11.2.2.2) ?_
    refine qa_iconst (v := 1) dX2_readLine_105 (by decide) ?_
    refine qa_iadd dX2_readLine_106 ?_
    refine qa_putI dX2_readLine_107 lf_X2_47 rfl (st_0 hp11.2.2.2) (lt_0 hp11.2.2.2) rfl ?_
    refine qa_nmM (fun μ13 em13 => ?_)
    have h := h μ13 em13
    have hp13 : qa_PP μ13.2.2 := by rw [em13]; exact hp11
    exact qa_vret rfl dX2_readLine_110 ⟨rfl, rfl⟩ ⟨rfl, hp13, rfl, h⟩
theorem tX2_readLine (l : Launch) {n : Nat}  {μ0 : qa_M} {Q : qa_M → Prop} (hp0 : qa_PP μ0.2.2)  (h : wX2_readLine n  μ0 Q) : qa_Met l yX2_readLine cX2_readLine 1 none 9 0 0 [.ref 27] 113 μ0 (qa_pV Q) := by
  refine qa_ofG (by decide) (by decide) ?_
  unfold wX2_readLine at h
  change qa_G l yX2_readLine cX2_readLine 1 none 9 0 0 (qa_pV Q) 0 0 0 [some (.ref 27)] [] 113 μ0
  refine qa_ald0 dX2_readLine_0 ?_
  refine qa_getR dX2_readLine_1 lf_X2_22 rfl sh_27 (by decide) rfl (qa_tw0 hp0.2.2.2) ?_
  refine qa_getI dX2_readLine_4 lf_X2_47 (Or.inl rfl) (st_0 hp0.2.2.2) (lt_0 hp0.2.2.2) ?_
  refine qa_if_ne (tgt := 17) dX2_readLine_7 (by decide) (fun c1 => ?_) (fun c1 => ?_)
  · have h := h.1 c1
    refine qa_ald0 dX2_readLine_17 ?_
    refine qa_ldcS (i := 5) (tx := "house") dX2_readLine_18 (by decide) ?_
    refine qa_V1I dX2_readLine_20 lm_X2_57 sh_27 rfl (by decide) (by decide) (Nat.le_of_ble_eq_true rfl) (tX2_isWord l hp0 (by decide) h) (fun r2 μ2 hp2 h => ?_)
    refine qa_if_eq (tgt := 33) dX2_readLine_23 (by decide) (fun c3 => ?_) (fun c3 => ?_)
    · have h := h.1 c3
      refine qa_ald0 dX2_readLine_33 ?_
      refine qa_ldcS (i := 8) (tx := "place") dX2_readLine_34 (by decide) ?_
      refine qa_V1I dX2_readLine_36 lm_X2_57 sh_27 rfl (by decide) (by decide) (Nat.le_of_ble_eq_true rfl) (tX2_isWord l hp2 (by decide) h) (fun r4 μ4 hp4 h => ?_)
      refine qa_if_eq (tgt := 49) dX2_readLine_39 (by decide) (fun c5 => ?_) (fun c5 => ?_)
      · have h := h.1 c5
        refine qa_ald0 dX2_readLine_49 ?_
        refine qa_ldcS (i := 11) (tx := "snow") dX2_readLine_50 (by decide) ?_
        refine qa_V1I dX2_readLine_52 lm_X2_57 sh_27 rfl (by decide) (by decide) (Nat.le_of_ble_eq_true rfl) (tX2_isWord l hp4 (by decide) h) (fun r6 μ6 hp6 h => ?_)
        refine qa_if_eq (tgt := 65) dX2_readLine_55 (by decide) (fun c7 => ?_) (fun c7 => ?_)
        · have h := h.1 c7
          refine qa_ald0 dX2_readLine_65 ?_
          refine qa_ldcS (i := 13) (tx := "letter") dX2_readLine_66 (by decide) ?_
          refine qa_V1I dX2_readLine_68 lm_X2_57 sh_27 rfl (by decide) (by decide) (Nat.le_of_ble_eq_true rfl) (tX2_isWord l hp6 (by decide) h) (fun r8 μ8 hp8 h => ?_)
          refine qa_if_eq (tgt := 81) dX2_readLine_71 (by decide) (fun c9 => ?_) (fun c9 => ?_)
          · have h := h.1 c9
            refine qa_ald0 dX2_readLine_81 ?_
            refine qa_iconst (v := 1) dX2_readLine_82 (by decide) ?_
            refine qa_V1V dX2_readLine_83 lm_X2_79 sh_27 rfl (by decide) (by decide) (Nat.le_of_ble_eq_true rfl) (tX2_fail l hp8  h) (fun μ10 hp10 h => ?_)
            refine qa_fgt (L' := [some (.ref 27)]) (⟨rfl, trivial⟩) ?_
            refine tX2_readLine_86 l  n  μ10 hp10  h
          · have h := h.2 c9
            refine qa_ald0 dX2_readLine_74 ?_
            refine qa_V0V dX2_readLine_75 lm_X2_76 sh_27 rfl (by decide) (by decide) (Nat.le_of_ble_eq_true rfl) (tX2_readLetter l hp8  h) (fun μ14 hp14 h => ?_)
            refine qa_goto (tgt := 86) dX2_readLine_78 (by decide) ?_
            refine qa_fgt (L' := [some (.ref 27)]) (⟨rfl, trivial⟩) ?_
            refine tX2_readLine_86 l  n  μ14 hp14  h
        · have h := h.2 c7
          refine qa_ald0 dX2_readLine_58 ?_
          refine qa_V0V dX2_readLine_59 lm_X2_71 sh_27 rfl (by decide) (by decide) (Nat.le_of_ble_eq_true rfl) (tX2_readSnow l hp6  h) (fun μ15 hp15 h => ?_)
          refine qa_goto (tgt := 86) dX2_readLine_62 (by decide) ?_
          refine qa_fgt (L' := [some (.ref 27)]) (⟨rfl, trivial⟩) ?_
          refine tX2_readLine_86 l  n  μ15 hp15  h
      · have h := h.2 c5
        refine qa_ald0 dX2_readLine_42 ?_
        refine qa_V0V dX2_readLine_43 lm_X2_66 sh_27 rfl (by decide) (by decide) (Nat.le_of_ble_eq_true rfl) (tX2_readPlace l hp4  h) (fun μ16 hp16 h => ?_)
        refine qa_goto (tgt := 86) dX2_readLine_46 (by decide) ?_
        refine qa_fgt (L' := [some (.ref 27)]) (⟨rfl, trivial⟩) ?_
        refine tX2_readLine_86 l  n  μ16 hp16  h
    · have h := h.2 c3
      refine qa_ald0 dX2_readLine_26 ?_
      refine qa_V0V dX2_readLine_27 lm_X2_61 sh_27 rfl (by decide) (by decide) (Nat.le_of_ble_eq_true rfl) (tX2_readHouse l hp2  h) (fun μ17 hp17 h => ?_)
      refine qa_goto (tgt := 86) dX2_readLine_30 (by decide) ?_
      refine qa_fgt (L' := [some (.ref 27)]) (⟨rfl, trivial⟩) ?_
      refine tX2_readLine_86 l  n  μ17 hp17  h
  · have h := h.2 c1
    refine qa_ald0 dX2_readLine_10 ?_
    refine qa_V0V dX2_readLine_11 lm_X2_52 sh_27 rfl (by decide) (by decide) (Nat.le_of_ble_eq_true rfl) (tX2_readTown l hp0  h) (fun μ18 hp18 h => ?_)
    refine qa_goto (tgt := 86) dX2_readLine_14 (by decide) ?_
    refine qa_fgt (L' := [some (.ref 27)]) (⟨rfl, trivial⟩) ?_
    refine tX2_readLine_86 l  n  μ18 hp18  h
def wX2_read_39 : Nat → Int32 → qa_M → (qa_M → Prop) → Prop
  | 0, _, _, _ => False
  | n + 1, v3, μ0, Q => (((μ0.1 27 1) < v3 → Q μ0) ∧ (¬ (μ0.1 27 1) < v3 → (((μ0.1 27 3) = 0 → Q μ0) ∧ (¬ (μ0.1 27 3) = 0 → ((¬ (μ0.1 27 7) = 0 → Q μ0) ∧ ((μ0.1 27 7) = 0 → wX2_readLine n  μ0 (fun μ11 => wX2_read_39 n (v3 + (1 : Int32)) μ11 Q)))))))
def wX2_read (n : Nat) (v1 : Int32) (v2 : Nat) (μ0 : qa_M) (Q : qa_M → Prop) : Prop := wJ9_min_7cf53 n v1 (nI 800) μ0 (fun r1 μ1 => ∀ μ2, μ2 = qa_uI μ1 27 1 r1 → ∀ μ3, μ3 = qa_uP μ2 27 2 v2 → ∀ μ4, μ4 = qa_uI μ3 27 7 (0 : Int32) → ∀ μ5, μ5 = qa_uI μ4 27 8 (-1 : Int32) → ∀ μ6, μ6 = qa_uI μ5 27 5 (0 : Int32) → wX2_step n  μ6 (fun μ7 => wX2_read_39 n (0 : Int32) μ7  Q))
theorem tX2_read_39 (l : Launch)  {Q : qa_M → Prop}  : ∀ (n : Nat) (v3 : Int32) (μ0 : qa_M), qa_PP μ0.2.2 → wX2_read_39 n v3 μ0  Q → qa_G l yX2_read cX2_read 4 none 10 0 0 (qa_pV Q) 0 0 39 [some (.ref 27), none, none, some (.int v3)] [] 113 μ0 := by
  intro n
  induction n with
  | zero =>
    intro v3 μ0 hp0  h
    rw [wX2_read_39] at h
    exact h.elim
  | succ n ih =>
    intro v3 μ0 hp0  h
    rw [wX2_read_39] at h
    refine qa_ild3 dX2_read_39 ?_
    refine qa_ald0 dX2_read_40 ?_
    refine qa_getI dX2_read_41 lf_X2_32 (Or.inl rfl) sh_27 (by decide) ?_
    refine qa_icmp_gt (tgt := 71) dX2_read_44 (by decide) (fun c8 => ?_) (fun c8 => ?_)
    · have h := h.1 c8
      exact qa_vret rfl dX2_read_71 ⟨rfl, rfl⟩ ⟨rfl, hp0, rfl, h⟩
    · have h := h.2 c8
      refine qa_ald0 dX2_read_47 ?_
      refine qa_getI dX2_read_48 lf_X2_41 (Or.inl rfl) sh_27 (by decide) ?_
      refine qa_if_eq (tgt := 71) dX2_read_51 (by decide) (fun c9 => ?_) (fun c9 => ?_)
      · have h := h.1 c9
        exact qa_vret rfl dX2_read_71 ⟨rfl, rfl⟩ ⟨rfl, hp0, rfl, h⟩
      · have h := h.2 c9
        refine qa_ald0 dX2_read_54 ?_
        refine qa_getI dX2_read_55 lf_X2_9 (Or.inl rfl) sh_27 (by decide) ?_
        refine qa_if_ne (tgt := 71) dX2_read_58 (by decide) (fun c10 => ?_) (fun c10 => ?_)
        · have h := h.1 c10
          exact qa_vret rfl dX2_read_71 ⟨rfl, rfl⟩ ⟨rfl, hp0, rfl, h⟩
        · have h := h.2 c10
          refine qa_ald0 dX2_read_61 ?_
          refine qa_V0V dX2_read_62 lm_X2_44 sh_27 rfl (by decide) (by decide) (Nat.le_of_ble_eq_true rfl) (tX2_readLine l hp0  h) (fun μ11 hp11 h => ?_)
          refine qa_inc3 dX2_read_65 (qa_io1 _) ?_
          refine qa_goto (tgt := 39) dX2_read_68 (by decide) ?_
          refine qa_fgt (L' := [some (.ref 27), none, none, some (.int (v3 + (1 : Int32)))]) (⟨rfl, ⟨rfl, trivial⟩⟩) ?_
          exact ih (v3 + (1 : Int32)) μ11 hp11  h
theorem tX2_read (l : Launch) {n : Nat} {v1 : Int32} {v2 : Nat} {μ0 : qa_M} {Q : qa_M → Prop} (hp0 : qa_PP μ0.2.2) (k2 : qa_tw v2) (h : wX2_read n v1 v2 μ0 Q) : qa_Met l yX2_read cX2_read 4 none 10 0 0 [.ref 27, .int v1, .ref v2] 113 μ0 (qa_pV Q) := by
  refine qa_ofG (by decide) (by decide) ?_
  unfold wX2_read at h
  change qa_G l yX2_read cX2_read 4 none 10 0 0 (qa_pV Q) 0 0 0 [some (.ref 27), some (.int v1), some (.ref v2), none] [] 113 μ0
  refine qa_ald0 dX2_read_0 ?_
  refine qa_ild1 dX2_read_1 ?_
  refine qa_ald0 dX2_read_2 ?_
  refine qa_getR dX2_read_3 lf_X2_18 rfl sh_27 (by decide) (pp_27_0 hp0) (by decide) ?_
  refine qa_alen (t := 1) dX2_read_6 sh_2 rfl (by decide) ?_
  refine qa_S2I dX2_read_7 lm_X2_26  (by decide) (Nat.le_of_ble_eq_true rfl) (tJ9_min_7cf53 l hp0  h) (fun r1 μ1 hp1 h => ?_)
  refine qa_putI dX2_read_10 lf_X2_32 rfl sh_27 (by decide) rfl ?_
  refine qa_nmM (fun μ2 em2 => ?_)
  have h := h μ2 em2
  have hp2 : qa_PP μ2.2.2 := by rw [em2]; exact hp1
  refine qa_ald0 dX2_read_13 ?_
  refine qa_ald2 dX2_read_14 ?_
  refine qa_putR dX2_read_15 lf_X2_22 (Or.inr ⟨_, rfl⟩) sh_27 (by decide) (Or.inl rfl) (qa_tw0 k2) ?_
  refine qa_nmM (fun μ3 em3 => ?_)
  have h := h μ3 em3
  have hp3 : qa_PP μ3.2.2 := by rw [em3]; exact qa_PP_27_2 hp2 k2
  refine qa_ald0 dX2_read_18 ?_
  refine qa_iconst (v := 0) dX2_read_19 (by decide) ?_
  refine qa_putI dX2_read_20 lf_X2_9 rfl sh_27 (by decide) rfl ?_
  refine qa_nmM (fun μ4 em4 => ?_)
  have h := h μ4 em4
  have hp4 : qa_PP μ4.2.2 := by rw [em4]; exact hp3
  refine qa_ald0 dX2_read_23 ?_
  refine qa_iconst (v := -1) dX2_read_24 (by decide) ?_
  refine qa_putI dX2_read_25 lf_X2_15 rfl sh_27 (by decide) rfl ?_
  refine qa_nmM (fun μ5 em5 => ?_)
  have h := h μ5 em5
  have hp5 : qa_PP μ5.2.2 := by rw [em5]; exact hp4
  refine qa_ald0 dX2_read_28 ?_
  refine qa_iconst (v := 0) dX2_read_29 (by decide) ?_
  refine qa_putI dX2_read_30 lf_X2_35 rfl sh_27 (by decide) rfl ?_
  refine qa_nmM (fun μ6 em6 => ?_)
  have h := h μ6 em6
  have hp6 : qa_PP μ6.2.2 := by rw [em6]; exact hp5
  refine qa_ald0 dX2_read_33 ?_
  refine qa_V0V dX2_read_34 lm_X2_38 sh_27 rfl (by decide) (by decide) (Nat.le_of_ble_eq_true rfl) (tX2_step l hp6  h) (fun μ7 hp7 h => ?_)
  refine qa_iconst (v := 0) dX2_read_37 (by decide) ?_
  refine qa_ist3 dX2_read_38 ?_
  refine qa_fgt (L' := [some (.ref 27), none, none, some (.int (0 : Int32))]) (⟨rfl, ⟨rfl, trivial⟩⟩) ?_
  refine tX2_read_39 l  n (0 : Int32) μ7 hp7  h
def wX3_begin (n : Nat) (v0 : Nat) (v1 : Int32) (v2 : Int32) (μ0 : qa_M) (Q : qa_M → Prop) : Prop := ∀ μ1, μ1 = qa_uI μ0 v0 1 v1 → ∀ μ2, μ2 = qa_uI μ1 v0 2 v2 → wJ7_fill_d0a16 n (v0 + 1) 60 (0 : Int64) μ2 (fun μ3 => Q μ3)
theorem tX3_begin (l : Launch) {n : Nat} {v0 : Nat} {v1 : Int32} {v2 : Int32} {μ0 : qa_M} {Q : qa_M → Prop} (hp0 : qa_PP μ0.2.2) (k0 : qa_rw v0) (h : wX3_begin n v0 v1 v2 μ0 Q) : qa_Met l yX3_begin cX3_begin 3 none 1 0 0 [.ref v0, .int v1, .int v2] 113 μ0 (qa_pV Q) := by
  refine qa_ofG (by decide) (by decide) ?_
  unfold wX3_begin at h
  change qa_G l yX3_begin cX3_begin 3 none 1 0 0 (qa_pV Q) 0 0 0 [some (.ref v0), some (.int v1), some (.int v2)] [] 113 μ0
  refine qa_ald0 dX3_begin_0 ?_
  refine qa_ild1 dX3_begin_1 ?_
  refine qa_putI dX3_begin_2 lf_X3_19 rfl (sr_0 k0) (lr_0 k0) rfl ?_
  refine qa_nmM (fun μ1 em1 => ?_)
  have h := h μ1 em1
  have hp1 : qa_PP μ1.2.2 := by rw [em1]; exact hp0
  refine qa_ald0 dX3_begin_5 ?_
  refine qa_ild2 dX3_begin_6 ?_
  refine qa_putI dX3_begin_7 lf_X3_15 rfl (sr_0 k0) (lr_0 k0) rfl ?_
  refine qa_nmM (fun μ2 em2 => ?_)
  have h := h μ2 em2
  have hp2 : qa_PP μ2.2.2 := by rw [em2]; exact hp1
  refine qa_ald0 dX3_begin_10 ?_
  refine qa_getR dX3_begin_11 lf_X3_9 rfl (sr_0 k0) (lr_0 k0) (pr_0 hp2 k0) (Nat.succ_pos _) ?_
  refine qa_lconst (v := 0) dX3_begin_14 (by decide) ?_
  refine qa_S2V dX3_begin_15 lm_X3_22  (by decide) (Nat.le_of_ble_eq_true rfl) (tJ7_fill_d0a16 l hp2 (sr_1 k0) (lr_1 k0) h) (fun μ3 hp3 h => ?_)
  exact qa_vret rfl dX3_begin_18 ⟨rfl, rfl⟩ ⟨rfl, hp3, rfl, h⟩
def wX7_spot (n : Nat) (v0 : Nat) (v1 : Int32) (v2 : Int32) (μ0 : qa_M) (Q : Int32 → qa_M → Prop) : Prop := vp_in ((v2 * (8 : Int32)) + v1) 168 ∧ Q (μ0.1 (v0 + 1) ((v2 * (8 : Int32)) + v1).toNatClampNeg) μ0
theorem tX7_spot (l : Launch) {n : Nat} {v0 : Nat} {v1 : Int32} {v2 : Int32} {μ0 : qa_M} {Q : Int32 → qa_M → Prop} (hp0 : qa_PP μ0.2.2) (k0 : qa_yr v0) (h : wX7_spot n v0 v1 v2 μ0 Q) : qa_Met l yX7_spot cX7_spot 3 (some .int) 0 0 0 [.ref v0, .int v1, .int v2] 113 μ0 (qa_pI Q) := by
  refine qa_ofG (by decide) (by decide) ?_
  unfold wX7_spot at h
  change qa_G l yX7_spot cX7_spot 3 (some .int) 0 0 0 (qa_pI Q) 0 0 0 [some (.ref v0), some (.int v1), some (.int v2)] [] 113 μ0
  refine qa_ald0 dX7_spot_0 ?_
  refine qa_getR dX7_spot_1 lf_X7_9 rfl (sy_0 k0) (ly_0 k0) (py_0 hp0 k0) (Nat.succ_pos _) ?_
  refine qa_ild2 dX7_spot_4 ?_
  refine qa_bipush (v := 8) dX7_spot_5 (by decide) ?_
  refine qa_imul dX7_spot_7 ?_
  refine qa_ild1 dX7_spot_8 ?_
  refine qa_iadd dX7_spot_9 ?_
  refine qa_iald dX7_spot_10 (sy_1 k0) (ly_1 k0) h.1 ?_
  have h := h.2
  exact qa_iret rfl dX7_spot_11 ⟨rfl, rfl⟩ ⟨rfl, hp0, _, rfl, h⟩
def wX3_fitsPlaces_2 : Nat → Nat → Nat → Int32 → Int32 → qa_M → (Int32 → qa_M → Prop) → Prop
  | 0, _, _, _, _, _, _ => False
  | n + 1, v0, v1, v2, v3, μ0, Q => (((μ0.1 v0 2) ≤ (v3 + (1 : Int32)) → Q (1 : Int32) μ0) ∧ (¬ (μ0.1 v0 2) ≤ (v3 + (1 : Int32)) → vp_in v3 60 ∧ wX7_spot n v1 v2 (μ0.2.1 (v0 + 1) v3.toNatClampNeg).toInt32 μ0 (fun r2 μ2 => vp_in (v3 + (1 : Int32)) 60 ∧ (((lg_cmp r2.toInt64 (μ2.2.1 (v0 + 1) (v3 + (1 : Int32)).toNatClampNeg)) = 0 → wX3_fitsPlaces_2 n v0 v1 v2 (v3 + (2 : Int32)) μ2 Q) ∧ (¬ (lg_cmp r2.toInt64 (μ2.2.1 (v0 + 1) (v3 + (1 : Int32)).toNatClampNeg)) = 0 → Q (0 : Int32) μ2)))))
def wX3_fitsPlaces (n : Nat) (v0 : Nat) (v1 : Nat) (v2 : Int32) (μ0 : qa_M) (Q : Int32 → qa_M → Prop) : Prop := wX3_fitsPlaces_2 n v0 v1 v2 (0 : Int32) μ0  Q
theorem tX3_fitsPlaces_2 (l : Launch)  {Q : Int32 → qa_M → Prop}  : ∀ (n : Nat) (v0 : Nat) (v1 : Nat) (v2 : Int32) (v3 : Int32) (μ0 : qa_M), qa_PP μ0.2.2 → qa_rw v0 → qa_yr v1 → wX3_fitsPlaces_2 n v0 v1 v2 v3 μ0  Q → qa_G l yX3_fitsPlaces cX3_fitsPlaces 4 (some .boolean) 1 0 0 (qa_pI Q) 0 0 2 [some (.ref v0), some (.ref v1), some (.int v2), some (.int v3)] [] 113 μ0 := by
  intro n
  induction n with
  | zero =>
    intro v0 v1 v2 v3 μ0 hp0 k0 k1 h
    rw [wX3_fitsPlaces_2] at h
    exact h.elim
  | succ n ih =>
    intro v0 v1 v2 v3 μ0 hp0 k0 k1 h
    rw [wX3_fitsPlaces_2] at h
    refine qa_ild3 dX3_fitsPlaces_2 ?_
    refine qa_iconst (v := 1) dX3_fitsPlaces_3 (by decide) ?_
    refine qa_iadd dX3_fitsPlaces_4 ?_
    refine qa_ald0 dX3_fitsPlaces_5 ?_
    refine qa_getI dX3_fitsPlaces_6 lf_X3_15 (Or.inl rfl) (sr_0 k0) (lr_0 k0) ?_
    refine qa_icmp_ge (tgt := 45) dX3_fitsPlaces_9 (by decide) (fun c1 => ?_) (fun c1 => ?_)
    · have h := h.1 c1
      refine qa_iconst (v := 1) dX3_fitsPlaces_45 (by decide) ?_
      exact qa_zret rfl rfl dX3_fitsPlaces_46 ⟨rfl, rfl⟩ ⟨rfl, hp0, _, rfl, h⟩
    · have h := h.2 c1
      refine qa_ald1 dX3_fitsPlaces_12 ?_
      refine qa_ild2 dX3_fitsPlaces_13 ?_
      refine qa_ald0 dX3_fitsPlaces_14 ?_
      refine qa_getR dX3_fitsPlaces_15 lf_X3_9 rfl (sr_0 k0) (lr_0 k0) (pr_0 hp0 k0) (Nat.succ_pos _) ?_
      refine qa_ild3 dX3_fitsPlaces_18 ?_
      refine qa_lald dX3_fitsPlaces_19 (sr_1 k0) (lr_1 k0) h.1 ?_
      have h := h.2
      refine qa_l2i dX3_fitsPlaces_20 ?_
      refine qa_V2I dX3_fitsPlaces_21 lm_X3_34 (sy_0 k1) rfl (ly_0 k1) (by decide) (Nat.le_of_ble_eq_true rfl) (tX7_spot l hp0 k1 h) (fun r2 μ2 hp2 h => ?_)
      refine qa_i2l dX3_fitsPlaces_24 ?_
      refine qa_ald0 dX3_fitsPlaces_25 ?_
      refine qa_getR dX3_fitsPlaces_26 lf_X3_9 rfl (sr_0 k0) (lr_0 k0) (pr_0 hp2 k0) (Nat.succ_pos _) ?_
      refine qa_ild3 dX3_fitsPlaces_29 ?_
      refine qa_iconst (v := 1) dX3_fitsPlaces_30 (by decide) ?_
      refine qa_iadd dX3_fitsPlaces_31 ?_
      refine qa_lald dX3_fitsPlaces_32 (sr_1 k0) (lr_1 k0) h.1 ?_
      have h := h.2
      refine qa_lcmp dX3_fitsPlaces_33 ?_
      refine qa_if_eq (tgt := 39) dX3_fitsPlaces_34 (by decide) (fun c3 => ?_) (fun c3 => ?_)
      · have h := h.1 c3
        refine qa_inc3 dX3_fitsPlaces_39 (qa_io2 _) ?_
        refine qa_goto (tgt := 2) dX3_fitsPlaces_42 (by decide) ?_
        refine qa_fgt (L' := [some (.ref v0), some (.ref v1), some (.int v2), some (.int (v3 + (2 : Int32)))]) (⟨rfl, ⟨rfl, ⟨rfl, ⟨rfl, trivial⟩⟩⟩⟩) ?_
        exact ih v0 v1 v2 (v3 + (2 : Int32)) μ2 hp2 k0 k1 h
      · have h := h.2 c3
        refine qa_iconst (v := 0) dX3_fitsPlaces_37 (by decide) ?_
        exact qa_zret rfl rfl dX3_fitsPlaces_38 ⟨rfl, rfl⟩ ⟨rfl, hp2, _, rfl, h⟩
theorem tX3_fitsPlaces (l : Launch) {n : Nat} {v0 : Nat} {v1 : Nat} {v2 : Int32} {μ0 : qa_M} {Q : Int32 → qa_M → Prop} (hp0 : qa_PP μ0.2.2) (k0 : qa_rw v0) (k1 : qa_yr v1) (h : wX3_fitsPlaces n v0 v1 v2 μ0 Q) : qa_Met l yX3_fitsPlaces cX3_fitsPlaces 4 (some .boolean) 1 0 0 [.ref v0, .ref v1, .int v2] 113 μ0 (qa_pI Q) := by
  refine qa_ofG (by decide) (by decide) ?_
  unfold wX3_fitsPlaces at h
  change qa_G l yX3_fitsPlaces cX3_fitsPlaces 4 (some .boolean) 1 0 0 (qa_pI Q) 0 0 0 [some (.ref v0), some (.ref v1), some (.int v2), none] [] 113 μ0
  refine qa_iconst (v := 0) dX3_fitsPlaces_0 (by decide) ?_
  refine qa_ist3 dX3_fitsPlaces_1 ?_
  refine qa_fgt (L' := [some (.ref v0), some (.ref v1), some (.int v2), some (.int (0 : Int32))]) (⟨rfl, ⟨rfl, ⟨rfl, ⟨rfl, trivial⟩⟩⟩⟩) ?_
  refine tX3_fitsPlaces_2 l  n v0 v1 v2 (0 : Int32) μ0 hp0 k0 k1 h
def wX3_fitsTurns_2 : Nat → Nat → Nat → Int32 → qa_M → (Int32 → qa_M → Prop) → Prop
  | 0, _, _, _, _, _ => False
  | n + 1, v0, v1, v2, μ0, Q => (((μ0.1 v0 2) ≤ (v2 + (1 : Int32)) → Q (1 : Int32) μ0) ∧ (¬ (μ0.1 v0 2) ≤ (v2 + (1 : Int32)) → vp_in v2 60 ∧ vp_in (μ0.2.1 (v0 + 1) v2.toNatClampNeg).toInt32 20 ∧ vp_in (v2 + (1 : Int32)) 60 ∧ (((lg_cmp (μ0.1 (v1 + 4) (μ0.2.1 (v0 + 1) v2.toNatClampNeg).toInt32.toNatClampNeg).toInt64 (μ0.2.1 (v0 + 1) (v2 + (1 : Int32)).toNatClampNeg)) = 0 → wX3_fitsTurns_2 n v0 v1 (v2 + (2 : Int32)) μ0 Q) ∧ (¬ (lg_cmp (μ0.1 (v1 + 4) (μ0.2.1 (v0 + 1) v2.toNatClampNeg).toInt32.toNatClampNeg).toInt64 (μ0.2.1 (v0 + 1) (v2 + (1 : Int32)).toNatClampNeg)) = 0 → Q (0 : Int32) μ0))))
def wX3_fitsTurns (n : Nat) (v0 : Nat) (v1 : Nat) (μ0 : qa_M) (Q : Int32 → qa_M → Prop) : Prop := wX3_fitsTurns_2 n v0 v1 (0 : Int32) μ0  Q
theorem tX3_fitsTurns_2 (l : Launch)  {Q : Int32 → qa_M → Prop}  : ∀ (n : Nat) (v0 : Nat) (v1 : Nat) (v2 : Int32) (μ0 : qa_M), qa_PP μ0.2.2 → qa_rw v0 → qa_yr v1 → wX3_fitsTurns_2 n v0 v1 v2 μ0  Q → qa_G l yX3_fitsTurns cX3_fitsTurns 3 (some .boolean) 0 0 0 (qa_pI Q) 0 0 2 [some (.ref v0), some (.ref v1), some (.int v2)] [] 113 μ0 := by
  intro n
  induction n with
  | zero =>
    intro v0 v1 v2 μ0 hp0 k0 k1 h
    rw [wX3_fitsTurns_2] at h
    exact h.elim
  | succ n ih =>
    intro v0 v1 v2 μ0 hp0 k0 k1 h
    rw [wX3_fitsTurns_2] at h
    refine qa_ild2 dX3_fitsTurns_2 ?_
    refine qa_iconst (v := 1) dX3_fitsTurns_3 (by decide) ?_
    refine qa_iadd dX3_fitsTurns_4 ?_
    refine qa_ald0 dX3_fitsTurns_5 ?_
    refine qa_getI dX3_fitsTurns_6 lf_X3_15 (Or.inl rfl) (sr_0 k0) (lr_0 k0) ?_
    refine qa_icmp_ge (tgt := 45) dX3_fitsTurns_9 (by decide) (fun c1 => ?_) (fun c1 => ?_)
    · have h := h.1 c1
      refine qa_iconst (v := 1) dX3_fitsTurns_45 (by decide) ?_
      exact qa_zret rfl rfl dX3_fitsTurns_46 ⟨rfl, rfl⟩ ⟨rfl, hp0, _, rfl, h⟩
    · have h := h.2 c1
      refine qa_ald1 dX3_fitsTurns_12 ?_
      refine qa_getR dX3_fitsTurns_13 lf_X3_28 rfl (sy_0 k1) (ly_0 k1) (py_3 hp0 k1) (Nat.succ_pos _) ?_
      refine qa_ald0 dX3_fitsTurns_16 ?_
      refine qa_getR dX3_fitsTurns_17 lf_X3_9 rfl (sr_0 k0) (lr_0 k0) (pr_0 hp0 k0) (Nat.succ_pos _) ?_
      refine qa_ild2 dX3_fitsTurns_20 ?_
      refine qa_lald dX3_fitsTurns_21 (sr_1 k0) (lr_1 k0) h.1 ?_
      have h := h.2
      refine qa_l2i dX3_fitsTurns_22 ?_
      refine qa_iald dX3_fitsTurns_23 (sy_4 k1) (ly_4 k1) h.1 ?_
      have h := h.2
      refine qa_i2l dX3_fitsTurns_24 ?_
      refine qa_ald0 dX3_fitsTurns_25 ?_
      refine qa_getR dX3_fitsTurns_26 lf_X3_9 rfl (sr_0 k0) (lr_0 k0) (pr_0 hp0 k0) (Nat.succ_pos _) ?_
      refine qa_ild2 dX3_fitsTurns_29 ?_
      refine qa_iconst (v := 1) dX3_fitsTurns_30 (by decide) ?_
      refine qa_iadd dX3_fitsTurns_31 ?_
      refine qa_lald dX3_fitsTurns_32 (sr_1 k0) (lr_1 k0) h.1 ?_
      have h := h.2
      refine qa_lcmp dX3_fitsTurns_33 ?_
      refine qa_if_eq (tgt := 39) dX3_fitsTurns_34 (by decide) (fun c2 => ?_) (fun c2 => ?_)
      · have h := h.1 c2
        refine qa_inc2 dX3_fitsTurns_39 (qa_io2 _) ?_
        refine qa_goto (tgt := 2) dX3_fitsTurns_42 (by decide) ?_
        refine qa_fgt (L' := [some (.ref v0), some (.ref v1), some (.int (v2 + (2 : Int32)))]) (⟨rfl, ⟨rfl, ⟨rfl, trivial⟩⟩⟩) ?_
        exact ih v0 v1 (v2 + (2 : Int32)) μ0 hp0 k0 k1 h
      · have h := h.2 c2
        refine qa_iconst (v := 0) dX3_fitsTurns_37 (by decide) ?_
        exact qa_zret rfl rfl dX3_fitsTurns_38 ⟨rfl, rfl⟩ ⟨rfl, hp0, _, rfl, h⟩
theorem tX3_fitsTurns (l : Launch) {n : Nat} {v0 : Nat} {v1 : Nat} {μ0 : qa_M} {Q : Int32 → qa_M → Prop} (hp0 : qa_PP μ0.2.2) (k0 : qa_rw v0) (k1 : qa_yr v1) (h : wX3_fitsTurns n v0 v1 μ0 Q) : qa_Met l yX3_fitsTurns cX3_fitsTurns 3 (some .boolean) 0 0 0 [.ref v0, .ref v1] 113 μ0 (qa_pI Q) := by
  refine qa_ofG (by decide) (by decide) ?_
  unfold wX3_fitsTurns at h
  change qa_G l yX3_fitsTurns cX3_fitsTurns 3 (some .boolean) 0 0 0 (qa_pI Q) 0 0 0 [some (.ref v0), some (.ref v1), none] [] 113 μ0
  refine qa_iconst (v := 0) dX3_fitsTurns_0 (by decide) ?_
  refine qa_ist2 dX3_fitsTurns_1 ?_
  refine qa_fgt (L' := [some (.ref v0), some (.ref v1), some (.int (0 : Int32))]) (⟨rfl, ⟨rfl, ⟨rfl, trivial⟩⟩⟩) ?_
  refine tX3_fitsTurns_2 l  n v0 v1 (0 : Int32) μ0 hp0 k0 k1 h
def wX3_hasPairs_55 (n : Nat) (v0 : Nat) (v1 : Int32) (v2 : Int32) (v3 : Int32) (v4 : Int32) (s0 : Int32) (μ0 : qa_M) (K0 : Nat → Int32 → Int32 → Int32 → Int32 → qa_M → Prop) (Q : Int32 → qa_M → Prop) : Prop := ((s0 = 0 → Q (0 : Int32) μ0) ∧ (¬ s0 = 0 → vp_in (v4 + (1 : Int32)) 60 ∧ (((lg_cmp (μ0.2.1 (v0 + 1) (v4 + (1 : Int32)).toNatClampNeg) v2.toInt64) < 0 → Q (0 : Int32) μ0) ∧ (¬ (lg_cmp (μ0.2.1 (v0 + 1) (v4 + (1 : Int32)).toNatClampNeg) v2.toInt64) < 0 → vp_in (v4 + (1 : Int32)) 60 ∧ (((lg_cmp (μ0.2.1 (v0 + 1) (v4 + (1 : Int32)).toNatClampNeg) v3.toInt64) ≤ 0 → K0 v0 v1 v2 v3 (v4 + (2 : Int32)) μ0) ∧ (¬ (lg_cmp (μ0.2.1 (v0 + 1) (v4 + (1 : Int32)).toNatClampNeg) v3.toInt64) ≤ 0 → Q (0 : Int32) μ0))))))
def wX3_hasPairs_54 (n : Nat) (v0 : Nat) (v1 : Int32) (v2 : Int32) (v3 : Int32) (v4 : Int32) (μ0 : qa_M) (K0 : Nat → Int32 → Int32 → Int32 → Int32 → qa_M → Prop) (Q : Int32 → qa_M → Prop) : Prop := wX3_hasPairs_55 n v0 v1 v2 v3 v4 (0 : Int32) μ0 K0 Q
def wX3_hasPairs_14 : Nat → Nat → Int32 → Int32 → Int32 → Int32 → qa_M → (Int32 → qa_M → Prop) → Prop
  | 0, _, _, _, _, _, _, _ => False
  | n + 1, v0, v1, v2, v3, v4, μ0, Q => (((μ0.1 v0 2) ≤ (v4 + (1 : Int32)) → Q (1 : Int32) μ0) ∧ (¬ (μ0.1 v0 2) ≤ (v4 + (1 : Int32)) → vp_in v4 60 ∧ (((lg_cmp (μ0.2.1 (v0 + 1) v4.toNatClampNeg) (0 : Int64)) < 0 → wX3_hasPairs_54 n v0 v1 v2 v3 v4 μ0 (fun v0 v1 v2 v3 v4 μk => wX3_hasPairs_14 n v0 v1 v2 v3 v4 μk Q) Q) ∧ (¬ (lg_cmp (μ0.2.1 (v0 + 1) v4.toNatClampNeg) (0 : Int64)) < 0 → vp_in v4 60 ∧ ((0 < (lg_cmp (μ0.2.1 (v0 + 1) v4.toNatClampNeg) v1.toInt64) → wX3_hasPairs_54 n v0 v1 v2 v3 v4 μ0 (fun v0 v1 v2 v3 v4 μk => wX3_hasPairs_14 n v0 v1 v2 v3 v4 μk Q) Q) ∧ (¬ 0 < (lg_cmp (μ0.2.1 (v0 + 1) v4.toNatClampNeg) v1.toInt64) → wX3_hasPairs_55 n v0 v1 v2 v3 v4 (1 : Int32) μ0 (fun v0 v1 v2 v3 v4 μk => wX3_hasPairs_14 n v0 v1 v2 v3 v4 μk Q) Q))))))
def wX3_hasPairs (n : Nat) (v0 : Nat) (v1 : Int32) (v2 : Int32) (v3 : Int32) (μ0 : qa_M) (Q : Int32 → qa_M → Prop) : Prop := ((((μ0.1 v0 2) - (μ0.1 v0 2) / (2 : Int32) * (2 : Int32)) = 0 → wX3_hasPairs_14 n v0 v1 v2 v3 (0 : Int32) μ0  Q) ∧ (¬ ((μ0.1 v0 2) - (μ0.1 v0 2) / (2 : Int32) * (2 : Int32)) = 0 → Q (0 : Int32) μ0))
theorem tX3_hasPairs_55 (l : Launch) {K0 : Nat → Int32 → Int32 → Int32 → Int32 → qa_M → Prop} {Q : Int32 → qa_M → Prop} (hK0 : ∀ (v0 : Nat) (v1 : Int32) (v2 : Int32) (v3 : Int32) (v4 : Int32) (μ : qa_M), qa_PP μ.2.2 → qa_rw v0 → K0 v0 v1 v2 v3 v4 μ → qa_G l yX3_hasPairs cX3_hasPairs 6 (some .boolean) 0 0 0 (qa_pI Q) 0 0 14 [some (.ref v0), some (.int v1), some (.int v2), some (.int v3), some (.int v4), none] [] 113 μ) : ∀ (n : Nat) (v0 : Nat) (v1 : Int32) (v2 : Int32) (v3 : Int32) (v4 : Int32) (s0 : Int32) (μ0 : qa_M), qa_PP μ0.2.2 → qa_rw v0 → wX3_hasPairs_55 n v0 v1 v2 v3 v4 s0 μ0 K0 Q → qa_G l yX3_hasPairs cX3_hasPairs 6 (some .boolean) 0 0 0 (qa_pI Q) 0 0 55 [some (.ref v0), some (.int v1), some (.int v2), some (.int v3), some (.int v4), none] [.int s0] 113 μ0 := by
  intro n
  intro v0 v1 v2 v3 v4 s0 μ0 hp0 k0 h
  unfold wX3_hasPairs_55 at h
  refine qa_ist5 dX3_hasPairs_55 ?_
  refine qa_ild5 dX3_hasPairs_57 ?_
  refine qa_if_eq (tgt := 92) dX3_hasPairs_59 (by decide) (fun c4 => ?_) (fun c4 => ?_)
  · have h := h.1 c4
    refine qa_iconst (v := 0) dX3_hasPairs_92 (by decide) ?_
    exact qa_zret rfl rfl dX3_hasPairs_93 ⟨rfl, rfl⟩ ⟨rfl, hp0, _, rfl, h⟩
  · have h := h.2 c4
    refine qa_ald0 dX3_hasPairs_62 ?_
    refine qa_getR dX3_hasPairs_63 lf_X3_9 rfl (sr_0 k0) (lr_0 k0) (pr_0 hp0 k0) (Nat.succ_pos _) ?_
    refine qa_ild4 dX3_hasPairs_66 ?_
    refine qa_iconst (v := 1) dX3_hasPairs_68 (by decide) ?_
    refine qa_iadd dX3_hasPairs_69 ?_
    refine qa_lald dX3_hasPairs_70 (sr_1 k0) (lr_1 k0) h.1 ?_
    have h := h.2
    refine qa_ild2 dX3_hasPairs_71 ?_
    refine qa_i2l dX3_hasPairs_72 ?_
    refine qa_lcmp dX3_hasPairs_73 ?_
    refine qa_if_lt (tgt := 92) dX3_hasPairs_74 (by decide) (fun c5 => ?_) (fun c5 => ?_)
    · have h := h.1 c5
      refine qa_iconst (v := 0) dX3_hasPairs_92 (by decide) ?_
      exact qa_zret rfl rfl dX3_hasPairs_93 ⟨rfl, rfl⟩ ⟨rfl, hp0, _, rfl, h⟩
    · have h := h.2 c5
      refine qa_ald0 dX3_hasPairs_77 ?_
      refine qa_getR dX3_hasPairs_78 lf_X3_9 rfl (sr_0 k0) (lr_0 k0) (pr_0 hp0 k0) (Nat.succ_pos _) ?_
      refine qa_ild4 dX3_hasPairs_81 ?_
      refine qa_iconst (v := 1) dX3_hasPairs_83 (by decide) ?_
      refine qa_iadd dX3_hasPairs_84 ?_
      refine qa_lald dX3_hasPairs_85 (sr_1 k0) (lr_1 k0) h.1 ?_
      have h := h.2
      refine qa_ild3 dX3_hasPairs_86 ?_
      refine qa_i2l dX3_hasPairs_87 ?_
      refine qa_lcmp dX3_hasPairs_88 ?_
      refine qa_if_le (tgt := 94) dX3_hasPairs_89 (by decide) (fun c6 => ?_) (fun c6 => ?_)
      · have h := h.1 c6
        refine qa_inc4 dX3_hasPairs_94 (qa_io2 _) ?_
        refine qa_goto (tgt := 14) dX3_hasPairs_97 (by decide) ?_
        refine qa_fgt (L' := [some (.ref v0), some (.int v1), some (.int v2), some (.int v3), some (.int (v4 + (2 : Int32))), none]) (⟨rfl, ⟨rfl, ⟨rfl, ⟨rfl, ⟨rfl, trivial⟩⟩⟩⟩⟩) ?_
        exact hK0 v0 v1 v2 v3 (v4 + (2 : Int32)) μ0 hp0 k0 h
      · have h := h.2 c6
        refine qa_iconst (v := 0) dX3_hasPairs_92 (by decide) ?_
        exact qa_zret rfl rfl dX3_hasPairs_93 ⟨rfl, rfl⟩ ⟨rfl, hp0, _, rfl, h⟩
theorem tX3_hasPairs_54 (l : Launch) {K0 : Nat → Int32 → Int32 → Int32 → Int32 → qa_M → Prop} {Q : Int32 → qa_M → Prop} (hK0 : ∀ (v0 : Nat) (v1 : Int32) (v2 : Int32) (v3 : Int32) (v4 : Int32) (μ : qa_M), qa_PP μ.2.2 → qa_rw v0 → K0 v0 v1 v2 v3 v4 μ → qa_G l yX3_hasPairs cX3_hasPairs 6 (some .boolean) 0 0 0 (qa_pI Q) 0 0 14 [some (.ref v0), some (.int v1), some (.int v2), some (.int v3), some (.int v4), none] [] 113 μ) : ∀ (n : Nat) (v0 : Nat) (v1 : Int32) (v2 : Int32) (v3 : Int32) (v4 : Int32) (μ0 : qa_M), qa_PP μ0.2.2 → qa_rw v0 → wX3_hasPairs_54 n v0 v1 v2 v3 v4 μ0 K0 Q → qa_G l yX3_hasPairs cX3_hasPairs 6 (some .boolean) 0 0 0 (qa_pI Q) 0 0 54 [some (.ref v0), some (.int v1), some (.int v2), some (.int v3), some (.int v4), none] [] 113 μ0 := by
  intro n
  intro v0 v1 v2 v3 v4 μ0 hp0 k0 h
  unfold wX3_hasPairs_54 at h
  refine qa_iconst (v := 0) dX3_hasPairs_54 (by decide) ?_
  refine qa_fgt (L' := [some (.ref v0), some (.int v1), some (.int v2), some (.int v3), some (.int v4), none]) (⟨rfl, ⟨rfl, ⟨rfl, ⟨rfl, ⟨rfl, trivial⟩⟩⟩⟩⟩) ?_
  refine tX3_hasPairs_55 l hK0 n v0 v1 v2 v3 v4 (0 : Int32) μ0 hp0 k0 h
theorem tX3_hasPairs_14 (l : Launch)  {Q : Int32 → qa_M → Prop}  : ∀ (n : Nat) (v0 : Nat) (v1 : Int32) (v2 : Int32) (v3 : Int32) (v4 : Int32) (μ0 : qa_M), qa_PP μ0.2.2 → qa_rw v0 → wX3_hasPairs_14 n v0 v1 v2 v3 v4 μ0  Q → qa_G l yX3_hasPairs cX3_hasPairs 6 (some .boolean) 0 0 0 (qa_pI Q) 0 0 14 [some (.ref v0), some (.int v1), some (.int v2), some (.int v3), some (.int v4), none] [] 113 μ0 := by
  intro n
  induction n with
  | zero =>
    intro v0 v1 v2 v3 v4 μ0 hp0 k0 h
    rw [wX3_hasPairs_14] at h
    exact h.elim
  | succ n ih =>
    intro v0 v1 v2 v3 v4 μ0 hp0 k0 h
    rw [wX3_hasPairs_14] at h
    refine qa_ild4 dX3_hasPairs_14 ?_
    refine qa_iconst (v := 1) dX3_hasPairs_16 (by decide) ?_
    refine qa_iadd dX3_hasPairs_17 ?_
    refine qa_ald0 dX3_hasPairs_18 ?_
    refine qa_getI dX3_hasPairs_19 lf_X3_15 (Or.inl rfl) (sr_0 k0) (lr_0 k0) ?_
    refine qa_icmp_ge (tgt := 100) dX3_hasPairs_22 (by decide) (fun c2 => ?_) (fun c2 => ?_)
    · have h := h.1 c2
      refine qa_iconst (v := 1) dX3_hasPairs_100 (by decide) ?_
      exact qa_zret rfl rfl dX3_hasPairs_101 ⟨rfl, rfl⟩ ⟨rfl, hp0, _, rfl, h⟩
    · have h := h.2 c2
      refine qa_ald0 dX3_hasPairs_25 ?_
      refine qa_getR dX3_hasPairs_26 lf_X3_9 rfl (sr_0 k0) (lr_0 k0) (pr_0 hp0 k0) (Nat.succ_pos _) ?_
      refine qa_ild4 dX3_hasPairs_29 ?_
      refine qa_lald dX3_hasPairs_31 (sr_1 k0) (lr_1 k0) h.1 ?_
      have h := h.2
      refine qa_lconst (v := 0) dX3_hasPairs_32 (by decide) ?_
      refine qa_lcmp dX3_hasPairs_33 ?_
      refine qa_if_lt (tgt := 54) dX3_hasPairs_34 (by decide) (fun c3 => ?_) (fun c3 => ?_)
      · have h := h.1 c3
        refine qa_fgt (L' := [some (.ref v0), some (.int v1), some (.int v2), some (.int v3), some (.int v4), none]) (⟨rfl, ⟨rfl, ⟨rfl, ⟨rfl, ⟨rfl, trivial⟩⟩⟩⟩⟩) ?_
        refine tX3_hasPairs_54 l ih n v0 v1 v2 v3 v4 μ0 hp0 k0 h
      · have h := h.2 c3
        refine qa_ald0 dX3_hasPairs_37 ?_
        refine qa_getR dX3_hasPairs_38 lf_X3_9 rfl (sr_0 k0) (lr_0 k0) (pr_0 hp0 k0) (Nat.succ_pos _) ?_
        refine qa_ild4 dX3_hasPairs_41 ?_
        refine qa_lald dX3_hasPairs_43 (sr_1 k0) (lr_1 k0) h.1 ?_
        have h := h.2
        refine qa_ild1 dX3_hasPairs_44 ?_
        refine qa_i2l dX3_hasPairs_45 ?_
        refine qa_lcmp dX3_hasPairs_46 ?_
        refine qa_if_gt (tgt := 54) dX3_hasPairs_47 (by decide) (fun c7 => ?_) (fun c7 => ?_)
        · have h := h.1 c7
          refine qa_fgt (L' := [some (.ref v0), some (.int v1), some (.int v2), some (.int v3), some (.int v4), none]) (⟨rfl, ⟨rfl, ⟨rfl, ⟨rfl, ⟨rfl, trivial⟩⟩⟩⟩⟩) ?_
          refine tX3_hasPairs_54 l ih n v0 v1 v2 v3 v4 μ0 hp0 k0 h
        · have h := h.2 c7
          refine qa_iconst (v := 1) dX3_hasPairs_50 (by decide) ?_
          refine qa_goto (tgt := 55) dX3_hasPairs_51 (by decide) ?_
          refine qa_fgt (L' := [some (.ref v0), some (.int v1), some (.int v2), some (.int v3), some (.int v4), none]) (⟨rfl, ⟨rfl, ⟨rfl, ⟨rfl, ⟨rfl, trivial⟩⟩⟩⟩⟩) ?_
          refine tX3_hasPairs_55 l ih n v0 v1 v2 v3 v4 (1 : Int32) μ0 hp0 k0 h
theorem tX3_hasPairs (l : Launch) {n : Nat} {v0 : Nat} {v1 : Int32} {v2 : Int32} {v3 : Int32} {μ0 : qa_M} {Q : Int32 → qa_M → Prop} (hp0 : qa_PP μ0.2.2) (k0 : qa_rw v0) (h : wX3_hasPairs n v0 v1 v2 v3 μ0 Q) : qa_Met l yX3_hasPairs cX3_hasPairs 6 (some .boolean) 0 0 0 [.ref v0, .int v1, .int v2, .int v3] 113 μ0 (qa_pI Q) := by
  refine qa_ofG (by decide) (by decide) ?_
  unfold wX3_hasPairs at h
  change qa_G l yX3_hasPairs cX3_hasPairs 6 (some .boolean) 0 0 0 (qa_pI Q) 0 0 0 [some (.ref v0), some (.int v1), some (.int v2), some (.int v3), none, none] [] 113 μ0
  refine qa_ald0 dX3_hasPairs_0 ?_
  refine qa_getI dX3_hasPairs_1 lf_X3_15 (Or.inl rfl) (sr_0 k0) (lr_0 k0) ?_
  refine qa_iconst (v := 2) dX3_hasPairs_4 (by decide) ?_
  refine qa_irem dX3_hasPairs_5 (by decide) ?_
  refine qa_if_eq (tgt := 11) dX3_hasPairs_6 (by decide) (fun c1 => ?_) (fun c1 => ?_)
  · have h := h.1 c1
    refine qa_iconst (v := 0) dX3_hasPairs_11 (by decide) ?_
    refine qa_ist4 dX3_hasPairs_12 ?_
    refine qa_fgt (L' := [some (.ref v0), some (.int v1), some (.int v2), some (.int v3), some (.int (0 : Int32)), none]) (⟨rfl, ⟨rfl, ⟨rfl, ⟨rfl, ⟨rfl, trivial⟩⟩⟩⟩⟩) ?_
    refine tX3_hasPairs_14 l  n v0 v1 v2 v3 (0 : Int32) μ0 hp0 k0 h
  · have h := h.2 c1
    refine qa_iconst (v := 0) dX3_hasPairs_9 (by decide) ?_
    exact qa_zret rfl rfl dX3_hasPairs_10 ⟨rfl, rfl⟩ ⟨rfl, hp0, _, rfl, h⟩
def wX3_isThere (n : Nat) (v0 : Nat) (μ0 : qa_M) (Q : Int32 → qa_M → Prop) : Prop := (((μ0.1 v0 2) = (-1 : Int32) → Q (0 : Int32) μ0) ∧ (¬ (μ0.1 v0 2) = (-1 : Int32) → Q (1 : Int32) μ0))
theorem tX3_isThere (l : Launch) {n : Nat} {v0 : Nat} {μ0 : qa_M} {Q : Int32 → qa_M → Prop} (hp0 : qa_PP μ0.2.2) (k0 : qa_rw v0) (h : wX3_isThere n v0 μ0 Q) : qa_Met l yX3_isThere cX3_isThere 1 (some .boolean) 0 0 0 [.ref v0] 113 μ0 (qa_pI Q) := by
  refine qa_ofG (by decide) (by decide) ?_
  unfold wX3_isThere at h
  change qa_G l yX3_isThere cX3_isThere 1 (some .boolean) 0 0 0 (qa_pI Q) 0 0 0 [some (.ref v0)] [] 113 μ0
  refine qa_ald0 dX3_isThere_0 ?_
  refine qa_getI dX3_isThere_1 lf_X3_15 (Or.inl rfl) (sr_0 k0) (lr_0 k0) ?_
  refine qa_iconst (v := -1) dX3_isThere_4 (by decide) ?_
  refine qa_icmp_eq (tgt := 12) dX3_isThere_5 (by decide) (fun c1 => ?_) (fun c1 => ?_)
  · have h := h.1 c1
    refine qa_iconst (v := 0) dX3_isThere_12 (by decide) ?_
    exact qa_zret rfl rfl dX3_isThere_13 ⟨rfl, rfl⟩ ⟨rfl, hp0, _, rfl, h⟩
  · have h := h.2 c1
    refine qa_iconst (v := 1) dX3_isThere_8 (by decide) ?_
    refine qa_goto (tgt := 13) dX3_isThere_9 (by decide) ?_
    exact qa_zret rfl rfl dX3_isThere_13 ⟨rfl, rfl⟩ ⟨rfl, hp0, _, rfl, h⟩
def wX3_spans (n : Nat) (v0 : Nat) (v1 : Int32) (v2 : Int32) (μ0 : qa_M) (Q : Int32 → qa_M → Prop) : Prop := ((v1 < 0 → Q (0 : Int32) μ0) ∧ (¬ v1 < 0 → ((v2 < 0 → Q (0 : Int32) μ0) ∧ (¬ v2 < 0 → (((μ0.1 v0 2) < v1 → Q (0 : Int32) μ0) ∧ (¬ (μ0.1 v0 2) < v1 → ((((μ0.1 v0 2) - v1) < v2 → Q (0 : Int32) μ0) ∧ (¬ ((μ0.1 v0 2) - v1) < v2 → Q (1 : Int32) μ0))))))))
theorem tX3_spans (l : Launch) {n : Nat} {v0 : Nat} {v1 : Int32} {v2 : Int32} {μ0 : qa_M} {Q : Int32 → qa_M → Prop} (hp0 : qa_PP μ0.2.2) (k0 : qa_rw v0) (h : wX3_spans n v0 v1 v2 μ0 Q) : qa_Met l yX3_spans cX3_spans 3 (some .boolean) 0 0 0 [.ref v0, .int v1, .int v2] 113 μ0 (qa_pI Q) := by
  refine qa_ofG (by decide) (by decide) ?_
  unfold wX3_spans at h
  change qa_G l yX3_spans cX3_spans 3 (some .boolean) 0 0 0 (qa_pI Q) 0 0 0 [some (.ref v0), some (.int v1), some (.int v2)] [] 113 μ0
  refine qa_ild1 dX3_spans_0 ?_
  refine qa_if_lt (tgt := 30) dX3_spans_1 (by decide) (fun c1 => ?_) (fun c1 => ?_)
  · have h := h.1 c1
    refine qa_iconst (v := 0) dX3_spans_30 (by decide) ?_
    exact qa_zret rfl rfl dX3_spans_31 ⟨rfl, rfl⟩ ⟨rfl, hp0, _, rfl, h⟩
  · have h := h.2 c1
    refine qa_ild2 dX3_spans_4 ?_
    refine qa_if_lt (tgt := 30) dX3_spans_5 (by decide) (fun c2 => ?_) (fun c2 => ?_)
    · have h := h.1 c2
      refine qa_iconst (v := 0) dX3_spans_30 (by decide) ?_
      exact qa_zret rfl rfl dX3_spans_31 ⟨rfl, rfl⟩ ⟨rfl, hp0, _, rfl, h⟩
    · have h := h.2 c2
      refine qa_ild1 dX3_spans_8 ?_
      refine qa_ald0 dX3_spans_9 ?_
      refine qa_getI dX3_spans_10 lf_X3_15 (Or.inl rfl) (sr_0 k0) (lr_0 k0) ?_
      refine qa_icmp_gt (tgt := 30) dX3_spans_13 (by decide) (fun c3 => ?_) (fun c3 => ?_)
      · have h := h.1 c3
        refine qa_iconst (v := 0) dX3_spans_30 (by decide) ?_
        exact qa_zret rfl rfl dX3_spans_31 ⟨rfl, rfl⟩ ⟨rfl, hp0, _, rfl, h⟩
      · have h := h.2 c3
        refine qa_ild2 dX3_spans_16 ?_
        refine qa_ald0 dX3_spans_17 ?_
        refine qa_getI dX3_spans_18 lf_X3_15 (Or.inl rfl) (sr_0 k0) (lr_0 k0) ?_
        refine qa_ild1 dX3_spans_21 ?_
        refine qa_isub dX3_spans_22 ?_
        refine qa_icmp_gt (tgt := 30) dX3_spans_23 (by decide) (fun c4 => ?_) (fun c4 => ?_)
        · have h := h.1 c4
          refine qa_iconst (v := 0) dX3_spans_30 (by decide) ?_
          exact qa_zret rfl rfl dX3_spans_31 ⟨rfl, rfl⟩ ⟨rfl, hp0, _, rfl, h⟩
        · have h := h.2 c4
          refine qa_iconst (v := 1) dX3_spans_26 (by decide) ?_
          refine qa_goto (tgt := 31) dX3_spans_27 (by decide) ?_
          exact qa_zret rfl rfl dX3_spans_31 ⟨rfl, rfl⟩ ⟨rfl, hp0, _, rfl, h⟩
def wX4_add_14 : Nat → Int32 → Nat → Int32 → Int32 → qa_M → (Int32 → qa_M → Prop) → (qa_M → Prop) → Prop
  | 0, _, _, _, _, _, _, _ => False
  | n + 1, v1, v2, v3, v4, μ0, K0, Q => ((v3 ≤ v4 → K0 v1 μ0) ∧ (¬ v3 ≤ v4 → vp_in v4 20 ∧ vp_in (((μ0.1 42 0) * (20 : Int32)) + v4) 5120 ∧ ∀ μ3, μ3 = qa_uI μ0 43 (((μ0.1 42 0) * (20 : Int32)) + v4).toNatClampNeg (μ0.1 (v2 + 4) v4.toNatClampNeg).toInt16.toInt32.toInt16.toInt32 → wX4_add_14 n v1 v2 v3 (v4 + (1 : Int32)) μ3 K0 Q))
def wX4_add (n : Nat) (v1 : Int32) (v2 : Nat) (v3 : Int32) (μ0 : qa_M) (Q : qa_M → Prop) : Prop := (((μ0.1 42 0) < (256 : Int32) → wX4_add_14 n v1 v2 v3 (0 : Int32) μ0 (fun v1_5 μ4 => ∀ μ6, μ6 = qa_uI μ4 42 1 ((μ4.1 42 1) &&& v1_5) → ∀ μ7, μ7 = qa_uI μ6 42 2 ((μ6.1 42 2) ||| v1_5) → ∀ μ8, μ8 = qa_uI μ7 42 0 ((μ7.1 42 0) + (1 : Int32)) → Q μ8) Q) ∧ (¬ (μ0.1 42 0) < (256 : Int32) → Q μ0))
theorem tX4_add_14 (l : Launch) {K0 : Int32 → qa_M → Prop} {Q : qa_M → Prop} (hK0 : ∀ (v1 : Int32) (μ : qa_M), qa_PP μ.2.2 → K0 v1 μ → qa_G l yX4_add cX4_add 5 none 0 0 0 (qa_pV Q) 0 0 49 [some (.ref 42), some (.int v1), none, none, none] [] 113 μ) : ∀ (n : Nat) (v1 : Int32) (v2 : Nat) (v3 : Int32) (v4 : Int32) (μ0 : qa_M), qa_PP μ0.2.2 → qa_yr v2 → wX4_add_14 n v1 v2 v3 v4 μ0 K0 Q → qa_G l yX4_add cX4_add 5 none 0 0 0 (qa_pV Q) 0 0 14 [some (.ref 42), some (.int v1), some (.ref v2), some (.int v3), some (.int v4)] [] 113 μ0 := by
  intro n
  induction n with
  | zero =>
    intro v1 v2 v3 v4 μ0 hp0 k2 h
    rw [wX4_add_14] at h
    exact h.elim
  | succ n ih =>
    intro v1 v2 v3 v4 μ0 hp0 k2 h
    rw [wX4_add_14] at h
    refine qa_ild4 dX4_add_14 ?_
    refine qa_ild3 dX4_add_16 ?_
    refine qa_icmp_ge (tgt := 49) dX4_add_17 (by decide) (fun c2 => ?_) (fun c2 => ?_)
    · have h := h.1 c2
      refine qa_fgt (L' := [some (.ref 42), some (.int v1), none, none, none]) (⟨rfl, ⟨rfl, trivial⟩⟩) ?_
      exact hK0 v1 μ0 hp0  h
    · have h := h.2 c2
      refine qa_ald0 dX4_add_20 ?_
      refine qa_getR dX4_add_21 lf_X4_9 rfl sh_42 (by decide) (pp_42_3 hp0) (by decide) ?_
      refine qa_ald0 dX4_add_24 ?_
      refine qa_getI dX4_add_25 lf_X4_15 (Or.inl rfl) sh_42 (by decide) ?_
      refine qa_bipush (v := 20) dX4_add_28 (by decide) ?_
      refine qa_imul dX4_add_30 ?_
      refine qa_ild4 dX4_add_31 ?_
      refine qa_iadd dX4_add_33 ?_
      refine qa_ald2 dX4_add_34 ?_
      refine qa_getR dX4_add_35 lf_X4_25 rfl (sy_0 k2) (ly_0 k2) (py_3 hp0 k2) (Nat.succ_pos _) ?_
      refine qa_ild4 dX4_add_38 ?_
      refine qa_iald dX4_add_40 (sy_4 k2) (ly_4 k2) h.1 ?_
      have h := h.2
      refine qa_i2s dX4_add_41 ?_
      refine qa_sast dX4_add_42 sh_43 (by decide) h.1 ?_
      have h := h.2
      refine qa_nmM (fun μ3 em3 => ?_)
      have h := h μ3 em3
      have hp3 : qa_PP μ3.2.2 := by rw [em3]; exact hp0
      refine qa_inc4 dX4_add_43 (qa_io1 _) ?_
      refine qa_goto (tgt := 14) dX4_add_46 (by decide) ?_
      refine qa_fgt (L' := [some (.ref 42), some (.int v1), some (.ref v2), some (.int v3), some (.int (v4 + (1 : Int32)))]) (⟨rfl, ⟨rfl, ⟨rfl, ⟨rfl, ⟨rfl, trivial⟩⟩⟩⟩⟩) ?_
      exact ih v1 v2 v3 (v4 + (1 : Int32)) μ3 hp3 k2 h
theorem tX4_add (l : Launch) {n : Nat} {v1 : Int32} {v2 : Nat} {v3 : Int32} {μ0 : qa_M} {Q : qa_M → Prop} (hp0 : qa_PP μ0.2.2) (k2 : qa_yr v2) (h : wX4_add n v1 v2 v3 μ0 Q) : qa_Met l yX4_add cX4_add 5 none 0 0 0 [.ref 42, .int v1, .ref v2, .int v3] 113 μ0 (qa_pV Q) := by
  refine qa_ofG (by decide) (by decide) ?_
  unfold wX4_add at h
  change qa_G l yX4_add cX4_add 5 none 0 0 0 (qa_pV Q) 0 0 0 [some (.ref 42), some (.int v1), some (.ref v2), some (.int v3), none] [] 113 μ0
  refine qa_ald0 dX4_add_0 ?_
  refine qa_getI dX4_add_1 lf_X4_15 (Or.inl rfl) sh_42 (by decide) ?_
  refine qa_sipush (v := 256) dX4_add_4 (by decide) ?_
  refine qa_icmp_lt (tgt := 11) dX4_add_7 (by decide) (fun c1 => ?_) (fun c1 => ?_)
  · have h := h.1 c1
    refine qa_iconst (v := 0) dX4_add_11 (by decide) ?_
    refine qa_ist4 dX4_add_12 ?_
    refine qa_fgt (L' := [some (.ref 42), some (.int v1), some (.ref v2), some (.int v3), some (.int (0 : Int32))]) (⟨rfl, ⟨rfl, ⟨rfl, ⟨rfl, ⟨rfl, trivial⟩⟩⟩⟩⟩) ?_
    refine tX4_add_14 l ?_ n v1 v2 v3 (0 : Int32) μ0 hp0 k2 h
    · intro v1_5 μ4 hp4  h
      refine qa_ald0 dX4_add_49 ?_
      refine qa_dup dX4_add_50 rfl ?_
      refine qa_getI dX4_add_51 lf_X4_19 (Or.inl rfl) sh_42 (by decide) ?_
      refine qa_ild1 dX4_add_54 ?_
      refine qa_iand dX4_add_55 ?_
      refine qa_putI dX4_add_56 lf_X4_19 rfl sh_42 (by decide) rfl ?_
      refine qa_nmM (fun μ6 em6 => ?_)
      have h := h μ6 em6
      have hp6 : qa_PP μ6.2.2 := by rw [em6]; exact hp4
      refine qa_ald0 dX4_add_59 ?_
      refine qa_dup dX4_add_60 rfl ?_
      refine qa_getI dX4_add_61 lf_X4_22 (Or.inl rfl) sh_42 (by decide) ?_
      refine qa_ild1 dX4_add_64 ?_
      refine qa_ior dX4_add_65 ?_
      refine qa_putI dX4_add_66 lf_X4_22 rfl sh_42 (by decide) rfl ?_
      refine qa_nmM (fun μ7 em7 => ?_)
      have h := h μ7 em7
      have hp7 : qa_PP μ7.2.2 := by rw [em7]; exact hp6
      refine qa_ald0 dX4_add_69 ?_
      refine qa_dup dX4_add_70 rfl ?_
      refine qa_getI dX4_add_71 lf_X4_15 (Or.inl rfl) sh_42 (by decide) ?_
      refine qa_iconst (v := 1) dX4_add_74 (by decide) ?_
      refine qa_iadd dX4_add_75 ?_
      refine qa_putI dX4_add_76 lf_X4_15 rfl sh_42 (by decide) rfl ?_
      refine qa_nmM (fun μ8 em8 => ?_)
      have h := h μ8 em8
      have hp8 : qa_PP μ8.2.2 := by rw [em8]; exact hp7
      exact qa_vret rfl dX4_add_79 ⟨rfl, rfl⟩ ⟨rfl, hp8, rfl, h⟩
  · have h := h.2 c1
    exact qa_vret rfl dX4_add_10 ⟨rfl, rfl⟩ ⟨rfl, hp0, rfl, h⟩
def wX4_begin (n : Nat) (v1 : Int32) (μ0 : qa_M) (Q : qa_M → Prop) : Prop := ∀ μ1, μ1 = qa_uI μ0 42 0 (0 : Int32) → ∀ μ2, μ2 = qa_uI μ1 42 1 v1 → ∀ μ3, μ3 = qa_uI μ2 42 2 (0 : Int32) → Q μ3
theorem tX4_begin (l : Launch) {n : Nat} {v1 : Int32} {μ0 : qa_M} {Q : qa_M → Prop} (hp0 : qa_PP μ0.2.2)  (h : wX4_begin n v1 μ0 Q) : qa_Met l yX4_begin cX4_begin 2 none 0 0 0 [.ref 42, .int v1] 113 μ0 (qa_pV Q) := by
  refine qa_ofG (by decide) (by decide) ?_
  unfold wX4_begin at h
  change qa_G l yX4_begin cX4_begin 2 none 0 0 0 (qa_pV Q) 0 0 0 [some (.ref 42), some (.int v1)] [] 113 μ0
  refine qa_ald0 dX4_begin_0 ?_
  refine qa_iconst (v := 0) dX4_begin_1 (by decide) ?_
  refine qa_putI dX4_begin_2 lf_X4_15 rfl sh_42 (by decide) rfl ?_
  refine qa_nmM (fun μ1 em1 => ?_)
  have h := h μ1 em1
  have hp1 : qa_PP μ1.2.2 := by rw [em1]; exact hp0
  refine qa_ald0 dX4_begin_5 ?_
  refine qa_ild1 dX4_begin_6 ?_
  refine qa_putI dX4_begin_7 lf_X4_19 rfl sh_42 (by decide) rfl ?_
  refine qa_nmM (fun μ2 em2 => ?_)
  have h := h μ2 em2
  have hp2 : qa_PP μ2.2.2 := by rw [em2]; exact hp1
  refine qa_ald0 dX4_begin_10 ?_
  refine qa_iconst (v := 0) dX4_begin_11 (by decide) ?_
  refine qa_putI dX4_begin_12 lf_X4_22 rfl sh_42 (by decide) rfl ?_
  refine qa_nmM (fun μ3 em3 => ?_)
  have h := h μ3 em3
  have hp3 : qa_PP μ3.2.2 := by rw [em3]; exact hp2
  exact qa_vret rfl dX4_begin_15 ⟨rfl, rfl⟩ ⟨rfl, hp3, rfl, h⟩
def wX5_clear (n : Nat)  (μ0 : qa_M) (Q : qa_M → Prop) : Prop := wJ7_fill_53178 n 45 801 (0 : Int32) μ0 (fun μ1 => Q μ1)
theorem tX5_clear (l : Launch) {n : Nat}  {μ0 : qa_M} {Q : qa_M → Prop} (hp0 : qa_PP μ0.2.2)  (h : wX5_clear n  μ0 Q) : qa_Met l yX5_clear cX5_clear 1 none 1 0 0 [.ref 44] 113 μ0 (qa_pV Q) := by
  refine qa_ofG (by decide) (by decide) ?_
  unfold wX5_clear at h
  change qa_G l yX5_clear cX5_clear 1 none 1 0 0 (qa_pV Q) 0 0 0 [some (.ref 44)] [] 113 μ0
  refine qa_ald0 dX5_clear_0 ?_
  refine qa_getR dX5_clear_1 lf_X5_9 rfl sh_44 (by decide) (pp_44_0 hp0) (by decide) ?_
  refine qa_iconst (v := 0) dX5_clear_4 (by decide) ?_
  refine qa_S2V dX5_clear_5 lm_X5_15  (by decide) (Nat.le_of_ble_eq_true rfl) (tJ7_fill_53178 l hp0 sh_45 (by decide) h) (fun μ1 hp1 h => ?_)
  exact qa_vret rfl dX5_clear_8 ⟨rfl, rfl⟩ ⟨rfl, hp1, rfl, h⟩
def wX5_add (n : Nat) (v1 : Int32) (μ0 : qa_M) (Q : Int32 → qa_M → Prop) : Prop := ((v1 < (-400 : Int32) → Q (0 : Int32) μ0) ∧ (¬ v1 < (-400 : Int32) → ((v1 ≤ (400 : Int32) → vp_in (v1 + (400 : Int32)) 801 ∧ vp_in (v1 + (400 : Int32)) 801 ∧ ∀ μ3, μ3 = qa_uI μ0 45 (v1 + (400 : Int32)).toNatClampNeg ((μ0.1 45 (v1 + (400 : Int32)).toNatClampNeg) + (1 : Int32)) → vp_in (v1 + (400 : Int32)) 801 ∧ Q (μ3.1 45 (v1 + (400 : Int32)).toNatClampNeg) μ3) ∧ (¬ v1 ≤ (400 : Int32) → Q (0 : Int32) μ0))))
theorem tX5_add (l : Launch) {n : Nat} {v1 : Int32} {μ0 : qa_M} {Q : Int32 → qa_M → Prop} (hp0 : qa_PP μ0.2.2)  (h : wX5_add n v1 μ0 Q) : qa_Met l yX5_add cX5_add 2 (some .int) 0 0 0 [.ref 44, .int v1] 113 μ0 (qa_pI Q) := by
  refine qa_ofG (by decide) (by decide) ?_
  unfold wX5_add at h
  change qa_G l yX5_add cX5_add 2 (some .int) 0 0 0 (qa_pI Q) 0 0 0 [some (.ref 44), some (.int v1)] [] 113 μ0
  refine qa_ild1 dX5_add_0 ?_
  refine qa_sipush (v := -400) dX5_add_1 (by decide) ?_
  refine qa_icmp_lt (tgt := 14) dX5_add_4 (by decide) (fun c1 => ?_) (fun c1 => ?_)
  · have h := h.1 c1
    refine qa_iconst (v := 0) dX5_add_14 (by decide) ?_
    exact qa_iret rfl dX5_add_15 ⟨rfl, rfl⟩ ⟨rfl, hp0, _, rfl, h⟩
  · have h := h.2 c1
    refine qa_ild1 dX5_add_7 ?_
    refine qa_sipush (v := 400) dX5_add_8 (by decide) ?_
    refine qa_icmp_le (tgt := 16) dX5_add_11 (by decide) (fun c2 => ?_) (fun c2 => ?_)
    · have h := h.1 c2
      refine qa_ald0 dX5_add_16 ?_
      refine qa_getR dX5_add_17 lf_X5_9 rfl sh_44 (by decide) (pp_44_0 hp0) (by decide) ?_
      refine qa_ild1 dX5_add_20 ?_
      refine qa_sipush (v := 400) dX5_add_21 (by decide) ?_
      refine qa_iadd dX5_add_24 ?_
      refine qa_dup2 dX5_add_25 rfl rfl ?_
      refine qa_iald dX5_add_26 sh_45 (by decide) h.1 ?_
      have h := h.2
      refine qa_iconst (v := 1) dX5_add_27 (by decide) ?_
      refine qa_iadd dX5_add_28 ?_
      refine qa_iast dX5_add_29 sh_45 (by decide) h.1 ?_
      have h := h.2
      refine qa_nmM (fun μ3 em3 => ?_)
      have h := h μ3 em3
      have hp3 : qa_PP μ3.2.2 := by rw [em3]; exact hp0
      refine qa_ald0 dX5_add_30 ?_
      refine qa_getR dX5_add_31 lf_X5_9 rfl sh_44 (by decide) (pp_44_0 hp3) (by decide) ?_
      refine qa_ild1 dX5_add_34 ?_
      refine qa_sipush (v := 400) dX5_add_35 (by decide) ?_
      refine qa_iadd dX5_add_38 ?_
      refine qa_iald dX5_add_39 sh_45 (by decide) h.1 ?_
      have h := h.2
      exact qa_iret rfl dX5_add_40 ⟨rfl, rfl⟩ ⟨rfl, hp3, _, rfl, h⟩
    · have h := h.2 c2
      refine qa_iconst (v := 0) dX5_add_14 (by decide) ?_
      exact qa_iret rfl dX5_add_15 ⟨rfl, rfl⟩ ⟨rfl, hp0, _, rfl, h⟩
def wX4_worst_9 : Nat → Int32 → Int32 → Int32 → qa_M → (Int32 → qa_M → Prop) → Prop
  | 0, _, _, _, _, _ => False
  | n + 1, v1, v3, v4, μ0, Q => (((μ0.1 42 0) ≤ v4 → Q v3 μ0) ∧ (¬ (μ0.1 42 0) ≤ v4 → vp_in ((v4 * (20 : Int32)) + v1) 5120 ∧ wX5_add n (μ0.1 43 ((v4 * (20 : Int32)) + v1).toNatClampNeg) μ0 (fun r3 μ3 => wJ9_max_7cf53 n v3 r3 μ3 (fun r4 μ4 => wX4_worst_9 n v1 r4 (v4 + (1 : Int32)) μ4 Q))))
def wX4_worst (n : Nat) (v1 : Int32) (μ0 : qa_M) (Q : Int32 → qa_M → Prop) : Prop := wX5_clear n  μ0 (fun μ1 => wX4_worst_9 n v1 (0 : Int32) (0 : Int32) μ1  Q)
theorem tX4_worst_9 (l : Launch)  {Q : Int32 → qa_M → Prop}  : ∀ (n : Nat) (v1 : Int32) (v3 : Int32) (v4 : Int32) (μ0 : qa_M), qa_PP μ0.2.2 → wX4_worst_9 n v1 v3 v4 μ0  Q → qa_G l yX4_worst cX4_worst 5 (some .int) 2 0 0 (qa_pI Q) 0 0 9 [some (.ref 42), some (.int v1), some (.ref 44), some (.int v3), some (.int v4)] [] 113 μ0 := by
  intro n
  induction n with
  | zero =>
    intro v1 v3 v4 μ0 hp0  h
    rw [wX4_worst_9] at h
    exact h.elim
  | succ n ih =>
    intro v1 v3 v4 μ0 hp0  h
    rw [wX4_worst_9] at h
    refine qa_ild4 dX4_worst_9 ?_
    refine qa_ald0 dX4_worst_11 ?_
    refine qa_getI dX4_worst_12 lf_X4_15 (Or.inl rfl) sh_42 (by decide) ?_
    refine qa_icmp_ge (tgt := 45) dX4_worst_15 (by decide) (fun c2 => ?_) (fun c2 => ?_)
    · have h := h.1 c2
      refine qa_ild3 dX4_worst_45 ?_
      exact qa_iret rfl dX4_worst_46 ⟨rfl, rfl⟩ ⟨rfl, hp0, _, rfl, h⟩
    · have h := h.2 c2
      refine qa_ild3 dX4_worst_18 ?_
      refine qa_ald2 dX4_worst_19 ?_
      refine qa_ald0 dX4_worst_20 ?_
      refine qa_getR dX4_worst_21 lf_X4_9 rfl sh_42 (by decide) (pp_42_3 hp0) (by decide) ?_
      refine qa_ild4 dX4_worst_24 ?_
      refine qa_bipush (v := 20) dX4_worst_26 (by decide) ?_
      refine qa_imul dX4_worst_28 ?_
      refine qa_ild1 dX4_worst_29 ?_
      refine qa_iadd dX4_worst_30 ?_
      refine qa_sald dX4_worst_31 sh_43 (by decide) h.1 ?_
      have h := h.2
      refine qa_V1I dX4_worst_32 lm_X4_35 sh_44 rfl (by decide) (by decide) (Nat.le_of_ble_eq_true rfl) (tX5_add l hp0  h) (fun r3 μ3 hp3 h => ?_)
      refine qa_S2I dX4_worst_35 lm_X4_39  (by decide) (Nat.le_of_ble_eq_true rfl) (tJ9_max_7cf53 l hp3  h) (fun r4 μ4 hp4 h => ?_)
      refine qa_ist3 dX4_worst_38 ?_
      refine qa_inc4 dX4_worst_39 (qa_io1 _) ?_
      refine qa_goto (tgt := 9) dX4_worst_42 (by decide) ?_
      refine qa_fgt (L' := [some (.ref 42), some (.int v1), some (.ref 44), some (.int r4), some (.int (v4 + (1 : Int32)))]) (⟨rfl, ⟨rfl, ⟨rfl, ⟨rfl, ⟨rfl, trivial⟩⟩⟩⟩⟩) ?_
      exact ih v1 r4 (v4 + (1 : Int32)) μ4 hp4  h
theorem tX4_worst (l : Launch) {n : Nat} {v1 : Int32} {μ0 : qa_M} {Q : Int32 → qa_M → Prop} (hp0 : qa_PP μ0.2.2)  (h : wX4_worst n v1 μ0 Q) : qa_Met l yX4_worst cX4_worst 5 (some .int) 2 0 0 [.ref 42, .int v1, .ref 44] 113 μ0 (qa_pI Q) := by
  refine qa_ofG (by decide) (by decide) ?_
  unfold wX4_worst at h
  change qa_G l yX4_worst cX4_worst 5 (some .int) 2 0 0 (qa_pI Q) 0 0 0 [some (.ref 42), some (.int v1), some (.ref 44), none, none] [] 113 μ0
  refine qa_ald2 dX4_worst_0 ?_
  refine qa_V0V dX4_worst_1 lm_X4_30 sh_44 rfl (by decide) (by decide) (Nat.le_of_ble_eq_true rfl) (tX5_clear l hp0  h) (fun μ1 hp1 h => ?_)
  refine qa_iconst (v := 0) dX4_worst_4 (by decide) ?_
  refine qa_ist3 dX4_worst_5 ?_
  refine qa_iconst (v := 0) dX4_worst_6 (by decide) ?_
  refine qa_ist4 dX4_worst_7 ?_
  refine qa_fgt (L' := [some (.ref 42), some (.int v1), some (.ref 44), some (.int (0 : Int32)), some (.int (0 : Int32))]) (⟨rfl, ⟨rfl, ⟨rfl, ⟨rfl, ⟨rfl, trivial⟩⟩⟩⟩⟩) ?_
  refine tX4_worst_9 l  n v1 (0 : Int32) (0 : Int32) μ1 hp1  h
def wX6_clear (n : Nat) (v0 : Nat) (μ0 : qa_M) (Q : qa_M → Prop) : Prop := ∀ μ1, μ1 = qa_uI μ0 v0 0 (0 : Int32) → ∀ μ2, μ2 = qa_uI μ1 v0 1 (0 : Int32) → ∀ μ3, μ3 = qa_uI μ2 v0 2 (0 : Int32) → ∀ μ4, μ4 = qa_uI μ3 v0 3 (0 : Int32) → ∀ μ5, μ5 = qa_uI μ4 v0 4 (0 : Int32) → ∀ μ6, μ6 = qa_uI μ5 v0 5 (0 : Int32) → ∀ μ7, μ7 = qa_uI μ6 v0 6 (0 : Int32) → ∀ μ8, μ8 = qa_uI μ7 v0 7 (0 : Int32) → ∀ μ9, μ9 = qa_uI μ8 v0 8 (0 : Int32) → ∀ μ10, μ10 = qa_uI μ9 v0 9 (0 : Int32) → ∀ μ11, μ11 = qa_uI μ10 v0 10 (0 : Int32) → wJ7_fill_53178 n (v0 + 2) 8 (0 : Int32) μ11 (fun μ12 => wJ7_fill_53178 n (v0 + 3) 8 (0 : Int32) μ12 (fun μ13 => wX0_keepFirst n v0 (0 : Int32) μ13 (fun μ14 => Q μ14)))
theorem tX6_clear (l : Launch) {n : Nat} {v0 : Nat} {μ0 : qa_M} {Q : qa_M → Prop} (hp0 : qa_PP μ0.2.2) (k0 : qa_tw v0) (h : wX6_clear n v0 μ0 Q) : qa_Met l yX6_clear cX6_clear 1 none 3 0 0 [.ref v0] 113 μ0 (qa_pV Q) := by
  refine qa_ofG (by decide) (by decide) ?_
  unfold wX6_clear at h
  change qa_G l yX6_clear cX6_clear 1 none 3 0 0 (qa_pV Q) 0 0 0 [some (.ref v0)] [] 113 μ0
  refine qa_ald0 dX6_clear_0 ?_
  refine qa_iconst (v := 0) dX6_clear_1 (by decide) ?_
  refine qa_putI dX6_clear_2 lf_X6_37 rfl (st_0 k0) (lt_0 k0) rfl ?_
  refine qa_nmM (fun μ1 em1 => ?_)
  have h := h μ1 em1
  have hp1 : qa_PP μ1.2.2 := by rw [em1]; exact hp0
  refine qa_ald0 dX6_clear_5 ?_
  refine qa_iconst (v := 0) dX6_clear_6 (by decide) ?_
  refine qa_putI dX6_clear_7 lf_X6_41 rfl (st_0 k0) (lt_0 k0) rfl ?_
  refine qa_nmM (fun μ2 em2 => ?_)
  have h := h μ2 em2
  have hp2 : qa_PP μ2.2.2 := by rw [em2]; exact hp1
  refine qa_ald0 dX6_clear_10 ?_
  refine qa_iconst (v := 0) dX6_clear_11 (by decide) ?_
  refine qa_putI dX6_clear_12 lf_X6_44 rfl (st_0 k0) (lt_0 k0) rfl ?_
  refine qa_nmM (fun μ3 em3 => ?_)
  have h := h μ3 em3
  have hp3 : qa_PP μ3.2.2 := by rw [em3]; exact hp2
  refine qa_ald0 dX6_clear_15 ?_
  refine qa_iconst (v := 0) dX6_clear_16 (by decide) ?_
  refine qa_putI dX6_clear_17 lf_X6_47 rfl (st_0 k0) (lt_0 k0) rfl ?_
  refine qa_nmM (fun μ4 em4 => ?_)
  have h := h μ4 em4
  have hp4 : qa_PP μ4.2.2 := by rw [em4]; exact hp3
  refine qa_ald0 dX6_clear_20 ?_
  refine qa_iconst (v := 0) dX6_clear_21 (by decide) ?_
  refine qa_putI dX6_clear_22 lf_X6_50 rfl (st_0 k0) (lt_0 k0) rfl ?_
  refine qa_nmM (fun μ5 em5 => ?_)
  have h := h μ5 em5
  have hp5 : qa_PP μ5.2.2 := by rw [em5]; exact hp4
  refine qa_ald0 dX6_clear_25 ?_
  refine qa_iconst (v := 0) dX6_clear_26 (by decide) ?_
  refine qa_putI dX6_clear_27 lf_X6_53 rfl (st_0 k0) (lt_0 k0) rfl ?_
  refine qa_nmM (fun μ6 em6 => ?_)
  have h := h μ6 em6
  have hp6 : qa_PP μ6.2.2 := by rw [em6]; exact hp5
  refine qa_ald0 dX6_clear_30 ?_
  refine qa_iconst (v := 0) dX6_clear_31 (by decide) ?_
  refine qa_putI dX6_clear_32 lf_X6_56 rfl (st_0 k0) (lt_0 k0) rfl ?_
  refine qa_nmM (fun μ7 em7 => ?_)
  have h := h μ7 em7
  have hp7 : qa_PP μ7.2.2 := by rw [em7]; exact hp6
  refine qa_ald0 dX6_clear_35 ?_
  refine qa_iconst (v := 0) dX6_clear_36 (by decide) ?_
  refine qa_putI dX6_clear_37 lf_X6_59 rfl (st_0 k0) (lt_0 k0) rfl ?_
  refine qa_nmM (fun μ8 em8 => ?_)
  have h := h μ8 em8
  have hp8 : qa_PP μ8.2.2 := by rw [em8]; exact hp7
  refine qa_ald0 dX6_clear_40 ?_
  refine qa_iconst (v := 0) dX6_clear_41 (by decide) ?_
  refine qa_putI dX6_clear_42 lf_X6_62 rfl (st_0 k0) (lt_0 k0) rfl ?_
  refine qa_nmM (fun μ9 em9 => ?_)
  have h := h μ9 em9
  have hp9 : qa_PP μ9.2.2 := by rw [em9]; exact hp8
  refine qa_ald0 dX6_clear_45 ?_
  refine qa_iconst (v := 0) dX6_clear_46 (by decide) ?_
  refine qa_putI dX6_clear_47 lf_X6_65 rfl (st_0 k0) (lt_0 k0) rfl ?_
  refine qa_nmM (fun μ10 em10 => ?_)
  have h := h μ10 em10
  have hp10 : qa_PP μ10.2.2 := by rw [em10]; exact hp9
  refine qa_ald0 dX6_clear_50 ?_
  refine qa_iconst (v := 0) dX6_clear_51 (by decide) ?_
  refine qa_putI dX6_clear_52 lf_X6_68 rfl (st_0 k0) (lt_0 k0) rfl ?_
  refine qa_nmM (fun μ11 em11 => ?_)
  have h := h μ11 em11
  have hp11 : qa_PP μ11.2.2 := by rw [em11]; exact hp10
  refine qa_ald0 dX6_clear_55 ?_
  refine qa_getR dX6_clear_56 lf_X6_15 rfl (st_0 k0) (lt_0 k0) (pt_12 hp11 k0) (Nat.succ_pos _) ?_
  refine qa_iconst (v := 0) dX6_clear_59 (by decide) ?_
  refine qa_S2V dX6_clear_60 lm_X6_71  (by decide) (Nat.le_of_ble_eq_true rfl) (tJ7_fill_53178 l hp11 (st_2 k0) (lt_2 k0) h) (fun μ12 hp12 h => ?_)
  refine qa_ald0 dX6_clear_63 ?_
  refine qa_getR dX6_clear_64 lf_X6_18 rfl (st_0 k0) (lt_0 k0) (pt_13 hp12 k0) (Nat.succ_pos _) ?_
  refine qa_iconst (v := 0) dX6_clear_67 (by decide) ?_
  refine qa_S2V dX6_clear_68 lm_X6_71  (by decide) (Nat.le_of_ble_eq_true rfl) (tJ7_fill_53178 l hp12 (st_3 k0) (lt_3 k0) h) (fun μ13 hp13 h => ?_)
  refine qa_ald0 dX6_clear_71 ?_
  refine qa_getR dX6_clear_72 lf_X6_33 rfl (st_0 k0) (lt_0 k0) (pt_17 hp13 k0) (Nat.succ_pos _) ?_
  refine qa_iconst (v := 0) dX6_clear_75 (by decide) ?_
  refine qa_V1V dX6_clear_76 lm_X6_77 (st_7 k0) rfl (lt_7 k0) (by decide) (Nat.le_of_ble_eq_true rfl) (tX0_keepFirst l hp13 k0 h) (fun μ14 hp14 h => ?_)
  exact qa_vret rfl dX6_clear_79 ⟨rfl, rfl⟩ ⟨rfl, hp14, rfl, h⟩
def wX6_copyFrom (n : Nat) (v0 : Nat) (v1 : Nat) (μ0 : qa_M) (Q : qa_M → Prop) : Prop := ∀ μ1, μ1 = qa_uI μ0 v0 0 (μ0.1 v1 0) → ∀ μ2, μ2 = qa_uI μ1 v0 1 (μ1.1 v1 1) → ∀ μ3, μ3 = qa_uI μ2 v0 2 (μ2.1 v1 2) → ∀ μ4, μ4 = qa_uI μ3 v0 3 (μ3.1 v1 3) → ∀ μ5, μ5 = qa_uI μ4 v0 4 (μ4.1 v1 4) → ∀ μ6, μ6 = qa_uI μ5 v0 5 (μ5.1 v1 5) → ∀ μ7, μ7 = qa_uI μ6 v0 6 (μ6.1 v1 6) → ∀ μ8, μ8 = qa_uI μ7 v0 7 (μ7.1 v1 7) → ∀ μ9, μ9 = qa_uI μ8 v0 8 (μ8.1 v1 8) → ∀ μ10, μ10 = qa_uI μ9 v0 9 (μ9.1 v1 9) → ∀ μ11, μ11 = qa_uI μ10 v0 10 (μ10.1 v1 10) → ∀ μ12, μ12 = qa_cpI μ11 (v1 + 1) (v0 + 1) (0 : Int32).toNatClampNeg (0 : Int32).toNatClampNeg (8 : Int32).toNatClampNeg → ∀ μ13, μ13 = qa_cpI μ12 (v1 + 2) (v0 + 2) (0 : Int32).toNatClampNeg (0 : Int32).toNatClampNeg (8 : Int32).toNatClampNeg → ∀ μ14, μ14 = qa_cpI μ13 (v1 + 3) (v0 + 3) (0 : Int32).toNatClampNeg (0 : Int32).toNatClampNeg (8 : Int32).toNatClampNeg → ∀ μ15, μ15 = qa_cpI μ14 (v1 + 4) (v0 + 4) (0 : Int32).toNatClampNeg (0 : Int32).toNatClampNeg (8 : Int32).toNatClampNeg → ∀ μ16, μ16 = qa_cpI μ15 (v1 + 5) (v0 + 5) (0 : Int32).toNatClampNeg (0 : Int32).toNatClampNeg (8 : Int32).toNatClampNeg → ∀ μ17, μ17 = qa_cpI μ16 (v1 + 6) (v0 + 6) (0 : Int32).toNatClampNeg (0 : Int32).toNatClampNeg (8 : Int32).toNatClampNeg → wX0_copyFrom n v0 v1 μ17 (fun μ18 => Q μ18)
theorem tX6_copyFrom (l : Launch) {n : Nat} {v0 : Nat} {v1 : Nat} {μ0 : qa_M} {Q : qa_M → Prop} (hp0 : qa_PP μ0.2.2) (k0 : qa_tw v0) (k1 : qa_tw v1) (h : wX6_copyFrom n v0 v1 μ0 Q) : qa_Met l yX6_copyFrom cX6_copyFrom 2 none 3 0 0 [.ref v0, .ref v1] 113 μ0 (qa_pV Q) := by
  refine qa_ofG (by decide) (by decide) ?_
  unfold wX6_copyFrom at h
  change qa_G l yX6_copyFrom cX6_copyFrom 2 none 3 0 0 (qa_pV Q) 0 0 0 [some (.ref v0), some (.ref v1)] [] 113 μ0
  refine qa_ald0 dX6_copyFrom_0 ?_
  refine qa_ald1 dX6_copyFrom_1 ?_
  refine qa_getI dX6_copyFrom_2 lf_X6_37 (Or.inl rfl) (st_0 k1) (lt_0 k1) ?_
  refine qa_putI dX6_copyFrom_5 lf_X6_37 rfl (st_0 k0) (lt_0 k0) rfl ?_
  refine qa_nmM (fun μ1 em1 => ?_)
  have h := h μ1 em1
  have hp1 : qa_PP μ1.2.2 := by rw [em1]; exact hp0
  refine qa_ald0 dX6_copyFrom_8 ?_
  refine qa_ald1 dX6_copyFrom_9 ?_
  refine qa_getI dX6_copyFrom_10 lf_X6_41 (Or.inl rfl) (st_0 k1) (lt_0 k1) ?_
  refine qa_putI dX6_copyFrom_13 lf_X6_41 rfl (st_0 k0) (lt_0 k0) rfl ?_
  refine qa_nmM (fun μ2 em2 => ?_)
  have h := h μ2 em2
  have hp2 : qa_PP μ2.2.2 := by rw [em2]; exact hp1
  refine qa_ald0 dX6_copyFrom_16 ?_
  refine qa_ald1 dX6_copyFrom_17 ?_
  refine qa_getI dX6_copyFrom_18 lf_X6_44 (Or.inl rfl) (st_0 k1) (lt_0 k1) ?_
  refine qa_putI dX6_copyFrom_21 lf_X6_44 rfl (st_0 k0) (lt_0 k0) rfl ?_
  refine qa_nmM (fun μ3 em3 => ?_)
  have h := h μ3 em3
  have hp3 : qa_PP μ3.2.2 := by rw [em3]; exact hp2
  refine qa_ald0 dX6_copyFrom_24 ?_
  refine qa_ald1 dX6_copyFrom_25 ?_
  refine qa_getI dX6_copyFrom_26 lf_X6_47 (Or.inl rfl) (st_0 k1) (lt_0 k1) ?_
  refine qa_putI dX6_copyFrom_29 lf_X6_47 rfl (st_0 k0) (lt_0 k0) rfl ?_
  refine qa_nmM (fun μ4 em4 => ?_)
  have h := h μ4 em4
  have hp4 : qa_PP μ4.2.2 := by rw [em4]; exact hp3
  refine qa_ald0 dX6_copyFrom_32 ?_
  refine qa_ald1 dX6_copyFrom_33 ?_
  refine qa_getI dX6_copyFrom_34 lf_X6_50 (Or.inl rfl) (st_0 k1) (lt_0 k1) ?_
  refine qa_putI dX6_copyFrom_37 lf_X6_50 rfl (st_0 k0) (lt_0 k0) rfl ?_
  refine qa_nmM (fun μ5 em5 => ?_)
  have h := h μ5 em5
  have hp5 : qa_PP μ5.2.2 := by rw [em5]; exact hp4
  refine qa_ald0 dX6_copyFrom_40 ?_
  refine qa_ald1 dX6_copyFrom_41 ?_
  refine qa_getI dX6_copyFrom_42 lf_X6_53 (Or.inl rfl) (st_0 k1) (lt_0 k1) ?_
  refine qa_putI dX6_copyFrom_45 lf_X6_53 rfl (st_0 k0) (lt_0 k0) rfl ?_
  refine qa_nmM (fun μ6 em6 => ?_)
  have h := h μ6 em6
  have hp6 : qa_PP μ6.2.2 := by rw [em6]; exact hp5
  refine qa_ald0 dX6_copyFrom_48 ?_
  refine qa_ald1 dX6_copyFrom_49 ?_
  refine qa_getI dX6_copyFrom_50 lf_X6_56 (Or.inl rfl) (st_0 k1) (lt_0 k1) ?_
  refine qa_putI dX6_copyFrom_53 lf_X6_56 rfl (st_0 k0) (lt_0 k0) rfl ?_
  refine qa_nmM (fun μ7 em7 => ?_)
  have h := h μ7 em7
  have hp7 : qa_PP μ7.2.2 := by rw [em7]; exact hp6
  refine qa_ald0 dX6_copyFrom_56 ?_
  refine qa_ald1 dX6_copyFrom_57 ?_
  refine qa_getI dX6_copyFrom_58 lf_X6_59 (Or.inl rfl) (st_0 k1) (lt_0 k1) ?_
  refine qa_putI dX6_copyFrom_61 lf_X6_59 rfl (st_0 k0) (lt_0 k0) rfl ?_
  refine qa_nmM (fun μ8 em8 => ?_)
  have h := h μ8 em8
  have hp8 : qa_PP μ8.2.2 := by rw [em8]; exact hp7
  refine qa_ald0 dX6_copyFrom_64 ?_
  refine qa_ald1 dX6_copyFrom_65 ?_
  refine qa_getI dX6_copyFrom_66 lf_X6_62 (Or.inl rfl) (st_0 k1) (lt_0 k1) ?_
  refine qa_putI dX6_copyFrom_69 lf_X6_62 rfl (st_0 k0) (lt_0 k0) rfl ?_
  refine qa_nmM (fun μ9 em9 => ?_)
  have h := h μ9 em9
  have hp9 : qa_PP μ9.2.2 := by rw [em9]; exact hp8
  refine qa_ald0 dX6_copyFrom_72 ?_
  refine qa_ald1 dX6_copyFrom_73 ?_
  refine qa_getI dX6_copyFrom_74 lf_X6_65 (Or.inl rfl) (st_0 k1) (lt_0 k1) ?_
  refine qa_putI dX6_copyFrom_77 lf_X6_65 rfl (st_0 k0) (lt_0 k0) rfl ?_
  refine qa_nmM (fun μ10 em10 => ?_)
  have h := h μ10 em10
  have hp10 : qa_PP μ10.2.2 := by rw [em10]; exact hp9
  refine qa_ald0 dX6_copyFrom_80 ?_
  refine qa_ald1 dX6_copyFrom_81 ?_
  refine qa_getI dX6_copyFrom_82 lf_X6_68 (Or.inl rfl) (st_0 k1) (lt_0 k1) ?_
  refine qa_putI dX6_copyFrom_85 lf_X6_68 rfl (st_0 k0) (lt_0 k0) rfl ?_
  refine qa_nmM (fun μ11 em11 => ?_)
  have h := h μ11 em11
  have hp11 : qa_PP μ11.2.2 := by rw [em11]; exact hp10
  refine qa_ald1 dX6_copyFrom_88 ?_
  refine qa_getR dX6_copyFrom_89 lf_X6_9 rfl (st_0 k1) (lt_0 k1) (pt_11 hp11 k1) (Nat.succ_pos _) ?_
  refine qa_iconst (v := 0) dX6_copyFrom_92 (by decide) ?_
  refine qa_ald0 dX6_copyFrom_93 ?_
  refine qa_getR dX6_copyFrom_94 lf_X6_9 rfl (st_0 k0) (lt_0 k0) (pt_11 hp11 k0) (Nat.succ_pos _) ?_
  refine qa_iconst (v := 0) dX6_copyFrom_97 (by decide) ?_
  refine qa_bipush (v := 8) dX6_copyFrom_98 (by decide) ?_
  refine qa_copyI dX6_copyFrom_100 lac_X6_81 lac_n lac_s lac_i (st_1 k1) (st_1 k0) (lt_1 k1) (lt_1 k0) (by decide) (by decide) (by decide) (by decide) (by decide) (by decide) ?_
  refine qa_nmM (fun μ12 em12 => ?_)
  have h := h μ12 em12
  have hp12 : qa_PP μ12.2.2 := by rw [em12]; exact hp11
  refine qa_ald1 dX6_copyFrom_103 ?_
  refine qa_getR dX6_copyFrom_104 lf_X6_15 rfl (st_0 k1) (lt_0 k1) (pt_12 hp12 k1) (Nat.succ_pos _) ?_
  refine qa_iconst (v := 0) dX6_copyFrom_107 (by decide) ?_
  refine qa_ald0 dX6_copyFrom_108 ?_
  refine qa_getR dX6_copyFrom_109 lf_X6_15 rfl (st_0 k0) (lt_0 k0) (pt_12 hp12 k0) (Nat.succ_pos _) ?_
  refine qa_iconst (v := 0) dX6_copyFrom_112 (by decide) ?_
  refine qa_bipush (v := 8) dX6_copyFrom_113 (by decide) ?_
  refine qa_copyI dX6_copyFrom_115 lac_X6_81 lac_n lac_s lac_i (st_2 k1) (st_2 k0) (lt_2 k1) (lt_2 k0) (by decide) (by decide) (by decide) (by decide) (by decide) (by decide) ?_
  refine qa_nmM (fun μ13 em13 => ?_)
  have h := h μ13 em13
  have hp13 : qa_PP μ13.2.2 := by rw [em13]; exact hp12
  refine qa_ald1 dX6_copyFrom_118 ?_
  refine qa_getR dX6_copyFrom_119 lf_X6_18 rfl (st_0 k1) (lt_0 k1) (pt_13 hp13 k1) (Nat.succ_pos _) ?_
  refine qa_iconst (v := 0) dX6_copyFrom_122 (by decide) ?_
  refine qa_ald0 dX6_copyFrom_123 ?_
  refine qa_getR dX6_copyFrom_124 lf_X6_18 rfl (st_0 k0) (lt_0 k0) (pt_13 hp13 k0) (Nat.succ_pos _) ?_
  refine qa_iconst (v := 0) dX6_copyFrom_127 (by decide) ?_
  refine qa_bipush (v := 8) dX6_copyFrom_128 (by decide) ?_
  refine qa_copyI dX6_copyFrom_130 lac_X6_81 lac_n lac_s lac_i (st_3 k1) (st_3 k0) (lt_3 k1) (lt_3 k0) (by decide) (by decide) (by decide) (by decide) (by decide) (by decide) ?_
  refine qa_nmM (fun μ14 em14 => ?_)
  have h := h μ14 em14
  have hp14 : qa_PP μ14.2.2 := by rw [em14]; exact hp13
  refine qa_ald1 dX6_copyFrom_133 ?_
  refine qa_getR dX6_copyFrom_134 lf_X6_21 rfl (st_0 k1) (lt_0 k1) (pt_14 hp14 k1) (Nat.succ_pos _) ?_
  refine qa_iconst (v := 0) dX6_copyFrom_137 (by decide) ?_
  refine qa_ald0 dX6_copyFrom_138 ?_
  refine qa_getR dX6_copyFrom_139 lf_X6_21 rfl (st_0 k0) (lt_0 k0) (pt_14 hp14 k0) (Nat.succ_pos _) ?_
  refine qa_iconst (v := 0) dX6_copyFrom_142 (by decide) ?_
  refine qa_bipush (v := 8) dX6_copyFrom_143 (by decide) ?_
  refine qa_copyI dX6_copyFrom_145 lac_X6_81 lac_n lac_s lac_i (st_4 k1) (st_4 k0) (lt_4 k1) (lt_4 k0) (by decide) (by decide) (by decide) (by decide) (by decide) (by decide) ?_
  refine qa_nmM (fun μ15 em15 => ?_)
  have h := h μ15 em15
  have hp15 : qa_PP μ15.2.2 := by rw [em15]; exact hp14
  refine qa_ald1 dX6_copyFrom_148 ?_
  refine qa_getR dX6_copyFrom_149 lf_X6_24 rfl (st_0 k1) (lt_0 k1) (pt_15 hp15 k1) (Nat.succ_pos _) ?_
  refine qa_iconst (v := 0) dX6_copyFrom_152 (by decide) ?_
  refine qa_ald0 dX6_copyFrom_153 ?_
  refine qa_getR dX6_copyFrom_154 lf_X6_24 rfl (st_0 k0) (lt_0 k0) (pt_15 hp15 k0) (Nat.succ_pos _) ?_
  refine qa_iconst (v := 0) dX6_copyFrom_157 (by decide) ?_
  refine qa_bipush (v := 8) dX6_copyFrom_158 (by decide) ?_
  refine qa_copyI dX6_copyFrom_160 lac_X6_81 lac_n lac_s lac_i (st_5 k1) (st_5 k0) (lt_5 k1) (lt_5 k0) (by decide) (by decide) (by decide) (by decide) (by decide) (by decide) ?_
  refine qa_nmM (fun μ16 em16 => ?_)
  have h := h μ16 em16
  have hp16 : qa_PP μ16.2.2 := by rw [em16]; exact hp15
  refine qa_ald1 dX6_copyFrom_163 ?_
  refine qa_getR dX6_copyFrom_164 lf_X6_27 rfl (st_0 k1) (lt_0 k1) (pt_16 hp16 k1) (Nat.succ_pos _) ?_
  refine qa_iconst (v := 0) dX6_copyFrom_167 (by decide) ?_
  refine qa_ald0 dX6_copyFrom_168 ?_
  refine qa_getR dX6_copyFrom_169 lf_X6_27 rfl (st_0 k0) (lt_0 k0) (pt_16 hp16 k0) (Nat.succ_pos _) ?_
  refine qa_iconst (v := 0) dX6_copyFrom_172 (by decide) ?_
  refine qa_bipush (v := 8) dX6_copyFrom_173 (by decide) ?_
  refine qa_copyI dX6_copyFrom_175 lac_X6_81 lac_n lac_s lac_i (st_6 k1) (st_6 k0) (lt_6 k1) (lt_6 k0) (by decide) (by decide) (by decide) (by decide) (by decide) (by decide) ?_
  refine qa_nmM (fun μ17 em17 => ?_)
  have h := h μ17 em17
  have hp17 : qa_PP μ17.2.2 := by rw [em17]; exact hp16
  refine qa_ald0 dX6_copyFrom_178 ?_
  refine qa_getR dX6_copyFrom_179 lf_X6_33 rfl (st_0 k0) (lt_0 k0) (pt_17 hp17 k0) (Nat.succ_pos _) ?_
  refine qa_ald1 dX6_copyFrom_182 ?_
  refine qa_getR dX6_copyFrom_183 lf_X6_33 rfl (st_0 k1) (lt_0 k1) (pt_17 hp17 k1) (Nat.succ_pos _) ?_
  refine qa_V1V dX6_copyFrom_186 lm_X6_87 (st_7 k0) rfl (lt_7 k0) (by decide) (Nat.le_of_ble_eq_true rfl) (tX0_copyFrom l hp17 k0 k1 h) (fun μ18 hp18 h => ?_)
  exact qa_vret rfl dX6_copyFrom_189 ⟨rfl, rfl⟩ ⟨rfl, hp18, rfl, h⟩
def wX8_round (n : Nat) (v0 : Int32) (v1 : Int32) (μ0 : qa_M) (Q : Int32 → qa_M → Prop) : Prop := (((1 : Int32) ≤ v1 → wJ9_floorMod_7cf53 n v0 v1 μ0 (fun r2 μ2 => Q r2 μ2)) ∧ (¬ (1 : Int32) ≤ v1 → Q (0 : Int32) μ0))
theorem tX8_round (l : Launch) {n : Nat} {v0 : Int32} {v1 : Int32} {μ0 : qa_M} {Q : Int32 → qa_M → Prop} (hp0 : qa_PP μ0.2.2)  (h : wX8_round n v0 v1 μ0 Q) : qa_Met l yX8_round cX8_round 2 (some .int) 1 0 0 [.int v0, .int v1] 113 μ0 (qa_pI Q) := by
  refine qa_ofG (by decide) (by decide) ?_
  unfold wX8_round at h
  change qa_G l yX8_round cX8_round 2 (some .int) 1 0 0 (qa_pI Q) 0 0 0 [some (.int v0), some (.int v1)] [] 113 μ0
  refine qa_ild1 dX8_round_0 ?_
  refine qa_iconst (v := 1) dX8_round_1 (by decide) ?_
  refine qa_icmp_ge (tgt := 9) dX8_round_2 (by decide) (fun c1 => ?_) (fun c1 => ?_)
  · have h := h.1 c1
    refine qa_ild0 dX8_round_9 ?_
    refine qa_ild1 dX8_round_10 ?_
    refine qa_S2I dX8_round_11 lm_X8_467  (by decide) (Nat.le_of_ble_eq_true rfl) (tJ9_floorMod_7cf53 l hp0  h) (fun r2 μ2 hp2 h => ?_)
    exact qa_iret rfl dX8_round_14 ⟨rfl, rfl⟩ ⟨rfl, hp2, _, rfl, h⟩
  · have h := h.2 c1
    refine qa_iconst (v := 0) dX8_round_5 (by decide) ?_
    refine qa_goto (tgt := 14) dX8_round_6 (by decide) ?_
    exact qa_iret rfl dX8_round_14 ⟨rfl, rfl⟩ ⟨rfl, hp0, _, rfl, h⟩
