def wJ0_isLatin1_aae02 (n : Nat) (v0 : Nat) (μ0 : qa_M) (Q : Int32 → qa_M → Prop) : Prop := Q (1 : Int32) μ0
theorem tJ0_isLatin1_aae02 (l : Launch) {n : Nat} {v0 : Nat} {μ0 : qa_M} {Q : Int32 → qa_M → Prop} (hp0 : qa_PP μ0.2.2) (k0 : v0 < 30) (h : wJ0_isLatin1_aae02 n v0 μ0 Q) : qa_Met l yJ0_isLatin1_aae02 cJ0_isLatin1_aae02 1 (some .boolean) 0 0 0 [.ref (2000 + v0)] 113 μ0 (qa_pI Q) := by
  refine qa_ofG (by decide) (Nat.le_of_ble_eq_true rfl) ?_
  unfold wJ0_isLatin1_aae02 at h
  change qa_G l yJ0_isLatin1_aae02 cJ0_isLatin1_aae02 1 (some .boolean) 0 0 0 (qa_pI Q) 0 0 0 [some (.ref (2000 + v0))] [] 113 μ0
  refine qa_gsC dJ0_isLatin1_aae02_0 lg_J0_38 ?_
  refine qa_if_eq (tgt := 17) dJ0_isLatin1_aae02_3 (by decide) (fun c1 => absurd c1 (by decide)) (fun _ => ?_)
  refine qa_ald0 dJ0_isLatin1_aae02_6 ?_
  refine qa_getSC dJ0_isLatin1_aae02_7 k0 lg_J0_15 ?_
  refine qa_if_ne (tgt := 17) dJ0_isLatin1_aae02_10 (by decide) (fun c2 => absurd c2 (by decide)) (fun _ => ?_)
  refine qa_iconst (v := 1) dJ0_isLatin1_aae02_13 (by decide) ?_
  refine qa_goto (tgt := 18) dJ0_isLatin1_aae02_14 (by decide) ?_
  exact qa_zret rfl rfl dJ0_isLatin1_aae02_18 ⟨rfl, rfl⟩ ⟨rfl, hp0, _, rfl, h⟩
def wJ3_checkIndex_8e157 (n : Nat) (v0 : Int32) (v1 : Int32) (μ0 : qa_M) (Q : Int32 → qa_M → Prop) : Prop := ((v0 < 0 → False) ∧ (¬ v0 < 0 → ((v0 < v1 → Q v0 μ0) ∧ (¬ v0 < v1 → False))))
theorem tJ3_checkIndex_8e157n (l : Launch) {n : Nat} {v0 : Int32} {v1 : Int32} {μ0 : qa_M} {Q : Int32 → qa_M → Prop} (hp0 : qa_PP μ0.2.2)  (h : wJ3_checkIndex_8e157 n v0 v1 μ0 Q) : qa_Met l yJ3_checkIndex_8e157 cJ3_checkIndex_8e157 3 (some .int) 0 0 0 [.int v0, .int v1, .null] 113 μ0 (qa_pI Q) := by
  refine qa_ofG (by decide) (Nat.le_of_ble_eq_true rfl) ?_
  unfold wJ3_checkIndex_8e157 at h
  change qa_G l yJ3_checkIndex_8e157 cJ3_checkIndex_8e157 3 (some .int) 0 0 0 (qa_pI Q) 0 0 0 [some (.int v0), some (.int v1), some .null] [] 113 μ0
  refine qa_ild0 dJ3_checkIndex_8e157_0 ?_
  refine qa_if_lt (tgt := 9) dJ3_checkIndex_8e157_1 (by decide) (fun c1 => ?_) (fun c1 => ?_)
  · have h := h.1 c1
    exact False.elim h
  · have h := h.2 c1
    refine qa_ild0 dJ3_checkIndex_8e157_4 ?_
    refine qa_ild1 dJ3_checkIndex_8e157_5 ?_
    refine qa_icmp_lt (tgt := 16) dJ3_checkIndex_8e157_6 (by decide) (fun c2 => ?_) (fun c2 => ?_)
    · have h := h.1 c2
      refine qa_ild0 dJ3_checkIndex_8e157_16 ?_
      exact qa_iret rfl dJ3_checkIndex_8e157_17 ⟨rfl, rfl⟩ ⟨rfl, hp0, _, rfl, h⟩
    · have h := h.2 c2
      exact False.elim h
theorem tJ3_checkIndex_8e157r (l : Launch) {n : Nat} {v0 : Int32} {v1 : Int32} {μ0 : qa_M} {Q : Int32 → qa_M → Prop} (hp0 : qa_PP μ0.2.2)  (h : wJ3_checkIndex_8e157 n v0 v1 μ0 Q) : qa_Met l yJ3_checkIndex_8e157 cJ3_checkIndex_8e157 3 (some .int) 0 0 0 [.int v0, .int v1, (.ref 5000)] 113 μ0 (qa_pI Q) := by
  refine qa_ofG (by decide) (Nat.le_of_ble_eq_true rfl) ?_
  unfold wJ3_checkIndex_8e157 at h
  change qa_G l yJ3_checkIndex_8e157 cJ3_checkIndex_8e157 3 (some .int) 0 0 0 (qa_pI Q) 0 0 0 [some (.int v0), some (.int v1), some (.ref 5000)] [] 113 μ0
  refine qa_ild0 dJ3_checkIndex_8e157_0 ?_
  refine qa_if_lt (tgt := 9) dJ3_checkIndex_8e157_1 (by decide) (fun c1 => ?_) (fun c1 => ?_)
  · have h := h.1 c1
    exact False.elim h
  · have h := h.2 c1
    refine qa_ild0 dJ3_checkIndex_8e157_4 ?_
    refine qa_ild1 dJ3_checkIndex_8e157_5 ?_
    refine qa_icmp_lt (tgt := 16) dJ3_checkIndex_8e157_6 (by decide) (fun c2 => ?_) (fun c2 => ?_)
    · have h := h.1 c2
      refine qa_ild0 dJ3_checkIndex_8e157_16 ?_
      exact qa_iret rfl dJ3_checkIndex_8e157_17 ⟨rfl, rfl⟩ ⟨rfl, hp0, _, rfl, h⟩
    · have h := h.2 c2
      exact False.elim h
def wJ0_checkIndex_df160 (n : Nat) (v0 : Int32) (v1 : Int32) (μ0 : qa_M) (Q : qa_M → Prop) : Prop := wJ3_checkIndex_8e157 n v0 v1 μ0 (fun r1 μ1 => Q μ1)
theorem tJ0_checkIndex_df160 (l : Launch) {n : Nat} {v0 : Int32} {v1 : Int32} {μ0 : qa_M} {Q : qa_M → Prop} (hp0 : qa_PP μ0.2.2)  (h : wJ0_checkIndex_df160 n v0 v1 μ0 Q) : qa_Met l yJ0_checkIndex_df160 cJ0_checkIndex_df160 2 none 1 0 0 [.int v0, .int v1] 113 μ0 (qa_pV Q) := by
  refine qa_ofG (by decide) (Nat.le_of_ble_eq_true rfl) ?_
  unfold wJ0_checkIndex_df160 at h
  change qa_G l yJ0_checkIndex_df160 cJ0_checkIndex_df160 2 none 1 0 0 (qa_pV Q) 0 0 0 [some (.int v0), some (.int v1)] [] 113 μ0
  refine qa_ild0 dJ0_checkIndex_df160_0 ?_
  refine qa_ild1 dJ0_checkIndex_df160_1 ?_
  refine qa_gsB dJ0_checkIndex_df160_2 lg_J0_1053 ?_ ?_
  · skip
    refine qa_S3I dJ0_checkIndex_df160_5 lm_J0_1059  (by decide) (Nat.le_of_ble_eq_true rfl) (tJ3_checkIndex_8e157n l hp0  h) (fun r1 μ1 hp1 h => ?_)
    refine qa_pop dJ0_checkIndex_df160_8 rfl ?_
    exact qa_vret rfl dJ0_checkIndex_df160_9 ⟨rfl, rfl⟩ ⟨rfl, hp1, rfl, h⟩
  · skip
    refine qa_S3I dJ0_checkIndex_df160_5 lm_J0_1059  (by decide) (Nat.le_of_ble_eq_true rfl) (tJ3_checkIndex_8e157r l hp0  h) (fun r1 μ1 hp1 h => ?_)
    refine qa_pop dJ0_checkIndex_df160_8 rfl ?_
    exact qa_vret rfl dJ0_checkIndex_df160_9 ⟨rfl, rfl⟩ ⟨rfl, hp1, rfl, h⟩
def wJ1_charAt_3b067 (n : Nat) (v0 : Nat) (v1 : Int32) (μ0 : qa_M) (Q : Int32 → qa_M → Prop) : Prop := wJ0_checkIndex_df160 n v1 (nI (qa_txt.getD v0 []).length) μ0 (fun μ1 => vp_in v1 (qa_txt.getD v0 []).length ∧ (narrow .char (.int ((((qa_txt.getD v0 []).getD v1.toNatClampNeg 0) &&& (255 : Int32)).toUInt32 % 65536).toInt32) = .int ((((qa_txt.getD v0 []).getD v1.toNatClampNeg 0) &&& (255 : Int32)).toUInt32 % 65536).toInt32 ∧ Q ((((qa_txt.getD v0 []).getD v1.toNatClampNeg 0) &&& (255 : Int32)).toUInt32 % 65536).toInt32 μ1))
theorem tJ1_charAt_3b067 (l : Launch) {n : Nat} {v0 : Nat} {v1 : Int32} {μ0 : qa_M} {Q : Int32 → qa_M → Prop} (hp0 : qa_PP μ0.2.2) (k0 : v0 < 30) (h : wJ1_charAt_3b067 n v0 v1 μ0 Q) : qa_Met l yJ1_charAt_3b067 cJ1_charAt_3b067 2 (some .char) 2 0 0 [.ref (3000 + v0), .int v1] 113 μ0 (qa_pI Q) := by
  refine qa_ofG (by decide) (Nat.le_of_ble_eq_true rfl) ?_
  unfold wJ1_charAt_3b067 at h
  change qa_G l yJ1_charAt_3b067 cJ1_charAt_3b067 2 (some .char) 2 0 0 (qa_pI Q) 0 0 0 [some (.ref (3000 + v0)), some (.int v1)] [] 113 μ0
  refine qa_ild1 dJ1_charAt_3b067_0 ?_
  refine qa_ald0 dJ1_charAt_3b067_1 ?_
  refine qa_alenS dJ1_charAt_3b067_2 k0 ?_
  refine qa_S2V dJ1_charAt_3b067_3 lm_J1_9  (by decide) (Nat.le_of_ble_eq_true rfl) (tJ0_checkIndex_df160 l hp0  h) (fun μ1 hp1 h => ?_)
  refine qa_ald0 dJ1_charAt_3b067_6 ?_
  refine qa_ild1 dJ1_charAt_3b067_7 ?_
  refine qa_baldS dJ1_charAt_3b067_8 k0 h.1 ?_
  have h := h.2
  refine qa_sipush (v := 255) dJ1_charAt_3b067_9 (by decide) ?_
  refine qa_iand dJ1_charAt_3b067_12 ?_
  refine qa_i2c dJ1_charAt_3b067_13 ?_
  exact qa_zret rfl h.1 dJ1_charAt_3b067_14 ⟨rfl, rfl⟩ ⟨rfl, hp1, _, rfl, h.2⟩
def wJ2_length_9d52b (n : Nat) (v0 : Nat) (n0 : Nat) (μ0 : qa_M) (Q : Int32 → qa_M → Prop) : Prop := Q ((nI n0) >>> ((1 : Int32) &&& 31)) μ0
theorem tJ2_length_9d52b (l : Launch) {n : Nat} {v0 : Nat} {n0 : Nat} {μ0 : qa_M} {Q : Int32 → qa_M → Prop} (hp0 : qa_PP μ0.2.2) (hs0 : qa_sh v0 = .inr (.byte, n0)) (ha0 : 1 ≤ v0 ∧ v0 ≤ 113) (h : wJ2_length_9d52b n v0 n0 μ0 Q) : qa_Met l yJ2_length_9d52b cJ2_length_9d52b 1 (some .int) 0 0 0 [.ref v0] 113 μ0 (qa_pI Q) := by
  refine qa_ofG (by decide) (Nat.le_of_ble_eq_true rfl) ?_
  unfold wJ2_length_9d52b at h
  change qa_G l yJ2_length_9d52b cJ2_length_9d52b 1 (some .int) 0 0 0 (qa_pI Q) 0 0 0 [some (.ref v0)] [] 113 μ0
  refine qa_ald0 dJ2_length_9d52b_0 ?_
  refine qa_alen (t := 1) dJ2_length_9d52b_1 hs0 rfl ha0 ?_
  refine qa_iconst (v := 1) dJ2_length_9d52b_2 (by decide) ?_
  refine qa_ishr dJ2_length_9d52b_3 ?_
  exact qa_iret rfl dJ2_length_9d52b_4 ⟨rfl, rfl⟩ ⟨rfl, hp0, _, rfl, h⟩
def wJ2_checkIndex_2214a (n : Nat) (v0 : Int32) (v1 : Nat) (n1 : Nat) (μ0 : qa_M) (Q : qa_M → Prop) : Prop := wJ2_length_9d52b n v1 n1 μ0 (fun r1 μ1 => wJ0_checkIndex_df160 n v0 r1 μ1 (fun μ2 => Q μ2))
theorem tJ2_checkIndex_2214a (l : Launch) {n : Nat} {v0 : Int32} {v1 : Nat} {n1 : Nat} {μ0 : qa_M} {Q : qa_M → Prop} (hp0 : qa_PP μ0.2.2) (hs1 : qa_sh v1 = .inr (.byte, n1)) (ha1 : 1 ≤ v1 ∧ v1 ≤ 113) (h : wJ2_checkIndex_2214a n v0 v1 n1 μ0 Q) : qa_Met l yJ2_checkIndex_2214a cJ2_checkIndex_2214a 2 none 2 0 0 [.int v0, .ref v1] 113 μ0 (qa_pV Q) := by
  refine qa_ofG (by decide) (Nat.le_of_ble_eq_true rfl) ?_
  unfold wJ2_checkIndex_2214a at h
  change qa_G l yJ2_checkIndex_2214a cJ2_checkIndex_2214a 2 none 2 0 0 (qa_pV Q) 0 0 0 [some (.int v0), some (.ref v1)] [] 113 μ0
  refine qa_ild0 dJ2_checkIndex_2214a_0 ?_
  refine qa_ald1 dJ2_checkIndex_2214a_1 ?_
  refine qa_S1I dJ2_checkIndex_2214a_2 lm_J2_48  (by decide) (Nat.le_of_ble_eq_true rfl) (tJ2_length_9d52b l hp0 hs1 ha1 h) (fun r1 μ1 hp1 h => ?_)
  refine qa_S2V dJ2_checkIndex_2214a_5 lm_J2_414  (by decide) (Nat.le_of_ble_eq_true rfl) (tJ0_checkIndex_df160 l hp1  h) (fun μ2 hp2 h => ?_)
  exact qa_vret rfl dJ2_checkIndex_2214a_8 ⟨rfl, rfl⟩ ⟨rfl, hp2, rfl, h⟩
def wJ2_getChar_3b067 (n : Nat) (v0 : Nat) (n0 : Nat) (v1 : Int32) (μ0 : qa_M) (Q : Int32 → qa_M → Prop) : Prop := False
theorem tJ2_getChar_3b067 (l : Launch) {n : Nat} {v0 : Nat} {n0 : Nat} {v1 : Int32} {μ0 : qa_M} {Q : Int32 → qa_M → Prop} (hp0 : qa_PP μ0.2.2) (hs0 : qa_sh v0 = .inr (.byte, n0)) (ha0 : 1 ≤ v0 ∧ v0 ≤ 113) (h : wJ2_getChar_3b067 n v0 n0 v1 μ0 Q) : qa_Met l yJ2_getChar_3b067 cJ2_getChar_3b067 2 (some .char) 1 0 0 [.ref v0, .int v1] 113 μ0 (qa_pI Q) := by
  refine qa_ofG (by decide) (Nat.le_of_ble_eq_true rfl) ?_
  unfold wJ2_getChar_3b067 at h
  change qa_G l yJ2_getChar_3b067 cJ2_getChar_3b067 2 (some .char) 1 0 0 (qa_pI Q) 0 0 0 [some (.ref v0), some (.int v1)] [] 113 μ0
  exact False.elim h
def wJ2_charAt_3b067 (n : Nat) (v0 : Nat) (n0 : Nat) (v1 : Int32) (μ0 : qa_M) (Q : Int32 → qa_M → Prop) : Prop := wJ2_checkIndex_2214a n v1 v0 n0 μ0 (fun μ1 => wJ2_getChar_3b067 n v0 n0 v1 μ1 (fun r2 μ2 => (narrow .char (.int r2) = .int r2 ∧ Q r2 μ2)))
theorem tJ2_charAt_3b067 (l : Launch) {n : Nat} {v0 : Nat} {n0 : Nat} {v1 : Int32} {μ0 : qa_M} {Q : Int32 → qa_M → Prop} (hp0 : qa_PP μ0.2.2) (hs0 : qa_sh v0 = .inr (.byte, n0)) (ha0 : 1 ≤ v0 ∧ v0 ≤ 113) (h : wJ2_charAt_3b067 n v0 n0 v1 μ0 Q) : qa_Met l yJ2_charAt_3b067 cJ2_charAt_3b067 2 (some .char) 3 0 0 [.ref v0, .int v1] 113 μ0 (qa_pI Q) := by
  refine qa_ofG (by decide) (Nat.le_of_ble_eq_true rfl) ?_
  unfold wJ2_charAt_3b067 at h
  change qa_G l yJ2_charAt_3b067 cJ2_charAt_3b067 2 (some .char) 3 0 0 (qa_pI Q) 0 0 0 [some (.ref v0), some (.int v1)] [] 113 μ0
  refine qa_ild1 dJ2_charAt_3b067_0 ?_
  refine qa_ald0 dJ2_charAt_3b067_1 ?_
  refine qa_S2V dJ2_charAt_3b067_2 lm_J2_67  (by decide) (Nat.le_of_ble_eq_true rfl) (tJ2_checkIndex_2214a l hp0 hs0 ha0 h) (fun μ1 hp1 h => ?_)
  refine qa_ald0 dJ2_charAt_3b067_5 ?_
  refine qa_ild1 dJ2_charAt_3b067_6 ?_
  refine qa_S2I dJ2_charAt_3b067_7 lm_J2_71  (by decide) (Nat.le_of_ble_eq_true rfl) (tJ2_getChar_3b067 l hp1 hs0 ha0 h) (fun r2 μ2 hp2 h => ?_)
  exact qa_zret rfl h.1 dJ2_charAt_3b067_10 ⟨rfl, rfl⟩ ⟨rfl, hp2, _, rfl, h.2⟩
def wJ0_charAt_5068e (n : Nat) (v0 : Nat) (v1 : Int32) (μ0 : qa_M) (Q : Int32 → qa_M → Prop) : Prop := wJ0_isLatin1_aae02 n v0 μ0 (fun r1 μ1 => ((r1 = 0 → False) ∧ (¬ r1 = 0 → wJ1_charAt_3b067 n v0 v1 μ1 (fun r3 μ3 => (narrow .char (.int r3) = .int r3 ∧ Q r3 μ3)))))
theorem tJ0_charAt_5068e (l : Launch) {n : Nat} {v0 : Nat} {v1 : Int32} {μ0 : qa_M} {Q : Int32 → qa_M → Prop} (hp0 : qa_PP μ0.2.2) (k0 : v0 < 30) (h : wJ0_charAt_5068e n v0 v1 μ0 Q) : qa_Met l yJ0_charAt_5068e cJ0_charAt_5068e 2 (some .char) 4 0 0 [.ref (2000 + v0), .int v1] 113 μ0 (qa_pI Q) := by
  refine qa_ofG (by decide) (Nat.le_of_ble_eq_true rfl) ?_
  unfold wJ0_charAt_5068e at h
  change qa_G l yJ0_charAt_5068e cJ0_charAt_5068e 2 (some .char) 4 0 0 (qa_pI Q) 0 0 0 [some (.ref (2000 + v0)), some (.int v1)] [] 113 μ0
  refine qa_ald0 dJ0_charAt_5068e_0 ?_
  refine qa_W0I dJ0_charAt_5068e_1 lm_J0_492 rfl ⟨_, k0, rfl⟩ (by decide) (Nat.le_of_ble_eq_true rfl) (tJ0_isLatin1_aae02 l hp0 k0 h) (fun r1 μ1 hp1 h => ?_)
  refine qa_if_eq (tgt := 16) dJ0_charAt_5068e_4 (by decide) (fun c2 => ?_) (fun c2 => ?_)
  · have h := h.1 c2
    refine qa_ald0 dJ0_charAt_5068e_16 ?_
    refine qa_getSV dJ0_charAt_5068e_17 k0 lg_J0_9 ?_
    refine qa_ild1 dJ0_charAt_5068e_20 ?_
    exact False.elim h
  · have h := h.2 c2
    refine qa_ald0 dJ0_charAt_5068e_7 ?_
    refine qa_getSV dJ0_charAt_5068e_8 k0 lg_J0_9 ?_
    refine qa_ild1 dJ0_charAt_5068e_11 ?_
    refine qa_S2I dJ0_charAt_5068e_12 lm_J0_495  (by decide) (Nat.le_of_ble_eq_true rfl) (tJ1_charAt_3b067 l hp1 k0 h) (fun r3 μ3 hp3 h => ?_)
    exact qa_zret rfl h.1 dJ0_charAt_5068e_15 ⟨rfl, rfl⟩ ⟨rfl, hp3, _, rfl, h.2⟩
def wJ0_coder_7d493 (n : Nat) (v0 : Nat) (μ0 : qa_M) (Q : Int32 → qa_M → Prop) : Prop := Q (0 : Int32) μ0
theorem tJ0_coder_7d493 (l : Launch) {n : Nat} {v0 : Nat} {μ0 : qa_M} {Q : Int32 → qa_M → Prop} (hp0 : qa_PP μ0.2.2) (k0 : v0 < 30) (h : wJ0_coder_7d493 n v0 μ0 Q) : qa_Met l yJ0_coder_7d493 cJ0_coder_7d493 1 (some .byte) 0 0 0 [.ref (2000 + v0)] 113 μ0 (qa_pI Q) := by
  refine qa_ofG (by decide) (Nat.le_of_ble_eq_true rfl) ?_
  unfold wJ0_coder_7d493 at h
  change qa_G l yJ0_coder_7d493 cJ0_coder_7d493 1 (some .byte) 0 0 0 (qa_pI Q) 0 0 0 [some (.ref (2000 + v0))] [] 113 μ0
  refine qa_gsC dJ0_coder_7d493_0 lg_J0_38 ?_
  refine qa_if_eq (tgt := 13) dJ0_coder_7d493_3 (by decide) (fun c1 => absurd c1 (by decide)) (fun _ => ?_)
  refine qa_ald0 dJ0_coder_7d493_6 ?_
  refine qa_getSC dJ0_coder_7d493_7 k0 lg_J0_15 ?_
  refine qa_goto (tgt := 14) dJ0_coder_7d493_10 (by decide) ?_
  exact qa_zret rfl rfl dJ0_coder_7d493_14 ⟨rfl, rfl⟩ ⟨rfl, hp0, _, rfl, h⟩
def wJ0_length_8abf5 (n : Nat) (v0 : Nat) (μ0 : qa_M) (Q : Int32 → qa_M → Prop) : Prop := wJ0_coder_7d493 n v0 μ0 (fun r1 μ1 => Q ((nI (qa_txt.getD v0 []).length) >>> (r1 &&& 31)) μ1)
theorem tJ0_length_8abf5 (l : Launch) {n : Nat} {v0 : Nat} {μ0 : qa_M} {Q : Int32 → qa_M → Prop} (hp0 : qa_PP μ0.2.2) (k0 : v0 < 30) (h : wJ0_length_8abf5 n v0 μ0 Q) : qa_Met l yJ0_length_8abf5 cJ0_length_8abf5 1 (some .int) 1 0 0 [.ref (2000 + v0)] 113 μ0 (qa_pI Q) := by
  refine qa_ofG (by decide) (Nat.le_of_ble_eq_true rfl) ?_
  unfold wJ0_length_8abf5 at h
  change qa_G l yJ0_length_8abf5 cJ0_length_8abf5 1 (some .int) 1 0 0 (qa_pI Q) 0 0 0 [some (.ref (2000 + v0))] [] 113 μ0
  refine qa_ald0 dJ0_length_8abf5_0 ?_
  refine qa_getSV dJ0_length_8abf5_1 k0 lg_J0_9 ?_
  refine qa_alenS dJ0_length_8abf5_4 k0 ?_
  refine qa_ald0 dJ0_length_8abf5_5 ?_
  refine qa_W0I dJ0_length_8abf5_6 lm_J0_335 rfl ⟨_, k0, rfl⟩ (by decide) (Nat.le_of_ble_eq_true rfl) (tJ0_coder_7d493 l hp0 k0 h) (fun r1 μ1 hp1 h => ?_)
  refine qa_ishr dJ0_length_8abf5_9 ?_
  exact qa_iret rfl dJ0_length_8abf5_10 ⟨rfl, rfl⟩ ⟨rfl, hp1, _, rfl, h⟩
def wJ6_bitCount_0f7a4 (n : Nat) (v0 : Int32) (μ0 : qa_M) (Q : Int32 → qa_M → Prop) : Prop := ∀ x1, x1 = (v0 - ((v0.toUInt32 >>> ((1 : Int32).toUInt32 &&& Int32.toUInt32 31)).toInt32 &&& (1431655765 : Int32))) → ∀ x2, x2 = ((x1 &&& (858993459 : Int32)) + ((x1.toUInt32 >>> ((2 : Int32).toUInt32 &&& Int32.toUInt32 31)).toInt32 &&& (858993459 : Int32))) → ∀ x3, x3 = ((x2 + (x2.toUInt32 >>> ((4 : Int32).toUInt32 &&& Int32.toUInt32 31)).toInt32) &&& (252645135 : Int32)) → ∀ x4, x4 = (x3 + (x3.toUInt32 >>> ((8 : Int32).toUInt32 &&& Int32.toUInt32 31)).toInt32) → ∀ x5, x5 = (x4 + (x4.toUInt32 >>> ((16 : Int32).toUInt32 &&& Int32.toUInt32 31)).toInt32) → Q (x5 &&& (63 : Int32)) μ0
theorem tJ6_bitCount_0f7a4 (l : Launch) {n : Nat} {v0 : Int32} {μ0 : qa_M} {Q : Int32 → qa_M → Prop} (hp0 : qa_PP μ0.2.2)  (h : wJ6_bitCount_0f7a4 n v0 μ0 Q) : qa_Met l yJ6_bitCount_0f7a4 cJ6_bitCount_0f7a4 1 (some .int) 0 0 0 [.int v0] 113 μ0 (qa_pI Q) := by
  refine qa_ofG (by decide) (Nat.le_of_ble_eq_true rfl) ?_
  unfold wJ6_bitCount_0f7a4 at h
  change qa_G l yJ6_bitCount_0f7a4 cJ6_bitCount_0f7a4 1 (some .int) 0 0 0 (qa_pI Q) 0 0 0 [some (.int v0)] [] 113 μ0
  refine qa_ild0 dJ6_bitCount_0f7a4_0 ?_
  refine qa_ild0 dJ6_bitCount_0f7a4_1 ?_
  refine qa_iconst (v := 1) dJ6_bitCount_0f7a4_2 (by decide) ?_
  refine qa_iushr dJ6_bitCount_0f7a4_3 ?_
  refine qa_ldcw dJ6_bitCount_0f7a4_4 lk_J6_265 ?_
  refine qa_iand dJ6_bitCount_0f7a4_7 ?_
  refine qa_isub dJ6_bitCount_0f7a4_8 ?_
  refine qa_nmI (fun x1 e1 => ?_)
  have h := h x1 e1
  refine qa_ist0 dJ6_bitCount_0f7a4_9 ?_
  refine qa_ild0 dJ6_bitCount_0f7a4_10 ?_
  refine qa_ldcw dJ6_bitCount_0f7a4_11 lk_J6_266 ?_
  refine qa_iand dJ6_bitCount_0f7a4_14 ?_
  refine qa_ild0 dJ6_bitCount_0f7a4_15 ?_
  refine qa_iconst (v := 2) dJ6_bitCount_0f7a4_16 (by decide) ?_
  refine qa_iushr dJ6_bitCount_0f7a4_17 ?_
  refine qa_ldcw dJ6_bitCount_0f7a4_18 lk_J6_266 ?_
  refine qa_iand dJ6_bitCount_0f7a4_21 ?_
  refine qa_iadd dJ6_bitCount_0f7a4_22 ?_
  refine qa_nmI (fun x2 e2 => ?_)
  have h := h x2 e2
  refine qa_ist0 dJ6_bitCount_0f7a4_23 ?_
  refine qa_ild0 dJ6_bitCount_0f7a4_24 ?_
  refine qa_ild0 dJ6_bitCount_0f7a4_25 ?_
  refine qa_iconst (v := 4) dJ6_bitCount_0f7a4_26 (by decide) ?_
  refine qa_iushr dJ6_bitCount_0f7a4_27 ?_
  refine qa_iadd dJ6_bitCount_0f7a4_28 ?_
  refine qa_ldcw dJ6_bitCount_0f7a4_29 lk_J6_267 ?_
  refine qa_iand dJ6_bitCount_0f7a4_32 ?_
  refine qa_nmI (fun x3 e3 => ?_)
  have h := h x3 e3
  refine qa_ist0 dJ6_bitCount_0f7a4_33 ?_
  refine qa_ild0 dJ6_bitCount_0f7a4_34 ?_
  refine qa_ild0 dJ6_bitCount_0f7a4_35 ?_
  refine qa_bipush (v := 8) dJ6_bitCount_0f7a4_36 (by decide) ?_
  refine qa_iushr dJ6_bitCount_0f7a4_38 ?_
  refine qa_iadd dJ6_bitCount_0f7a4_39 ?_
  refine qa_nmI (fun x4 e4 => ?_)
  have h := h x4 e4
  refine qa_ist0 dJ6_bitCount_0f7a4_40 ?_
  refine qa_ild0 dJ6_bitCount_0f7a4_41 ?_
  refine qa_ild0 dJ6_bitCount_0f7a4_42 ?_
  refine qa_bipush (v := 16) dJ6_bitCount_0f7a4_43 (by decide) ?_
  refine qa_iushr dJ6_bitCount_0f7a4_45 ?_
  refine qa_iadd dJ6_bitCount_0f7a4_46 ?_
  refine qa_nmI (fun x5 e5 => ?_)
  have h := h x5 e5
  refine qa_ist0 dJ6_bitCount_0f7a4_47 ?_
  refine qa_ild0 dJ6_bitCount_0f7a4_48 ?_
  refine qa_bipush (v := 63) dJ6_bitCount_0f7a4_49 (by decide) ?_
  refine qa_iand dJ6_bitCount_0f7a4_51 ?_
  exact qa_iret rfl dJ6_bitCount_0f7a4_52 ⟨rfl, rfl⟩ ⟨rfl, hp0, _, rfl, h⟩
def wJ6_compare_7cf53 (n : Nat) (v0 : Int32) (v1 : Int32) (μ0 : qa_M) (Q : Int32 → qa_M → Prop) : Prop := ((v1 ≤ v0 → ((¬ v0 = v1 → Q (1 : Int32) μ0) ∧ (v0 = v1 → Q (0 : Int32) μ0))) ∧ (¬ v1 ≤ v0 → Q (-1 : Int32) μ0))
theorem tJ6_compare_7cf53 (l : Launch) {n : Nat} {v0 : Int32} {v1 : Int32} {μ0 : qa_M} {Q : Int32 → qa_M → Prop} (hp0 : qa_PP μ0.2.2)  (h : wJ6_compare_7cf53 n v0 v1 μ0 Q) : qa_Met l yJ6_compare_7cf53 cJ6_compare_7cf53 2 (some .int) 0 0 0 [.int v0, .int v1] 113 μ0 (qa_pI Q) := by
  refine qa_ofG (by decide) (Nat.le_of_ble_eq_true rfl) ?_
  unfold wJ6_compare_7cf53 at h
  change qa_G l yJ6_compare_7cf53 cJ6_compare_7cf53 2 (some .int) 0 0 0 (qa_pI Q) 0 0 0 [some (.int v0), some (.int v1)] [] 113 μ0
  refine qa_ild0 dJ6_compare_7cf53_0 ?_
  refine qa_ild1 dJ6_compare_7cf53_1 ?_
  refine qa_icmp_ge (tgt := 9) dJ6_compare_7cf53_2 (by decide) (fun c1 => ?_) (fun c1 => ?_)
  · have h := h.1 c1
    refine qa_ild0 dJ6_compare_7cf53_9 ?_
    refine qa_ild1 dJ6_compare_7cf53_10 ?_
    refine qa_icmp_ne (tgt := 18) dJ6_compare_7cf53_11 (by decide) (fun c2 => ?_) (fun c2 => ?_)
    · have h := h.1 c2
      refine qa_iconst (v := 1) dJ6_compare_7cf53_18 (by decide) ?_
      exact qa_iret rfl dJ6_compare_7cf53_19 ⟨rfl, rfl⟩ ⟨rfl, hp0, _, rfl, h⟩
    · have h := h.2 c2
      refine qa_iconst (v := 0) dJ6_compare_7cf53_14 (by decide) ?_
      refine qa_goto (tgt := 19) dJ6_compare_7cf53_15 (by decide) ?_
      exact qa_iret rfl dJ6_compare_7cf53_19 ⟨rfl, rfl⟩ ⟨rfl, hp0, _, rfl, h⟩
  · have h := h.2 c1
    refine qa_iconst (v := -1) dJ6_compare_7cf53_5 (by decide) ?_
    refine qa_goto (tgt := 19) dJ6_compare_7cf53_6 (by decide) ?_
    exact qa_iret rfl dJ6_compare_7cf53_19 ⟨rfl, rfl⟩ ⟨rfl, hp0, _, rfl, h⟩
def wJ7_fill_53178_5 : Nat → Nat → Nat → Int32 → Int32 → Int32 → qa_M → (qa_M → Prop) → Prop
  | 0, _, _, _, _, _, _, _ => False
  | n + 1, v0, n0, v1, v2, v3, μ0, Q => ((v3 ≤ v2 → Q μ0) ∧ (¬ v3 ≤ v2 → vp_in v2 n0 ∧ ∀ μ3, μ3 = qa_uI μ0 v0 v2.toNatClampNeg v1 → wJ7_fill_53178_5 n v0 n0 v1 (v2 + (1 : Int32)) v3 μ3 Q))
def wJ7_fill_53178 (n : Nat) (v0 : Nat) (n0 : Nat) (v1 : Int32) (μ0 : qa_M) (Q : qa_M → Prop) : Prop := ∀ x1, x1 = (nI n0) → wJ7_fill_53178_5 n v0 n0 v1 (0 : Int32) x1 μ0  Q
theorem tJ7_fill_53178_5 (l : Launch)  {Q : qa_M → Prop}  : ∀ (n : Nat) (v0 : Nat) (n0 : Nat) (v1 : Int32) (v2 : Int32) (v3 : Int32) (μ0 : qa_M), qa_PP μ0.2.2 → qa_sh v0 = .inr (.int, n0) → 1 ≤ v0 ∧ v0 ≤ 113 → wJ7_fill_53178_5 n v0 n0 v1 v2 v3 μ0  Q → qa_G l yJ7_fill_53178 cJ7_fill_53178 4 none 0 0 0 (qa_pV Q) 0 0 5 [some (.ref v0), some (.int v1), some (.int v2), some (.int v3)] [] 113 μ0 := by
  intro n
  induction n with
  | zero =>
    intro v0 n0 v1 v2 v3 μ0 hp0 hs0 ha0 h
    rw [wJ7_fill_53178_5] at h
    exact h.elim
  | succ n ih =>
    intro v0 n0 v1 v2 v3 μ0 hp0 hs0 ha0 h
    rw [wJ7_fill_53178_5] at h
    refine qa_ild2 dJ7_fill_53178_5 ?_
    refine qa_ild3 dJ7_fill_53178_6 ?_
    refine qa_icmp_ge (tgt := 20) dJ7_fill_53178_7 (by decide) (fun c2 => ?_) (fun c2 => ?_)
    · have h := h.1 c2
      exact qa_vret rfl dJ7_fill_53178_20 ⟨rfl, rfl⟩ ⟨rfl, hp0, rfl, h⟩
    · have h := h.2 c2
      refine qa_ald0 dJ7_fill_53178_10 ?_
      refine qa_ild2 dJ7_fill_53178_11 ?_
      refine qa_ild1 dJ7_fill_53178_12 ?_
      refine qa_iast dJ7_fill_53178_13 hs0 ha0 h.1 ?_
      have h := h.2
      refine qa_nmM (fun μ3 em3 => ?_)
      have h := h μ3 em3
      have hp3 : qa_PP μ3.2.2 := by rw [em3]; exact hp0
      refine qa_inc2 dJ7_fill_53178_14 (qa_io1 _) ?_
      refine qa_goto (tgt := 5) dJ7_fill_53178_17 (by decide) ?_
      refine qa_fgt (L' := [some (.ref v0), some (.int v1), some (.int (v2 + (1 : Int32))), some (.int v3)]) (⟨rfl, ⟨rfl, ⟨rfl, ⟨rfl, trivial⟩⟩⟩⟩) ?_
      exact ih v0 n0 v1 (v2 + (1 : Int32)) v3 μ3 hp3 hs0 ha0 h
theorem tJ7_fill_53178 (l : Launch) {n : Nat} {v0 : Nat} {n0 : Nat} {v1 : Int32} {μ0 : qa_M} {Q : qa_M → Prop} (hp0 : qa_PP μ0.2.2) (hs0 : qa_sh v0 = .inr (.int, n0)) (ha0 : 1 ≤ v0 ∧ v0 ≤ 113) (h : wJ7_fill_53178 n v0 n0 v1 μ0 Q) : qa_Met l yJ7_fill_53178 cJ7_fill_53178 4 none 0 0 0 [.ref v0, .int v1] 113 μ0 (qa_pV Q) := by
  refine qa_ofG (by decide) (Nat.le_of_ble_eq_true rfl) ?_
  unfold wJ7_fill_53178 at h
  change qa_G l yJ7_fill_53178 cJ7_fill_53178 4 none 0 0 0 (qa_pV Q) 0 0 0 [some (.ref v0), some (.int v1), none, none] [] 113 μ0
  refine qa_iconst (v := 0) dJ7_fill_53178_0 (by decide) ?_
  refine qa_ist2 dJ7_fill_53178_1 ?_
  refine qa_ald0 dJ7_fill_53178_2 ?_
  refine qa_alen (t := 0) dJ7_fill_53178_3 hs0 rfl ha0 ?_
  refine qa_nmI (fun x1 e1 => ?_)
  have h := h x1 e1
  refine qa_ist3 dJ7_fill_53178_4 ?_
  refine qa_fgt (L' := [some (.ref v0), some (.int v1), some (.int (0 : Int32)), some (.int x1)]) (⟨rfl, ⟨rfl, ⟨rfl, ⟨rfl, trivial⟩⟩⟩⟩) ?_
  refine tJ7_fill_53178_5 l  n v0 n0 v1 (0 : Int32) x1 μ0 hp0 hs0 ha0 h
def wJ7_fill_d0a16_6 : Nat → Nat → Nat → Int64 → Int32 → Int32 → qa_M → (qa_M → Prop) → Prop
  | 0, _, _, _, _, _, _, _ => False
  | n + 1, v0, n0, v1, v3, v4, μ0, Q => ((v4 ≤ v3 → Q μ0) ∧ (¬ v4 ≤ v3 → vp_in v3 n0 ∧ ∀ μ3, μ3 = qa_uJ μ0 v0 v3.toNatClampNeg v1 → wJ7_fill_d0a16_6 n v0 n0 v1 (v3 + (1 : Int32)) v4 μ3 Q))
def wJ7_fill_d0a16 (n : Nat) (v0 : Nat) (n0 : Nat) (v1 : Int64) (μ0 : qa_M) (Q : qa_M → Prop) : Prop := ∀ x1, x1 = (nI n0) → wJ7_fill_d0a16_6 n v0 n0 v1 (0 : Int32) x1 μ0  Q
theorem tJ7_fill_d0a16_6 (l : Launch)  {Q : qa_M → Prop}  : ∀ (n : Nat) (v0 : Nat) (n0 : Nat) (v1 : Int64) (v3 : Int32) (v4 : Int32) (μ0 : qa_M), qa_PP μ0.2.2 → qa_sh v0 = .inr (.long, n0) → 1 ≤ v0 ∧ v0 ≤ 113 → wJ7_fill_d0a16_6 n v0 n0 v1 v3 v4 μ0  Q → qa_G l yJ7_fill_d0a16 cJ7_fill_d0a16 5 none 0 0 0 (qa_pV Q) 0 0 6 [some (.ref v0), some (.long v1), none, some (.int v3), some (.int v4)] [] 113 μ0 := by
  intro n
  induction n with
  | zero =>
    intro v0 n0 v1 v3 v4 μ0 hp0 hs0 ha0 h
    rw [wJ7_fill_d0a16_6] at h
    exact h.elim
  | succ n ih =>
    intro v0 n0 v1 v3 v4 μ0 hp0 hs0 ha0 h
    rw [wJ7_fill_d0a16_6] at h
    refine qa_ild3 dJ7_fill_d0a16_6 ?_
    refine qa_ild4 dJ7_fill_d0a16_7 ?_
    refine qa_icmp_ge (tgt := 22) dJ7_fill_d0a16_9 (by decide) (fun c2 => ?_) (fun c2 => ?_)
    · have h := h.1 c2
      exact qa_vret rfl dJ7_fill_d0a16_22 ⟨rfl, rfl⟩ ⟨rfl, hp0, rfl, h⟩
    · have h := h.2 c2
      refine qa_ald0 dJ7_fill_d0a16_12 ?_
      refine qa_ild3 dJ7_fill_d0a16_13 ?_
      refine qa_lld1 dJ7_fill_d0a16_14 ?_
      refine qa_last dJ7_fill_d0a16_15 hs0 ha0 h.1 ?_
      have h := h.2
      refine qa_nmM (fun μ3 em3 => ?_)
      have h := h μ3 em3
      have hp3 : qa_PP μ3.2.2 := by rw [em3]; exact hp0
      refine qa_inc3 dJ7_fill_d0a16_16 (qa_io1 _) ?_
      refine qa_goto (tgt := 6) dJ7_fill_d0a16_19 (by decide) ?_
      refine qa_fgt (L' := [some (.ref v0), some (.long v1), none, some (.int (v3 + (1 : Int32))), some (.int v4)]) (⟨rfl, ⟨rfl, ⟨rfl, ⟨rfl, trivial⟩⟩⟩⟩) ?_
      exact ih v0 n0 v1 (v3 + (1 : Int32)) v4 μ3 hp3 hs0 ha0 h
theorem tJ7_fill_d0a16 (l : Launch) {n : Nat} {v0 : Nat} {n0 : Nat} {v1 : Int64} {μ0 : qa_M} {Q : qa_M → Prop} (hp0 : qa_PP μ0.2.2) (hs0 : qa_sh v0 = .inr (.long, n0)) (ha0 : 1 ≤ v0 ∧ v0 ≤ 113) (h : wJ7_fill_d0a16 n v0 n0 v1 μ0 Q) : qa_Met l yJ7_fill_d0a16 cJ7_fill_d0a16 5 none 0 0 0 [.ref v0, .long v1] 113 μ0 (qa_pV Q) := by
  refine qa_ofG (by decide) (Nat.le_of_ble_eq_true rfl) ?_
  unfold wJ7_fill_d0a16 at h
  change qa_G l yJ7_fill_d0a16 cJ7_fill_d0a16 5 none 0 0 0 (qa_pV Q) 0 0 0 [some (.ref v0), some (.long v1), none, none, none] [] 113 μ0
  refine qa_iconst (v := 0) dJ7_fill_d0a16_0 (by decide) ?_
  refine qa_ist3 dJ7_fill_d0a16_1 ?_
  refine qa_ald0 dJ7_fill_d0a16_2 ?_
  refine qa_alen (t := 3) dJ7_fill_d0a16_3 hs0 rfl ha0 ?_
  refine qa_nmI (fun x1 e1 => ?_)
  have h := h x1 e1
  refine qa_ist4 dJ7_fill_d0a16_4 ?_
  refine qa_fgt (L' := [some (.ref v0), some (.long v1), none, some (.int (0 : Int32)), some (.int x1)]) (⟨rfl, ⟨rfl, ⟨rfl, ⟨rfl, trivial⟩⟩⟩⟩) ?_
  refine tJ7_fill_d0a16_6 l  n v0 n0 v1 (0 : Int32) x1 μ0 hp0 hs0 ha0 h
def wJ9_abs_067f4 (n : Nat) (v0 : Int64) (μ0 : qa_M) (Q : Int64 → qa_M → Prop) : Prop := ((0 ≤ (lg_cmp v0 (0 : Int64)) → Q v0 μ0) ∧ (¬ 0 ≤ (lg_cmp v0 (0 : Int64)) → Q (-v0) μ0))
theorem tJ9_abs_067f4 (l : Launch) {n : Nat} {v0 : Int64} {μ0 : qa_M} {Q : Int64 → qa_M → Prop} (hp0 : qa_PP μ0.2.2)  (h : wJ9_abs_067f4 n v0 μ0 Q) : qa_Met l yJ9_abs_067f4 cJ9_abs_067f4 2 (some .long) 0 0 0 [.long v0] 113 μ0 (qa_pJ Q) := by
  refine qa_ofGF (by decide +kernel) (Nat.le_of_ble_eq_true rfl) ?_
  unfold wJ9_abs_067f4 at h
  change qa_G l yJ9_abs_067f4 cJ9_abs_067f4 2 (some .long) 0 0 0 (qa_pJ Q) 0 0 0 [some (.long v0), none] [] 113 μ0
  refine qa_lld0 dJ9_abs_067f4_0 ?_
  refine qa_lconst (v := 0) dJ9_abs_067f4_1 (by decide) ?_
  refine qa_lcmp dJ9_abs_067f4_2 ?_
  refine qa_if_ge (tgt := 11) dJ9_abs_067f4_3 (by decide) (fun c1 => ?_) (fun c1 => ?_)
  · have h := h.1 c1
    refine qa_lld0 dJ9_abs_067f4_11 ?_
    exact qa_lret rfl dJ9_abs_067f4_12 ⟨rfl, rfl⟩ ⟨rfl, hp0, _, rfl, h⟩
  · have h := h.2 c1
    refine qa_lld0 dJ9_abs_067f4_6 ?_
    refine qa_lneg dJ9_abs_067f4_7 ?_
    refine qa_goto (tgt := 12) dJ9_abs_067f4_8 (by decide) ?_
    exact qa_lret rfl dJ9_abs_067f4_12 ⟨rfl, rfl⟩ ⟨rfl, hp0, _, rfl, h⟩
def wJ9_abs_0f7a4 (n : Nat) (v0 : Int32) (μ0 : qa_M) (Q : Int32 → qa_M → Prop) : Prop := ((0 ≤ v0 → Q v0 μ0) ∧ (¬ 0 ≤ v0 → Q (-v0) μ0))
theorem tJ9_abs_0f7a4 (l : Launch) {n : Nat} {v0 : Int32} {μ0 : qa_M} {Q : Int32 → qa_M → Prop} (hp0 : qa_PP μ0.2.2)  (h : wJ9_abs_0f7a4 n v0 μ0 Q) : qa_Met l yJ9_abs_0f7a4 cJ9_abs_0f7a4 1 (some .int) 0 0 0 [.int v0] 113 μ0 (qa_pI Q) := by
  refine qa_ofGF (by decide +kernel) (Nat.le_of_ble_eq_true rfl) ?_
  unfold wJ9_abs_0f7a4 at h
  change qa_G l yJ9_abs_0f7a4 cJ9_abs_0f7a4 1 (some .int) 0 0 0 (qa_pI Q) 0 0 0 [some (.int v0)] [] 113 μ0
  refine qa_ild0 dJ9_abs_0f7a4_0 ?_
  refine qa_if_ge (tgt := 9) dJ9_abs_0f7a4_1 (by decide) (fun c1 => ?_) (fun c1 => ?_)
  · have h := h.1 c1
    refine qa_ild0 dJ9_abs_0f7a4_9 ?_
    exact qa_iret rfl dJ9_abs_0f7a4_10 ⟨rfl, rfl⟩ ⟨rfl, hp0, _, rfl, h⟩
  · have h := h.2 c1
    refine qa_ild0 dJ9_abs_0f7a4_4 ?_
    refine qa_ineg dJ9_abs_0f7a4_5 ?_
    refine qa_goto (tgt := 10) dJ9_abs_0f7a4_6 (by decide) ?_
    exact qa_iret rfl dJ9_abs_0f7a4_10 ⟨rfl, rfl⟩ ⟨rfl, hp0, _, rfl, h⟩
def wJ9_floorMod_7cf53 (n : Nat) (v0 : Int32) (v1 : Int32) (μ0 : qa_M) (Q : Int32 → qa_M → Prop) : Prop := ¬ v1 = 0 ∧ ∀ x1, x1 = (v0 - v0 / v1 * v1) → ((0 ≤ (v0 ^^^ v1) → Q x1 μ0) ∧ (¬ 0 ≤ (v0 ^^^ v1) → ((x1 = 0 → Q x1 μ0) ∧ (¬ x1 = 0 → Q (x1 + v1) μ0))))
theorem tJ9_floorMod_7cf53 (l : Launch) {n : Nat} {v0 : Int32} {v1 : Int32} {μ0 : qa_M} {Q : Int32 → qa_M → Prop} (hp0 : qa_PP μ0.2.2)  (h : wJ9_floorMod_7cf53 n v0 v1 μ0 Q) : qa_Met l yJ9_floorMod_7cf53 cJ9_floorMod_7cf53 3 (some .int) 0 0 0 [.int v0, .int v1] 113 μ0 (qa_pI Q) := by
  refine qa_ofGF (by decide +kernel) (Nat.le_of_ble_eq_true rfl) ?_
  unfold wJ9_floorMod_7cf53 at h
  change qa_G l yJ9_floorMod_7cf53 cJ9_floorMod_7cf53 3 (some .int) 0 0 0 (qa_pI Q) 0 0 0 [some (.int v0), some (.int v1), none] [] 113 μ0
  refine qa_ild0 dJ9_floorMod_7cf53_0 ?_
  refine qa_ild1 dJ9_floorMod_7cf53_1 ?_
  refine qa_irem dJ9_floorMod_7cf53_2 h.1 ?_
  have h := h.2
  refine qa_nmI (fun x1 e1 => ?_)
  have h := h x1 e1
  refine qa_ist2 dJ9_floorMod_7cf53_3 ?_
  refine qa_ild0 dJ9_floorMod_7cf53_4 ?_
  refine qa_ild1 dJ9_floorMod_7cf53_5 ?_
  refine qa_ixor dJ9_floorMod_7cf53_6 ?_
  refine qa_if_ge (tgt := 18) dJ9_floorMod_7cf53_7 (by decide) (fun c2 => ?_) (fun c2 => ?_)
  · have h := h.1 c2
    refine qa_ild2 dJ9_floorMod_7cf53_18 ?_
    exact qa_iret rfl dJ9_floorMod_7cf53_19 ⟨rfl, rfl⟩ ⟨rfl, hp0, _, rfl, h⟩
  · have h := h.2 c2
    refine qa_ild2 dJ9_floorMod_7cf53_10 ?_
    refine qa_if_eq (tgt := 18) dJ9_floorMod_7cf53_11 (by decide) (fun c3 => ?_) (fun c3 => ?_)
    · have h := h.1 c3
      refine qa_ild2 dJ9_floorMod_7cf53_18 ?_
      exact qa_iret rfl dJ9_floorMod_7cf53_19 ⟨rfl, rfl⟩ ⟨rfl, hp0, _, rfl, h⟩
    · have h := h.2 c3
      refine qa_ild2 dJ9_floorMod_7cf53_14 ?_
      refine qa_ild1 dJ9_floorMod_7cf53_15 ?_
      refine qa_iadd dJ9_floorMod_7cf53_16 ?_
      exact qa_iret rfl dJ9_floorMod_7cf53_17 ⟨rfl, rfl⟩ ⟨rfl, hp0, _, rfl, h⟩
def wJ9_max_7cf53 (n : Nat) (v0 : Int32) (v1 : Int32) (μ0 : qa_M) (Q : Int32 → qa_M → Prop) : Prop := ((v0 < v1 → Q v1 μ0) ∧ (¬ v0 < v1 → Q v0 μ0))
theorem tJ9_max_7cf53 (l : Launch) {n : Nat} {v0 : Int32} {v1 : Int32} {μ0 : qa_M} {Q : Int32 → qa_M → Prop} (hp0 : qa_PP μ0.2.2)  (h : wJ9_max_7cf53 n v0 v1 μ0 Q) : qa_Met l yJ9_max_7cf53 cJ9_max_7cf53 2 (some .int) 0 0 0 [.int v0, .int v1] 113 μ0 (qa_pI Q) := by
  refine qa_ofGF (by decide +kernel) (Nat.le_of_ble_eq_true rfl) ?_
  unfold wJ9_max_7cf53 at h
  change qa_G l yJ9_max_7cf53 cJ9_max_7cf53 2 (some .int) 0 0 0 (qa_pI Q) 0 0 0 [some (.int v0), some (.int v1)] [] 113 μ0
  refine qa_ild0 dJ9_max_7cf53_0 ?_
  refine qa_ild1 dJ9_max_7cf53_1 ?_
  refine qa_icmp_lt (tgt := 9) dJ9_max_7cf53_2 (by decide) (fun c1 => ?_) (fun c1 => ?_)
  · have h := h.1 c1
    refine qa_ild1 dJ9_max_7cf53_9 ?_
    exact qa_iret rfl dJ9_max_7cf53_10 ⟨rfl, rfl⟩ ⟨rfl, hp0, _, rfl, h⟩
  · have h := h.2 c1
    refine qa_ild0 dJ9_max_7cf53_5 ?_
    refine qa_goto (tgt := 10) dJ9_max_7cf53_6 (by decide) ?_
    exact qa_iret rfl dJ9_max_7cf53_10 ⟨rfl, rfl⟩ ⟨rfl, hp0, _, rfl, h⟩
def wJ9_min_7cf53 (n : Nat) (v0 : Int32) (v1 : Int32) (μ0 : qa_M) (Q : Int32 → qa_M → Prop) : Prop := ((v1 < v0 → Q v1 μ0) ∧ (¬ v1 < v0 → Q v0 μ0))
theorem tJ9_min_7cf53 (l : Launch) {n : Nat} {v0 : Int32} {v1 : Int32} {μ0 : qa_M} {Q : Int32 → qa_M → Prop} (hp0 : qa_PP μ0.2.2)  (h : wJ9_min_7cf53 n v0 v1 μ0 Q) : qa_Met l yJ9_min_7cf53 cJ9_min_7cf53 2 (some .int) 0 0 0 [.int v0, .int v1] 113 μ0 (qa_pI Q) := by
  refine qa_ofGF (by decide +kernel) (Nat.le_of_ble_eq_true rfl) ?_
  unfold wJ9_min_7cf53 at h
  change qa_G l yJ9_min_7cf53 cJ9_min_7cf53 2 (some .int) 0 0 0 (qa_pI Q) 0 0 0 [some (.int v0), some (.int v1)] [] 113 μ0
  refine qa_ild0 dJ9_min_7cf53_0 ?_
  refine qa_ild1 dJ9_min_7cf53_1 ?_
  refine qa_icmp_gt (tgt := 9) dJ9_min_7cf53_2 (by decide) (fun c1 => ?_) (fun c1 => ?_)
  · have h := h.1 c1
    refine qa_ild1 dJ9_min_7cf53_9 ?_
    exact qa_iret rfl dJ9_min_7cf53_10 ⟨rfl, rfl⟩ ⟨rfl, hp0, _, rfl, h⟩
  · have h := h.2 c1
    refine qa_ild0 dJ9_min_7cf53_5 ?_
    refine qa_goto (tgt := 10) dJ9_min_7cf53_6 (by decide) ?_
    exact qa_iret rfl dJ9_min_7cf53_10 ⟨rfl, rfl⟩ ⟨rfl, hp0, _, rfl, h⟩
def wX0_note (n : Nat) (v0 : Nat) (v1 : Int32) (μ0 : qa_M) (Q : qa_M → Prop) : Prop := vp_in v1 30 ∧ ((¬ (μ0.1 (v0 + 9) v1.toNatClampNeg) = (-1 : Int32) → vp_in v1 30 ∧ ∀ μ2, μ2 = qa_uI μ0 (v0 + 7) 5 ((μ0.1 (v0 + 7) 5) ||| ((1 : Int32) <<< ((μ0.1 (v0 + 10) v1.toNatClampNeg) &&& 31))) → Q μ2) ∧ ((μ0.1 (v0 + 9) v1.toNatClampNeg) = (-1 : Int32) → vp_in v1 30 ∧ vp_in (μ0.1 (v0 + 10) v1.toNatClampNeg) 20 ∧ vp_in v1 30 ∧ vp_in (μ0.1 (v0 + 10) v1.toNatClampNeg) 20 ∧ ∀ μ3, μ3 = qa_uI μ0 (v0 + 11) (μ0.1 (v0 + 10) v1.toNatClampNeg).toNatClampNeg ((μ0.1 (v0 + 11) (μ0.1 (v0 + 10) v1.toNatClampNeg).toNatClampNeg) ||| ((1 : Int32) <<< ((μ0.1 (v0 + 8) v1.toNatClampNeg) &&& 31))) → Q μ3))
theorem tX0_note (l : Launch) {n : Nat} {v0 : Nat} {v1 : Int32} {μ0 : qa_M} {Q : qa_M → Prop} (hp0 : qa_PP μ0.2.2) (k0 : qa_tw v0) (h : wX0_note n v0 v1 μ0 Q) : qa_Met l yX0_note cX0_note 2 none 0 0 0 [.ref (v0 + 7), .int v1] 113 μ0 (qa_pV Q) := by
  refine qa_ofG (by decide) (Nat.le_of_ble_eq_true rfl) ?_
  unfold wX0_note at h
  change qa_G l yX0_note cX0_note 2 none 0 0 0 (qa_pV Q) 0 0 0 [some (.ref (v0 + 7)), some (.int v1)] [] 113 μ0
  refine qa_ald0 dX0_note_0 ?_
  refine qa_getR dX0_note_1 lf_X0_15 rfl (st_7 k0) (tle_7 k0) (pa_2 hp0 k0) (Nat.succ_pos _) ?_
  refine qa_ild1 dX0_note_4 ?_
  refine qa_iald dX0_note_5 (st_9 k0) (tle_9 k0) h.1 ?_
  have h := h.2
  refine qa_iconst (v := -1) dX0_note_6 (by decide) ?_
  refine qa_icmp_ne (tgt := 35) dX0_note_7 (by decide) (fun c1 => ?_) (fun c1 => ?_)
  · have h := h.1 c1
    refine qa_ald0 dX0_note_35 ?_
    refine qa_dup dX0_note_36 rfl ?_
    refine qa_getI dX0_note_37 lf_X0_47 (Or.inl rfl) (st_7 k0) (tle_7 k0) ?_
    refine qa_iconst (v := 1) dX0_note_40 (by decide) ?_
    refine qa_ald0 dX0_note_41 ?_
    refine qa_getR dX0_note_42 lf_X0_18 rfl (st_7 k0) (tle_7 k0) (pa_3 hp0 k0) (Nat.succ_pos _) ?_
    refine qa_ild1 dX0_note_45 ?_
    refine qa_iald dX0_note_46 (st_10 k0) (tle_10 k0) h.1 ?_
    have h := h.2
    refine qa_ishl dX0_note_47 ?_
    refine qa_ior dX0_note_48 ?_
    refine qa_putI dX0_note_49 lf_X0_47 rfl (st_7 k0) (tle_7 k0) rfl ?_
    refine qa_nmM (fun μ2 em2 => ?_)
    have h := h μ2 em2
    have hp2 : qa_PP μ2.2.2 := by rw [em2]; exact hp0
    exact qa_vret rfl dX0_note_52 ⟨rfl, rfl⟩ ⟨rfl, hp2, rfl, h⟩
  · have h := h.2 c1
    refine qa_ald0 dX0_note_10 ?_
    refine qa_getR dX0_note_11 lf_X0_21 rfl (st_7 k0) (tle_7 k0) (pa_4 hp0 k0) (Nat.succ_pos _) ?_
    refine qa_ald0 dX0_note_14 ?_
    refine qa_getR dX0_note_15 lf_X0_18 rfl (st_7 k0) (tle_7 k0) (pa_3 hp0 k0) (Nat.succ_pos _) ?_
    refine qa_ild1 dX0_note_18 ?_
    refine qa_iald dX0_note_19 (st_10 k0) (tle_10 k0) h.1 ?_
    have h := h.2
    refine qa_dup2 dX0_note_20 rfl rfl ?_
    refine qa_iald dX0_note_21 (st_11 k0) (tle_11 k0) h.1 ?_
    have h := h.2
    refine qa_iconst (v := 1) dX0_note_22 (by decide) ?_
    refine qa_ald0 dX0_note_23 ?_
    refine qa_getR dX0_note_24 lf_X0_9 rfl (st_7 k0) (tle_7 k0) (pa_1 hp0 k0) (Nat.succ_pos _) ?_
    refine qa_ild1 dX0_note_27 ?_
    refine qa_iald dX0_note_28 (st_8 k0) (tle_8 k0) h.1 ?_
    have h := h.2
    refine qa_ishl dX0_note_29 ?_
    refine qa_ior dX0_note_30 ?_
    refine qa_iast dX0_note_31 (st_11 k0) (tle_11 k0) h.1 ?_
    have h := h.2
    refine qa_nmM (fun μ3 em3 => ?_)
    have h := h μ3 em3
    have hp3 : qa_PP μ3.2.2 := by rw [em3]; exact hp0
    refine qa_goto (tgt := 52) dX0_note_32 (by decide) ?_
    exact qa_vret rfl dX0_note_52 ⟨rfl, rfl⟩ ⟨rfl, hp3, rfl, h⟩
def wX0_add (n : Nat) (v0 : Nat) (v1 : Int32) (v2 : Int32) (v3 : Int32) (μ0 : qa_M) (Q : qa_M → Prop) : Prop := (((30 : Int32) ≤ (μ0.1 (v0 + 7) 0) → Q μ0) ∧ (¬ (30 : Int32) ≤ (μ0.1 (v0 + 7) 0) → vp_in (μ0.1 (v0 + 7) 0) 30 ∧ ∀ μ2, μ2 = qa_uI μ0 (v0 + 8) (μ0.1 (v0 + 7) 0).toNatClampNeg v1 → vp_in (μ2.1 (v0 + 7) 0) 30 ∧ ∀ μ3, μ3 = qa_uI μ2 (v0 + 9) (μ2.1 (v0 + 7) 0).toNatClampNeg v2 → vp_in (μ3.1 (v0 + 7) 0) 30 ∧ ∀ μ4, μ4 = qa_uI μ3 (v0 + 10) (μ3.1 (v0 + 7) 0).toNatClampNeg v3 → wX0_note n v0 (μ4.1 (v0 + 7) 0) μ4 (fun μ5 => ∀ μ6, μ6 = qa_uI μ5 (v0 + 7) 0 ((μ5.1 (v0 + 7) 0) + (1 : Int32)) → Q μ6)))
theorem tX0_add (l : Launch) {n : Nat} {v0 : Nat} {v1 : Int32} {v2 : Int32} {v3 : Int32} {μ0 : qa_M} {Q : qa_M → Prop} (hp0 : qa_PP μ0.2.2) (k0 : qa_tw v0) (h : wX0_add n v0 v1 v2 v3 μ0 Q) : qa_Met l yX0_add cX0_add 4 none 1 0 0 [.ref (v0 + 7), .int v1, .int v2, .int v3] 113 μ0 (qa_pV Q) := by
  refine qa_ofG (by decide) (Nat.le_of_ble_eq_true rfl) ?_
  unfold wX0_add at h
  change qa_G l yX0_add cX0_add 4 none 1 0 0 (qa_pV Q) 0 0 0 [some (.ref (v0 + 7)), some (.int v1), some (.int v2), some (.int v3)] [] 113 μ0
  refine qa_ald0 dX0_add_0 ?_
  refine qa_getI dX0_add_1 lf_X0_24 (Or.inl rfl) (st_7 k0) (tle_7 k0) ?_
  refine qa_bipush (v := 30) dX0_add_4 (by decide) ?_
  refine qa_icmp_ge (tgt := 57) dX0_add_6 (by decide) (fun c1 => ?_) (fun c1 => ?_)
  · have h := h.1 c1
    exact qa_vret rfl dX0_add_57 ⟨rfl, rfl⟩ ⟨rfl, hp0, rfl, h⟩
  · have h := h.2 c1
    refine qa_ald0 dX0_add_9 ?_
    refine qa_getR dX0_add_10 lf_X0_9 rfl (st_7 k0) (tle_7 k0) (pa_1 hp0 k0) (Nat.succ_pos _) ?_
    refine qa_ald0 dX0_add_13 ?_
    refine qa_getI dX0_add_14 lf_X0_24 (Or.inl rfl) (st_7 k0) (tle_7 k0) ?_
    refine qa_ild1 dX0_add_17 ?_
    refine qa_iast dX0_add_18 (st_8 k0) (tle_8 k0) h.1 ?_
    have h := h.2
    refine qa_nmM (fun μ2 em2 => ?_)
    have h := h μ2 em2
    have hp2 : qa_PP μ2.2.2 := by rw [em2]; exact hp0
    refine qa_ald0 dX0_add_19 ?_
    refine qa_getR dX0_add_20 lf_X0_15 rfl (st_7 k0) (tle_7 k0) (pa_2 hp2 k0) (Nat.succ_pos _) ?_
    refine qa_ald0 dX0_add_23 ?_
    refine qa_getI dX0_add_24 lf_X0_24 (Or.inl rfl) (st_7 k0) (tle_7 k0) ?_
    refine qa_ild2 dX0_add_27 ?_
    refine qa_iast dX0_add_28 (st_9 k0) (tle_9 k0) h.1 ?_
    have h := h.2
    refine qa_nmM (fun μ3 em3 => ?_)
    have h := h μ3 em3
    have hp3 : qa_PP μ3.2.2 := by rw [em3]; exact hp2
    refine qa_ald0 dX0_add_29 ?_
    refine qa_getR dX0_add_30 lf_X0_18 rfl (st_7 k0) (tle_7 k0) (pa_3 hp3 k0) (Nat.succ_pos _) ?_
    refine qa_ald0 dX0_add_33 ?_
    refine qa_getI dX0_add_34 lf_X0_24 (Or.inl rfl) (st_7 k0) (tle_7 k0) ?_
    refine qa_ild3 dX0_add_37 ?_
    refine qa_iast dX0_add_38 (st_10 k0) (tle_10 k0) h.1 ?_
    have h := h.2
    refine qa_nmM (fun μ4 em4 => ?_)
    have h := h μ4 em4
    have hp4 : qa_PP μ4.2.2 := by rw [em4]; exact hp3
    refine qa_ald0 dX0_add_39 ?_
    refine qa_ald0 dX0_add_40 ?_
    refine qa_getI dX0_add_41 lf_X0_24 (Or.inl rfl) (st_7 k0) (tle_7 k0) ?_
    refine qa_V1V dX0_add_44 lm_X0_28 (st_7 k0) rfl (tle_7 k0) (by decide) (Nat.le_of_ble_eq_true rfl) (tX0_note l hp4 k0 h) (fun μ5 hp5 h => ?_)
    refine qa_ald0 dX0_add_47 ?_
    refine qa_dup dX0_add_48 rfl ?_
    refine qa_getI dX0_add_49 lf_X0_24 (Or.inl rfl) (st_7 k0) (tle_7 k0) ?_
    refine qa_iconst (v := 1) dX0_add_52 (by decide) ?_
    refine qa_iadd dX0_add_53 ?_
    refine qa_putI dX0_add_54 lf_X0_24 rfl (st_7 k0) (tle_7 k0) rfl ?_
    refine qa_nmM (fun μ6 em6 => ?_)
    have h := h μ6 em6
    have hp6 : qa_PP μ6.2.2 := by rw [em6]; exact hp5
    exact qa_vret rfl dX0_add_57 ⟨rfl, rfl⟩ ⟨rfl, hp6, rfl, h⟩
def wX0_noteAll_15 : Nat → Nat → Int32 → qa_M → (qa_M → Prop) → Prop
  | 0, _, _, _, _ => False
  | n + 1, v0, v1, μ0, Q => (((μ0.1 (v0 + 7) 0) ≤ v1 → Q μ0) ∧ (¬ (μ0.1 (v0 + 7) 0) ≤ v1 → wX0_note n v0 v1 μ0 (fun μ4 => wX0_noteAll_15 n v0 (v1 + (1 : Int32)) μ4 Q)))
def wX0_noteAll (n : Nat) (v0 : Nat) (μ0 : qa_M) (Q : qa_M → Prop) : Prop := wJ7_fill_53178 n (v0 + 11) 20 (0 : Int32) μ0 (fun μ1 => ∀ μ2, μ2 = qa_uI μ1 (v0 + 7) 5 (0 : Int32) → wX0_noteAll_15 n v0 (0 : Int32) μ2  Q)
theorem tX0_noteAll_15 (l : Launch)  {Q : qa_M → Prop}  : ∀ (n : Nat) (v0 : Nat) (v1 : Int32) (μ0 : qa_M), qa_PP μ0.2.2 → qa_tw v0 → wX0_noteAll_15 n v0 v1 μ0  Q → qa_G l yX0_noteAll cX0_noteAll 2 none 1 0 0 (qa_pV Q) 0 0 15 [some (.ref (v0 + 7)), some (.int v1)] [] 113 μ0 := by
  intro n
  induction n with
  | zero =>
    intro v0 v1 μ0 hp0 k0 h
    rw [wX0_noteAll_15] at h
    exact h.elim
  | succ n ih =>
    intro v0 v1 μ0 hp0 k0 h
    rw [wX0_noteAll_15] at h
    refine qa_ild1 dX0_noteAll_15 ?_
    refine qa_ald0 dX0_noteAll_16 ?_
    refine qa_getI dX0_noteAll_17 lf_X0_24 (Or.inl rfl) (st_7 k0) (tle_7 k0) ?_
    refine qa_icmp_ge (tgt := 34) dX0_noteAll_20 (by decide) (fun c3 => ?_) (fun c3 => ?_)
    · have h := h.1 c3
      exact qa_vret rfl dX0_noteAll_34 ⟨rfl, rfl⟩ ⟨rfl, hp0, rfl, h⟩
    · have h := h.2 c3
      refine qa_ald0 dX0_noteAll_23 ?_
      refine qa_ild1 dX0_noteAll_24 ?_
      refine qa_V1V dX0_noteAll_25 lm_X0_28 (st_7 k0) rfl (tle_7 k0) (by decide) (Nat.le_of_ble_eq_true rfl) (tX0_note l hp0 k0 h) (fun μ4 hp4 h => ?_)
      refine qa_inc1 dX0_noteAll_28 (qa_io1 _) ?_
      refine qa_goto (tgt := 15) dX0_noteAll_31 (by decide) ?_
      refine qa_fgt (L' := [some (.ref (v0 + 7)), some (.int (v1 + (1 : Int32)))]) (⟨rfl, ⟨rfl, trivial⟩⟩) ?_
      exact ih v0 (v1 + (1 : Int32)) μ4 hp4 k0 h
theorem tX0_noteAll (l : Launch) {n : Nat} {v0 : Nat} {μ0 : qa_M} {Q : qa_M → Prop} (hp0 : qa_PP μ0.2.2) (k0 : qa_tw v0) (h : wX0_noteAll n v0 μ0 Q) : qa_Met l yX0_noteAll cX0_noteAll 2 none 1 0 0 [.ref (v0 + 7)] 113 μ0 (qa_pV Q) := by
  refine qa_ofG (by decide) (Nat.le_of_ble_eq_true rfl) ?_
  unfold wX0_noteAll at h
  change qa_G l yX0_noteAll cX0_noteAll 2 none 1 0 0 (qa_pV Q) 0 0 0 [some (.ref (v0 + 7)), none] [] 113 μ0
  refine qa_ald0 dX0_noteAll_0 ?_
  refine qa_getR dX0_noteAll_1 lf_X0_21 rfl (st_7 k0) (tle_7 k0) (pa_4 hp0 k0) (Nat.succ_pos _) ?_
  refine qa_iconst (v := 0) dX0_noteAll_4 (by decide) ?_
  refine qa_S2V dX0_noteAll_5 lm_X0_41  (by decide) (Nat.le_of_ble_eq_true rfl) (tJ7_fill_53178 l hp0 (st_11 k0) (tle_11 k0) h) (fun μ1 hp1 h => ?_)
  refine qa_ald0 dX0_noteAll_8 ?_
  refine qa_iconst (v := 0) dX0_noteAll_9 (by decide) ?_
  refine qa_putI dX0_noteAll_10 lf_X0_47 rfl (st_7 k0) (tle_7 k0) rfl ?_
  refine qa_nmM (fun μ2 em2 => ?_)
  have h := h μ2 em2
  have hp2 : qa_PP μ2.2.2 := by rw [em2]; exact hp1
  refine qa_iconst (v := 0) dX0_noteAll_13 (by decide) ?_
  refine qa_ist1 dX0_noteAll_14 ?_
  refine qa_fgt (L' := [some (.ref (v0 + 7)), some (.int (0 : Int32))]) (⟨rfl, ⟨rfl, trivial⟩⟩) ?_
  refine tX0_noteAll_15 l  n v0 (0 : Int32) μ2 hp2 k0 h
def wX0_keepFirst (n : Nat) (v0 : Nat) (v1 : Int32) (μ0 : qa_M) (Q : qa_M → Prop) : Prop := ∀ μ1, μ1 = qa_uI μ0 (v0 + 7) 0 v1 → wX0_noteAll n v0 μ1 (fun μ2 => Q μ2)
theorem tX0_keepFirst (l : Launch) {n : Nat} {v0 : Nat} {v1 : Int32} {μ0 : qa_M} {Q : qa_M → Prop} (hp0 : qa_PP μ0.2.2) (k0 : qa_tw v0) (h : wX0_keepFirst n v0 v1 μ0 Q) : qa_Met l yX0_keepFirst cX0_keepFirst 2 none 2 0 0 [.ref (v0 + 7), .int v1] 113 μ0 (qa_pV Q) := by
  refine qa_ofG (by decide) (Nat.le_of_ble_eq_true rfl) ?_
  unfold wX0_keepFirst at h
  change qa_G l yX0_keepFirst cX0_keepFirst 2 none 2 0 0 (qa_pV Q) 0 0 0 [some (.ref (v0 + 7)), some (.int v1)] [] 113 μ0
  refine qa_ald0 dX0_keepFirst_0 ?_
  refine qa_ild1 dX0_keepFirst_1 ?_
  refine qa_putI dX0_keepFirst_2 lf_X0_24 rfl (st_7 k0) (tle_7 k0) rfl ?_
  refine qa_nmM (fun μ1 em1 => ?_)
  have h := h μ1 em1
  have hp1 : qa_PP μ1.2.2 := by rw [em1]; exact hp0
  refine qa_ald0 dX0_keepFirst_5 ?_
  refine qa_V0V dX0_keepFirst_6 lm_X0_32 (st_7 k0) rfl (tle_7 k0) (by decide) (Nat.le_of_ble_eq_true rfl) (tX0_noteAll l hp1 k0 h) (fun μ2 hp2 h => ?_)
  exact qa_vret rfl dX0_keepFirst_9 ⟨rfl, rfl⟩ ⟨rfl, hp2, rfl, h⟩
def wX0_repeat (n : Nat) (v0 : Nat) (v1 : Nat) (μ0 : qa_M) (Q : qa_M → Prop) : Prop := ∀ μ1, μ1 = qa_uI μ0 (v0 + 7) 0 (μ0.1 (v1 + 7) 0) → ∀ μ2, μ2 = qa_cpI μ1 (v1 + 8) (v0 + 8) (0 : Int32).toNatClampNeg (0 : Int32).toNatClampNeg (30 : Int32).toNatClampNeg → ∀ μ3, μ3 = qa_cpI μ2 (v1 + 9) (v0 + 9) (0 : Int32).toNatClampNeg (0 : Int32).toNatClampNeg (30 : Int32).toNatClampNeg → ∀ μ4, μ4 = qa_cpI μ3 (v1 + 10) (v0 + 10) (0 : Int32).toNatClampNeg (0 : Int32).toNatClampNeg (30 : Int32).toNatClampNeg → wX0_noteAll n v0 μ4 (fun μ5 => Q μ5)
theorem tX0_repeat (l : Launch) {n : Nat} {v0 : Nat} {v1 : Nat} {μ0 : qa_M} {Q : qa_M → Prop} (hp0 : qa_PP μ0.2.2) (k0 : qa_tw v0) (k1 : qa_tw v1) (h : wX0_repeat n v0 v1 μ0 Q) : qa_Met l yX0_repeat cX0_repeat 2 none 2 0 0 [.ref (v0 + 7), .ref (v1 + 7)] 113 μ0 (qa_pV Q) := by
  refine qa_ofG (by decide) (Nat.le_of_ble_eq_true rfl) ?_
  unfold wX0_repeat at h
  change qa_G l yX0_repeat cX0_repeat 2 none 2 0 0 (qa_pV Q) 0 0 0 [some (.ref (v0 + 7)), some (.ref (v1 + 7))] [] 113 μ0
  refine qa_ald0 dX0_repeat_0 ?_
  refine qa_ald1 dX0_repeat_1 ?_
  refine qa_getI dX0_repeat_2 lf_X0_24 (Or.inl rfl) (st_7 k1) (tle_7 k1) ?_
  refine qa_putI dX0_repeat_5 lf_X0_24 rfl (st_7 k0) (tle_7 k0) rfl ?_
  refine qa_nmM (fun μ1 em1 => ?_)
  have h := h μ1 em1
  have hp1 : qa_PP μ1.2.2 := by rw [em1]; exact hp0
  refine qa_ald1 dX0_repeat_8 ?_
  refine qa_getR dX0_repeat_9 lf_X0_9 rfl (st_7 k1) (tle_7 k1) (pa_1 hp1 k1) (Nat.succ_pos _) ?_
  refine qa_iconst (v := 0) dX0_repeat_12 (by decide) ?_
  refine qa_ald0 dX0_repeat_13 ?_
  refine qa_getR dX0_repeat_14 lf_X0_9 rfl (st_7 k0) (tle_7 k0) (pa_1 hp1 k0) (Nat.succ_pos _) ?_
  refine qa_iconst (v := 0) dX0_repeat_17 (by decide) ?_
  refine qa_bipush (v := 30) dX0_repeat_18 (by decide) ?_
  refine qa_copyI dX0_repeat_20 lac_X0_35 lac_n lac_s lac_i (st_8 k1) (st_8 k0) (tle_8 k1) (tle_8 k0) (by decide) (by decide) (by decide) (by decide) (by decide) (by decide) ?_
  refine qa_nmM (fun μ2 em2 => ?_)
  have h := h μ2 em2
  have hp2 : qa_PP μ2.2.2 := by rw [em2]; exact hp1
  refine qa_ald1 dX0_repeat_23 ?_
  refine qa_getR dX0_repeat_24 lf_X0_15 rfl (st_7 k1) (tle_7 k1) (pa_2 hp2 k1) (Nat.succ_pos _) ?_
  refine qa_iconst (v := 0) dX0_repeat_27 (by decide) ?_
  refine qa_ald0 dX0_repeat_28 ?_
  refine qa_getR dX0_repeat_29 lf_X0_15 rfl (st_7 k0) (tle_7 k0) (pa_2 hp2 k0) (Nat.succ_pos _) ?_
  refine qa_iconst (v := 0) dX0_repeat_32 (by decide) ?_
  refine qa_bipush (v := 30) dX0_repeat_33 (by decide) ?_
  refine qa_copyI dX0_repeat_35 lac_X0_35 lac_n lac_s lac_i (st_9 k1) (st_9 k0) (tle_9 k1) (tle_9 k0) (by decide) (by decide) (by decide) (by decide) (by decide) (by decide) ?_
  refine qa_nmM (fun μ3 em3 => ?_)
  have h := h μ3 em3
  have hp3 : qa_PP μ3.2.2 := by rw [em3]; exact hp2
  refine qa_ald1 dX0_repeat_38 ?_
  refine qa_getR dX0_repeat_39 lf_X0_18 rfl (st_7 k1) (tle_7 k1) (pa_3 hp3 k1) (Nat.succ_pos _) ?_
  refine qa_iconst (v := 0) dX0_repeat_42 (by decide) ?_
  refine qa_ald0 dX0_repeat_43 ?_
  refine qa_getR dX0_repeat_44 lf_X0_18 rfl (st_7 k0) (tle_7 k0) (pa_3 hp3 k0) (Nat.succ_pos _) ?_
  refine qa_iconst (v := 0) dX0_repeat_47 (by decide) ?_
  refine qa_bipush (v := 30) dX0_repeat_48 (by decide) ?_
  refine qa_copyI dX0_repeat_50 lac_X0_35 lac_n lac_s lac_i (st_10 k1) (st_10 k0) (tle_10 k1) (tle_10 k0) (by decide) (by decide) (by decide) (by decide) (by decide) (by decide) ?_
  refine qa_nmM (fun μ4 em4 => ?_)
  have h := h μ4 em4
  have hp4 : qa_PP μ4.2.2 := by rw [em4]; exact hp3
  refine qa_ald0 dX0_repeat_53 ?_
  refine qa_V0V dX0_repeat_54 lm_X0_32 (st_7 k0) rfl (tle_7 k0) (by decide) (Nat.le_of_ble_eq_true rfl) (tX0_noteAll l hp4 k0 h) (fun μ5 hp5 h => ?_)
  exact qa_vret rfl dX0_repeat_57 ⟨rfl, rfl⟩ ⟨rfl, hp5, rfl, h⟩
def wX1_asTold (n : Nat) (v1 : Nat) (μ0 : qa_M) (Q : qa_M → Prop) : Prop := ∀ μ1, μ1 = qa_uI μ0 31 0 (μ0.1 v1 2) → ∀ μ2, μ2 = qa_uI μ1 31 1 (μ1.1 v1 3) → ∀ μ3, μ3 = qa_uI μ2 31 2 (μ2.1 v1 9) → ∀ μ4, μ4 = qa_uI μ3 31 3 (μ3.1 v1 10) → ∀ μ5, μ5 = qa_uI μ4 31 4 (0 : Int32) → ∀ μ6, μ6 = qa_uI μ5 31 5 (-1 : Int32) → ∀ μ7, μ7 = qa_uI μ6 31 6 (-1 : Int32) → ∀ μ8, μ8 = qa_uI μ7 31 7 (μ7.1 v1 1) → Q μ8
theorem tX1_asTold (l : Launch) {n : Nat} {v1 : Nat} {μ0 : qa_M} {Q : qa_M → Prop} (hp0 : qa_PP μ0.2.2) (k1 : qa_tw v1) (h : wX1_asTold n v1 μ0 Q) : qa_Met l yX1_asTold cX1_asTold 2 none 0 0 0 [.ref 31, .ref v1] 113 μ0 (qa_pV Q) := by
  refine qa_ofG (by decide) (Nat.le_of_ble_eq_true rfl) ?_
  unfold wX1_asTold at h
  change qa_G l yX1_asTold cX1_asTold 2 none 0 0 0 (qa_pV Q) 0 0 0 [some (.ref 31), some (.ref v1)] [] 113 μ0
  refine qa_ald0 dX1_asTold_0 ?_
  refine qa_ald1 dX1_asTold_1 ?_
  refine qa_getI dX1_asTold_2 lf_X1_9 (Or.inl rfl) (st_0 k1) (tle_0 k1) ?_
  refine qa_putI dX1_asTold_5 lf_X1_15 rfl sh_31 (by decide) rfl ?_
  refine qa_nmM (fun μ1 em1 => ?_)
  have h := h μ1 em1
  have hp1 : qa_PP μ1.2.2 := by rw [em1]; exact hp0
  refine qa_ald0 dX1_asTold_8 ?_
  refine qa_ald1 dX1_asTold_9 ?_
  refine qa_getI dX1_asTold_10 lf_X1_18 (Or.inl rfl) (st_0 k1) (tle_0 k1) ?_
  refine qa_putI dX1_asTold_13 lf_X1_21 rfl sh_31 (by decide) rfl ?_
  refine qa_nmM (fun μ2 em2 => ?_)
  have h := h μ2 em2
  have hp2 : qa_PP μ2.2.2 := by rw [em2]; exact hp1
  refine qa_ald0 dX1_asTold_16 ?_
  refine qa_ald1 dX1_asTold_17 ?_
  refine qa_getI dX1_asTold_18 lf_X1_22 (Or.inl rfl) (st_0 k1) (tle_0 k1) ?_
  refine qa_putI dX1_asTold_21 lf_X1_25 rfl sh_31 (by decide) rfl ?_
  refine qa_nmM (fun μ3 em3 => ?_)
  have h := h μ3 em3
  have hp3 : qa_PP μ3.2.2 := by rw [em3]; exact hp2
  refine qa_ald0 dX1_asTold_24 ?_
  refine qa_ald1 dX1_asTold_25 ?_
  refine qa_getI dX1_asTold_26 lf_X1_26 (Or.inl rfl) (st_0 k1) (tle_0 k1) ?_
  refine qa_putI dX1_asTold_29 lf_X1_29 rfl sh_31 (by decide) rfl ?_
  refine qa_nmM (fun μ4 em4 => ?_)
  have h := h μ4 em4
  have hp4 : qa_PP μ4.2.2 := by rw [em4]; exact hp3
  refine qa_ald0 dX1_asTold_32 ?_
  refine qa_iconst (v := 0) dX1_asTold_33 (by decide) ?_
  refine qa_putI dX1_asTold_34 lf_X1_30 rfl sh_31 (by decide) rfl ?_
  refine qa_nmM (fun μ5 em5 => ?_)
  have h := h μ5 em5
  have hp5 : qa_PP μ5.2.2 := by rw [em5]; exact hp4
  refine qa_ald0 dX1_asTold_37 ?_
  refine qa_iconst (v := -1) dX1_asTold_38 (by decide) ?_
  refine qa_putI dX1_asTold_39 lf_X1_33 rfl sh_31 (by decide) rfl ?_
  refine qa_nmM (fun μ6 em6 => ?_)
  have h := h μ6 em6
  have hp6 : qa_PP μ6.2.2 := by rw [em6]; exact hp5
  refine qa_ald0 dX1_asTold_42 ?_
  refine qa_iconst (v := -1) dX1_asTold_43 (by decide) ?_
  refine qa_putI dX1_asTold_44 lf_X1_36 rfl sh_31 (by decide) rfl ?_
  refine qa_nmM (fun μ7 em7 => ?_)
  have h := h μ7 em7
  have hp7 : qa_PP μ7.2.2 := by rw [em7]; exact hp6
  refine qa_ald0 dX1_asTold_47 ?_
  refine qa_ald1 dX1_asTold_48 ?_
  refine qa_getI dX1_asTold_49 lf_X1_39 (Or.inl rfl) (st_0 k1) (tle_0 k1) ?_
  refine qa_putI dX1_asTold_52 lf_X1_42 rfl sh_31 (by decide) rfl ?_
  refine qa_nmM (fun μ8 em8 => ?_)
  have h := h μ8 em8
  have hp8 : qa_PP μ8.2.2 := by rw [em8]; exact hp7
  exact qa_vret rfl dX1_asTold_55 ⟨rfl, rfl⟩ ⟨rfl, hp8, rfl, h⟩
def wX2_add_3 : Nat → Int32 → Int32 → qa_M → (qa_M → Prop) → Prop
  | 0, _, _, _, _ => False
  | n + 1, v1, v2, μ0, Q => ((v2 < 0 → Q μ0) ∧ (¬ v2 < 0 → (((800 : Int32) ≤ (μ0.1 2 1) → wX2_add_3 n v1 (v2 + (-8 : Int32)) μ0 Q) ∧ (¬ (800 : Int32) ≤ (μ0.1 2 1) → vp_in (μ0.1 2 1) 800 ∧ ∀ μ3, μ3 = qa_uI μ0 15 (μ0.1 2 1).toNatClampNeg (v1.toUInt32 >>> (v2.toUInt32 &&& Int32.toUInt32 31)).toInt32.toInt8.toInt32.toInt8.toInt32 → ∀ μ4, μ4 = qa_uI μ3 2 1 ((μ3.1 2 1) + (1 : Int32)) → wX2_add_3 n v1 (v2 + (-8 : Int32)) μ4 Q))))
def wX2_add (n : Nat) (v1 : Int32) (μ0 : qa_M) (Q : qa_M → Prop) : Prop := wX2_add_3 n v1 (24 : Int32) μ0  Q
theorem tX2_add_3 (l : Launch)  {Q : qa_M → Prop}  : ∀ (n : Nat) (v1 : Int32) (v2 : Int32) (μ0 : qa_M), qa_PP μ0.2.2 → wX2_add_3 n v1 v2 μ0  Q → qa_G l yX2_add cX2_add 3 none 0 0 0 (qa_pV Q) 0 0 3 [some (.ref 2), some (.int v1), some (.int v2)] [] 113 μ0 := by
  intro n
  induction n with
  | zero =>
    intro v1 v2 μ0 hp0  h
    rw [wX2_add_3] at h
    exact h.elim
  | succ n ih =>
    intro v1 v2 μ0 hp0  h
    rw [wX2_add_3] at h
    refine qa_ild2 dX2_add_3 ?_
    refine qa_if_lt (tgt := 46) dX2_add_4 (by decide) (fun c1 => ?_) (fun c1 => ?_)
    · have h := h.1 c1
      exact qa_vret rfl dX2_add_46 ⟨rfl, rfl⟩ ⟨rfl, hp0, rfl, h⟩
    · have h := h.2 c1
      refine qa_ald0 dX2_add_7 ?_
      refine qa_getI dX2_add_8 lf_X2_9 (Or.inl rfl) sh_2 (by decide) ?_
      refine qa_sipush (v := 800) dX2_add_11 (by decide) ?_
      refine qa_icmp_ge (tgt := 40) dX2_add_14 (by decide) (fun c2 => ?_) (fun c2 => ?_)
      · have h := h.1 c2
        refine qa_inc2 dX2_add_40 (qa_iom8 _) ?_
        refine qa_goto (tgt := 3) dX2_add_43 (by decide) ?_
        refine qa_fgt (L' := [some (.ref 2), some (.int v1), some (.int (v2 + (-8 : Int32)))]) (⟨rfl, ⟨rfl, ⟨rfl, trivial⟩⟩⟩) ?_
        exact ih v1 (v2 + (-8 : Int32)) μ0 hp0  h
      · have h := h.2 c2
        refine qa_ald0 dX2_add_17 ?_
        refine qa_getR dX2_add_18 lf_X2_28 rfl sh_2 (by decide) (pp_2_0 hp0) (by decide) ?_
        refine qa_ald0 dX2_add_21 ?_
        refine qa_getI dX2_add_22 lf_X2_9 (Or.inl rfl) sh_2 (by decide) ?_
        refine qa_ild1 dX2_add_25 ?_
        refine qa_ild2 dX2_add_26 ?_
        refine qa_iushr dX2_add_27 ?_
        refine qa_i2b dX2_add_28 ?_
        refine qa_bast dX2_add_29 sh_15 (by decide) h.1 ?_
        have h := h.2
        refine qa_nmM (fun μ3 em3 => ?_)
        have h := h μ3 em3
        have hp3 : qa_PP μ3.2.2 := by rw [em3]; exact hp0
        refine qa_ald0 dX2_add_30 ?_
        refine qa_dup dX2_add_31 rfl ?_
        refine qa_getI dX2_add_32 lf_X2_9 (Or.inl rfl) sh_2 (by decide) ?_
        refine qa_iconst (v := 1) dX2_add_35 (by decide) ?_
        refine qa_iadd dX2_add_36 ?_
        refine qa_putI dX2_add_37 lf_X2_9 rfl sh_2 (by decide) rfl ?_
        refine qa_nmM (fun μ4 em4 => ?_)
        have h := h μ4 em4
        have hp4 : qa_PP μ4.2.2 := by rw [em4]; exact hp3
        refine qa_inc2 dX2_add_40 (qa_iom8 _) ?_
        refine qa_goto (tgt := 3) dX2_add_43 (by decide) ?_
        refine qa_fgt (L' := [some (.ref 2), some (.int v1), some (.int (v2 + (-8 : Int32)))]) (⟨rfl, ⟨rfl, ⟨rfl, trivial⟩⟩⟩) ?_
        exact ih v1 (v2 + (-8 : Int32)) μ4 hp4  h
theorem tX2_add (l : Launch) {n : Nat} {v1 : Int32} {μ0 : qa_M} {Q : qa_M → Prop} (hp0 : qa_PP μ0.2.2)  (h : wX2_add n v1 μ0 Q) : qa_Met l yX2_add cX2_add 3 none 0 0 0 [.ref 2, .int v1] 113 μ0 (qa_pV Q) := by
  refine qa_ofG (by decide) (Nat.le_of_ble_eq_true rfl) ?_
  unfold wX2_add at h
  change qa_G l yX2_add cX2_add 3 none 0 0 0 (qa_pV Q) 0 0 0 [some (.ref 2), some (.int v1), none] [] 113 μ0
  refine qa_bipush (v := 24) dX2_add_0 (by decide) ?_
  refine qa_ist2 dX2_add_2 ?_
  refine qa_fgt (L' := [some (.ref 2), some (.int v1), some (.int (24 : Int32))]) (⟨rfl, ⟨rfl, ⟨rfl, trivial⟩⟩⟩) ?_
  refine tX2_add_3 l  n v1 (24 : Int32) μ0 hp0  h
def wX2_fail (n : Nat) (v1 : Int32) (μ0 : qa_M) (Q : qa_M → Prop) : Prop := ((¬ (μ0.1 2 7) = 0 → Q μ0) ∧ ((μ0.1 2 7) = 0 → ∀ μ2, μ2 = qa_uI μ0 2 7 v1 → ∀ μ3, μ3 = qa_uI μ2 2 8 (μ2.1 2 4) → Q μ3))
theorem tX2_fail (l : Launch) {n : Nat} {v1 : Int32} {μ0 : qa_M} {Q : qa_M → Prop} (hp0 : qa_PP μ0.2.2)  (h : wX2_fail n v1 μ0 Q) : qa_Met l yX2_fail cX2_fail 2 none 0 0 0 [.ref 2, .int v1] 113 μ0 (qa_pV Q) := by
  refine qa_ofG (by decide) (Nat.le_of_ble_eq_true rfl) ?_
  unfold wX2_fail at h
  change qa_G l yX2_fail cX2_fail 2 none 0 0 0 (qa_pV Q) 0 0 0 [some (.ref 2), some (.int v1)] [] 113 μ0
  refine qa_ald0 dX2_fail_0 ?_
  refine qa_getI dX2_fail_1 lf_X2_15 (Or.inl rfl) sh_2 (by decide) ?_
  refine qa_if_ne (tgt := 20) dX2_fail_4 (by decide) (fun c1 => ?_) (fun c1 => ?_)
  · have h := h.1 c1
    exact qa_vret rfl dX2_fail_20 ⟨rfl, rfl⟩ ⟨rfl, hp0, rfl, h⟩
  · have h := h.2 c1
    refine qa_ald0 dX2_fail_7 ?_
    refine qa_ild1 dX2_fail_8 ?_
    refine qa_putI dX2_fail_9 lf_X2_15 rfl sh_2 (by decide) rfl ?_
    refine qa_nmM (fun μ2 em2 => ?_)
    have h := h μ2 em2
    have hp2 : qa_PP μ2.2.2 := by rw [em2]; exact hp0
    refine qa_ald0 dX2_fail_12 ?_
    refine qa_ald0 dX2_fail_13 ?_
    refine qa_getI dX2_fail_14 lf_X2_169 (Or.inl rfl) sh_2 (by decide) ?_
    refine qa_putI dX2_fail_17 lf_X2_18 rfl sh_2 (by decide) rfl ?_
    refine qa_nmM (fun μ3 em3 => ?_)
    have h := h μ3 em3
    have hp3 : qa_PP μ3.2.2 := by rw [em3]; exact hp2
    exact qa_vret rfl dX2_fail_20 ⟨rfl, rfl⟩ ⟨rfl, hp3, rfl, h⟩
def wX2_isWord_28 : Nat → Nat → Int32 → qa_M → (Int32 → qa_M → Prop) → Prop
  | 0, _, _, _, _ => False
  | n + 1, v1, v2, μ0, Q => wJ0_length_8abf5 n v1 μ0 (fun r4 μ4 => ((r4 ≤ v2 → Q (1 : Int32) μ4) ∧ (¬ r4 ≤ v2 → vp_in ((μ4.1 2 4) + v2) 800 ∧ wJ0_charAt_5068e n v1 v2 μ4 (fun r6 μ6 => (((μ4.1 15 ((μ4.1 2 4) + v2).toNatClampNeg) = r6 → wX2_isWord_28 n v1 (v2 + (1 : Int32)) μ6 Q) ∧ (¬ (μ4.1 15 ((μ4.1 2 4) + v2).toNatClampNeg) = r6 → Q (0 : Int32) μ6))))))
def wX2_isWord (n : Nat) (v1 : Nat) (μ0 : qa_M) (Q : Int32 → qa_M → Prop) : Prop := ((¬ (μ0.1 2 3) = (1 : Int32) → Q (0 : Int32) μ0) ∧ ((μ0.1 2 3) = (1 : Int32) → wJ0_length_8abf5 n v1 μ0 (fun r2 μ2 => ((((μ0.1 2 5) - (μ0.1 2 4)) = r2 → wX2_isWord_28 n v1 (0 : Int32) μ2  Q) ∧ (¬ ((μ0.1 2 5) - (μ0.1 2 4)) = r2 → Q (0 : Int32) μ2)))))
theorem tX2_isWord_28 (l : Launch)  {Q : Int32 → qa_M → Prop}  : ∀ (n : Nat) (v1 : Nat) (v2 : Int32) (μ0 : qa_M), qa_PP μ0.2.2 → v1 < 30 → wX2_isWord_28 n v1 v2 μ0  Q → qa_G l yX2_isWord cX2_isWord 3 (some .boolean) 5 0 0 (qa_pI Q) 0 0 28 [some (.ref 2), some (.ref (2000 + v1)), some (.int v2)] [] 113 μ0 := by
  intro n
  induction n with
  | zero =>
    intro v1 v2 μ0 hp0 k1 h
    rw [wX2_isWord_28] at h
    exact h.elim
  | succ n ih =>
    intro v1 v2 μ0 hp0 k1 h
    rw [wX2_isWord_28] at h
    refine qa_ild2 dX2_isWord_28 ?_
    refine qa_ald1 dX2_isWord_29 ?_
    refine qa_W0I dX2_isWord_30 lm_X2_172 rfl ⟨_, k1, rfl⟩ (by decide) (Nat.le_of_ble_eq_true rfl) (tJ0_length_8abf5 l hp0 k1 h) (fun r4 μ4 hp4 h => ?_)
    refine qa_icmp_ge (tgt := 63) dX2_isWord_33 (by decide) (fun c5 => ?_) (fun c5 => ?_)
    · have h := h.1 c5
      refine qa_iconst (v := 1) dX2_isWord_63 (by decide) ?_
      exact qa_zret rfl rfl dX2_isWord_64 ⟨rfl, rfl⟩ ⟨rfl, hp4, _, rfl, h⟩
    · have h := h.2 c5
      refine qa_ald0 dX2_isWord_36 ?_
      refine qa_getR dX2_isWord_37 lf_X2_28 rfl sh_2 (by decide) (pp_2_0 hp4) (by decide) ?_
      refine qa_ald0 dX2_isWord_40 ?_
      refine qa_getI dX2_isWord_41 lf_X2_169 (Or.inl rfl) sh_2 (by decide) ?_
      refine qa_ild2 dX2_isWord_44 ?_
      refine qa_iadd dX2_isWord_45 ?_
      refine qa_bald dX2_isWord_46 sh_15 (by decide) h.1 ?_
      have h := h.2
      refine qa_ald1 dX2_isWord_47 ?_
      refine qa_ild2 dX2_isWord_48 ?_
      refine qa_W1I dX2_isWord_49 lm_X2_178 rfl ⟨_, k1, rfl⟩ (by decide) (Nat.le_of_ble_eq_true rfl) (tJ0_charAt_5068e l hp4 k1 h) (fun r6 μ6 hp6 h => ?_)
      refine qa_icmp_eq (tgt := 57) dX2_isWord_52 (by decide) (fun c7 => ?_) (fun c7 => ?_)
      · have h := h.1 c7
        refine qa_inc2 dX2_isWord_57 (qa_io1 _) ?_
        refine qa_goto (tgt := 28) dX2_isWord_60 (by decide) ?_
        refine qa_fgt (L' := [some (.ref 2), some (.ref (2000 + v1)), some (.int (v2 + (1 : Int32)))]) (⟨rfl, ⟨rfl, ⟨rfl, trivial⟩⟩⟩) ?_
        exact ih v1 (v2 + (1 : Int32)) μ6 hp6 k1 h
      · have h := h.2 c7
        refine qa_iconst (v := 0) dX2_isWord_55 (by decide) ?_
        exact qa_zret rfl rfl dX2_isWord_56 ⟨rfl, rfl⟩ ⟨rfl, hp6, _, rfl, h⟩
theorem tX2_isWord (l : Launch) {n : Nat} {v1 : Nat} {μ0 : qa_M} {Q : Int32 → qa_M → Prop} (hp0 : qa_PP μ0.2.2) (k1 : v1 < 30) (h : wX2_isWord n v1 μ0 Q) : qa_Met l yX2_isWord cX2_isWord 3 (some .boolean) 5 0 0 [.ref 2, .ref (2000 + v1)] 113 μ0 (qa_pI Q) := by
  refine qa_ofG (by decide) (Nat.le_of_ble_eq_true rfl) ?_
  unfold wX2_isWord at h
  change qa_G l yX2_isWord cX2_isWord 3 (some .boolean) 5 0 0 (qa_pI Q) 0 0 0 [some (.ref 2), some (.ref (2000 + v1)), none] [] 113 μ0
  refine qa_ald0 dX2_isWord_0 ?_
  refine qa_getI dX2_isWord_1 lf_X2_41 (Or.inl rfl) sh_2 (by decide) ?_
  refine qa_iconst (v := 1) dX2_isWord_4 (by decide) ?_
  refine qa_icmp_ne (tgt := 24) dX2_isWord_5 (by decide) (fun c1 => ?_) (fun c1 => ?_)
  · have h := h.1 c1
    refine qa_iconst (v := 0) dX2_isWord_24 (by decide) ?_
    exact qa_zret rfl rfl dX2_isWord_25 ⟨rfl, rfl⟩ ⟨rfl, hp0, _, rfl, h⟩
  · have h := h.2 c1
    refine qa_ald0 dX2_isWord_8 ?_
    refine qa_getI dX2_isWord_9 lf_X2_35 (Or.inl rfl) sh_2 (by decide) ?_
    refine qa_ald0 dX2_isWord_12 ?_
    refine qa_getI dX2_isWord_13 lf_X2_169 (Or.inl rfl) sh_2 (by decide) ?_
    refine qa_isub dX2_isWord_16 ?_
    refine qa_ald1 dX2_isWord_17 ?_
    refine qa_W0I dX2_isWord_18 lm_X2_172 rfl ⟨_, k1, rfl⟩ (by decide) (Nat.le_of_ble_eq_true rfl) (tJ0_length_8abf5 l hp0 k1 h) (fun r2 μ2 hp2 h => ?_)
    refine qa_icmp_eq (tgt := 26) dX2_isWord_21 (by decide) (fun c3 => ?_) (fun c3 => ?_)
    · have h := h.1 c3
      refine qa_iconst (v := 0) dX2_isWord_26 (by decide) ?_
      refine qa_ist2 dX2_isWord_27 ?_
      refine qa_fgt (L' := [some (.ref 2), some (.ref (2000 + v1)), some (.int (0 : Int32))]) (⟨rfl, ⟨rfl, ⟨rfl, trivial⟩⟩⟩) ?_
      refine tX2_isWord_28 l  n v1 (0 : Int32) μ2 hp2 k1 h
    · have h := h.2 c3
      refine qa_iconst (v := 0) dX2_isWord_24 (by decide) ?_
      exact qa_zret rfl rfl dX2_isWord_25 ⟨rfl, rfl⟩ ⟨rfl, hp2, _, rfl, h⟩
def wX2_kindOf_28 (n : Nat) (v0 : Int32) (μ0 : qa_M)  (Q : Int32 → qa_M → Prop) : Prop := ((¬ v0 = (59 : Int32) → Q (4 : Int32) μ0) ∧ (v0 = (59 : Int32) → Q (3 : Int32) μ0))
def wX2_kindOf_14 (n : Nat) (v0 : Int32) (μ0 : qa_M)  (Q : Int32 → qa_M → Prop) : Prop := ((v0 < (48 : Int32) → wX2_kindOf_28 n v0 μ0  Q) ∧ (¬ v0 < (48 : Int32) → (((57 : Int32) < v0 → wX2_kindOf_28 n v0 μ0  Q) ∧ (¬ (57 : Int32) < v0 → Q (2 : Int32) μ0))))
def wX2_kindOf (n : Nat) (v0 : Int32) (μ0 : qa_M) (Q : Int32 → qa_M → Prop) : Prop := ((v0 < (97 : Int32) → wX2_kindOf_14 n v0 μ0  Q) ∧ (¬ v0 < (97 : Int32) → (((122 : Int32) < v0 → wX2_kindOf_14 n v0 μ0  Q) ∧ (¬ (122 : Int32) < v0 → Q (1 : Int32) μ0))))
theorem tX2_kindOf_28 (l : Launch)  {Q : Int32 → qa_M → Prop}  : ∀ (n : Nat) (v0 : Int32) (μ0 : qa_M), qa_PP μ0.2.2 → wX2_kindOf_28 n v0 μ0  Q → qa_G l yX2_kindOf cX2_kindOf 1 (some .int) 0 0 0 (qa_pI Q) 0 0 28 [some (.int v0)] [] 113 μ0 := by
  intro n
  intro v0 μ0 hp0  h
  unfold wX2_kindOf_28 at h
  refine qa_ild0 dX2_kindOf_28 ?_
  refine qa_bipush (v := 59) dX2_kindOf_29 (by decide) ?_
  refine qa_icmp_ne (tgt := 38) dX2_kindOf_31 (by decide) (fun c3 => ?_) (fun c3 => ?_)
  · have h := h.1 c3
    refine qa_iconst (v := 4) dX2_kindOf_38 (by decide) ?_
    exact qa_iret rfl dX2_kindOf_39 ⟨rfl, rfl⟩ ⟨rfl, hp0, _, rfl, h⟩
  · have h := h.2 c3
    refine qa_iconst (v := 3) dX2_kindOf_34 (by decide) ?_
    refine qa_goto (tgt := 39) dX2_kindOf_35 (by decide) ?_
    exact qa_iret rfl dX2_kindOf_39 ⟨rfl, rfl⟩ ⟨rfl, hp0, _, rfl, h⟩
theorem tX2_kindOf_14 (l : Launch)  {Q : Int32 → qa_M → Prop}  : ∀ (n : Nat) (v0 : Int32) (μ0 : qa_M), qa_PP μ0.2.2 → wX2_kindOf_14 n v0 μ0  Q → qa_G l yX2_kindOf cX2_kindOf 1 (some .int) 0 0 0 (qa_pI Q) 0 0 14 [some (.int v0)] [] 113 μ0 := by
  intro n
  intro v0 μ0 hp0  h
  unfold wX2_kindOf_14 at h
  refine qa_ild0 dX2_kindOf_14 ?_
  refine qa_bipush (v := 48) dX2_kindOf_15 (by decide) ?_
  refine qa_icmp_lt (tgt := 28) dX2_kindOf_17 (by decide) (fun c2 => ?_) (fun c2 => ?_)
  · have h := h.1 c2
    refine qa_fgt (L' := [some (.int v0)]) (⟨rfl, trivial⟩) ?_
    refine tX2_kindOf_28 l  n v0 μ0 hp0  h
  · have h := h.2 c2
    refine qa_ild0 dX2_kindOf_20 ?_
    refine qa_bipush (v := 57) dX2_kindOf_21 (by decide) ?_
    refine qa_icmp_gt (tgt := 28) dX2_kindOf_23 (by decide) (fun c4 => ?_) (fun c4 => ?_)
    · have h := h.1 c4
      refine qa_fgt (L' := [some (.int v0)]) (⟨rfl, trivial⟩) ?_
      refine tX2_kindOf_28 l  n v0 μ0 hp0  h
    · have h := h.2 c4
      refine qa_iconst (v := 2) dX2_kindOf_26 (by decide) ?_
      exact qa_iret rfl dX2_kindOf_27 ⟨rfl, rfl⟩ ⟨rfl, hp0, _, rfl, h⟩
theorem tX2_kindOf (l : Launch) {n : Nat} {v0 : Int32} {μ0 : qa_M} {Q : Int32 → qa_M → Prop} (hp0 : qa_PP μ0.2.2)  (h : wX2_kindOf n v0 μ0 Q) : qa_Met l yX2_kindOf cX2_kindOf 1 (some .int) 0 0 0 [.int v0] 113 μ0 (qa_pI Q) := by
  refine qa_ofG (by decide) (Nat.le_of_ble_eq_true rfl) ?_
  unfold wX2_kindOf at h
  change qa_G l yX2_kindOf cX2_kindOf 1 (some .int) 0 0 0 (qa_pI Q) 0 0 0 [some (.int v0)] [] 113 μ0
  refine qa_ild0 dX2_kindOf_0 ?_
  refine qa_bipush (v := 97) dX2_kindOf_1 (by decide) ?_
  refine qa_icmp_lt (tgt := 14) dX2_kindOf_3 (by decide) (fun c1 => ?_) (fun c1 => ?_)
  · have h := h.1 c1
    refine qa_fgt (L' := [some (.int v0)]) (⟨rfl, trivial⟩) ?_
    refine tX2_kindOf_14 l  n v0 μ0 hp0  h
  · have h := h.2 c1
    refine qa_ild0 dX2_kindOf_6 ?_
    refine qa_bipush (v := 122) dX2_kindOf_7 (by decide) ?_
    refine qa_icmp_gt (tgt := 14) dX2_kindOf_9 (by decide) (fun c5 => ?_) (fun c5 => ?_)
    · have h := h.1 c5
      refine qa_fgt (L' := [some (.int v0)]) (⟨rfl, trivial⟩) ?_
      refine tX2_kindOf_14 l  n v0 μ0 hp0  h
    · have h := h.2 c5
      refine qa_iconst (v := 1) dX2_kindOf_12 (by decide) ?_
      exact qa_iret rfl dX2_kindOf_13 ⟨rfl, rfl⟩ ⟨rfl, hp0, _, rfl, h⟩
def wX6_clear (n : Nat) (v0 : Nat) (μ0 : qa_M) (Q : qa_M → Prop) : Prop := ∀ μ1, μ1 = qa_uI μ0 v0 0 (0 : Int32) → ∀ μ2, μ2 = qa_uI μ1 v0 1 (0 : Int32) → ∀ μ3, μ3 = qa_uI μ2 v0 2 (0 : Int32) → ∀ μ4, μ4 = qa_uI μ3 v0 3 (0 : Int32) → ∀ μ5, μ5 = qa_uI μ4 v0 4 (0 : Int32) → ∀ μ6, μ6 = qa_uI μ5 v0 5 (0 : Int32) → ∀ μ7, μ7 = qa_uI μ6 v0 6 (0 : Int32) → ∀ μ8, μ8 = qa_uI μ7 v0 7 (0 : Int32) → ∀ μ9, μ9 = qa_uI μ8 v0 8 (0 : Int32) → ∀ μ10, μ10 = qa_uI μ9 v0 9 (0 : Int32) → ∀ μ11, μ11 = qa_uI μ10 v0 10 (0 : Int32) → wJ7_fill_53178 n (v0 + 2) 8 (0 : Int32) μ11 (fun μ12 => wJ7_fill_53178 n (v0 + 3) 8 (0 : Int32) μ12 (fun μ13 => wX0_keepFirst n v0 (0 : Int32) μ13 (fun μ14 => Q μ14)))
theorem tX6_clear (l : Launch) {n : Nat} {v0 : Nat} {μ0 : qa_M} {Q : qa_M → Prop} (hp0 : qa_PP μ0.2.2) (k0 : qa_tw v0) (h : wX6_clear n v0 μ0 Q) : qa_Met l yX6_clear cX6_clear 1 none 3 0 0 [.ref v0] 113 μ0 (qa_pV Q) := by
  refine qa_ofG (by decide) (Nat.le_of_ble_eq_true rfl) ?_
  unfold wX6_clear at h
  change qa_G l yX6_clear cX6_clear 1 none 3 0 0 (qa_pV Q) 0 0 0 [some (.ref v0)] [] 113 μ0
  refine qa_ald0 dX6_clear_0 ?_
  refine qa_iconst (v := 0) dX6_clear_1 (by decide) ?_
  refine qa_putI dX6_clear_2 lf_X6_37 rfl (st_0 k0) (tle_0 k0) rfl ?_
  refine qa_nmM (fun μ1 em1 => ?_)
  have h := h μ1 em1
  have hp1 : qa_PP μ1.2.2 := by rw [em1]; exact hp0
  refine qa_ald0 dX6_clear_5 ?_
  refine qa_iconst (v := 0) dX6_clear_6 (by decide) ?_
  refine qa_putI dX6_clear_7 lf_X6_41 rfl (st_0 k0) (tle_0 k0) rfl ?_
  refine qa_nmM (fun μ2 em2 => ?_)
  have h := h μ2 em2
  have hp2 : qa_PP μ2.2.2 := by rw [em2]; exact hp1
  refine qa_ald0 dX6_clear_10 ?_
  refine qa_iconst (v := 0) dX6_clear_11 (by decide) ?_
  refine qa_putI dX6_clear_12 lf_X6_44 rfl (st_0 k0) (tle_0 k0) rfl ?_
  refine qa_nmM (fun μ3 em3 => ?_)
  have h := h μ3 em3
  have hp3 : qa_PP μ3.2.2 := by rw [em3]; exact hp2
  refine qa_ald0 dX6_clear_15 ?_
  refine qa_iconst (v := 0) dX6_clear_16 (by decide) ?_
  refine qa_putI dX6_clear_17 lf_X6_47 rfl (st_0 k0) (tle_0 k0) rfl ?_
  refine qa_nmM (fun μ4 em4 => ?_)
  have h := h μ4 em4
  have hp4 : qa_PP μ4.2.2 := by rw [em4]; exact hp3
  refine qa_ald0 dX6_clear_20 ?_
  refine qa_iconst (v := 0) dX6_clear_21 (by decide) ?_
  refine qa_putI dX6_clear_22 lf_X6_50 rfl (st_0 k0) (tle_0 k0) rfl ?_
  refine qa_nmM (fun μ5 em5 => ?_)
  have h := h μ5 em5
  have hp5 : qa_PP μ5.2.2 := by rw [em5]; exact hp4
  refine qa_ald0 dX6_clear_25 ?_
  refine qa_iconst (v := 0) dX6_clear_26 (by decide) ?_
  refine qa_putI dX6_clear_27 lf_X6_53 rfl (st_0 k0) (tle_0 k0) rfl ?_
  refine qa_nmM (fun μ6 em6 => ?_)
  have h := h μ6 em6
  have hp6 : qa_PP μ6.2.2 := by rw [em6]; exact hp5
  refine qa_ald0 dX6_clear_30 ?_
  refine qa_iconst (v := 0) dX6_clear_31 (by decide) ?_
  refine qa_putI dX6_clear_32 lf_X6_56 rfl (st_0 k0) (tle_0 k0) rfl ?_
  refine qa_nmM (fun μ7 em7 => ?_)
  have h := h μ7 em7
  have hp7 : qa_PP μ7.2.2 := by rw [em7]; exact hp6
  refine qa_ald0 dX6_clear_35 ?_
  refine qa_iconst (v := 0) dX6_clear_36 (by decide) ?_
  refine qa_putI dX6_clear_37 lf_X6_59 rfl (st_0 k0) (tle_0 k0) rfl ?_
  refine qa_nmM (fun μ8 em8 => ?_)
  have h := h μ8 em8
  have hp8 : qa_PP μ8.2.2 := by rw [em8]; exact hp7
  refine qa_ald0 dX6_clear_40 ?_
  refine qa_iconst (v := 0) dX6_clear_41 (by decide) ?_
  refine qa_putI dX6_clear_42 lf_X6_62 rfl (st_0 k0) (tle_0 k0) rfl ?_
  refine qa_nmM (fun μ9 em9 => ?_)
  have h := h μ9 em9
  have hp9 : qa_PP μ9.2.2 := by rw [em9]; exact hp8
  refine qa_ald0 dX6_clear_45 ?_
  refine qa_iconst (v := 0) dX6_clear_46 (by decide) ?_
  refine qa_putI dX6_clear_47 lf_X6_65 rfl (st_0 k0) (tle_0 k0) rfl ?_
  refine qa_nmM (fun μ10 em10 => ?_)
  have h := h μ10 em10
  have hp10 : qa_PP μ10.2.2 := by rw [em10]; exact hp9
  refine qa_ald0 dX6_clear_50 ?_
  refine qa_iconst (v := 0) dX6_clear_51 (by decide) ?_
  refine qa_putI dX6_clear_52 lf_X6_68 rfl (st_0 k0) (tle_0 k0) rfl ?_
  refine qa_nmM (fun μ11 em11 => ?_)
  have h := h μ11 em11
  have hp11 : qa_PP μ11.2.2 := by rw [em11]; exact hp10
  refine qa_ald0 dX6_clear_55 ?_
  refine qa_getR dX6_clear_56 lf_X6_15 rfl (st_0 k0) (tle_0 k0) (pt_12 hp11 k0) (Nat.succ_pos _) ?_
  refine qa_iconst (v := 0) dX6_clear_59 (by decide) ?_
  refine qa_S2V dX6_clear_60 lm_X6_71  (by decide) (Nat.le_of_ble_eq_true rfl) (tJ7_fill_53178 l hp11 (st_2 k0) (tle_2 k0) h) (fun μ12 hp12 h => ?_)
  refine qa_ald0 dX6_clear_63 ?_
  refine qa_getR dX6_clear_64 lf_X6_18 rfl (st_0 k0) (tle_0 k0) (pt_13 hp12 k0) (Nat.succ_pos _) ?_
  refine qa_iconst (v := 0) dX6_clear_67 (by decide) ?_
  refine qa_S2V dX6_clear_68 lm_X6_71  (by decide) (Nat.le_of_ble_eq_true rfl) (tJ7_fill_53178 l hp12 (st_3 k0) (tle_3 k0) h) (fun μ13 hp13 h => ?_)
  refine qa_ald0 dX6_clear_71 ?_
  refine qa_getR dX6_clear_72 lf_X6_33 rfl (st_0 k0) (tle_0 k0) (pt_17 hp13 k0) (Nat.succ_pos _) ?_
  refine qa_iconst (v := 0) dX6_clear_75 (by decide) ?_
  refine qa_V1V dX6_clear_76 lm_X6_77 (st_7 k0) rfl (tle_7 k0) (by decide) (Nat.le_of_ble_eq_true rfl) (tX0_keepFirst l hp13 k0 h) (fun μ14 hp14 h => ?_)
  exact qa_vret rfl dX6_clear_79 ⟨rfl, rfl⟩ ⟨rfl, hp14, rfl, h⟩
def wX2_step_47 (n : Nat)  (μ0 : qa_M) (K0 : qa_M → Prop) (Q : qa_M → Prop) : Prop := ∀ μ4, μ4 = qa_uI μ0 2 4 ((μ0.1 2 4) + (1 : Int32)) → K0  μ4
def wX2_step_8 : Nat → qa_M → (qa_M → Prop) → (qa_M → Prop) → Prop
  | 0, _, _, _ => False
  | n + 1, μ0, K0, Q => (((μ0.1 2 1) ≤ (μ0.1 2 4) → K0  μ0) ∧ (¬ (μ0.1 2 1) ≤ (μ0.1 2 4) → vp_in (μ0.1 2 4) 800 ∧ (((μ0.1 15 (μ0.1 2 4).toNatClampNeg) = (32 : Int32) → wX2_step_47 n  μ0 (fun  μk => wX2_step_8 n  μk K0 Q) Q) ∧ (¬ (μ0.1 15 (μ0.1 2 4).toNatClampNeg) = (32 : Int32) → vp_in (μ0.1 2 4) 800 ∧ ((¬ (μ0.1 15 (μ0.1 2 4).toNatClampNeg) = (10 : Int32) → K0  μ0) ∧ ((μ0.1 15 (μ0.1 2 4).toNatClampNeg) = (10 : Int32) → wX2_step_47 n  μ0 (fun  μk => wX2_step_8 n  μk K0 Q) Q))))))
def wX2_step_120 (n : Nat)  (μ0 : qa_M)  (Q : qa_M → Prop) : Prop := ∀ μ13, μ13 = qa_uI μ0 2 5 ((μ0.1 2 5) + (1 : Int32)) → Q μ13
def wX2_step_198 (n : Nat)  (μ0 : qa_M) (K0 : qa_M → Prop) (Q : qa_M → Prop) : Prop := ∀ μ19, μ19 = qa_uI μ0 2 5 ((μ0.1 2 5) + (1 : Int32)) → K0  μ19
def wX2_step_131 : Nat → qa_M → (qa_M → Prop) → Prop
  | 0, _, _ => False
  | n + 1, μ0, Q => (((μ0.1 2 1) ≤ (μ0.1 2 5) → Q μ0) ∧ (¬ (μ0.1 2 1) ≤ (μ0.1 2 5) → vp_in (μ0.1 2 5) 800 ∧ wX2_kindOf n (μ0.1 15 (μ0.1 2 5).toNatClampNeg) μ0 (fun r16 μ16 => ((¬ r16 = (μ16.1 2 3) → Q μ16) ∧ (r16 = (μ16.1 2 3) → ((¬ (μ16.1 2 3) = (2 : Int32) → wX2_step_198 n  μ16 (fun  μk => wX2_step_131 n  μk Q) Q) ∧ ((μ16.1 2 3) = (2 : Int32) → vp_in (μ16.1 2 5) 800 ∧ wJ9_min_7cf53 n (1000000 : Int32) ((((μ16.1 2 6) * (10 : Int32)) + (μ16.1 15 (μ16.1 2 5).toNatClampNeg)) - (48 : Int32)) μ16 (fun r20 μ20 => ∀ μ21, μ21 = qa_uI μ20 2 6 r20 → wX2_step_198 n  μ21 (fun  μk => wX2_step_131 n  μk Q) Q))))))))
def wX2_step_101 (n : Nat) (s0 : Int32) (μ0 : qa_M)  (Q : qa_M → Prop) : Prop := ∀ μ11, μ11 = qa_uI μ0 2 3 s0 → (((μ11.1 2 3) = (3 : Int32) → wX2_step_120 n  μ11  Q) ∧ (¬ (μ11.1 2 3) = (3 : Int32) → ((¬ (μ11.1 2 3) = (4 : Int32) → wX2_step_131 n  μ11  Q) ∧ ((μ11.1 2 3) = (4 : Int32) → wX2_step_120 n  μ11  Q))))
def wX2_step (n : Nat)  (μ0 : qa_M) (Q : qa_M → Prop) : Prop := ∀ μ1, μ1 = qa_uI μ0 2 4 (μ0.1 2 5) → wX2_step_8 n  μ1 (fun  μ6 => ∀ μ8, μ8 = qa_uI μ6 2 5 (μ6.1 2 4) → ∀ μ9, μ9 = qa_uI μ8 2 6 (0 : Int32) → (((μ9.1 2 1) ≤ (μ9.1 2 4) → wX2_step_101 n (0 : Int32) μ9  Q) ∧ (¬ (μ9.1 2 1) ≤ (μ9.1 2 4) → vp_in (μ9.1 2 4) 800 ∧ wX2_kindOf n (μ9.1 15 (μ9.1 2 4).toNatClampNeg) μ9 (fun r22 μ22 => wX2_step_101 n r22 μ22  Q)))) Q
theorem tX2_step_47 (l : Launch) {K0 : qa_M → Prop} {Q : qa_M → Prop} (hK0 : ∀  (μ : qa_M), qa_PP μ.2.2 → K0  μ → qa_G l yX2_step cX2_step 1 none 1 0 0 (qa_pV Q) 0 0 8 [some (.ref 2)] [] 113 μ) : ∀ (n : Nat)  (μ0 : qa_M), qa_PP μ0.2.2 → wX2_step_47 n  μ0 K0 Q → qa_G l yX2_step cX2_step 1 none 1 0 0 (qa_pV Q) 0 0 47 [some (.ref 2)] [] 113 μ0 := by
  intro n
  intro  μ0 hp0  h
  unfold wX2_step_47 at h
  refine qa_ald0 dX2_step_47 ?_
  refine qa_dup dX2_step_48 rfl ?_
  refine qa_getI dX2_step_49 lf_X2_169 (Or.inl rfl) sh_2 (by decide) ?_
  refine qa_iconst (v := 1) dX2_step_52 (by decide) ?_
  refine qa_iadd dX2_step_53 ?_
  refine qa_putI dX2_step_54 lf_X2_169 rfl sh_2 (by decide) rfl ?_
  refine qa_nmM (fun μ4 em4 => ?_)
  have h := h μ4 em4
  have hp4 : qa_PP μ4.2.2 := by rw [em4]; exact hp0
  refine qa_goto (tgt := 8) dX2_step_57 (by decide) ?_
  refine qa_fgt (L' := [some (.ref 2)]) (⟨rfl, trivial⟩) ?_
  exact hK0  μ4 hp4  h
theorem tX2_step_8 (l : Launch) {K0 : qa_M → Prop} {Q : qa_M → Prop} (hK0 : ∀  (μ : qa_M), qa_PP μ.2.2 → K0  μ → qa_G l yX2_step cX2_step 1 none 1 0 0 (qa_pV Q) 0 0 60 [some (.ref 2)] [] 113 μ) : ∀ (n : Nat)  (μ0 : qa_M), qa_PP μ0.2.2 → wX2_step_8 n  μ0 K0 Q → qa_G l yX2_step cX2_step 1 none 1 0 0 (qa_pV Q) 0 0 8 [some (.ref 2)] [] 113 μ0 := by
  intro n
  induction n with
  | zero =>
    intro  μ0 hp0  h
    rw [wX2_step_8] at h
    exact h.elim
  | succ n ih =>
    intro  μ0 hp0  h
    rw [wX2_step_8] at h
    refine qa_ald0 dX2_step_8 ?_
    refine qa_getI dX2_step_9 lf_X2_169 (Or.inl rfl) sh_2 (by decide) ?_
    refine qa_ald0 dX2_step_12 ?_
    refine qa_getI dX2_step_13 lf_X2_9 (Or.inl rfl) sh_2 (by decide) ?_
    refine qa_icmp_ge (tgt := 60) dX2_step_16 (by decide) (fun c2 => ?_) (fun c2 => ?_)
    · have h := h.1 c2
      refine qa_fgt (L' := [some (.ref 2)]) (⟨rfl, trivial⟩) ?_
      exact hK0  μ0 hp0  h
    · have h := h.2 c2
      refine qa_ald0 dX2_step_19 ?_
      refine qa_getR dX2_step_20 lf_X2_28 rfl sh_2 (by decide) (pp_2_0 hp0) (by decide) ?_
      refine qa_ald0 dX2_step_23 ?_
      refine qa_getI dX2_step_24 lf_X2_169 (Or.inl rfl) sh_2 (by decide) ?_
      refine qa_bald dX2_step_27 sh_15 (by decide) h.1 ?_
      have h := h.2
      refine qa_bipush (v := 32) dX2_step_28 (by decide) ?_
      refine qa_icmp_eq (tgt := 47) dX2_step_30 (by decide) (fun c3 => ?_) (fun c3 => ?_)
      · have h := h.1 c3
        refine qa_fgt (L' := [some (.ref 2)]) (⟨rfl, trivial⟩) ?_
        refine tX2_step_47 l ih n  μ0 hp0  h
      · have h := h.2 c3
        refine qa_ald0 dX2_step_33 ?_
        refine qa_getR dX2_step_34 lf_X2_28 rfl sh_2 (by decide) (pp_2_0 hp0) (by decide) ?_
        refine qa_ald0 dX2_step_37 ?_
        refine qa_getI dX2_step_38 lf_X2_169 (Or.inl rfl) sh_2 (by decide) ?_
        refine qa_bald dX2_step_41 sh_15 (by decide) h.1 ?_
        have h := h.2
        refine qa_bipush (v := 10) dX2_step_42 (by decide) ?_
        refine qa_icmp_ne (tgt := 60) dX2_step_44 (by decide) (fun c5 => ?_) (fun c5 => ?_)
        · have h := h.1 c5
          refine qa_fgt (L' := [some (.ref 2)]) (⟨rfl, trivial⟩) ?_
          exact hK0  μ0 hp0  h
        · have h := h.2 c5
          refine qa_fgt (L' := [some (.ref 2)]) (⟨rfl, trivial⟩) ?_
          refine tX2_step_47 l ih n  μ0 hp0  h
theorem tX2_step_120 (l : Launch)  {Q : qa_M → Prop}  : ∀ (n : Nat)  (μ0 : qa_M), qa_PP μ0.2.2 → wX2_step_120 n  μ0  Q → qa_G l yX2_step cX2_step 1 none 1 0 0 (qa_pV Q) 0 0 120 [some (.ref 2)] [] 113 μ0 := by
  intro n
  intro  μ0 hp0  h
  unfold wX2_step_120 at h
  refine qa_ald0 dX2_step_120 ?_
  refine qa_dup dX2_step_121 rfl ?_
  refine qa_getI dX2_step_122 lf_X2_35 (Or.inl rfl) sh_2 (by decide) ?_
  refine qa_iconst (v := 1) dX2_step_125 (by decide) ?_
  refine qa_iadd dX2_step_126 ?_
  refine qa_putI dX2_step_127 lf_X2_35 rfl sh_2 (by decide) rfl ?_
  refine qa_nmM (fun μ13 em13 => ?_)
  have h := h μ13 em13
  have hp13 : qa_PP μ13.2.2 := by rw [em13]; exact hp0
  exact qa_vret rfl dX2_step_130 ⟨rfl, rfl⟩ ⟨rfl, hp13, rfl, h⟩
theorem tX2_step_198 (l : Launch) {K0 : qa_M → Prop} {Q : qa_M → Prop} (hK0 : ∀  (μ : qa_M), qa_PP μ.2.2 → K0  μ → qa_G l yX2_step cX2_step 1 none 1 0 0 (qa_pV Q) 0 0 131 [some (.ref 2)] [] 113 μ) : ∀ (n : Nat)  (μ0 : qa_M), qa_PP μ0.2.2 → wX2_step_198 n  μ0 K0 Q → qa_G l yX2_step cX2_step 1 none 1 0 0 (qa_pV Q) 0 0 198 [some (.ref 2)] [] 113 μ0 := by
  intro n
  intro  μ0 hp0  h
  unfold wX2_step_198 at h
  refine qa_ald0 dX2_step_198 ?_
  refine qa_dup dX2_step_199 rfl ?_
  refine qa_getI dX2_step_200 lf_X2_35 (Or.inl rfl) sh_2 (by decide) ?_
  refine qa_iconst (v := 1) dX2_step_203 (by decide) ?_
  refine qa_iadd dX2_step_204 ?_
  refine qa_putI dX2_step_205 lf_X2_35 rfl sh_2 (by decide) rfl ?_
  refine qa_nmM (fun μ19 em19 => ?_)
  have h := h μ19 em19
  have hp19 : qa_PP μ19.2.2 := by rw [em19]; exact hp0
  refine qa_goto (tgt := 131) dX2_step_208 (by decide) ?_
  refine qa_fgt (L' := [some (.ref 2)]) (⟨rfl, trivial⟩) ?_
  exact hK0  μ19 hp19  h
theorem tX2_step_131 (l : Launch)  {Q : qa_M → Prop}  : ∀ (n : Nat)  (μ0 : qa_M), qa_PP μ0.2.2 → wX2_step_131 n  μ0  Q → qa_G l yX2_step cX2_step 1 none 1 0 0 (qa_pV Q) 0 0 131 [some (.ref 2)] [] 113 μ0 := by
  intro n
  induction n with
  | zero =>
    intro  μ0 hp0  h
    rw [wX2_step_131] at h
    exact h.elim
  | succ n ih =>
    intro  μ0 hp0  h
    rw [wX2_step_131] at h
    refine qa_ald0 dX2_step_131 ?_
    refine qa_getI dX2_step_132 lf_X2_35 (Or.inl rfl) sh_2 (by decide) ?_
    refine qa_ald0 dX2_step_135 ?_
    refine qa_getI dX2_step_136 lf_X2_9 (Or.inl rfl) sh_2 (by decide) ?_
    refine qa_icmp_ge (tgt := 211) dX2_step_139 (by decide) (fun c15 => ?_) (fun c15 => ?_)
    · have h := h.1 c15
      exact qa_vret rfl dX2_step_211 ⟨rfl, rfl⟩ ⟨rfl, hp0, rfl, h⟩
    · have h := h.2 c15
      refine qa_ald0 dX2_step_142 ?_
      refine qa_getR dX2_step_143 lf_X2_28 rfl sh_2 (by decide) (pp_2_0 hp0) (by decide) ?_
      refine qa_ald0 dX2_step_146 ?_
      refine qa_getI dX2_step_147 lf_X2_35 (Or.inl rfl) sh_2 (by decide) ?_
      refine qa_bald dX2_step_150 sh_15 (by decide) h.1 ?_
      have h := h.2
      refine qa_S1I dX2_step_151 lm_X2_182  (by decide) (Nat.le_of_ble_eq_true rfl) (tX2_kindOf l hp0  h) (fun r16 μ16 hp16 h => ?_)
      refine qa_ald0 dX2_step_154 ?_
      refine qa_getI dX2_step_155 lf_X2_41 (Or.inl rfl) sh_2 (by decide) ?_
      refine qa_icmp_ne (tgt := 211) dX2_step_158 (by decide) (fun c17 => ?_) (fun c17 => ?_)
      · have h := h.1 c17
        exact qa_vret rfl dX2_step_211 ⟨rfl, rfl⟩ ⟨rfl, hp16, rfl, h⟩
      · have h := h.2 c17
        refine qa_ald0 dX2_step_161 ?_
        refine qa_getI dX2_step_162 lf_X2_41 (Or.inl rfl) sh_2 (by decide) ?_
        refine qa_iconst (v := 2) dX2_step_165 (by decide) ?_
        refine qa_icmp_ne (tgt := 198) dX2_step_166 (by decide) (fun c18 => ?_) (fun c18 => ?_)
        · have h := h.1 c18
          refine qa_fgt (L' := [some (.ref 2)]) (⟨rfl, trivial⟩) ?_
          refine tX2_step_198 l ih n  μ16 hp16  h
        · have h := h.2 c18
          refine qa_ald0 dX2_step_169 ?_
          refine qa_ldc dX2_step_170 lk_X2_186 ?_
          refine qa_ald0 dX2_step_172 ?_
          refine qa_getI dX2_step_173 lf_X2_166 (Or.inl rfl) sh_2 (by decide) ?_
          refine qa_bipush (v := 10) dX2_step_176 (by decide) ?_
          refine qa_imul dX2_step_178 ?_
          refine qa_ald0 dX2_step_179 ?_
          refine qa_getR dX2_step_180 lf_X2_28 rfl sh_2 (by decide) (pp_2_0 hp16) (by decide) ?_
          refine qa_ald0 dX2_step_183 ?_
          refine qa_getI dX2_step_184 lf_X2_35 (Or.inl rfl) sh_2 (by decide) ?_
          refine qa_bald dX2_step_187 sh_15 (by decide) h.1 ?_
          have h := h.2
          refine qa_iadd dX2_step_188 ?_
          refine qa_bipush (v := 48) dX2_step_189 (by decide) ?_
          refine qa_isub dX2_step_191 ?_
          refine qa_S2I dX2_step_192 lm_X2_187  (by decide) (Nat.le_of_ble_eq_true rfl) (tJ9_min_7cf53 l hp16  h) (fun r20 μ20 hp20 h => ?_)
          refine qa_putI dX2_step_195 lf_X2_166 rfl sh_2 (by decide) rfl ?_
          refine qa_nmM (fun μ21 em21 => ?_)
          have h := h μ21 em21
          have hp21 : qa_PP μ21.2.2 := by rw [em21]; exact hp20
          refine qa_fgt (L' := [some (.ref 2)]) (⟨rfl, trivial⟩) ?_
          refine tX2_step_198 l ih n  μ21 hp21  h
theorem tX2_step_101 (l : Launch)  {Q : qa_M → Prop}  : ∀ (n : Nat) (s0 : Int32) (μ0 : qa_M), qa_PP μ0.2.2 → wX2_step_101 n s0 μ0  Q → qa_G l yX2_step cX2_step 1 none 1 0 0 (qa_pV Q) 0 0 101 [some (.ref 2)] [.int s0, .ref 2] 113 μ0 := by
  intro n
  intro s0 μ0 hp0  h
  unfold wX2_step_101 at h
  refine qa_putI dX2_step_101 lf_X2_41 rfl sh_2 (by decide) rfl ?_
  refine qa_nmM (fun μ11 em11 => ?_)
  have h := h μ11 em11
  have hp11 : qa_PP μ11.2.2 := by rw [em11]; exact hp0
  refine qa_ald0 dX2_step_104 ?_
  refine qa_getI dX2_step_105 lf_X2_41 (Or.inl rfl) sh_2 (by decide) ?_
  refine qa_iconst (v := 3) dX2_step_108 (by decide) ?_
  refine qa_icmp_eq (tgt := 120) dX2_step_109 (by decide) (fun c12 => ?_) (fun c12 => ?_)
  · have h := h.1 c12
    refine qa_fgt (L' := [some (.ref 2)]) (⟨rfl, trivial⟩) ?_
    refine tX2_step_120 l  n  μ11 hp11  h
  · have h := h.2 c12
    refine qa_ald0 dX2_step_112 ?_
    refine qa_getI dX2_step_113 lf_X2_41 (Or.inl rfl) sh_2 (by decide) ?_
    refine qa_iconst (v := 4) dX2_step_116 (by decide) ?_
    refine qa_icmp_ne (tgt := 131) dX2_step_117 (by decide) (fun c14 => ?_) (fun c14 => ?_)
    · have h := h.1 c14
      refine qa_fgt (L' := [some (.ref 2)]) (⟨rfl, trivial⟩) ?_
      refine tX2_step_131 l  n  μ11 hp11  h
    · have h := h.2 c14
      refine qa_fgt (L' := [some (.ref 2)]) (⟨rfl, trivial⟩) ?_
      refine tX2_step_120 l  n  μ11 hp11  h
theorem tX2_step (l : Launch) {n : Nat}  {μ0 : qa_M} {Q : qa_M → Prop} (hp0 : qa_PP μ0.2.2)  (h : wX2_step n  μ0 Q) : qa_Met l yX2_step cX2_step 1 none 1 0 0 [.ref 2] 113 μ0 (qa_pV Q) := by
  refine qa_ofG (by decide) (Nat.le_of_ble_eq_true rfl) ?_
  unfold wX2_step at h
  change qa_G l yX2_step cX2_step 1 none 1 0 0 (qa_pV Q) 0 0 0 [some (.ref 2)] [] 113 μ0
  refine qa_ald0 dX2_step_0 ?_
  refine qa_ald0 dX2_step_1 ?_
  refine qa_getI dX2_step_2 lf_X2_35 (Or.inl rfl) sh_2 (by decide) ?_
  refine qa_putI dX2_step_5 lf_X2_169 rfl sh_2 (by decide) rfl ?_
  refine qa_nmM (fun μ1 em1 => ?_)
  have h := h μ1 em1
  have hp1 : qa_PP μ1.2.2 := by rw [em1]; exact hp0
  refine qa_fgt (L' := [some (.ref 2)]) (⟨rfl, trivial⟩) ?_
  refine tX2_step_8 l ?_ n  μ1 hp1  h
  · intro  μ6 hp6  h
    refine qa_ald0 dX2_step_60 ?_
    refine qa_ald0 dX2_step_61 ?_
    refine qa_getI dX2_step_62 lf_X2_169 (Or.inl rfl) sh_2 (by decide) ?_
    refine qa_putI dX2_step_65 lf_X2_35 rfl sh_2 (by decide) rfl ?_
    refine qa_nmM (fun μ8 em8 => ?_)
    have h := h μ8 em8
    have hp8 : qa_PP μ8.2.2 := by rw [em8]; exact hp6
    refine qa_ald0 dX2_step_68 ?_
    refine qa_iconst (v := 0) dX2_step_69 (by decide) ?_
    refine qa_putI dX2_step_70 lf_X2_166 rfl sh_2 (by decide) rfl ?_
    refine qa_nmM (fun μ9 em9 => ?_)
    have h := h μ9 em9
    have hp9 : qa_PP μ9.2.2 := by rw [em9]; exact hp8
    refine qa_ald0 dX2_step_73 ?_
    refine qa_ald0 dX2_step_74 ?_
    refine qa_getI dX2_step_75 lf_X2_169 (Or.inl rfl) sh_2 (by decide) ?_
    refine qa_ald0 dX2_step_78 ?_
    refine qa_getI dX2_step_79 lf_X2_9 (Or.inl rfl) sh_2 (by decide) ?_
    refine qa_icmp_ge (tgt := 100) dX2_step_82 (by decide) (fun c10 => ?_) (fun c10 => ?_)
    · have h := h.1 c10
      refine qa_iconst (v := 0) dX2_step_100 (by decide) ?_
      refine qa_fgt (L' := [some (.ref 2)]) (⟨rfl, trivial⟩) ?_
      refine tX2_step_101 l  n (0 : Int32) μ9 hp9  h
    · have h := h.2 c10
      refine qa_ald0 dX2_step_85 ?_
      refine qa_getR dX2_step_86 lf_X2_28 rfl sh_2 (by decide) (pp_2_0 hp9) (by decide) ?_
      refine qa_ald0 dX2_step_89 ?_
      refine qa_getI dX2_step_90 lf_X2_169 (Or.inl rfl) sh_2 (by decide) ?_
      refine qa_bald dX2_step_93 sh_15 (by decide) h.1 ?_
      have h := h.2
      refine qa_S1I dX2_step_94 lm_X2_182  (by decide) (Nat.le_of_ble_eq_true rfl) (tX2_kindOf l hp9  h) (fun r22 μ22 hp22 h => ?_)
      refine qa_goto (tgt := 101) dX2_step_97 (by decide) ?_
      refine qa_fgt (L' := [some (.ref 2)]) (⟨rfl, trivial⟩) ?_
      refine tX2_step_101 l  n r22 μ22 hp22  h
def wX2_takeWord (n : Nat) (v1 : Nat) (μ0 : qa_M) (Q : qa_M → Prop) : Prop := (((μ0.1 2 7) = 0 → wX2_isWord n v1 μ0 (fun r2 μ2 => ((r2 = 0 → wX2_fail n (1 : Int32) μ2 (fun μ4 => Q μ4)) ∧ (¬ r2 = 0 → wX2_step n  μ2 (fun μ5 => Q μ5))))) ∧ (¬ (μ0.1 2 7) = 0 → Q μ0))
theorem tX2_takeWord (l : Launch) {n : Nat} {v1 : Nat} {μ0 : qa_M} {Q : qa_M → Prop} (hp0 : qa_PP μ0.2.2) (k1 : v1 < 30) (h : wX2_takeWord n v1 μ0 Q) : qa_Met l yX2_takeWord cX2_takeWord 2 none 6 0 0 [.ref 2, .ref (2000 + v1)] 113 μ0 (qa_pV Q) := by
  refine qa_ofG (by decide) (Nat.le_of_ble_eq_true rfl) ?_
  unfold wX2_takeWord at h
  change qa_G l yX2_takeWord cX2_takeWord 2 none 6 0 0 (qa_pV Q) 0 0 0 [some (.ref 2), some (.ref (2000 + v1))] [] 113 μ0
  refine qa_ald0 dX2_takeWord_0 ?_
  refine qa_getI dX2_takeWord_1 lf_X2_15 (Or.inl rfl) sh_2 (by decide) ?_
  refine qa_if_eq (tgt := 8) dX2_takeWord_4 (by decide) (fun c1 => ?_) (fun c1 => ?_)
  · have h := h.1 c1
    refine qa_ald0 dX2_takeWord_8 ?_
    refine qa_ald1 dX2_takeWord_9 ?_
    refine qa_V1I dX2_takeWord_10 lm_X2_55 sh_2 rfl (by decide) (by decide) (Nat.le_of_ble_eq_true rfl) (tX2_isWord l hp0 k1 h) (fun r2 μ2 hp2 h => ?_)
    refine qa_if_eq (tgt := 23) dX2_takeWord_13 (by decide) (fun c3 => ?_) (fun c3 => ?_)
    · have h := h.1 c3
      refine qa_ald0 dX2_takeWord_23 ?_
      refine qa_iconst (v := 1) dX2_takeWord_24 (by decide) ?_
      refine qa_V1V dX2_takeWord_25 lm_X2_77 sh_2 rfl (by decide) (by decide) (Nat.le_of_ble_eq_true rfl) (tX2_fail l hp2  h) (fun μ4 hp4 h => ?_)
      exact qa_vret rfl dX2_takeWord_28 ⟨rfl, rfl⟩ ⟨rfl, hp4, rfl, h⟩
    · have h := h.2 c3
      refine qa_ald0 dX2_takeWord_16 ?_
      refine qa_V0V dX2_takeWord_17 lm_X2_38 sh_2 rfl (by decide) (by decide) (Nat.le_of_ble_eq_true rfl) (tX2_step l hp2  h) (fun μ5 hp5 h => ?_)
      refine qa_goto (tgt := 28) dX2_takeWord_20 (by decide) ?_
      exact qa_vret rfl dX2_takeWord_28 ⟨rfl, rfl⟩ ⟨rfl, hp5, rfl, h⟩
  · have h := h.2 c1
    exact qa_vret rfl dX2_takeWord_7 ⟨rfl, rfl⟩ ⟨rfl, hp0, rfl, h⟩
def wX2_takeNumber (n : Nat) (v1 : Int32) (v2 : Int32) (μ0 : qa_M) (Q : Int32 → qa_M → Prop) : Prop := (((μ0.1 2 7) = 0 → (((μ0.1 2 3) = (2 : Int32) → (((μ0.1 2 6) < v1 → wX2_fail n (2 : Int32) μ0 (fun μ4 => Q v1 μ4)) ∧ (¬ (μ0.1 2 6) < v1 → (((μ0.1 2 6) ≤ v2 → ∀ x6, x6 = (μ0.1 2 6) → wX2_step n  μ0 (fun μ7 => Q x6 μ7)) ∧ (¬ (μ0.1 2 6) ≤ v2 → wX2_fail n (2 : Int32) μ0 (fun μ8 => Q v1 μ8)))))) ∧ (¬ (μ0.1 2 3) = (2 : Int32) → wX2_fail n (1 : Int32) μ0 (fun μ9 => Q v1 μ9)))) ∧ (¬ (μ0.1 2 7) = 0 → Q v1 μ0))
theorem tX2_takeNumber (l : Launch) {n : Nat} {v1 : Int32} {v2 : Int32} {μ0 : qa_M} {Q : Int32 → qa_M → Prop} (hp0 : qa_PP μ0.2.2)  (h : wX2_takeNumber n v1 v2 μ0 Q) : qa_Met l yX2_takeNumber cX2_takeNumber 4 (some .int) 2 0 0 [.ref 2, .int v1, .int v2] 113 μ0 (qa_pI Q) := by
  refine qa_ofG (by decide) (Nat.le_of_ble_eq_true rfl) ?_
  unfold wX2_takeNumber at h
  change qa_G l yX2_takeNumber cX2_takeNumber 4 (some .int) 2 0 0 (qa_pI Q) 0 0 0 [some (.ref 2), some (.int v1), some (.int v2), none] [] 113 μ0
  refine qa_ald0 dX2_takeNumber_0 ?_
  refine qa_getI dX2_takeNumber_1 lf_X2_15 (Or.inl rfl) sh_2 (by decide) ?_
  refine qa_if_eq (tgt := 9) dX2_takeNumber_4 (by decide) (fun c1 => ?_) (fun c1 => ?_)
  · have h := h.1 c1
    refine qa_ald0 dX2_takeNumber_9 ?_
    refine qa_getI dX2_takeNumber_10 lf_X2_41 (Or.inl rfl) sh_2 (by decide) ?_
    refine qa_iconst (v := 2) dX2_takeNumber_13 (by decide) ?_
    refine qa_icmp_eq (tgt := 24) dX2_takeNumber_14 (by decide) (fun c2 => ?_) (fun c2 => ?_)
    · have h := h.1 c2
      refine qa_ald0 dX2_takeNumber_24 ?_
      refine qa_getI dX2_takeNumber_25 lf_X2_166 (Or.inl rfl) sh_2 (by decide) ?_
      refine qa_ild1 dX2_takeNumber_28 ?_
      refine qa_icmp_lt (tgt := 40) dX2_takeNumber_29 (by decide) (fun c3 => ?_) (fun c3 => ?_)
      · have h := h.1 c3
        refine qa_ald0 dX2_takeNumber_40 ?_
        refine qa_iconst (v := 2) dX2_takeNumber_41 (by decide) ?_
        refine qa_V1V dX2_takeNumber_42 lm_X2_77 sh_2 rfl (by decide) (by decide) (Nat.le_of_ble_eq_true rfl) (tX2_fail l hp0  h) (fun μ4 hp4 h => ?_)
        refine qa_ild1 dX2_takeNumber_45 ?_
        exact qa_iret rfl dX2_takeNumber_46 ⟨rfl, rfl⟩ ⟨rfl, hp4, _, rfl, h⟩
      · have h := h.2 c3
        refine qa_ald0 dX2_takeNumber_32 ?_
        refine qa_getI dX2_takeNumber_33 lf_X2_166 (Or.inl rfl) sh_2 (by decide) ?_
        refine qa_ild2 dX2_takeNumber_36 ?_
        refine qa_icmp_le (tgt := 47) dX2_takeNumber_37 (by decide) (fun c5 => ?_) (fun c5 => ?_)
        · have h := h.1 c5
          refine qa_ald0 dX2_takeNumber_47 ?_
          refine qa_getI dX2_takeNumber_48 lf_X2_166 (Or.inl rfl) sh_2 (by decide) ?_
          refine qa_nmI (fun x6 e6 => ?_)
          have h := h x6 e6
          refine qa_ist3 dX2_takeNumber_51 ?_
          refine qa_ald0 dX2_takeNumber_52 ?_
          refine qa_V0V dX2_takeNumber_53 lm_X2_38 sh_2 rfl (by decide) (by decide) (Nat.le_of_ble_eq_true rfl) (tX2_step l hp0  h) (fun μ7 hp7 h => ?_)
          refine qa_ild3 dX2_takeNumber_56 ?_
          exact qa_iret rfl dX2_takeNumber_57 ⟨rfl, rfl⟩ ⟨rfl, hp7, _, rfl, h⟩
        · have h := h.2 c5
          refine qa_ald0 dX2_takeNumber_40 ?_
          refine qa_iconst (v := 2) dX2_takeNumber_41 (by decide) ?_
          refine qa_V1V dX2_takeNumber_42 lm_X2_77 sh_2 rfl (by decide) (by decide) (Nat.le_of_ble_eq_true rfl) (tX2_fail l hp0  h) (fun μ8 hp8 h => ?_)
          refine qa_ild1 dX2_takeNumber_45 ?_
          exact qa_iret rfl dX2_takeNumber_46 ⟨rfl, rfl⟩ ⟨rfl, hp8, _, rfl, h⟩
    · have h := h.2 c2
      refine qa_ald0 dX2_takeNumber_17 ?_
      refine qa_iconst (v := 1) dX2_takeNumber_18 (by decide) ?_
      refine qa_V1V dX2_takeNumber_19 lm_X2_77 sh_2 rfl (by decide) (by decide) (Nat.le_of_ble_eq_true rfl) (tX2_fail l hp0  h) (fun μ9 hp9 h => ?_)
      refine qa_ild1 dX2_takeNumber_22 ?_
      exact qa_iret rfl dX2_takeNumber_23 ⟨rfl, rfl⟩ ⟨rfl, hp9, _, rfl, h⟩
  · have h := h.2 c1
    refine qa_ild1 dX2_takeNumber_7 ?_
    exact qa_iret rfl dX2_takeNumber_8 ⟨rfl, rfl⟩ ⟨rfl, hp0, _, rfl, h⟩
def wX2_takeNumberOf (n : Nat) (v1 : Nat) (v2 : Int32) (v3 : Int32) (μ0 : qa_M) (Q : Int32 → qa_M → Prop) : Prop := wX2_takeWord n v1 μ0 (fun μ1 => wX2_takeNumber n v2 v3 μ1 (fun r2 μ2 => Q r2 μ2))
theorem tX2_takeNumberOf (l : Launch) {n : Nat} {v1 : Nat} {v2 : Int32} {v3 : Int32} {μ0 : qa_M} {Q : Int32 → qa_M → Prop} (hp0 : qa_PP μ0.2.2) (k1 : v1 < 30) (h : wX2_takeNumberOf n v1 v2 v3 μ0 Q) : qa_Met l yX2_takeNumberOf cX2_takeNumberOf 4 (some .int) 7 0 0 [.ref 2, .ref (2000 + v1), .int v2, .int v3] 113 μ0 (qa_pI Q) := by
  refine qa_ofG (by decide) (Nat.le_of_ble_eq_true rfl) ?_
  unfold wX2_takeNumberOf at h
  change qa_G l yX2_takeNumberOf cX2_takeNumberOf 4 (some .int) 7 0 0 (qa_pI Q) 0 0 0 [some (.ref 2), some (.ref (2000 + v1)), some (.int v2), some (.int v3)] [] 113 μ0
  refine qa_ald0 dX2_takeNumberOf_0 ?_
  refine qa_ald1 dX2_takeNumberOf_1 ?_
  refine qa_V1V dX2_takeNumberOf_2 lm_X2_86 sh_2 rfl (by decide) (by decide) (Nat.le_of_ble_eq_true rfl) (tX2_takeWord l hp0 k1 h) (fun μ1 hp1 h => ?_)
  refine qa_ald0 dX2_takeNumberOf_5 ?_
  refine qa_ild2 dX2_takeNumberOf_6 ?_
  refine qa_ild3 dX2_takeNumberOf_7 ?_
  refine qa_V2I dX2_takeNumberOf_8 lm_X2_130 sh_2 rfl (by decide) (by decide) (Nat.le_of_ble_eq_true rfl) (tX2_takeNumber l hp1  h) (fun r2 μ2 hp2 h => ?_)
  exact qa_iret rfl dX2_takeNumberOf_11 ⟨rfl, rfl⟩ ⟨rfl, hp2, _, rfl, h⟩
def wX2_readTown (n : Nat)  (μ0 : qa_M) (Q : qa_M → Prop) : Prop := wX2_takeWord n 0 μ0 (fun μ1 => wX2_takeNumberOf n 1 (1 : Int32) (20 : Int32) μ1 (fun r2 μ2 => ∀ μ3, μ3 = qa_uI μ2 (μ1.2.2 2 2) 1 r2 → wX2_takeNumberOf n 2 (0 : Int32) (3 : Int32) μ3 (fun r4 μ4 => ∀ μ5, μ5 = qa_uI μ4 (μ3.2.2 2 2) 2 r4 → wX2_takeNumberOf n 3 (1 : Int32) (30 : Int32) μ5 (fun r6 μ6 => ∀ μ7, μ7 = qa_uI μ6 (μ5.2.2 2 2) 3 r6 → wX2_takeNumberOf n 4 (0 : Int32) (10 : Int32) μ7 (fun r8 μ8 => ∀ μ9, μ9 = qa_uI μ8 (μ7.2.2 2 2) 4 r8 → Q μ9)))))
theorem tX2_readTown (l : Launch) {n : Nat}  {μ0 : qa_M} {Q : qa_M → Prop} (hp0 : qa_PP μ0.2.2)  (h : wX2_readTown n  μ0 Q) : qa_Met l yX2_readTown cX2_readTown 1 none 8 0 0 [.ref 2] 113 μ0 (qa_pV Q) := by
  refine qa_ofG (by decide) (Nat.le_of_ble_eq_true rfl) ?_
  unfold wX2_readTown at h
  change qa_G l yX2_readTown cX2_readTown 1 none 8 0 0 (qa_pV Q) 0 0 0 [some (.ref 2)] [] 113 μ0
  refine qa_ald0 dX2_readTown_0 ?_
  refine qa_ldcS (i := 0) (tx := "town") dX2_readTown_1 (by decide) ?_
  refine qa_V1V dX2_readTown_3 lm_X2_86 sh_2 rfl (by decide) (by decide) (Nat.le_of_ble_eq_true rfl) (tX2_takeWord l hp0 (by decide) h) (fun μ1 hp1 h => ?_)
  refine qa_ald0 dX2_readTown_6 ?_
  refine qa_getR dX2_readTown_7 lf_X2_24 rfl sh_2 (by decide) rfl (qa_tw0 hp1.2.2) ?_
  refine qa_ald0 dX2_readTown_10 ?_
  refine qa_ldcS (i := 1) (tx := "weeks") dX2_readTown_11 (by decide) ?_
  refine qa_iconst (v := 1) dX2_readTown_13 (by decide) ?_
  refine qa_bipush (v := 20) dX2_readTown_14 (by decide) ?_
  refine qa_V3I dX2_readTown_16 lm_X2_92 sh_2 rfl (by decide) (by decide) (Nat.le_of_ble_eq_true rfl) (tX2_takeNumberOf l hp1 (by decide) h) (fun r2 μ2 hp2 h => ?_)
  refine qa_putI dX2_readTown_19 lf_X2_96 rfl (st_0 hp1.2.2) (tle_0 hp1.2.2) rfl ?_
  refine qa_nmM (fun μ3 em3 => ?_)
  have h := h μ3 em3
  have hp3 : qa_PP μ3.2.2 := by rw [em3]; exact hp2
  refine qa_ald0 dX2_readTown_22 ?_
  refine qa_getR dX2_readTown_23 lf_X2_24 rfl sh_2 (by decide) rfl (qa_tw0 hp3.2.2) ?_
  refine qa_ald0 dX2_readTown_26 ?_
  refine qa_ldcS (i := 2) (tx := "law") dX2_readTown_27 (by decide) ?_
  refine qa_iconst (v := 0) dX2_readTown_29 (by decide) ?_
  refine qa_iconst (v := 3) dX2_readTown_30 (by decide) ?_
  refine qa_V3I dX2_readTown_31 lm_X2_92 sh_2 rfl (by decide) (by decide) (Nat.le_of_ble_eq_true rfl) (tX2_takeNumberOf l hp3 (by decide) h) (fun r4 μ4 hp4 h => ?_)
  refine qa_putI dX2_readTown_34 lf_X2_100 rfl (st_0 hp3.2.2) (tle_0 hp3.2.2) rfl ?_
  refine qa_nmM (fun μ5 em5 => ?_)
  have h := h μ5 em5
  have hp5 : qa_PP μ5.2.2 := by rw [em5]; exact hp4
  refine qa_ald0 dX2_readTown_37 ?_
  refine qa_getR dX2_readTown_38 lf_X2_24 rfl sh_2 (by decide) rfl (qa_tw0 hp5.2.2) ?_
  refine qa_ald0 dX2_readTown_41 ?_
  refine qa_ldcS (i := 3) (tx := "heavy") dX2_readTown_42 (by decide) ?_
  refine qa_iconst (v := 1) dX2_readTown_44 (by decide) ?_
  refine qa_bipush (v := 30) dX2_readTown_45 (by decide) ?_
  refine qa_V3I dX2_readTown_47 lm_X2_92 sh_2 rfl (by decide) (by decide) (Nat.le_of_ble_eq_true rfl) (tX2_takeNumberOf l hp5 (by decide) h) (fun r6 μ6 hp6 h => ?_)
  refine qa_putI dX2_readTown_50 lf_X2_104 rfl (st_0 hp5.2.2) (tle_0 hp5.2.2) rfl ?_
  refine qa_nmM (fun μ7 em7 => ?_)
  have h := h μ7 em7
  have hp7 : qa_PP μ7.2.2 := by rw [em7]; exact hp6
  refine qa_ald0 dX2_readTown_53 ?_
  refine qa_getR dX2_readTown_54 lf_X2_24 rfl sh_2 (by decide) rfl (qa_tw0 hp7.2.2) ?_
  refine qa_ald0 dX2_readTown_57 ?_
  refine qa_ldcS (i := 4) (tx := "odds") dX2_readTown_58 (by decide) ?_
  refine qa_iconst (v := 0) dX2_readTown_60 (by decide) ?_
  refine qa_bipush (v := 10) dX2_readTown_61 (by decide) ?_
  refine qa_V3I dX2_readTown_63 lm_X2_92 sh_2 rfl (by decide) (by decide) (Nat.le_of_ble_eq_true rfl) (tX2_takeNumberOf l hp7 (by decide) h) (fun r8 μ8 hp8 h => ?_)
  refine qa_putI dX2_readTown_66 lf_X2_108 rfl (st_0 hp7.2.2) (tle_0 hp7.2.2) rfl ?_
  refine qa_nmM (fun μ9 em9 => ?_)
  have h := h μ9 em9
  have hp9 : qa_PP μ9.2.2 := by rw [em9]; exact hp8
  exact qa_vret rfl dX2_readTown_69 ⟨rfl, rfl⟩ ⟨rfl, hp9, rfl, h⟩
def wX2_startLine (n : Nat) (v1 : Int32) (v2 : Int32) (μ0 : qa_M) (Q : qa_M → Prop) : Prop := ((v1 < v2 → wX2_step n  μ0 (fun μ2 => Q μ2)) ∧ (¬ v1 < v2 → wX2_fail n (3 : Int32) μ0 (fun μ3 => Q μ3)))
theorem tX2_startLine (l : Launch) {n : Nat} {v1 : Int32} {v2 : Int32} {μ0 : qa_M} {Q : qa_M → Prop} (hp0 : qa_PP μ0.2.2)  (h : wX2_startLine n v1 v2 μ0 Q) : qa_Met l yX2_startLine cX2_startLine 3 none 2 0 0 [.ref 2, .int v1, .int v2] 113 μ0 (qa_pV Q) := by
  refine qa_ofG (by decide) (Nat.le_of_ble_eq_true rfl) ?_
  unfold wX2_startLine at h
  change qa_G l yX2_startLine cX2_startLine 3 none 2 0 0 (qa_pV Q) 0 0 0 [some (.ref 2), some (.int v1), some (.int v2)] [] 113 μ0
  refine qa_ild1 dX2_startLine_0 ?_
  refine qa_ild2 dX2_startLine_1 ?_
  refine qa_icmp_lt (tgt := 13) dX2_startLine_2 (by decide) (fun c1 => ?_) (fun c1 => ?_)
  · have h := h.1 c1
    refine qa_ald0 dX2_startLine_13 ?_
    refine qa_V0V dX2_startLine_14 lm_X2_38 sh_2 rfl (by decide) (by decide) (Nat.le_of_ble_eq_true rfl) (tX2_step l hp0  h) (fun μ2 hp2 h => ?_)
    exact qa_vret rfl dX2_startLine_17 ⟨rfl, rfl⟩ ⟨rfl, hp2, rfl, h⟩
  · have h := h.2 c1
    refine qa_ald0 dX2_startLine_5 ?_
    refine qa_iconst (v := 3) dX2_startLine_6 (by decide) ?_
    refine qa_V1V dX2_startLine_7 lm_X2_77 sh_2 rfl (by decide) (by decide) (Nat.le_of_ble_eq_true rfl) (tX2_fail l hp0  h) (fun μ3 hp3 h => ?_)
    refine qa_goto (tgt := 17) dX2_startLine_10 (by decide) ?_
    exact qa_vret rfl dX2_startLine_17 ⟨rfl, rfl⟩ ⟨rfl, hp3, rfl, h⟩
def wX2_readHouse_65 (n : Nat) (v1 : Int32) (μ0 : qa_M)  (Q : qa_M → Prop) : Prop := vp_in (μ0.1 (μ0.2.2 2 2) 5) 8 ∧ ∀ μ6, μ6 = qa_uI μ0 ((μ0.2.2 2 2) + 1) (μ0.1 (μ0.2.2 2 2) 5).toNatClampNeg v1 → ∀ μ7, μ7 = qa_uI μ6 (μ6.2.2 2 2) 5 ((μ6.1 (μ6.2.2 2 2) 5) + (1 : Int32)) → Q μ7
def wX2_readHouse (n : Nat)  (μ0 : qa_M) (Q : qa_M → Prop) : Prop := wX2_startLine n (μ0.1 (μ0.2.2 2 2) 5) (8 : Int32) μ0 (fun μ1 => wX2_takeNumberOf n 6 (0 : Int32) (40 : Int32) μ1 (fun r2 μ2 => (((μ2.1 2 7) = 0 → wX2_isWord n 7 μ2 (fun r4 μ4 => ((r4 = 0 → wX2_readHouse_65 n r2 μ4  Q) ∧ (¬ r4 = 0 → ∀ μ8, μ8 = qa_uI μ4 (μ4.2.2 2 2) 9 ((μ4.1 (μ4.2.2 2 2) 9) ||| ((1 : Int32) <<< ((μ4.1 (μ4.2.2 2 2) 5) &&& 31))) → wX2_step n  μ8 (fun μ9 => wX2_readHouse_65 n r2 μ9  Q))))) ∧ (¬ (μ2.1 2 7) = 0 → Q μ2))))
theorem tX2_readHouse_65 (l : Launch)  {Q : qa_M → Prop}  : ∀ (n : Nat) (v1 : Int32) (μ0 : qa_M), qa_PP μ0.2.2 → wX2_readHouse_65 n v1 μ0  Q → qa_G l yX2_readHouse cX2_readHouse 2 none 8 0 0 (qa_pV Q) 0 0 65 [some (.ref 2), some (.int v1)] [] 113 μ0 := by
  intro n
  intro v1 μ0 hp0  h
  unfold wX2_readHouse_65 at h
  refine qa_ald0 dX2_readHouse_65 ?_
  refine qa_getR dX2_readHouse_66 lf_X2_24 rfl sh_2 (by decide) rfl (qa_tw0 hp0.2.2) ?_
  refine qa_getR dX2_readHouse_69 lf_X2_124 rfl (st_0 hp0.2.2) (tle_0 hp0.2.2) (pt_11 hp0 hp0.2.2) (Nat.succ_pos _) ?_
  refine qa_ald0 dX2_readHouse_72 ?_
  refine qa_getR dX2_readHouse_73 lf_X2_24 rfl sh_2 (by decide) rfl (qa_tw0 hp0.2.2) ?_
  refine qa_getI dX2_readHouse_76 lf_X2_110 (Or.inl rfl) (st_0 hp0.2.2) (tle_0 hp0.2.2) ?_
  refine qa_ild1 dX2_readHouse_79 ?_
  refine qa_iast dX2_readHouse_80 (st_1 hp0.2.2) (tle_1 hp0.2.2) h.1 ?_
  have h := h.2
  refine qa_nmM (fun μ6 em6 => ?_)
  have h := h μ6 em6
  have hp6 : qa_PP μ6.2.2 := by rw [em6]; exact hp0
  refine qa_ald0 dX2_readHouse_81 ?_
  refine qa_getR dX2_readHouse_82 lf_X2_24 rfl sh_2 (by decide) rfl (qa_tw0 hp6.2.2) ?_
  refine qa_dup dX2_readHouse_85 rfl ?_
  refine qa_getI dX2_readHouse_86 lf_X2_110 (Or.inl rfl) (st_0 hp6.2.2) (tle_0 hp6.2.2) ?_
  refine qa_iconst (v := 1) dX2_readHouse_89 (by decide) ?_
  refine qa_iadd dX2_readHouse_90 ?_
  refine qa_putI dX2_readHouse_91 lf_X2_110 rfl (st_0 hp6.2.2) (tle_0 hp6.2.2) rfl ?_
  refine qa_nmM (fun μ7 em7 => ?_)
  have h := h μ7 em7
  have hp7 : qa_PP μ7.2.2 := by rw [em7]; exact hp6
  exact qa_vret rfl dX2_readHouse_94 ⟨rfl, rfl⟩ ⟨rfl, hp7, rfl, h⟩
theorem tX2_readHouse (l : Launch) {n : Nat}  {μ0 : qa_M} {Q : qa_M → Prop} (hp0 : qa_PP μ0.2.2)  (h : wX2_readHouse n  μ0 Q) : qa_Met l yX2_readHouse cX2_readHouse 2 none 8 0 0 [.ref 2] 113 μ0 (qa_pV Q) := by
  refine qa_ofG (by decide) (Nat.le_of_ble_eq_true rfl) ?_
  unfold wX2_readHouse at h
  change qa_G l yX2_readHouse cX2_readHouse 2 none 8 0 0 (qa_pV Q) 0 0 0 [some (.ref 2), none] [] 113 μ0
  refine qa_ald0 dX2_readHouse_0 ?_
  refine qa_ald0 dX2_readHouse_1 ?_
  refine qa_getR dX2_readHouse_2 lf_X2_24 rfl sh_2 (by decide) rfl (qa_tw0 hp0.2.2) ?_
  refine qa_getI dX2_readHouse_5 lf_X2_110 (Or.inl rfl) (st_0 hp0.2.2) (tle_0 hp0.2.2) ?_
  refine qa_bipush (v := 8) dX2_readHouse_8 (by decide) ?_
  refine qa_V2V dX2_readHouse_10 lm_X2_113 sh_2 rfl (by decide) (by decide) (Nat.le_of_ble_eq_true rfl) (tX2_startLine l hp0  h) (fun μ1 hp1 h => ?_)
  refine qa_ald0 dX2_readHouse_13 ?_
  refine qa_ldcS (i := 6) (tx := "push") dX2_readHouse_14 (by decide) ?_
  refine qa_iconst (v := 0) dX2_readHouse_16 (by decide) ?_
  refine qa_bipush (v := 40) dX2_readHouse_17 (by decide) ?_
  refine qa_V3I dX2_readHouse_19 lm_X2_92 sh_2 rfl (by decide) (by decide) (Nat.le_of_ble_eq_true rfl) (tX2_takeNumberOf l hp1 (by decide) h) (fun r2 μ2 hp2 h => ?_)
  refine qa_ist1 dX2_readHouse_22 ?_
  refine qa_ald0 dX2_readHouse_23 ?_
  refine qa_getI dX2_readHouse_24 lf_X2_15 (Or.inl rfl) sh_2 (by decide) ?_
  refine qa_if_eq (tgt := 31) dX2_readHouse_27 (by decide) (fun c3 => ?_) (fun c3 => ?_)
  · have h := h.1 c3
    refine qa_ald0 dX2_readHouse_31 ?_
    refine qa_ldcS (i := 7) (tx := "leans") dX2_readHouse_32 (by decide) ?_
    refine qa_V1I dX2_readHouse_34 lm_X2_55 sh_2 rfl (by decide) (by decide) (Nat.le_of_ble_eq_true rfl) (tX2_isWord l hp2 (by decide) h) (fun r4 μ4 hp4 h => ?_)
    refine qa_if_eq (tgt := 65) dX2_readHouse_37 (by decide) (fun c5 => ?_) (fun c5 => ?_)
    · have h := h.1 c5
      refine qa_fgt (L' := [some (.ref 2), some (.int r2)]) (⟨rfl, ⟨rfl, trivial⟩⟩) ?_
      refine tX2_readHouse_65 l  n r2 μ4 hp4  h
    · have h := h.2 c5
      refine qa_ald0 dX2_readHouse_40 ?_
      refine qa_getR dX2_readHouse_41 lf_X2_24 rfl sh_2 (by decide) rfl (qa_tw0 hp4.2.2) ?_
      refine qa_dup dX2_readHouse_44 rfl ?_
      refine qa_getI dX2_readHouse_45 lf_X2_121 (Or.inl rfl) (st_0 hp4.2.2) (tle_0 hp4.2.2) ?_
      refine qa_iconst (v := 1) dX2_readHouse_48 (by decide) ?_
      refine qa_ald0 dX2_readHouse_49 ?_
      refine qa_getR dX2_readHouse_50 lf_X2_24 rfl sh_2 (by decide) rfl (qa_tw0 hp4.2.2) ?_
      refine qa_getI dX2_readHouse_53 lf_X2_110 (Or.inl rfl) (st_0 hp4.2.2) (tle_0 hp4.2.2) ?_
      refine qa_ishl dX2_readHouse_56 ?_
      refine qa_ior dX2_readHouse_57 ?_
      refine qa_putI dX2_readHouse_58 lf_X2_121 rfl (st_0 hp4.2.2) (tle_0 hp4.2.2) rfl ?_
      refine qa_nmM (fun μ8 em8 => ?_)
      have h := h μ8 em8
      have hp8 : qa_PP μ8.2.2 := by rw [em8]; exact hp4
      refine qa_ald0 dX2_readHouse_61 ?_
      refine qa_V0V dX2_readHouse_62 lm_X2_38 sh_2 rfl (by decide) (by decide) (Nat.le_of_ble_eq_true rfl) (tX2_step l hp8  h) (fun μ9 hp9 h => ?_)
      refine qa_fgt (L' := [some (.ref 2), some (.int r2)]) (⟨rfl, ⟨rfl, trivial⟩⟩) ?_
      refine tX2_readHouse_65 l  n r2 μ9 hp9  h
  · have h := h.2 c3
    exact qa_vret rfl dX2_readHouse_30 ⟨rfl, rfl⟩ ⟨rfl, hp2, rfl, h⟩
def wX2_readPlace (n : Nat)  (μ0 : qa_M) (Q : qa_M → Prop) : Prop := wX2_startLine n (μ0.1 (μ0.2.2 2 2) 6) (10 : Int32) μ0 (fun μ1 => wX2_takeNumber n (0 : Int32) (7 : Int32) μ1 (fun r2 μ2 => wX2_takeNumberOf n 9 (0 : Int32) (20 : Int32) μ2 (fun r3 μ3 => wX2_takeNumberOf n 10 (0 : Int32) (20 : Int32) μ3 (fun r4 μ4 => ((¬ (μ4.1 2 7) = 0 → Q μ4) ∧ ((μ4.1 2 7) = 0 → vp_in r2 8 ∧ ∀ μ6, μ6 = qa_uI μ4 ((μ4.2.2 2 2) + 2) r2.toNatClampNeg r3 → vp_in r2 8 ∧ ∀ μ7, μ7 = qa_uI μ6 ((μ6.2.2 2 2) + 3) r2.toNatClampNeg r4 → ∀ μ8, μ8 = qa_uI μ7 (μ7.2.2 2 2) 6 ((μ7.1 (μ7.2.2 2 2) 6) + (1 : Int32)) → Q μ8))))))
theorem tX2_readPlace (l : Launch) {n : Nat}  {μ0 : qa_M} {Q : qa_M → Prop} (hp0 : qa_PP μ0.2.2)  (h : wX2_readPlace n  μ0 Q) : qa_Met l yX2_readPlace cX2_readPlace 4 none 8 0 0 [.ref 2] 113 μ0 (qa_pV Q) := by
  refine qa_ofG (by decide) (Nat.le_of_ble_eq_true rfl) ?_
  unfold wX2_readPlace at h
  change qa_G l yX2_readPlace cX2_readPlace 4 none 8 0 0 (qa_pV Q) 0 0 0 [some (.ref 2), none, none, none] [] 113 μ0
  refine qa_ald0 dX2_readPlace_0 ?_
  refine qa_ald0 dX2_readPlace_1 ?_
  refine qa_getR dX2_readPlace_2 lf_X2_24 rfl sh_2 (by decide) rfl (qa_tw0 hp0.2.2) ?_
  refine qa_getI dX2_readPlace_5 lf_X2_127 (Or.inl rfl) (st_0 hp0.2.2) (tle_0 hp0.2.2) ?_
  refine qa_bipush (v := 10) dX2_readPlace_8 (by decide) ?_
  refine qa_V2V dX2_readPlace_10 lm_X2_113 sh_2 rfl (by decide) (by decide) (Nat.le_of_ble_eq_true rfl) (tX2_startLine l hp0  h) (fun μ1 hp1 h => ?_)
  refine qa_ald0 dX2_readPlace_13 ?_
  refine qa_iconst (v := 0) dX2_readPlace_14 (by decide) ?_
  refine qa_bipush (v := 7) dX2_readPlace_15 (by decide) ?_
  refine qa_V2I dX2_readPlace_17 lm_X2_130 sh_2 rfl (by decide) (by decide) (Nat.le_of_ble_eq_true rfl) (tX2_takeNumber l hp1  h) (fun r2 μ2 hp2 h => ?_)
  refine qa_ist1 dX2_readPlace_20 ?_
  refine qa_ald0 dX2_readPlace_21 ?_
  refine qa_ldcS (i := 9) (tx := "sun") dX2_readPlace_22 (by decide) ?_
  refine qa_iconst (v := 0) dX2_readPlace_24 (by decide) ?_
  refine qa_bipush (v := 20) dX2_readPlace_25 (by decide) ?_
  refine qa_V3I dX2_readPlace_27 lm_X2_92 sh_2 rfl (by decide) (by decide) (Nat.le_of_ble_eq_true rfl) (tX2_takeNumberOf l hp2 (by decide) h) (fun r3 μ3 hp3 h => ?_)
  refine qa_ist2 dX2_readPlace_30 ?_
  refine qa_ald0 dX2_readPlace_31 ?_
  refine qa_ldcS (i := 10) (tx := "smell") dX2_readPlace_32 (by decide) ?_
  refine qa_iconst (v := 0) dX2_readPlace_34 (by decide) ?_
  refine qa_bipush (v := 20) dX2_readPlace_35 (by decide) ?_
  refine qa_V3I dX2_readPlace_37 lm_X2_92 sh_2 rfl (by decide) (by decide) (Nat.le_of_ble_eq_true rfl) (tX2_takeNumberOf l hp3 (by decide) h) (fun r4 μ4 hp4 h => ?_)
  refine qa_ist3 dX2_readPlace_40 ?_
  refine qa_ald0 dX2_readPlace_41 ?_
  refine qa_getI dX2_readPlace_42 lf_X2_15 (Or.inl rfl) sh_2 (by decide) ?_
  refine qa_if_ne (tgt := 81) dX2_readPlace_45 (by decide) (fun c5 => ?_) (fun c5 => ?_)
  · have h := h.1 c5
    exact qa_vret rfl dX2_readPlace_81 ⟨rfl, rfl⟩ ⟨rfl, hp4, rfl, h⟩
  · have h := h.2 c5
    refine qa_ald0 dX2_readPlace_48 ?_
    refine qa_getR dX2_readPlace_49 lf_X2_24 rfl sh_2 (by decide) rfl (qa_tw0 hp4.2.2) ?_
    refine qa_getR dX2_readPlace_52 lf_X2_138 rfl (st_0 hp4.2.2) (tle_0 hp4.2.2) (pt_12 hp4 hp4.2.2) (Nat.succ_pos _) ?_
    refine qa_ild1 dX2_readPlace_55 ?_
    refine qa_ild2 dX2_readPlace_56 ?_
    refine qa_iast dX2_readPlace_57 (st_2 hp4.2.2) (tle_2 hp4.2.2) h.1 ?_
    have h := h.2
    refine qa_nmM (fun μ6 em6 => ?_)
    have h := h μ6 em6
    have hp6 : qa_PP μ6.2.2 := by rw [em6]; exact hp4
    refine qa_ald0 dX2_readPlace_58 ?_
    refine qa_getR dX2_readPlace_59 lf_X2_24 rfl sh_2 (by decide) rfl (qa_tw0 hp6.2.2) ?_
    refine qa_getR dX2_readPlace_62 lf_X2_141 rfl (st_0 hp6.2.2) (tle_0 hp6.2.2) (pt_13 hp6 hp6.2.2) (Nat.succ_pos _) ?_
    refine qa_ild1 dX2_readPlace_65 ?_
    refine qa_ild3 dX2_readPlace_66 ?_
    refine qa_iast dX2_readPlace_67 (st_3 hp6.2.2) (tle_3 hp6.2.2) h.1 ?_
    have h := h.2
    refine qa_nmM (fun μ7 em7 => ?_)
    have h := h μ7 em7
    have hp7 : qa_PP μ7.2.2 := by rw [em7]; exact hp6
    refine qa_ald0 dX2_readPlace_68 ?_
    refine qa_getR dX2_readPlace_69 lf_X2_24 rfl sh_2 (by decide) rfl (qa_tw0 hp7.2.2) ?_
    refine qa_dup dX2_readPlace_72 rfl ?_
    refine qa_getI dX2_readPlace_73 lf_X2_127 (Or.inl rfl) (st_0 hp7.2.2) (tle_0 hp7.2.2) ?_
    refine qa_iconst (v := 1) dX2_readPlace_76 (by decide) ?_
    refine qa_iadd dX2_readPlace_77 ?_
    refine qa_putI dX2_readPlace_78 lf_X2_127 rfl (st_0 hp7.2.2) (tle_0 hp7.2.2) rfl ?_
    refine qa_nmM (fun μ8 em8 => ?_)
    have h := h μ8 em8
    have hp8 : qa_PP μ8.2.2 := by rw [em8]; exact hp7
    exact qa_vret rfl dX2_readPlace_81 ⟨rfl, rfl⟩ ⟨rfl, hp8, rfl, h⟩
def wX2_readSnow (n : Nat)  (μ0 : qa_M) (Q : qa_M → Prop) : Prop := wX2_startLine n (μ0.1 (μ0.2.2 2 2) 7) (4 : Int32) μ0 (fun μ1 => wX2_takeNumberOf n 12 (0 : Int32) (19 : Int32) μ1 (fun r2 μ2 => ((¬ (μ2.1 2 7) = 0 → Q μ2) ∧ ((μ2.1 2 7) = 0 → ∀ μ4, μ4 = qa_uI μ2 (μ2.2.2 2 2) 10 ((μ2.1 (μ2.2.2 2 2) 10) ||| ((1 : Int32) <<< (r2 &&& 31))) → ∀ μ5, μ5 = qa_uI μ4 (μ4.2.2 2 2) 7 ((μ4.1 (μ4.2.2 2 2) 7) + (1 : Int32)) → Q μ5))))
theorem tX2_readSnow (l : Launch) {n : Nat}  {μ0 : qa_M} {Q : qa_M → Prop} (hp0 : qa_PP μ0.2.2)  (h : wX2_readSnow n  μ0 Q) : qa_Met l yX2_readSnow cX2_readSnow 2 none 8 0 0 [.ref 2] 113 μ0 (qa_pV Q) := by
  refine qa_ofG (by decide) (Nat.le_of_ble_eq_true rfl) ?_
  unfold wX2_readSnow at h
  change qa_G l yX2_readSnow cX2_readSnow 2 none 8 0 0 (qa_pV Q) 0 0 0 [some (.ref 2), none] [] 113 μ0
  refine qa_ald0 dX2_readSnow_0 ?_
  refine qa_ald0 dX2_readSnow_1 ?_
  refine qa_getR dX2_readSnow_2 lf_X2_24 rfl sh_2 (by decide) rfl (qa_tw0 hp0.2.2) ?_
  refine qa_getI dX2_readSnow_5 lf_X2_144 (Or.inl rfl) (st_0 hp0.2.2) (tle_0 hp0.2.2) ?_
  refine qa_iconst (v := 4) dX2_readSnow_8 (by decide) ?_
  refine qa_V2V dX2_readSnow_9 lm_X2_113 sh_2 rfl (by decide) (by decide) (Nat.le_of_ble_eq_true rfl) (tX2_startLine l hp0  h) (fun μ1 hp1 h => ?_)
  refine qa_ald0 dX2_readSnow_12 ?_
  refine qa_ldcS (i := 12) (tx := "at") dX2_readSnow_13 (by decide) ?_
  refine qa_iconst (v := 0) dX2_readSnow_15 (by decide) ?_
  refine qa_bipush (v := 19) dX2_readSnow_16 (by decide) ?_
  refine qa_V3I dX2_readSnow_18 lm_X2_92 sh_2 rfl (by decide) (by decide) (Nat.le_of_ble_eq_true rfl) (tX2_takeNumberOf l hp1 (by decide) h) (fun r2 μ2 hp2 h => ?_)
  refine qa_ist1 dX2_readSnow_21 ?_
  refine qa_ald0 dX2_readSnow_22 ?_
  refine qa_getI dX2_readSnow_23 lf_X2_15 (Or.inl rfl) sh_2 (by decide) ?_
  refine qa_if_ne (tgt := 57) dX2_readSnow_26 (by decide) (fun c3 => ?_) (fun c3 => ?_)
  · have h := h.1 c3
    exact qa_vret rfl dX2_readSnow_57 ⟨rfl, rfl⟩ ⟨rfl, hp2, rfl, h⟩
  · have h := h.2 c3
    refine qa_ald0 dX2_readSnow_29 ?_
    refine qa_getR dX2_readSnow_30 lf_X2_24 rfl sh_2 (by decide) rfl (qa_tw0 hp2.2.2) ?_
    refine qa_dup dX2_readSnow_33 rfl ?_
    refine qa_getI dX2_readSnow_34 lf_X2_149 (Or.inl rfl) (st_0 hp2.2.2) (tle_0 hp2.2.2) ?_
    refine qa_iconst (v := 1) dX2_readSnow_37 (by decide) ?_
    refine qa_ild1 dX2_readSnow_38 ?_
    refine qa_ishl dX2_readSnow_39 ?_
    refine qa_ior dX2_readSnow_40 ?_
    refine qa_putI dX2_readSnow_41 lf_X2_149 rfl (st_0 hp2.2.2) (tle_0 hp2.2.2) rfl ?_
    refine qa_nmM (fun μ4 em4 => ?_)
    have h := h μ4 em4
    have hp4 : qa_PP μ4.2.2 := by rw [em4]; exact hp2
    refine qa_ald0 dX2_readSnow_44 ?_
    refine qa_getR dX2_readSnow_45 lf_X2_24 rfl sh_2 (by decide) rfl (qa_tw0 hp4.2.2) ?_
    refine qa_dup dX2_readSnow_48 rfl ?_
    refine qa_getI dX2_readSnow_49 lf_X2_144 (Or.inl rfl) (st_0 hp4.2.2) (tle_0 hp4.2.2) ?_
    refine qa_iconst (v := 1) dX2_readSnow_52 (by decide) ?_
    refine qa_iadd dX2_readSnow_53 ?_
    refine qa_putI dX2_readSnow_54 lf_X2_144 rfl (st_0 hp4.2.2) (tle_0 hp4.2.2) rfl ?_
    refine qa_nmM (fun μ5 em5 => ?_)
    have h := h μ5 em5
    have hp5 : qa_PP μ5.2.2 := by rw [em5]; exact hp4
    exact qa_vret rfl dX2_readSnow_57 ⟨rfl, rfl⟩ ⟨rfl, hp5, rfl, h⟩
