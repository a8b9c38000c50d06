def wX9_late_23 : Nat → Int32 → Int32 → qa_M → (Int32 → qa_M → Prop) → Prop
  | 0, _, _, _, _ => False
  | n + 1, v1, v2, μ0, Q => wX9_weeks n  μ0 (fun r5 μ5 => ((r5 < v2 → Q (-1 : Int32) μ5) ∧ (¬ r5 < v2 → wX9_letterOf n v1 (0 : Int32) μ5 (fun r7 μ7 => wX9_placeOf n r7 v2 μ7 (fun r8 μ8 => wX9_letterOf n v1 (1 : Int32) μ8 (fun r9 μ9 => ((¬ r8 = r9 → wX9_late_23 n v1 (v2 + (1 : Int32)) μ9 Q) ∧ (r8 = r9 → Q v2 μ9))))))))
def wX9_late (n : Nat) (v1 : Int32) (μ0 : qa_M) (Q : Int32 → qa_M → Prop) : Prop := wX9_asksTown n  μ0 (fun r1 μ1 => wX9_isLetter n v1 μ1 (fun r2 μ2 => ((¬ r2 = 0 → wX9_letterOf n v1 (2 : Int32) μ2 (fun r4 μ4 => wX9_late_23 n v1 r4 μ4  Q)) ∧ (r2 = 0 → Q (-2 : Int32) μ2))))
theorem tX9_late_23 (l : Launch)  {Q : Int32 → qa_M → Prop}  : ∀ (n : Nat) (v1 : Int32) (v2 : Int32) (μ0 : qa_M), qa_PP μ0.2.2 → wX9_late_23 n v1 v2 μ0  Q → qa_G l yX9_late cX9_late 3 (some .int) 4 0 0 (qa_pI Q) 0 0 23 [some (.ref 91), some (.int v1), some (.int v2)] [] 113 μ0 := by
  intro n
  induction n with
  | zero =>
    intro v1 v2 μ0 hp0  h
    rw [wX9_late_23] at h
    exact h.elim
  | succ n ih =>
    intro v1 v2 μ0 hp0  h
    rw [wX9_late_23] at h
    refine qa_ild2 dX9_late_23 ?_
    refine qa_ald0 dX9_late_24 ?_
    refine qa_V0I dX9_late_25 lm_X9_96 sh_91 rfl (by decide) (by decide) (Nat.le_of_ble_eq_true rfl) (tX9_weeks l hp0  h) (fun r5 μ5 hp5 h => ?_)
    refine qa_icmp_gt (tgt := 59) dX9_late_28 (by decide) (fun c6 => ?_) (fun c6 => ?_)
    · have h := h.1 c6
      refine qa_iconst (v := -1) dX9_late_59 (by decide) ?_
      exact qa_iret rfl dX9_late_60 ⟨rfl, rfl⟩ ⟨rfl, hp5, _, rfl, h⟩
    · have h := h.2 c6
      refine qa_ald0 dX9_late_31 ?_
      refine qa_ald0 dX9_late_32 ?_
      refine qa_ild1 dX9_late_33 ?_
      refine qa_iconst (v := 0) dX9_late_34 (by decide) ?_
      refine qa_V2I dX9_late_35 lm_X9_227 sh_91 rfl (by decide) (by decide) (Nat.le_of_ble_eq_true rfl) (tX9_letterOf l hp5  h) (fun r7 μ7 hp7 h => ?_)
      refine qa_ild2 dX9_late_38 ?_
      refine qa_V2I dX9_late_39 lm_X9_261 sh_91 rfl (by decide) (by decide) (Nat.le_of_ble_eq_true rfl) (tX9_placeOf l hp7  h) (fun r8 μ8 hp8 h => ?_)
      refine qa_ald0 dX9_late_42 ?_
      refine qa_ild1 dX9_late_43 ?_
      refine qa_iconst (v := 1) dX9_late_44 (by decide) ?_
      refine qa_V2I dX9_late_45 lm_X9_227 sh_91 rfl (by decide) (by decide) (Nat.le_of_ble_eq_true rfl) (tX9_letterOf l hp8  h) (fun r9 μ9 hp9 h => ?_)
      refine qa_icmp_ne (tgt := 53) dX9_late_48 (by decide) (fun c10 => ?_) (fun c10 => ?_)
      · have h := h.1 c10
        refine qa_inc2 dX9_late_53 (qa_io1 _) ?_
        refine qa_goto (tgt := 23) dX9_late_56 (by decide) ?_
        refine qa_fgt (L' := [some (.ref 91), some (.int v1), some (.int (v2 + (1 : Int32)))]) (⟨rfl, ⟨rfl, ⟨rfl, trivial⟩⟩⟩) ?_
        exact ih v1 (v2 + (1 : Int32)) μ9 hp9  h
      · have h := h.2 c10
        refine qa_ild2 dX9_late_51 ?_
        exact qa_iret rfl dX9_late_52 ⟨rfl, rfl⟩ ⟨rfl, hp9, _, rfl, h⟩
theorem tX9_late (l : Launch) {n : Nat} {v1 : Int32} {μ0 : qa_M} {Q : Int32 → qa_M → Prop} (hp0 : qa_PP μ0.2.2)  (h : wX9_late n v1 μ0 Q) : qa_Met l yX9_late cX9_late 3 (some .int) 4 0 0 [.ref 91, .int v1] 113 μ0 (qa_pI Q) := by
  refine qa_ofG (by decide) (Nat.le_of_ble_eq_true rfl) ?_
  unfold wX9_late at h
  change qa_G l yX9_late cX9_late 3 (some .int) 4 0 0 (qa_pI Q) 0 0 0 [some (.ref 91), some (.int v1), none] [] 113 μ0
  refine qa_ald0 dX9_late_0 ?_
  refine qa_V0I dX9_late_1 lm_X9_283 sh_91 rfl (by decide) (by decide) (Nat.le_of_ble_eq_true rfl) (tX9_asksTown l hp0  h) (fun r1 μ1 hp1 h => ?_)
  refine qa_pop dX9_late_4 rfl ?_
  refine qa_ald0 dX9_late_5 ?_
  refine qa_ild1 dX9_late_6 ?_
  refine qa_V1I dX9_late_7 lm_X9_224 sh_91 rfl (by decide) (by decide) (Nat.le_of_ble_eq_true rfl) (tX9_isLetter l hp1  h) (fun r2 μ2 hp2 h => ?_)
  refine qa_if_ne (tgt := 16) dX9_late_10 (by decide) (fun c3 => ?_) (fun c3 => ?_)
  · have h := h.1 c3
    refine qa_ald0 dX9_late_16 ?_
    refine qa_ild1 dX9_late_17 ?_
    refine qa_iconst (v := 2) dX9_late_18 (by decide) ?_
    refine qa_V2I dX9_late_19 lm_X9_227 sh_91 rfl (by decide) (by decide) (Nat.le_of_ble_eq_true rfl) (tX9_letterOf l hp2  h) (fun r4 μ4 hp4 h => ?_)
    refine qa_ist2 dX9_late_22 ?_
    refine qa_fgt (L' := [some (.ref 91), some (.int v1), some (.int r4)]) (⟨rfl, ⟨rfl, ⟨rfl, trivial⟩⟩⟩) ?_
    refine tX9_late_23 l  n v1 r4 μ4 hp4  h
  · have h := h.2 c3
    refine qa_bipush (v := -2) dX9_late_13 (by decide) ?_
    exact qa_iret rfl dX9_late_15 ⟨rfl, rfl⟩ ⟨rfl, hp2, _, rfl, h⟩
def wX9_law_37 (n : Nat) (v2 : Int32) (s0 : Int32) (μ0 : qa_M) (K0 : Int32 → Int32 → qa_M → Prop) (Q : Int32 → qa_M → Prop) : Prop := K0 s0 (v2 + (1 : Int32)) μ0
def wX9_law_14 : Nat → Int32 → Int32 → qa_M → (Int32 → qa_M → Prop) → Prop
  | 0, _, _, _, _ => False
  | n + 1, v1, v2, μ0, Q => (((4 : Int32) ≤ v2 → Q v1 μ0) ∧ (¬ (4 : Int32) ≤ v2 → wX9_spanBy n v2 μ0 (fun r4 μ4 => wX9_spanBy n v1 μ4 (fun r5 μ5 => ((r5 ≤ r4 → wX9_law_37 n v2 v1 μ5 (fun v1 v2 μk => wX9_law_14 n v1 v2 μk Q) Q) ∧ (¬ r5 ≤ r4 → wX9_law_37 n v2 v2 μ5 (fun v1 v2 μk => wX9_law_14 n v1 v2 μk Q) Q))))))
def wX9_law (n : Nat)  (μ0 : qa_M) (Q : Int32 → qa_M → Prop) : Prop := wX9_asksTown n  μ0 (fun r1 μ1 => ((¬ r1 = 0 → wX9_law_14 n (0 : Int32) (1 : Int32) μ1  Q) ∧ (r1 = 0 → Q (-2 : Int32) μ1)))
theorem tX9_law_37 (l : Launch) {K0 : Int32 → Int32 → qa_M → Prop} {Q : Int32 → qa_M → Prop} (hK0 : ∀ (v1 : Int32) (v2 : Int32) (μ : qa_M), qa_PP μ.2.2 → K0 v1 v2 μ → qa_G l yX9_law cX9_law 3 (some .int) 6 0 0 (qa_pI Q) 0 0 14 [some (.ref 91), some (.int v1), some (.int v2)] [] 113 μ) : ∀ (n : Nat) (v2 : Int32) (s0 : Int32) (μ0 : qa_M), qa_PP μ0.2.2 → wX9_law_37 n v2 s0 μ0 K0 Q → qa_G l yX9_law cX9_law 3 (some .int) 6 0 0 (qa_pI Q) 0 0 37 [some (.ref 91), none, some (.int v2)] [.int s0] 113 μ0 := by
  intro n
  intro v2 s0 μ0 hp0  h
  unfold wX9_law_37 at h
  refine qa_ist1 dX9_law_37 ?_
  refine qa_inc2 dX9_law_38 (qa_io1 _) ?_
  refine qa_goto (tgt := 14) dX9_law_41 (by decide) ?_
  refine qa_fgt (L' := [some (.ref 91), some (.int s0), some (.int (v2 + (1 : Int32)))]) (⟨rfl, ⟨rfl, ⟨rfl, trivial⟩⟩⟩) ?_
  exact hK0 s0 (v2 + (1 : Int32)) μ0 hp0  h
theorem tX9_law_14 (l : Launch)  {Q : Int32 → qa_M → Prop}  : ∀ (n : Nat) (v1 : Int32) (v2 : Int32) (μ0 : qa_M), qa_PP μ0.2.2 → wX9_law_14 n v1 v2 μ0  Q → qa_G l yX9_law cX9_law 3 (some .int) 6 0 0 (qa_pI Q) 0 0 14 [some (.ref 91), some (.int v1), some (.int v2)] [] 113 μ0 := by
  intro n
  induction n with
  | zero =>
    intro v1 v2 μ0 hp0  h
    rw [wX9_law_14] at h
    exact h.elim
  | succ n ih =>
    intro v1 v2 μ0 hp0  h
    rw [wX9_law_14] at h
    refine qa_ild2 dX9_law_14 ?_
    refine qa_iconst (v := 4) dX9_law_15 (by decide) ?_
    refine qa_icmp_ge (tgt := 44) dX9_law_16 (by decide) (fun c3 => ?_) (fun c3 => ?_)
    · have h := h.1 c3
      refine qa_ild1 dX9_law_44 ?_
      exact qa_iret rfl dX9_law_45 ⟨rfl, rfl⟩ ⟨rfl, hp0, _, rfl, h⟩
    · have h := h.2 c3
      refine qa_ald0 dX9_law_19 ?_
      refine qa_ild2 dX9_law_20 ?_
      refine qa_V1I dX9_law_21 lm_X9_355 sh_91 rfl (by decide) (by decide) (Nat.le_of_ble_eq_true rfl) (tX9_spanBy l hp0  h) (fun r4 μ4 hp4 h => ?_)
      refine qa_ald0 dX9_law_24 ?_
      refine qa_ild1 dX9_law_25 ?_
      refine qa_V1I dX9_law_26 lm_X9_355 sh_91 rfl (by decide) (by decide) (Nat.le_of_ble_eq_true rfl) (tX9_spanBy l hp4  h) (fun r5 μ5 hp5 h => ?_)
      refine qa_icmp_ge (tgt := 36) dX9_law_29 (by decide) (fun c6 => ?_) (fun c6 => ?_)
      · have h := h.1 c6
        refine qa_ild1 dX9_law_36 ?_
        refine qa_fgt (L' := [some (.ref 91), none, some (.int v2)]) (⟨rfl, ⟨rfl, trivial⟩⟩) ?_
        refine tX9_law_37 l ih n v2 v1 μ5 hp5  h
      · have h := h.2 c6
        refine qa_ild2 dX9_law_32 ?_
        refine qa_goto (tgt := 37) dX9_law_33 (by decide) ?_
        refine qa_fgt (L' := [some (.ref 91), none, some (.int v2)]) (⟨rfl, ⟨rfl, trivial⟩⟩) ?_
        refine tX9_law_37 l ih n v2 v2 μ5 hp5  h
theorem tX9_law (l : Launch) {n : Nat}  {μ0 : qa_M} {Q : Int32 → qa_M → Prop} (hp0 : qa_PP μ0.2.2)  (h : wX9_law n  μ0 Q) : qa_Met l yX9_law cX9_law 3 (some .int) 6 0 0 [.ref 91] 113 μ0 (qa_pI Q) := by
  refine qa_ofG (by decide) (Nat.le_of_ble_eq_true rfl) ?_
  unfold wX9_law at h
  change qa_G l yX9_law cX9_law 3 (some .int) 6 0 0 (qa_pI Q) 0 0 0 [some (.ref 91), none, none] [] 113 μ0
  refine qa_ald0 dX9_law_0 ?_
  refine qa_V0I dX9_law_1 lm_X9_283 sh_91 rfl (by decide) (by decide) (Nat.le_of_ble_eq_true rfl) (tX9_asksTown l hp0  h) (fun r1 μ1 hp1 h => ?_)
  refine qa_if_ne (tgt := 10) dX9_law_4 (by decide) (fun c2 => ?_) (fun c2 => ?_)
  · have h := h.1 c2
    refine qa_iconst (v := 0) dX9_law_10 (by decide) ?_
    refine qa_ist1 dX9_law_11 ?_
    refine qa_iconst (v := 1) dX9_law_12 (by decide) ?_
    refine qa_ist2 dX9_law_13 ?_
    refine qa_fgt (L' := [some (.ref 91), some (.int (0 : Int32)), some (.int (1 : Int32))]) (⟨rfl, ⟨rfl, ⟨rfl, trivial⟩⟩⟩) ?_
    refine tX9_law_14 l  n (0 : Int32) (1 : Int32) μ1 hp1  h
  · have h := h.2 c2
    refine qa_bipush (v := -2) dX9_law_7 (by decide) ?_
    exact qa_iret rfl dX9_law_9 ⟨rfl, rfl⟩ ⟨rfl, hp1, _, rfl, h⟩
def wX9_laws_46 (n : Nat) (v1 : Int32) (s0 : Int32) (s1 : Int32) (μ0 : qa_M) (K0 : Int32 → Int32 → qa_M → Prop) (Q : Int32 → qa_M → Prop) : Prop := ∀ x7, x7 = (s1 ||| s0) → ∀ μ8, μ8 = qa_uI μ0 91 20 ((μ0.1 91 20) + (1 : Int32)) → K0 v1 x7 μ8
def wX9_laws_19 : Nat → Int32 → Int32 → qa_M → (Int32 → qa_M → Prop) → Prop
  | 0, _, _, _, _ => False
  | n + 1, v1, v3, μ0, Q => (((4 : Int32) ≤ (μ0.1 91 20) → Q v3 μ0) ∧ (¬ (4 : Int32) ≤ (μ0.1 91 20) → wX9_gateOf n v1 μ0 (fun r5 μ5 => ((r5 = 0 → wX9_laws_46 n v1 (0 : Int32) v3 μ5 (fun v1 v3 μk => wX9_laws_19 n v1 v3 μk Q) Q) ∧ (¬ r5 = 0 → wX9_laws_46 n v1 ((1 : Int32) <<< ((μ5.1 91 20) &&& 31)) v3 μ5 (fun v1 v3 μk => wX9_laws_19 n v1 v3 μk Q) Q)))))
def wX9_laws (n : Nat) (v1 : Int32) (μ0 : qa_M) (Q : Int32 → qa_M → Prop) : Prop := wX9_askGate n v1 μ0 (fun r1 μ1 => ((0 ≤ r1 → ∀ μ3, μ3 = qa_uI μ1 91 20 (0 : Int32) → wX9_laws_19 n v1 (0 : Int32) μ3  Q) ∧ (¬ 0 ≤ r1 → Q r1 μ1)))
theorem tX9_laws_46 (l : Launch) {K0 : Int32 → Int32 → qa_M → Prop} {Q : Int32 → qa_M → Prop} (hK0 : ∀ (v1 : Int32) (v3 : Int32) (μ : qa_M), qa_PP μ.2.2 → K0 v1 v3 μ → qa_G l yX9_laws cX9_laws 4 (some .int) 4 0 0 (qa_pI Q) 0 0 19 [some (.ref 91), some (.int v1), none, some (.int v3)] [] 113 μ) : ∀ (n : Nat) (v1 : Int32) (s0 : Int32) (s1 : Int32) (μ0 : qa_M), qa_PP μ0.2.2 → wX9_laws_46 n v1 s0 s1 μ0 K0 Q → qa_G l yX9_laws cX9_laws 4 (some .int) 4 0 0 (qa_pI Q) 0 0 46 [some (.ref 91), some (.int v1), none, none] [.int s0, .int s1] 113 μ0 := by
  intro n
  intro v1 s0 s1 μ0 hp0  h
  unfold wX9_laws_46 at h
  refine qa_ior dX9_laws_46 ?_
  refine qa_nmI (fun x7 e7 => ?_)
  have h := h x7 e7
  refine qa_ist3 dX9_laws_47 ?_
  refine qa_ald0 dX9_laws_48 ?_
  refine qa_dup dX9_laws_49 rfl ?_
  refine qa_getI dX9_laws_50 lf_X9_230 (Or.inl rfl) sh_91 (by decide) ?_
  refine qa_iconst (v := 1) dX9_laws_53 (by decide) ?_
  refine qa_iadd dX9_laws_54 ?_
  refine qa_putI dX9_laws_55 lf_X9_230 rfl sh_91 (by decide) rfl ?_
  refine qa_nmM (fun μ8 em8 => ?_)
  have h := h μ8 em8
  have hp8 : qa_PP μ8.2.2 := by rw [em8]; exact hp0
  refine qa_goto (tgt := 19) dX9_laws_58 (by decide) ?_
  refine qa_fgt (L' := [some (.ref 91), some (.int v1), none, some (.int x7)]) (⟨rfl, ⟨rfl, ⟨rfl, trivial⟩⟩⟩) ?_
  exact hK0 v1 x7 μ8 hp8  h
theorem tX9_laws_19 (l : Launch)  {Q : Int32 → qa_M → Prop}  : ∀ (n : Nat) (v1 : Int32) (v3 : Int32) (μ0 : qa_M), qa_PP μ0.2.2 → wX9_laws_19 n v1 v3 μ0  Q → qa_G l yX9_laws cX9_laws 4 (some .int) 4 0 0 (qa_pI Q) 0 0 19 [some (.ref 91), some (.int v1), none, some (.int v3)] [] 113 μ0 := by
  intro n
  induction n with
  | zero =>
    intro v1 v3 μ0 hp0  h
    rw [wX9_laws_19] at h
    exact h.elim
  | succ n ih =>
    intro v1 v3 μ0 hp0  h
    rw [wX9_laws_19] at h
    refine qa_ald0 dX9_laws_19 ?_
    refine qa_getI dX9_laws_20 lf_X9_230 (Or.inl rfl) sh_91 (by decide) ?_
    refine qa_iconst (v := 4) dX9_laws_23 (by decide) ?_
    refine qa_icmp_ge (tgt := 61) dX9_laws_24 (by decide) (fun c4 => ?_) (fun c4 => ?_)
    · have h := h.1 c4
      refine qa_ild3 dX9_laws_61 ?_
      exact qa_iret rfl dX9_laws_62 ⟨rfl, rfl⟩ ⟨rfl, hp0, _, rfl, h⟩
    · have h := h.2 c4
      refine qa_ild3 dX9_laws_27 ?_
      refine qa_ald0 dX9_laws_28 ?_
      refine qa_ild1 dX9_laws_29 ?_
      refine qa_V1I dX9_laws_30 lm_X9_389 sh_91 rfl (by decide) (by decide) (Nat.le_of_ble_eq_true rfl) (tX9_gateOf l hp0  h) (fun r5 μ5 hp5 h => ?_)
      refine qa_if_eq (tgt := 45) dX9_laws_33 (by decide) (fun c6 => ?_) (fun c6 => ?_)
      · have h := h.1 c6
        refine qa_iconst (v := 0) dX9_laws_45 (by decide) ?_
        refine qa_fgt (L' := [some (.ref 91), some (.int v1), none, none]) (⟨rfl, ⟨rfl, trivial⟩⟩) ?_
        refine tX9_laws_46 l ih n v1 (0 : Int32) v3 μ5 hp5  h
      · have h := h.2 c6
        refine qa_iconst (v := 1) dX9_laws_36 (by decide) ?_
        refine qa_ald0 dX9_laws_37 ?_
        refine qa_getI dX9_laws_38 lf_X9_230 (Or.inl rfl) sh_91 (by decide) ?_
        refine qa_ishl dX9_laws_41 ?_
        refine qa_goto (tgt := 46) dX9_laws_42 (by decide) ?_
        refine qa_fgt (L' := [some (.ref 91), some (.int v1), none, none]) (⟨rfl, ⟨rfl, trivial⟩⟩) ?_
        refine tX9_laws_46 l ih n v1 ((1 : Int32) <<< ((μ5.1 91 20) &&& 31)) v3 μ5 hp5  h
theorem tX9_laws (l : Launch) {n : Nat} {v1 : Int32} {μ0 : qa_M} {Q : Int32 → qa_M → Prop} (hp0 : qa_PP μ0.2.2)  (h : wX9_laws n v1 μ0 Q) : qa_Met l yX9_laws cX9_laws 4 (some .int) 4 0 0 [.ref 91, .int v1] 113 μ0 (qa_pI Q) := by
  refine qa_ofG (by decide) (Nat.le_of_ble_eq_true rfl) ?_
  unfold wX9_laws at h
  change qa_G l yX9_laws cX9_laws 4 (some .int) 4 0 0 (qa_pI Q) 0 0 0 [some (.ref 91), some (.int v1), none, none] [] 113 μ0
  refine qa_ald0 dX9_laws_0 ?_
  refine qa_ild1 dX9_laws_1 ?_
  refine qa_V1I dX9_laws_2 lm_X9_386 sh_91 rfl (by decide) (by decide) (Nat.le_of_ble_eq_true rfl) (tX9_askGate l hp0  h) (fun r1 μ1 hp1 h => ?_)
  refine qa_ist2 dX9_laws_5 ?_
  refine qa_ild2 dX9_laws_6 ?_
  refine qa_if_ge (tgt := 12) dX9_laws_7 (by decide) (fun c2 => ?_) (fun c2 => ?_)
  · have h := h.1 c2
    refine qa_iconst (v := 0) dX9_laws_12 (by decide) ?_
    refine qa_ist3 dX9_laws_13 ?_
    refine qa_ald0 dX9_laws_14 ?_
    refine qa_iconst (v := 0) dX9_laws_15 (by decide) ?_
    refine qa_putI dX9_laws_16 lf_X9_230 rfl sh_91 (by decide) rfl ?_
    refine qa_nmM (fun μ3 em3 => ?_)
    have h := h μ3 em3
    have hp3 : qa_PP μ3.2.2 := by rw [em3]; exact hp1
    refine qa_fgt (L' := [some (.ref 91), some (.int v1), none, some (.int (0 : Int32))]) (⟨rfl, ⟨rfl, ⟨rfl, trivial⟩⟩⟩) ?_
    refine tX9_laws_19 l  n v1 (0 : Int32) μ3 hp3  h
  · have h := h.2 c2
    refine qa_ild2 dX9_laws_10 ?_
    exact qa_iret rfl dX9_laws_11 ⟨rfl, rfl⟩ ⟨rfl, hp1, _, rfl, h⟩
def wX9_leans (n : Nat) (v1 : Int32) (μ0 : qa_M) (Q : Int32 → qa_M → Prop) : Prop := wX9_layLeans n v1 μ0 (fun r1 μ1 => ((0 ≤ r1 → Q (μ1.1 91 35) μ1) ∧ (¬ 0 ≤ r1 → Q r1 μ1)))
theorem tX9_leans (l : Launch) {n : Nat} {v1 : Int32} {μ0 : qa_M} {Q : Int32 → qa_M → Prop} (hp0 : qa_PP μ0.2.2)  (h : wX9_leans n v1 μ0 Q) : qa_Met l yX9_leans cX9_leans 3 (some .int) 4 0 0 [.ref 91, .int v1] 113 μ0 (qa_pI Q) := by
  refine qa_ofG (by decide) (Nat.le_of_ble_eq_true rfl) ?_
  unfold wX9_leans at h
  change qa_G l yX9_leans cX9_leans 3 (some .int) 4 0 0 (qa_pI Q) 0 0 0 [some (.ref 91), some (.int v1), none] [] 113 μ0
  refine qa_ald0 dX9_leans_0 ?_
  refine qa_ild1 dX9_leans_1 ?_
  refine qa_V1I dX9_leans_2 lm_X9_377 sh_91 rfl (by decide) (by decide) (Nat.le_of_ble_eq_true rfl) (tX9_layLeans l hp0  h) (fun r1 μ1 hp1 h => ?_)
  refine qa_ist2 dX9_leans_5 ?_
  refine qa_ild2 dX9_leans_6 ?_
  refine qa_if_ge (tgt := 14) dX9_leans_7 (by decide) (fun c2 => ?_) (fun c2 => ?_)
  · have h := h.1 c2
    refine qa_ald0 dX9_leans_14 ?_
    refine qa_getI dX9_leans_15 lf_X9_374 (Or.inl rfl) sh_91 (by decide) ?_
    exact qa_iret rfl dX9_leans_18 ⟨rfl, rfl⟩ ⟨rfl, hp1, _, rfl, h⟩
  · have h := h.2 c2
    refine qa_ild2 dX9_leans_10 ?_
    refine qa_goto (tgt := 18) dX9_leans_11 (by decide) ?_
    exact qa_iret rfl dX9_leans_18 ⟨rfl, rfl⟩ ⟨rfl, hp1, _, rfl, h⟩
def wX9_leaves (n : Nat) (v1 : Int32) (μ0 : qa_M) (Q : Int32 → qa_M → Prop) : Prop := wX9_layLeans n v1 μ0 (fun r1 μ1 => ((0 ≤ r1 → wX9_askOf n  μ1 (fun r3 μ3 => Q (μ3.1 91 36) μ3)) ∧ (¬ 0 ≤ r1 → Q r1 μ1)))
theorem tX9_leaves (l : Launch) {n : Nat} {v1 : Int32} {μ0 : qa_M} {Q : Int32 → qa_M → Prop} (hp0 : qa_PP μ0.2.2)  (h : wX9_leaves n v1 μ0 Q) : qa_Met l yX9_leaves cX9_leaves 3 (some .int) 4 0 0 [.ref 91, .int v1] 113 μ0 (qa_pI Q) := by
  refine qa_ofG (by decide) (Nat.le_of_ble_eq_true rfl) ?_
  unfold wX9_leaves at h
  change qa_G l yX9_leaves cX9_leaves 3 (some .int) 4 0 0 (qa_pI Q) 0 0 0 [some (.ref 91), some (.int v1), none] [] 113 μ0
  refine qa_ald0 dX9_leaves_0 ?_
  refine qa_ild1 dX9_leaves_1 ?_
  refine qa_V1I dX9_leaves_2 lm_X9_377 sh_91 rfl (by decide) (by decide) (Nat.le_of_ble_eq_true rfl) (tX9_layLeans l hp0  h) (fun r1 μ1 hp1 h => ?_)
  refine qa_ist2 dX9_leaves_5 ?_
  refine qa_ild2 dX9_leaves_6 ?_
  refine qa_if_ge (tgt := 12) dX9_leaves_7 (by decide) (fun c2 => ?_) (fun c2 => ?_)
  · have h := h.1 c2
    refine qa_ald0 dX9_leaves_12 ?_
    refine qa_V0I dX9_leaves_13 lm_X9_383 sh_91 rfl (by decide) (by decide) (Nat.le_of_ble_eq_true rfl) (tX9_askOf l hp1  h) (fun r3 μ3 hp3 h => ?_)
    refine qa_pop dX9_leaves_16 rfl ?_
    refine qa_ald0 dX9_leaves_17 ?_
    refine qa_getI dX9_leaves_18 lf_X9_380 (Or.inl rfl) sh_91 (by decide) ?_
    exact qa_iret rfl dX9_leaves_21 ⟨rfl, rfl⟩ ⟨rfl, hp3, _, rfl, h⟩
  · have h := h.2 c2
    refine qa_ild2 dX9_leaves_10 ?_
    exact qa_iret rfl dX9_leaves_11 ⟨rfl, rfl⟩ ⟨rfl, hp1, _, rfl, h⟩
def wX9_letter (n : Nat) (v1 : Int32) (v2 : Int32) (μ0 : qa_M) (Q : Int32 → qa_M → Prop) : Prop := wX9_isLetter n v1 μ0 (fun r1 μ1 => ((r1 = 0 → Q (-2 : Int32) μ1) ∧ (¬ r1 = 0 → wX9_in n v2.toInt64 (0 : Int64) (2 : Int64) μ1 (fun r3 μ3 => ((r3 = 0 → Q (-2 : Int32) μ3) ∧ (¬ r3 = 0 → wX9_letterOf n v1 v2 μ3 (fun r5 μ5 => Q r5 μ5)))))))
theorem tX9_letter (l : Launch) {n : Nat} {v1 : Int32} {v2 : Int32} {μ0 : qa_M} {Q : Int32 → qa_M → Prop} (hp0 : qa_PP μ0.2.2)  (h : wX9_letter n v1 v2 μ0 Q) : qa_Met l yX9_letter cX9_letter 3 (some .int) 2 0 0 [.ref 91, .int v1, .int v2] 113 μ0 (qa_pI Q) := by
  refine qa_ofG (by decide) (Nat.le_of_ble_eq_true rfl) ?_
  unfold wX9_letter at h
  change qa_G l yX9_letter cX9_letter 3 (some .int) 2 0 0 (qa_pI Q) 0 0 0 [some (.ref 91), some (.int v1), some (.int v2)] [] 113 μ0
  refine qa_ald0 dX9_letter_0 ?_
  refine qa_ild1 dX9_letter_1 ?_
  refine qa_V1I dX9_letter_2 lm_X9_224 sh_91 rfl (by decide) (by decide) (Nat.le_of_ble_eq_true rfl) (tX9_isLetter l hp0  h) (fun r1 μ1 hp1 h => ?_)
  refine qa_if_eq (tgt := 29) dX9_letter_5 (by decide) (fun c2 => ?_) (fun c2 => ?_)
  · have h := h.1 c2
    refine qa_bipush (v := -2) dX9_letter_29 (by decide) ?_
    exact qa_iret rfl dX9_letter_31 ⟨rfl, rfl⟩ ⟨rfl, hp1, _, rfl, h⟩
  · have h := h.2 c2
    refine qa_ild2 dX9_letter_8 ?_
    refine qa_i2l dX9_letter_9 ?_
    refine qa_lconst (v := 0) dX9_letter_10 (by decide) ?_
    refine qa_ldc2 dX9_letter_11 lk_X9_86 ?_
    refine qa_S3I dX9_letter_14 lm_X9_88  (by decide) (Nat.le_of_ble_eq_true rfl) (tX9_in l hp1  h) (fun r3 μ3 hp3 h => ?_)
    refine qa_if_eq (tgt := 29) dX9_letter_17 (by decide) (fun c4 => ?_) (fun c4 => ?_)
    · have h := h.1 c4
      refine qa_bipush (v := -2) dX9_letter_29 (by decide) ?_
      exact qa_iret rfl dX9_letter_31 ⟨rfl, rfl⟩ ⟨rfl, hp3, _, rfl, h⟩
    · have h := h.2 c4
      refine qa_ald0 dX9_letter_20 ?_
      refine qa_ild1 dX9_letter_21 ?_
      refine qa_ild2 dX9_letter_22 ?_
      refine qa_V2I dX9_letter_23 lm_X9_227 sh_91 rfl (by decide) (by decide) (Nat.le_of_ble_eq_true rfl) (tX9_letterOf l hp3  h) (fun r5 μ5 hp5 h => ?_)
      refine qa_goto (tgt := 31) dX9_letter_26 (by decide) ?_
      exact qa_iret rfl dX9_letter_31 ⟨rfl, rfl⟩ ⟨rfl, hp5, _, rfl, h⟩
def wX9_whoAt_2 : Nat → Int32 → Int32 → Int32 → qa_M → (Int32 → qa_M → Prop) → Prop
  | 0, _, _, _, _, _ => False
  | n + 1, v1, v2, v3, μ0, Q => wX9_houses n  μ0 (fun r1 μ1 => ((r1 ≤ v3 → Q (-1 : Int32) μ1) ∧ (¬ r1 ≤ v3 → wX9_placeOf n v3 v2 μ1 (fun r3 μ3 => ((¬ r3 = v1 → wX9_whoAt_2 n v1 v2 (v3 + (1 : Int32)) μ3 Q) ∧ (r3 = v1 → Q v3 μ3))))))
def wX9_whoAt (n : Nat) (v1 : Int32) (v2 : Int32) (μ0 : qa_M) (Q : Int32 → qa_M → Prop) : Prop := wX9_whoAt_2 n v1 v2 (0 : Int32) μ0  Q
theorem tX9_whoAt_2 (l : Launch)  {Q : Int32 → qa_M → Prop}  : ∀ (n : Nat) (v1 : Int32) (v2 : Int32) (v3 : Int32) (μ0 : qa_M), qa_PP μ0.2.2 → wX9_whoAt_2 n v1 v2 v3 μ0  Q → qa_G l yX9_whoAt cX9_whoAt 4 (some .int) 1 0 0 (qa_pI Q) 0 0 2 [some (.ref 91), some (.int v1), some (.int v2), some (.int v3)] [] 113 μ0 := by
  intro n
  induction n with
  | zero =>
    intro v1 v2 v3 μ0 hp0  h
    rw [wX9_whoAt_2] at h
    exact h.elim
  | succ n ih =>
    intro v1 v2 v3 μ0 hp0  h
    rw [wX9_whoAt_2] at h
    refine qa_ild3 dX9_whoAt_2 ?_
    refine qa_ald0 dX9_whoAt_3 ?_
    refine qa_V0I dX9_whoAt_4 lm_X9_100 sh_91 rfl (by decide) (by decide) (Nat.le_of_ble_eq_true rfl) (tX9_houses l hp0  h) (fun r1 μ1 hp1 h => ?_)
    refine qa_icmp_ge (tgt := 28) dX9_whoAt_7 (by decide) (fun c2 => ?_) (fun c2 => ?_)
    · have h := h.1 c2
      refine qa_iconst (v := -1) dX9_whoAt_28 (by decide) ?_
      exact qa_iret rfl dX9_whoAt_29 ⟨rfl, rfl⟩ ⟨rfl, hp1, _, rfl, h⟩
    · have h := h.2 c2
      refine qa_ald0 dX9_whoAt_10 ?_
      refine qa_ild3 dX9_whoAt_11 ?_
      refine qa_ild2 dX9_whoAt_12 ?_
      refine qa_V2I dX9_whoAt_13 lm_X9_261 sh_91 rfl (by decide) (by decide) (Nat.le_of_ble_eq_true rfl) (tX9_placeOf l hp1  h) (fun r3 μ3 hp3 h => ?_)
      refine qa_ild1 dX9_whoAt_16 ?_
      refine qa_icmp_ne (tgt := 22) dX9_whoAt_17 (by decide) (fun c4 => ?_) (fun c4 => ?_)
      · have h := h.1 c4
        refine qa_inc3 dX9_whoAt_22 (qa_io1 _) ?_
        refine qa_goto (tgt := 2) dX9_whoAt_25 (by decide) ?_
        refine qa_fgt (L' := [some (.ref 91), some (.int v1), some (.int v2), some (.int (v3 + (1 : Int32)))]) (⟨rfl, ⟨rfl, ⟨rfl, ⟨rfl, trivial⟩⟩⟩⟩) ?_
        exact ih v1 v2 (v3 + (1 : Int32)) μ3 hp3  h
      · have h := h.2 c4
        refine qa_ild3 dX9_whoAt_20 ?_
        exact qa_iret rfl dX9_whoAt_21 ⟨rfl, rfl⟩ ⟨rfl, hp3, _, rfl, h⟩
theorem tX9_whoAt (l : Launch) {n : Nat} {v1 : Int32} {v2 : Int32} {μ0 : qa_M} {Q : Int32 → qa_M → Prop} (hp0 : qa_PP μ0.2.2)  (h : wX9_whoAt n v1 v2 μ0 Q) : qa_Met l yX9_whoAt cX9_whoAt 4 (some .int) 1 0 0 [.ref 91, .int v1, .int v2] 113 μ0 (qa_pI Q) := by
  refine qa_ofG (by decide) (Nat.le_of_ble_eq_true rfl) ?_
  unfold wX9_whoAt at h
  change qa_G l yX9_whoAt cX9_whoAt 4 (some .int) 1 0 0 (qa_pI Q) 0 0 0 [some (.ref 91), some (.int v1), some (.int v2), none] [] 113 μ0
  refine qa_iconst (v := 0) dX9_whoAt_0 (by decide) ?_
  refine qa_ist3 dX9_whoAt_1 ?_
  refine qa_fgt (L' := [some (.ref 91), some (.int v1), some (.int v2), some (.int (0 : Int32))]) (⟨rfl, ⟨rfl, ⟨rfl, ⟨rfl, trivial⟩⟩⟩⟩) ?_
  refine tX9_whoAt_2 l  n v1 v2 (0 : Int32) μ0 hp0  h
def wX9_loose_51 (n : Nat) (v1 : Int32) (v3 : Int32) (s0 : Int32) (s1 : Int32) (μ0 : qa_M) (K0 : Int32 → Int32 → Int32 → qa_M → Prop) (Q : Int32 → qa_M → Prop) : Prop := ∀ x9, x9 = (s1 ||| s0) → K0 v1 x9 (v3 + (1 : Int32)) μ0
def wX9_loose_21 : Nat → Int32 → Int32 → Int32 → qa_M → (Int32 → qa_M → Prop) → Prop
  | 0, _, _, _, _, _ => False
  | n + 1, v1, v2, v3, μ0, Q => wX9_weeks n  μ0 (fun r4 μ4 => ((r4 ≤ v3 → Q v2 μ4) ∧ (¬ r4 ≤ v3 → wX9_whoAt n v1 v3 μ4 (fun r6 μ6 => wX9_pushOf n r6 v3 μ6 (fun r7 μ7 => ((¬ r7 = 0 → wX9_loose_51 n v1 v3 (0 : Int32) v2 μ7 (fun v1 v2 v3 μk => wX9_loose_21 n v1 v2 v3 μk Q) Q) ∧ (r7 = 0 → wX9_loose_51 n v1 v3 ((1 : Int32) <<< (v3 &&& 31)) v2 μ7 (fun v1 v2 v3 μk => wX9_loose_21 n v1 v2 v3 μk Q) Q)))))))
def wX9_loose (n : Nat) (v1 : Int32) (μ0 : qa_M) (Q : Int32 → qa_M → Prop) : Prop := wX9_asksTown n  μ0 (fun r1 μ1 => wX9_isPlace n v1.toInt64 μ1 (fun r2 μ2 => ((¬ r2 = 0 → wX9_loose_21 n v1 (0 : Int32) (0 : Int32) μ2  Q) ∧ (r2 = 0 → Q (-2 : Int32) μ2))))
theorem tX9_loose_51 (l : Launch) {K0 : Int32 → Int32 → Int32 → qa_M → Prop} {Q : Int32 → qa_M → Prop} (hK0 : ∀ (v1 : Int32) (v2 : Int32) (v3 : Int32) (μ : qa_M), qa_PP μ.2.2 → K0 v1 v2 v3 μ → qa_G l yX9_loose cX9_loose 4 (some .int) 4 0 0 (qa_pI Q) 0 0 21 [some (.ref 91), some (.int v1), some (.int v2), some (.int v3)] [] 113 μ) : ∀ (n : Nat) (v1 : Int32) (v3 : Int32) (s0 : Int32) (s1 : Int32) (μ0 : qa_M), qa_PP μ0.2.2 → wX9_loose_51 n v1 v3 s0 s1 μ0 K0 Q → qa_G l yX9_loose cX9_loose 4 (some .int) 4 0 0 (qa_pI Q) 0 0 51 [some (.ref 91), some (.int v1), none, some (.int v3)] [.int s0, .int s1] 113 μ0 := by
  intro n
  intro v1 v3 s0 s1 μ0 hp0  h
  unfold wX9_loose_51 at h
  refine qa_ior dX9_loose_51 ?_
  refine qa_nmI (fun x9 e9 => ?_)
  have h := h x9 e9
  refine qa_ist2 dX9_loose_52 ?_
  refine qa_inc3 dX9_loose_53 (qa_io1 _) ?_
  refine qa_goto (tgt := 21) dX9_loose_56 (by decide) ?_
  refine qa_fgt (L' := [some (.ref 91), some (.int v1), some (.int x9), some (.int (v3 + (1 : Int32)))]) (⟨rfl, ⟨rfl, ⟨rfl, ⟨rfl, trivial⟩⟩⟩⟩) ?_
  exact hK0 v1 x9 (v3 + (1 : Int32)) μ0 hp0  h
theorem tX9_loose_21 (l : Launch)  {Q : Int32 → qa_M → Prop}  : ∀ (n : Nat) (v1 : Int32) (v2 : Int32) (v3 : Int32) (μ0 : qa_M), qa_PP μ0.2.2 → wX9_loose_21 n v1 v2 v3 μ0  Q → qa_G l yX9_loose cX9_loose 4 (some .int) 4 0 0 (qa_pI Q) 0 0 21 [some (.ref 91), some (.int v1), some (.int v2), some (.int v3)] [] 113 μ0 := by
  intro n
  induction n with
  | zero =>
    intro v1 v2 v3 μ0 hp0  h
    rw [wX9_loose_21] at h
    exact h.elim
  | succ n ih =>
    intro v1 v2 v3 μ0 hp0  h
    rw [wX9_loose_21] at h
    refine qa_ild3 dX9_loose_21 ?_
    refine qa_ald0 dX9_loose_22 ?_
    refine qa_V0I dX9_loose_23 lm_X9_96 sh_91 rfl (by decide) (by decide) (Nat.le_of_ble_eq_true rfl) (tX9_weeks l hp0  h) (fun r4 μ4 hp4 h => ?_)
    refine qa_icmp_ge (tgt := 59) dX9_loose_26 (by decide) (fun c5 => ?_) (fun c5 => ?_)
    · have h := h.1 c5
      refine qa_ild2 dX9_loose_59 ?_
      exact qa_iret rfl dX9_loose_60 ⟨rfl, rfl⟩ ⟨rfl, hp4, _, rfl, h⟩
    · have h := h.2 c5
      refine qa_ild2 dX9_loose_29 ?_
      refine qa_ald0 dX9_loose_30 ?_
      refine qa_ald0 dX9_loose_31 ?_
      refine qa_ild1 dX9_loose_32 ?_
      refine qa_ild3 dX9_loose_33 ?_
      refine qa_V2I dX9_loose_34 lm_X9_295 sh_91 rfl (by decide) (by decide) (Nat.le_of_ble_eq_true rfl) (tX9_whoAt l hp4  h) (fun r6 μ6 hp6 h => ?_)
      refine qa_ild3 dX9_loose_37 ?_
      refine qa_V2I dX9_loose_38 lm_X9_301 sh_91 rfl (by decide) (by decide) (Nat.le_of_ble_eq_true rfl) (tX9_pushOf l hp6  h) (fun r7 μ7 hp7 h => ?_)
      refine qa_if_ne (tgt := 50) dX9_loose_41 (by decide) (fun c8 => ?_) (fun c8 => ?_)
      · have h := h.1 c8
        refine qa_iconst (v := 0) dX9_loose_50 (by decide) ?_
        refine qa_fgt (L' := [some (.ref 91), some (.int v1), none, some (.int v3)]) (⟨rfl, ⟨rfl, ⟨rfl, trivial⟩⟩⟩) ?_
        refine tX9_loose_51 l ih n v1 v3 (0 : Int32) v2 μ7 hp7  h
      · have h := h.2 c8
        refine qa_iconst (v := 1) dX9_loose_44 (by decide) ?_
        refine qa_ild3 dX9_loose_45 ?_
        refine qa_ishl dX9_loose_46 ?_
        refine qa_goto (tgt := 51) dX9_loose_47 (by decide) ?_
        refine qa_fgt (L' := [some (.ref 91), some (.int v1), none, some (.int v3)]) (⟨rfl, ⟨rfl, ⟨rfl, trivial⟩⟩⟩) ?_
        refine tX9_loose_51 l ih n v1 v3 ((1 : Int32) <<< (v3 &&& 31)) v2 μ7 hp7  h
theorem tX9_loose (l : Launch) {n : Nat} {v1 : Int32} {μ0 : qa_M} {Q : Int32 → qa_M → Prop} (hp0 : qa_PP μ0.2.2)  (h : wX9_loose n v1 μ0 Q) : qa_Met l yX9_loose cX9_loose 4 (some .int) 4 0 0 [.ref 91, .int v1] 113 μ0 (qa_pI Q) := by
  refine qa_ofG (by decide) (Nat.le_of_ble_eq_true rfl) ?_
  unfold wX9_loose at h
  change qa_G l yX9_loose cX9_loose 4 (some .int) 4 0 0 (qa_pI Q) 0 0 0 [some (.ref 91), some (.int v1), none, none] [] 113 μ0
  refine qa_ald0 dX9_loose_0 ?_
  refine qa_V0I dX9_loose_1 lm_X9_283 sh_91 rfl (by decide) (by decide) (Nat.le_of_ble_eq_true rfl) (tX9_asksTown l hp0  h) (fun r1 μ1 hp1 h => ?_)
  refine qa_pop dX9_loose_4 rfl ?_
  refine qa_ald0 dX9_loose_5 ?_
  refine qa_ild1 dX9_loose_6 ?_
  refine qa_i2l dX9_loose_7 ?_
  refine qa_V1I dX9_loose_8 lm_X9_254 sh_91 rfl (by decide) (by decide) (Nat.le_of_ble_eq_true rfl) (tX9_isPlace l hp1  h) (fun r2 μ2 hp2 h => ?_)
  refine qa_if_ne (tgt := 17) dX9_loose_11 (by decide) (fun c3 => ?_) (fun c3 => ?_)
  · have h := h.1 c3
    refine qa_iconst (v := 0) dX9_loose_17 (by decide) ?_
    refine qa_ist2 dX9_loose_18 ?_
    refine qa_iconst (v := 0) dX9_loose_19 (by decide) ?_
    refine qa_ist3 dX9_loose_20 ?_
    refine qa_fgt (L' := [some (.ref 91), some (.int v1), some (.int (0 : Int32)), some (.int (0 : Int32))]) (⟨rfl, ⟨rfl, ⟨rfl, ⟨rfl, trivial⟩⟩⟩⟩) ?_
    refine tX9_loose_21 l  n v1 (0 : Int32) (0 : Int32) μ2 hp2  h
  · have h := h.2 c3
    refine qa_bipush (v := -2) dX9_loose_14 (by decide) ?_
    exact qa_iret rfl dX9_loose_16 ⟨rfl, rfl⟩ ⟨rfl, hp2, _, rfl, h⟩
def wX9_luck_67 (n : Nat) (v1 : Int32) (v2 : Int32) (v3 : Int32) (v5 : Int32) (s0 : Int32) (s1 : Int32) (μ0 : qa_M) (K0 : Int32 → Int32 → Int32 → Int32 → Int32 → qa_M → Prop) (Q : Int32 → qa_M → Prop) : Prop := ∀ x11, x11 = (s1 + s0) → K0 v1 v2 v3 x11 (v5 + (1 : Int32)) μ0
def wX9_luck_36 : Nat → Int32 → Int32 → Int32 → Int32 → Int32 → qa_M → (Int32 → qa_M → Prop) → Prop
  | 0, _, _, _, _, _, _, _ => False
  | n + 1, v1, v2, v3, v4, v5, μ0, Q => ((v2 ≤ v5 → Q v4 μ0) ∧ (¬ v2 ≤ v5 → wX9_goDrawn n (v1.toInt64 + v5.toInt64) μ0 (fun μ8 => wX9_isRight n v3 μ8 (fun r9 μ9 => ((r9 = 0 → wX9_luck_67 n v1 v2 v3 v5 (0 : Int32) v4 μ9 (fun v1 v2 v3 v4 v5 μk => wX9_luck_36 n v1 v2 v3 v4 v5 μk Q) Q) ∧ (¬ r9 = 0 → wX9_luck_67 n v1 v2 v3 v5 (1 : Int32) v4 μ9 (fun v1 v2 v3 v4 v5 μk => wX9_luck_36 n v1 v2 v3 v4 v5 μk Q) Q))))))
def wX9_luck (n : Nat) (v1 : Int32) (v2 : Int32) (v3 : Int32) (μ0 : qa_M) (Q : Int32 → qa_M → Prop) : Prop := wX9_isSeed n v1 μ0 (fun r1 μ1 => ((r1 = 0 → Q (-2 : Int32) μ1) ∧ (¬ r1 = 0 → wX9_in n v2.toInt64 (1 : Int64) (20 : Int64) μ1 (fun r3 μ3 => ((r3 = 0 → Q (-2 : Int32) μ3) ∧ (¬ r3 = 0 → wX9_isLetter n v3 μ3 (fun r5 μ5 => ((¬ r5 = 0 → wX9_luck_36 n v1 v2 v3 (0 : Int32) (0 : Int32) μ5  Q) ∧ (r5 = 0 → Q (-2 : Int32) μ5)))))))))
theorem tX9_luck_67 (l : Launch) {K0 : Int32 → Int32 → Int32 → Int32 → Int32 → qa_M → Prop} {Q : Int32 → qa_M → Prop} (hK0 : ∀ (v1 : Int32) (v2 : Int32) (v3 : Int32) (v4 : Int32) (v5 : Int32) (μ : qa_M), qa_PP μ.2.2 → K0 v1 v2 v3 v4 v5 μ → qa_G l yX9_luck cX9_luck 6 (some .int) 4 0 0 (qa_pI Q) 0 0 36 [some (.ref 91), some (.int v1), some (.int v2), some (.int v3), some (.int v4), some (.int v5)] [] 113 μ) : ∀ (n : Nat) (v1 : Int32) (v2 : Int32) (v3 : Int32) (v5 : Int32) (s0 : Int32) (s1 : Int32) (μ0 : qa_M), qa_PP μ0.2.2 → wX9_luck_67 n v1 v2 v3 v5 s0 s1 μ0 K0 Q → qa_G l yX9_luck cX9_luck 6 (some .int) 4 0 0 (qa_pI Q) 0 0 67 [some (.ref 91), some (.int v1), some (.int v2), some (.int v3), none, some (.int v5)] [.int s0, .int s1] 113 μ0 := by
  intro n
  intro v1 v2 v3 v5 s0 s1 μ0 hp0  h
  unfold wX9_luck_67 at h
  refine qa_iadd dX9_luck_67 ?_
  refine qa_nmI (fun x11 e11 => ?_)
  have h := h x11 e11
  refine qa_ist4 dX9_luck_68 ?_
  refine qa_inc5 dX9_luck_70 (qa_io1 _) ?_
  refine qa_goto (tgt := 36) dX9_luck_73 (by decide) ?_
  refine qa_fgt (L' := [some (.ref 91), some (.int v1), some (.int v2), some (.int v3), some (.int x11), some (.int (v5 + (1 : Int32)))]) (⟨rfl, ⟨rfl, ⟨rfl, ⟨rfl, ⟨rfl, ⟨rfl, trivial⟩⟩⟩⟩⟩⟩) ?_
  exact hK0 v1 v2 v3 x11 (v5 + (1 : Int32)) μ0 hp0  h
theorem tX9_luck_36 (l : Launch)  {Q : Int32 → qa_M → Prop}  : ∀ (n : Nat) (v1 : Int32) (v2 : Int32) (v3 : Int32) (v4 : Int32) (v5 : Int32) (μ0 : qa_M), qa_PP μ0.2.2 → wX9_luck_36 n v1 v2 v3 v4 v5 μ0  Q → qa_G l yX9_luck cX9_luck 6 (some .int) 4 0 0 (qa_pI Q) 0 0 36 [some (.ref 91), some (.int v1), some (.int v2), some (.int v3), some (.int v4), some (.int v5)] [] 113 μ0 := by
  intro n
  induction n with
  | zero =>
    intro v1 v2 v3 v4 v5 μ0 hp0  h
    rw [wX9_luck_36] at h
    exact h.elim
  | succ n ih =>
    intro v1 v2 v3 v4 v5 μ0 hp0  h
    rw [wX9_luck_36] at h
    refine qa_ild5 dX9_luck_36 ?_
    refine qa_ild2 dX9_luck_38 ?_
    refine qa_icmp_ge (tgt := 76) dX9_luck_39 (by decide) (fun c7 => ?_) (fun c7 => ?_)
    · have h := h.1 c7
      refine qa_ild4 dX9_luck_76 ?_
      exact qa_iret rfl dX9_luck_78 ⟨rfl, rfl⟩ ⟨rfl, hp0, _, rfl, h⟩
    · have h := h.2 c7
      refine qa_ald0 dX9_luck_42 ?_
      refine qa_ild1 dX9_luck_43 ?_
      refine qa_i2l dX9_luck_44 ?_
      refine qa_ild5 dX9_luck_45 ?_
      refine qa_i2l dX9_luck_47 ?_
      refine qa_ladd dX9_luck_48 ?_
      refine qa_V1V dX9_luck_49 lm_X9_452 sh_91 rfl (by decide) (by decide) (Nat.le_of_ble_eq_true rfl) (tX9_goDrawn l hp0  h) (fun μ8 hp8 h => ?_)
      refine qa_ild4 dX9_luck_52 ?_
      refine qa_ald0 dX9_luck_54 ?_
      refine qa_ild3 dX9_luck_55 ?_
      refine qa_V1I dX9_luck_56 lm_X9_336 sh_91 rfl (by decide) (by decide) (Nat.le_of_ble_eq_true rfl) (tX9_isRight l hp8  h) (fun r9 μ9 hp9 h => ?_)
      refine qa_if_eq (tgt := 66) dX9_luck_59 (by decide) (fun c10 => ?_) (fun c10 => ?_)
      · have h := h.1 c10
        refine qa_iconst (v := 0) dX9_luck_66 (by decide) ?_
        refine qa_fgt (L' := [some (.ref 91), some (.int v1), some (.int v2), some (.int v3), none, some (.int v5)]) (⟨rfl, ⟨rfl, ⟨rfl, ⟨rfl, ⟨rfl, trivial⟩⟩⟩⟩⟩) ?_
        refine tX9_luck_67 l ih n v1 v2 v3 v5 (0 : Int32) v4 μ9 hp9  h
      · have h := h.2 c10
        refine qa_iconst (v := 1) dX9_luck_62 (by decide) ?_
        refine qa_goto (tgt := 67) dX9_luck_63 (by decide) ?_
        refine qa_fgt (L' := [some (.ref 91), some (.int v1), some (.int v2), some (.int v3), none, some (.int v5)]) (⟨rfl, ⟨rfl, ⟨rfl, ⟨rfl, ⟨rfl, trivial⟩⟩⟩⟩⟩) ?_
        refine tX9_luck_67 l ih n v1 v2 v3 v5 (1 : Int32) v4 μ9 hp9  h
theorem tX9_luck (l : Launch) {n : Nat} {v1 : Int32} {v2 : Int32} {v3 : Int32} {μ0 : qa_M} {Q : Int32 → qa_M → Prop} (hp0 : qa_PP μ0.2.2)  (h : wX9_luck n v1 v2 v3 μ0 Q) : qa_Met l yX9_luck cX9_luck 6 (some .int) 4 0 0 [.ref 91, .int v1, .int v2, .int v3] 113 μ0 (qa_pI Q) := by
  refine qa_ofG (by decide) (Nat.le_of_ble_eq_true rfl) ?_
  unfold wX9_luck at h
  change qa_G l yX9_luck cX9_luck 6 (some .int) 4 0 0 (qa_pI Q) 0 0 0 [some (.ref 91), some (.int v1), some (.int v2), some (.int v3), none, none] [] 113 μ0
  refine qa_ild1 dX9_luck_0 ?_
  refine qa_S1I dX9_luck_1 lm_X9_449  (by decide) (Nat.le_of_ble_eq_true rfl) (tX9_isSeed l hp0  h) (fun r1 μ1 hp1 h => ?_)
  refine qa_if_eq (tgt := 27) dX9_luck_4 (by decide) (fun c2 => ?_) (fun c2 => ?_)
  · have h := h.1 c2
    refine qa_bipush (v := -2) dX9_luck_27 (by decide) ?_
    exact qa_iret rfl dX9_luck_29 ⟨rfl, rfl⟩ ⟨rfl, hp1, _, rfl, h⟩
  · have h := h.2 c2
    refine qa_ild2 dX9_luck_7 ?_
    refine qa_i2l dX9_luck_8 ?_
    refine qa_lconst (v := 1) dX9_luck_9 (by decide) ?_
    refine qa_ldc2 dX9_luck_10 lk_X9_456 ?_
    refine qa_S3I dX9_luck_13 lm_X9_88  (by decide) (Nat.le_of_ble_eq_true rfl) (tX9_in l hp1  h) (fun r3 μ3 hp3 h => ?_)
    refine qa_if_eq (tgt := 27) dX9_luck_16 (by decide) (fun c4 => ?_) (fun c4 => ?_)
    · have h := h.1 c4
      refine qa_bipush (v := -2) dX9_luck_27 (by decide) ?_
      exact qa_iret rfl dX9_luck_29 ⟨rfl, rfl⟩ ⟨rfl, hp3, _, rfl, h⟩
    · have h := h.2 c4
      refine qa_ald0 dX9_luck_19 ?_
      refine qa_ild3 dX9_luck_20 ?_
      refine qa_V1I dX9_luck_21 lm_X9_224 sh_91 rfl (by decide) (by decide) (Nat.le_of_ble_eq_true rfl) (tX9_isLetter l hp3  h) (fun r5 μ5 hp5 h => ?_)
      refine qa_if_ne (tgt := 30) dX9_luck_24 (by decide) (fun c6 => ?_) (fun c6 => ?_)
      · have h := h.1 c6
        refine qa_iconst (v := 0) dX9_luck_30 (by decide) ?_
        refine qa_ist4 dX9_luck_31 ?_
        refine qa_iconst (v := 0) dX9_luck_33 (by decide) ?_
        refine qa_ist5 dX9_luck_34 ?_
        refine qa_fgt (L' := [some (.ref 91), some (.int v1), some (.int v2), some (.int v3), some (.int (0 : Int32)), some (.int (0 : Int32))]) (⟨rfl, ⟨rfl, ⟨rfl, ⟨rfl, ⟨rfl, ⟨rfl, trivial⟩⟩⟩⟩⟩⟩) ?_
        refine tX9_luck_36 l  n v1 v2 v3 (0 : Int32) (0 : Int32) μ5 hp5  h
      · have h := h.2 c6
        refine qa_bipush (v := -2) dX9_luck_27 (by decide) ?_
        exact qa_iret rfl dX9_luck_29 ⟨rfl, rfl⟩ ⟨rfl, hp5, _, rfl, h⟩
def wX9_mates (n : Nat) (v1 : Int32) (v2 : Int32) (μ0 : qa_M) (Q : Int32 → qa_M → Prop) : Prop := wX9_asksWeek n v2 μ0 (fun r1 μ1 => ((r1 = 0 → Q (-2 : Int32) μ1) ∧ (¬ r1 = 0 → wX9_isHouse n v1 μ1 (fun r3 μ3 => ((¬ r3 = 0 → wX9_placeOf n v1 v2 μ3 (fun r5 μ5 => wX9_houses n  μ5 (fun r6 μ6 => wX9_over n (r5 + (1 : Int32)) r6 μ6 (fun r7 μ7 => wX9_whoAt n r7 v2 μ7 (fun r8 μ8 => wX9_houses n  μ8 (fun r9 μ9 => wX9_over n (r5 - (1 : Int32)) r9 μ9 (fun r10 μ10 => wX9_whoAt n r10 v2 μ10 (fun r11 μ11 => Q (((1 : Int32) <<< (r8 &&& 31)) ||| ((1 : Int32) <<< (r11 &&& 31))) μ11)))))))) ∧ (r3 = 0 → Q (-2 : Int32) μ3))))))
theorem tX9_mates (l : Launch) {n : Nat} {v1 : Int32} {v2 : Int32} {μ0 : qa_M} {Q : Int32 → qa_M → Prop} (hp0 : qa_PP μ0.2.2)  (h : wX9_mates n v1 v2 μ0 Q) : qa_Met l yX9_mates cX9_mates 4 (some .int) 5 0 0 [.ref 91, .int v1, .int v2] 113 μ0 (qa_pI Q) := by
  refine qa_ofG (by decide) (Nat.le_of_ble_eq_true rfl) ?_
  unfold wX9_mates at h
  change qa_G l yX9_mates cX9_mates 4 (some .int) 5 0 0 (qa_pI Q) 0 0 0 [some (.ref 91), some (.int v1), some (.int v2), none] [] 113 μ0
  refine qa_ald0 dX9_mates_0 ?_
  refine qa_ild2 dX9_mates_1 ?_
  refine qa_V1I dX9_mates_2 lm_X9_292 sh_91 rfl (by decide) (by decide) (Nat.le_of_ble_eq_true rfl) (tX9_asksWeek l hp0  h) (fun r1 μ1 hp1 h => ?_)
  refine qa_if_eq (tgt := 16) dX9_mates_5 (by decide) (fun c2 => ?_) (fun c2 => ?_)
  · have h := h.1 c2
    refine qa_bipush (v := -2) dX9_mates_16 (by decide) ?_
    exact qa_iret rfl dX9_mates_18 ⟨rfl, rfl⟩ ⟨rfl, hp1, _, rfl, h⟩
  · have h := h.2 c2
    refine qa_ald0 dX9_mates_8 ?_
    refine qa_ild1 dX9_mates_9 ?_
    refine qa_V1I dX9_mates_10 lm_X9_103 sh_91 rfl (by decide) (by decide) (Nat.le_of_ble_eq_true rfl) (tX9_isHouse l hp1  h) (fun r3 μ3 hp3 h => ?_)
    refine qa_if_ne (tgt := 19) dX9_mates_13 (by decide) (fun c4 => ?_) (fun c4 => ?_)
    · have h := h.1 c4
      refine qa_ald0 dX9_mates_19 ?_
      refine qa_ild1 dX9_mates_20 ?_
      refine qa_ild2 dX9_mates_21 ?_
      refine qa_V2I dX9_mates_22 lm_X9_261 sh_91 rfl (by decide) (by decide) (Nat.le_of_ble_eq_true rfl) (tX9_placeOf l hp3  h) (fun r5 μ5 hp5 h => ?_)
      refine qa_ist3 dX9_mates_25 ?_
      refine qa_iconst (v := 1) dX9_mates_26 (by decide) ?_
      refine qa_ald0 dX9_mates_27 ?_
      refine qa_ild3 dX9_mates_28 ?_
      refine qa_iconst (v := 1) dX9_mates_29 (by decide) ?_
      refine qa_iadd dX9_mates_30 ?_
      refine qa_ald0 dX9_mates_31 ?_
      refine qa_V0I dX9_mates_32 lm_X9_100 sh_91 rfl (by decide) (by decide) (Nat.le_of_ble_eq_true rfl) (tX9_houses l hp5  h) (fun r6 μ6 hp6 h => ?_)
      refine qa_S2I dX9_mates_35 lm_X9_258  (by decide) (Nat.le_of_ble_eq_true rfl) (tX9_over l hp6  h) (fun r7 μ7 hp7 h => ?_)
      refine qa_ild2 dX9_mates_38 ?_
      refine qa_V2I dX9_mates_39 lm_X9_295 sh_91 rfl (by decide) (by decide) (Nat.le_of_ble_eq_true rfl) (tX9_whoAt l hp7  h) (fun r8 μ8 hp8 h => ?_)
      refine qa_ishl dX9_mates_42 ?_
      refine qa_iconst (v := 1) dX9_mates_43 (by decide) ?_
      refine qa_ald0 dX9_mates_44 ?_
      refine qa_ild3 dX9_mates_45 ?_
      refine qa_iconst (v := 1) dX9_mates_46 (by decide) ?_
      refine qa_isub dX9_mates_47 ?_
      refine qa_ald0 dX9_mates_48 ?_
      refine qa_V0I dX9_mates_49 lm_X9_100 sh_91 rfl (by decide) (by decide) (Nat.le_of_ble_eq_true rfl) (tX9_houses l hp8  h) (fun r9 μ9 hp9 h => ?_)
      refine qa_S2I dX9_mates_52 lm_X9_258  (by decide) (Nat.le_of_ble_eq_true rfl) (tX9_over l hp9  h) (fun r10 μ10 hp10 h => ?_)
      refine qa_ild2 dX9_mates_55 ?_
      refine qa_V2I dX9_mates_56 lm_X9_295 sh_91 rfl (by decide) (by decide) (Nat.le_of_ble_eq_true rfl) (tX9_whoAt l hp10  h) (fun r11 μ11 hp11 h => ?_)
      refine qa_ishl dX9_mates_59 ?_
      refine qa_ior dX9_mates_60 ?_
      exact qa_iret rfl dX9_mates_61 ⟨rfl, rfl⟩ ⟨rfl, hp11, _, rfl, h⟩
    · have h := h.2 c4
      refine qa_bipush (v := -2) dX9_mates_16 (by decide) ?_
      exact qa_iret rfl dX9_mates_18 ⟨rfl, rfl⟩ ⟨rfl, hp3, _, rfl, h⟩
def wX9_mean (n : Nat) (v1 : Int32) (v2 : Int32) (v3 : Int32) (μ0 : qa_M) (Q : Int64 → qa_M → Prop) : Prop := wX9_isHouse n v1 μ0 (fun r1 μ1 => ((r1 = 0 → Q (-2 : Int64) μ1) ∧ (¬ r1 = 0 → wX9_isSnows n v2 v3 μ1 (fun r3 μ3 => ((¬ r3 = 0 → wX9_laySnows n v1 (0 : Int32) v2 μ3 (fun μ5 => wX9_part n (μ5.2.1 91 40) (μ5.2.1 91 38) v3 μ5 (fun r6 μ6 => Q r6 μ6))) ∧ (r3 = 0 → Q (-2 : Int64) μ3))))))
theorem tX9_mean (l : Launch) {n : Nat} {v1 : Int32} {v2 : Int32} {v3 : Int32} {μ0 : qa_M} {Q : Int64 → qa_M → Prop} (hp0 : qa_PP μ0.2.2)  (h : wX9_mean n v1 v2 v3 μ0 Q) : qa_Met l yX9_mean cX9_mean 4 (some .long) 4 0 0 [.ref 91, .int v1, .int v2, .int v3] 113 μ0 (qa_pJ Q) := by
  refine qa_ofG (by decide) (Nat.le_of_ble_eq_true rfl) ?_
  unfold wX9_mean at h
  change qa_G l yX9_mean cX9_mean 4 (some .long) 4 0 0 (qa_pJ Q) 0 0 0 [some (.ref 91), some (.int v1), some (.int v2), some (.int v3)] [] 113 μ0
  refine qa_ald0 dX9_mean_0 ?_
  refine qa_ild1 dX9_mean_1 ?_
  refine qa_V1I dX9_mean_2 lm_X9_103 sh_91 rfl (by decide) (by decide) (Nat.le_of_ble_eq_true rfl) (tX9_isHouse l hp0  h) (fun r1 μ1 hp1 h => ?_)
  refine qa_if_eq (tgt := 17) dX9_mean_5 (by decide) (fun c2 => ?_) (fun c2 => ?_)
  · have h := h.1 c2
    refine qa_ldc2 dX9_mean_17 lk_X9_429 ?_
    exact qa_lret rfl dX9_mean_20 ⟨rfl, rfl⟩ ⟨rfl, hp1, _, rfl, h⟩
  · have h := h.2 c2
    refine qa_ald0 dX9_mean_8 ?_
    refine qa_ild2 dX9_mean_9 ?_
    refine qa_ild3 dX9_mean_10 ?_
    refine qa_V2I dX9_mean_11 lm_X9_426 sh_91 rfl (by decide) (by decide) (Nat.le_of_ble_eq_true rfl) (tX9_isSnows l hp1  h) (fun r3 μ3 hp3 h => ?_)
    refine qa_if_ne (tgt := 21) dX9_mean_14 (by decide) (fun c4 => ?_) (fun c4 => ?_)
    · have h := h.1 c4
      refine qa_ald0 dX9_mean_21 ?_
      refine qa_ild1 dX9_mean_22 ?_
      refine qa_iconst (v := 0) dX9_mean_23 (by decide) ?_
      refine qa_ild2 dX9_mean_24 ?_
      refine qa_V3V dX9_mean_25 lm_X9_431 sh_91 rfl (by decide) (by decide) (Nat.le_of_ble_eq_true rfl) (tX9_laySnows l hp3  h) (fun μ5 hp5 h => ?_)
      refine qa_ald0 dX9_mean_28 ?_
      refine qa_getJ dX9_mean_29 lf_X9_421 rfl sh_91 (by decide) ?_
      refine qa_ald0 dX9_mean_32 ?_
      refine qa_getJ dX9_mean_33 lf_X9_414 rfl sh_91 (by decide) ?_
      refine qa_ild3 dX9_mean_36 ?_
      refine qa_S3J dX9_mean_37 lm_X9_406  (by decide) (Nat.le_of_ble_eq_true rfl) (tX9_part l hp5  h) (fun r6 μ6 hp6 h => ?_)
      exact qa_lret rfl dX9_mean_40 ⟨rfl, rfl⟩ ⟨rfl, hp6, _, rfl, h⟩
    · have h := h.2 c4
      refine qa_ldc2 dX9_mean_17 lk_X9_429 ?_
      exact qa_lret rfl dX9_mean_20 ⟨rfl, rfl⟩ ⟨rfl, hp3, _, rfl, h⟩
def wX9_moves_13 : Nat → Int32 → Int32 → qa_M → (Int32 → qa_M → Prop) → (Int32 → qa_M → Prop) → Prop
  | 0, _, _, _, _, _ => False
  | n + 1, v1, v2, μ0, K0, Q => (((800 : Int32) < v2 → K0 v1 μ0) ∧ (¬ (800 : Int32) < v2 → vp_in v2 801 ∧ ∀ μ4, μ4 = qa_uI μ0 105 v2.toNatClampNeg (0 : Int32) → wX9_moves_13 n v1 (v2 + (1 : Int32)) μ4 K0 Q))
def wX9_moves_80 (n : Nat) (v1 : Int32) (v3 : Int32) (v4 : Int32) (s0 : Int32) (s1 : Int32) (μ0 : qa_M) (K0 : Int32 → Int32 → Int32 → qa_M → Prop) (Q : Int32 → qa_M → Prop) : Prop := ∀ x13, x13 = (s1 + s0) → vp_in v4 801 ∧ ∀ μ14, μ14 = qa_uI μ0 105 v4.toNatClampNeg (1 : Int32) → K0 v1 x13 (v3 + (1 : Int32)) μ14
def wX9_moves_37 : Nat → Int32 → Int32 → Int32 → qa_M → (Int32 → qa_M → Prop) → Prop
  | 0, _, _, _, _, _ => False
  | n + 1, v1, v2, v3, μ0, Q => wX9_houses n  μ0 (fun r7 μ7 => ((((1 : Int32) <<< (r7 &&& 31)) ≤ v3 → Q v2 μ7) ∧ (¬ ((1 : Int32) <<< (r7 &&& 31)) ≤ v3 → wX9_forceOf n v1 v3 μ7 (fun r9 μ9 => wX9_turnBy n r9 v1 μ9 (fun r10 μ10 => ∀ x11, x11 = ((400 : Int32) + r10) → vp_in x11 801 ∧ (((μ10.1 105 x11.toNatClampNeg) = 0 → wX9_moves_80 n v1 v3 x11 (1 : Int32) v2 μ10 (fun v1 v2 v3 μk => wX9_moves_37 n v1 v2 v3 μk Q) Q) ∧ (¬ (μ10.1 105 x11.toNatClampNeg) = 0 → wX9_moves_80 n v1 v3 x11 (0 : Int32) v2 μ10 (fun v1 v2 v3 μk => wX9_moves_37 n v1 v2 v3 μk Q) Q)))))))
def wX9_moves (n : Nat) (v1 : Int32) (μ0 : qa_M) (Q : Int32 → qa_M → Prop) : Prop := wX9_asksAhead n v1 μ0 (fun r1 μ1 => ((¬ r1 = 0 → wX9_moves_13 n v1 (0 : Int32) μ1 (fun v1_6 μ5 => wX9_moves_37 n v1_6 (0 : Int32) (0 : Int32) μ5  Q) Q) ∧ (r1 = 0 → Q (-2 : Int32) μ1)))
theorem tX9_moves_13 (l : Launch) {K0 : Int32 → qa_M → Prop} {Q : Int32 → qa_M → Prop} (hK0 : ∀ (v1 : Int32) (μ : qa_M), qa_PP μ.2.2 → K0 v1 μ → qa_G l yX9_moves cX9_moves 5 (some .int) 5 0 0 (qa_pI Q) 0 0 33 [some (.ref 91), some (.int v1), none, none, none] [] 113 μ) : ∀ (n : Nat) (v1 : Int32) (v2 : Int32) (μ0 : qa_M), qa_PP μ0.2.2 → wX9_moves_13 n v1 v2 μ0 K0 Q → qa_G l yX9_moves cX9_moves 5 (some .int) 5 0 0 (qa_pI Q) 0 0 13 [some (.ref 91), some (.int v1), some (.int v2), none, none] [] 113 μ0 := by
  intro n
  induction n with
  | zero =>
    intro v1 v2 μ0 hp0  h
    rw [wX9_moves_13] at h
    exact h.elim
  | succ n ih =>
    intro v1 v2 μ0 hp0  h
    rw [wX9_moves_13] at h
    refine qa_ild2 dX9_moves_13 ?_
    refine qa_sipush (v := 800) dX9_moves_14 (by decide) ?_
    refine qa_icmp_gt (tgt := 33) dX9_moves_17 (by decide) (fun c3 => ?_) (fun c3 => ?_)
    · have h := h.1 c3
      refine qa_fgt (L' := [some (.ref 91), some (.int v1), none, none, none]) (⟨rfl, ⟨rfl, trivial⟩⟩) ?_
      exact hK0 v1 μ0 hp0  h
    · have h := h.2 c3
      refine qa_ald0 dX9_moves_20 ?_
      refine qa_getR dX9_moves_21 lf_X9_55 rfl sh_91 (by decide) (pp_91_29 hp0) (by decide) ?_
      refine qa_ild2 dX9_moves_24 ?_
      refine qa_iconst (v := 0) dX9_moves_25 (by decide) ?_
      refine qa_zast dX9_moves_26 sh_105 (by decide) h.1 (Or.inl rfl) ?_
      have h := h.2
      refine qa_nmM (fun μ4 em4 => ?_)
      have h := h μ4 em4
      have hp4 : qa_PP μ4.2.2 := by rw [em4]; exact hp0
      refine qa_inc2 dX9_moves_27 (qa_io1 _) ?_
      refine qa_goto (tgt := 13) dX9_moves_30 (by decide) ?_
      refine qa_fgt (L' := [some (.ref 91), some (.int v1), some (.int (v2 + (1 : Int32))), none, none]) (⟨rfl, ⟨rfl, ⟨rfl, trivial⟩⟩⟩) ?_
      exact ih v1 (v2 + (1 : Int32)) μ4 hp4  h
theorem tX9_moves_80 (l : Launch) {K0 : Int32 → Int32 → Int32 → qa_M → Prop} {Q : Int32 → qa_M → Prop} (hK0 : ∀ (v1 : Int32) (v2 : Int32) (v3 : Int32) (μ : qa_M), qa_PP μ.2.2 → K0 v1 v2 v3 μ → qa_G l yX9_moves cX9_moves 5 (some .int) 5 0 0 (qa_pI Q) 0 0 37 [some (.ref 91), some (.int v1), some (.int v2), some (.int v3), none] [] 113 μ) : ∀ (n : Nat) (v1 : Int32) (v3 : Int32) (v4 : Int32) (s0 : Int32) (s1 : Int32) (μ0 : qa_M), qa_PP μ0.2.2 → wX9_moves_80 n v1 v3 v4 s0 s1 μ0 K0 Q → qa_G l yX9_moves cX9_moves 5 (some .int) 5 0 0 (qa_pI Q) 0 0 80 [some (.ref 91), some (.int v1), none, some (.int v3), some (.int v4)] [.int s0, .int s1] 113 μ0 := by
  intro n
  intro v1 v3 v4 s0 s1 μ0 hp0  h
  unfold wX9_moves_80 at h
  refine qa_iadd dX9_moves_80 ?_
  refine qa_nmI (fun x13 e13 => ?_)
  have h := h x13 e13
  refine qa_ist2 dX9_moves_81 ?_
  refine qa_ald0 dX9_moves_82 ?_
  refine qa_getR dX9_moves_83 lf_X9_55 rfl sh_91 (by decide) (pp_91_29 hp0) (by decide) ?_
  refine qa_ild4 dX9_moves_86 ?_
  refine qa_iconst (v := 1) dX9_moves_88 (by decide) ?_
  refine qa_zast dX9_moves_89 sh_105 (by decide) h.1 (Or.inr rfl) ?_
  have h := h.2
  refine qa_nmM (fun μ14 em14 => ?_)
  have h := h μ14 em14
  have hp14 : qa_PP μ14.2.2 := by rw [em14]; exact hp0
  refine qa_inc3 dX9_moves_90 (qa_io1 _) ?_
  refine qa_goto (tgt := 37) dX9_moves_93 (by decide) ?_
  refine qa_fgt (L' := [some (.ref 91), some (.int v1), some (.int x13), some (.int (v3 + (1 : Int32))), none]) (⟨rfl, ⟨rfl, ⟨rfl, ⟨rfl, trivial⟩⟩⟩⟩) ?_
  exact hK0 v1 x13 (v3 + (1 : Int32)) μ14 hp14  h
theorem tX9_moves_37 (l : Launch)  {Q : Int32 → qa_M → Prop}  : ∀ (n : Nat) (v1 : Int32) (v2 : Int32) (v3 : Int32) (μ0 : qa_M), qa_PP μ0.2.2 → wX9_moves_37 n v1 v2 v3 μ0  Q → qa_G l yX9_moves cX9_moves 5 (some .int) 5 0 0 (qa_pI Q) 0 0 37 [some (.ref 91), some (.int v1), some (.int v2), some (.int v3), none] [] 113 μ0 := by
  intro n
  induction n with
  | zero =>
    intro v1 v2 v3 μ0 hp0  h
    rw [wX9_moves_37] at h
    exact h.elim
  | succ n ih =>
    intro v1 v2 v3 μ0 hp0  h
    rw [wX9_moves_37] at h
    refine qa_ild3 dX9_moves_37 ?_
    refine qa_iconst (v := 1) dX9_moves_38 (by decide) ?_
    refine qa_ald0 dX9_moves_39 ?_
    refine qa_V0I dX9_moves_40 lm_X9_100 sh_91 rfl (by decide) (by decide) (Nat.le_of_ble_eq_true rfl) (tX9_houses l hp0  h) (fun r7 μ7 hp7 h => ?_)
    refine qa_ishl dX9_moves_43 ?_
    refine qa_icmp_ge (tgt := 96) dX9_moves_44 (by decide) (fun c8 => ?_) (fun c8 => ?_)
    · have h := h.1 c8
      refine qa_ild2 dX9_moves_96 ?_
      exact qa_iret rfl dX9_moves_97 ⟨rfl, rfl⟩ ⟨rfl, hp7, _, rfl, h⟩
    · have h := h.2 c8
      refine qa_sipush (v := 400) dX9_moves_47 (by decide) ?_
      refine qa_ald0 dX9_moves_50 ?_
      refine qa_ald0 dX9_moves_51 ?_
      refine qa_ild1 dX9_moves_52 ?_
      refine qa_ild3 dX9_moves_53 ?_
      refine qa_V2I dX9_moves_54 lm_X9_274 sh_91 rfl (by decide) (by decide) (Nat.le_of_ble_eq_true rfl) (tX9_forceOf l hp7  h) (fun r9 μ9 hp9 h => ?_)
      refine qa_ild1 dX9_moves_57 ?_
      refine qa_V2I dX9_moves_58 lm_X9_277 sh_91 rfl (by decide) (by decide) (Nat.le_of_ble_eq_true rfl) (tX9_turnBy l hp9  h) (fun r10 μ10 hp10 h => ?_)
      refine qa_iadd dX9_moves_61 ?_
      refine qa_nmI (fun x11 e11 => ?_)
      have h := h x11 e11
      refine qa_ist4 dX9_moves_62 ?_
      refine qa_ild2 dX9_moves_64 ?_
      refine qa_ald0 dX9_moves_65 ?_
      refine qa_getR dX9_moves_66 lf_X9_55 rfl sh_91 (by decide) (pp_91_29 hp10) (by decide) ?_
      refine qa_ild4 dX9_moves_69 ?_
      refine qa_zald dX9_moves_71 sh_105 (by decide) h.1 ?_
      have h := h.2
      refine qa_if_eq (tgt := 79) dX9_moves_72 (by decide) (fun c12 => ?_) (fun c12 => ?_)
      · have h := h.1 c12
        refine qa_iconst (v := 1) dX9_moves_79 (by decide) ?_
        refine qa_fgt (L' := [some (.ref 91), some (.int v1), none, some (.int v3), some (.int x11)]) (⟨rfl, ⟨rfl, ⟨rfl, ⟨rfl, trivial⟩⟩⟩⟩) ?_
        refine tX9_moves_80 l ih n v1 v3 x11 (1 : Int32) v2 μ10 hp10  h
      · have h := h.2 c12
        refine qa_iconst (v := 0) dX9_moves_75 (by decide) ?_
        refine qa_goto (tgt := 80) dX9_moves_76 (by decide) ?_
        refine qa_fgt (L' := [some (.ref 91), some (.int v1), none, some (.int v3), some (.int x11)]) (⟨rfl, ⟨rfl, ⟨rfl, ⟨rfl, trivial⟩⟩⟩⟩) ?_
        refine tX9_moves_80 l ih n v1 v3 x11 (0 : Int32) v2 μ10 hp10  h
theorem tX9_moves (l : Launch) {n : Nat} {v1 : Int32} {μ0 : qa_M} {Q : Int32 → qa_M → Prop} (hp0 : qa_PP μ0.2.2)  (h : wX9_moves n v1 μ0 Q) : qa_Met l yX9_moves cX9_moves 5 (some .int) 5 0 0 [.ref 91, .int v1] 113 μ0 (qa_pI Q) := by
  refine qa_ofG (by decide) (Nat.le_of_ble_eq_true rfl) ?_
  unfold wX9_moves at h
  change qa_G l yX9_moves cX9_moves 5 (some .int) 5 0 0 (qa_pI Q) 0 0 0 [some (.ref 91), some (.int v1), none, none, none] [] 113 μ0
  refine qa_ald0 dX9_moves_0 ?_
  refine qa_ild1 dX9_moves_1 ?_
  refine qa_V1I dX9_moves_2 lm_X9_298 sh_91 rfl (by decide) (by decide) (Nat.le_of_ble_eq_true rfl) (tX9_asksAhead l hp0  h) (fun r1 μ1 hp1 h => ?_)
  refine qa_if_ne (tgt := 11) dX9_moves_5 (by decide) (fun c2 => ?_) (fun c2 => ?_)
  · have h := h.1 c2
    refine qa_iconst (v := 0) dX9_moves_11 (by decide) ?_
    refine qa_ist2 dX9_moves_12 ?_
    refine qa_fgt (L' := [some (.ref 91), some (.int v1), some (.int (0 : Int32)), none, none]) (⟨rfl, ⟨rfl, ⟨rfl, trivial⟩⟩⟩) ?_
    refine tX9_moves_13 l ?_ n v1 (0 : Int32) μ1 hp1  h
    · intro v1_6 μ5 hp5  h
      refine qa_iconst (v := 0) dX9_moves_33 (by decide) ?_
      refine qa_ist2 dX9_moves_34 ?_
      refine qa_iconst (v := 0) dX9_moves_35 (by decide) ?_
      refine qa_ist3 dX9_moves_36 ?_
      refine qa_fgt (L' := [some (.ref 91), some (.int v1_6), some (.int (0 : Int32)), some (.int (0 : Int32)), none]) (⟨rfl, ⟨rfl, ⟨rfl, ⟨rfl, trivial⟩⟩⟩⟩) ?_
      refine tX9_moves_37 l  n v1_6 (0 : Int32) (0 : Int32) μ5 hp5  h
  · have h := h.2 c2
    refine qa_bipush (v := -2) dX9_moves_8 (by decide) ?_
    exact qa_iret rfl dX9_moves_10 ⟨rfl, rfl⟩ ⟨rfl, hp1, _, rfl, h⟩
def wX9_takes (n : Nat) (v1 : Nat) (μ0 : qa_M) (Q : Int32 → qa_M → Prop) : Prop := wX9_is n v1 μ0 (fun r1 μ1 => ((r1 = 0 → (narrow .boolean (.int r1) = .int r1 ∧ Q r1 μ1)) ∧ (¬ r1 = 0 → wX9_advance n  μ1 (fun μ3 => (narrow .boolean (.int r1) = .int r1 ∧ Q r1 μ3)))))
theorem tX9_takes (l : Launch) {n : Nat} {v1 : Nat} {μ0 : qa_M} {Q : Int32 → qa_M → Prop} (hp0 : qa_PP μ0.2.2) (k1 : v1 < 30) (h : wX9_takes n v1 μ0 Q) : qa_Met l yX9_takes cX9_takes 3 (some .boolean) 6 0 0 [.ref 91, .ref (2000 + v1)] 113 μ0 (qa_pI Q) := by
  refine qa_ofG (by decide) (Nat.le_of_ble_eq_true rfl) ?_
  unfold wX9_takes at h
  change qa_G l yX9_takes cX9_takes 3 (some .boolean) 6 0 0 (qa_pI Q) 0 0 0 [some (.ref 91), some (.ref (2000 + v1)), none] [] 113 μ0
  refine qa_ald0 dX9_takes_0 ?_
  refine qa_ald1 dX9_takes_1 ?_
  refine qa_V1I dX9_takes_2 lm_X9_159 sh_91 rfl (by decide) (by decide) (Nat.le_of_ble_eq_true rfl) (tX9_is l hp0 k1 h) (fun r1 μ1 hp1 h => ?_)
  refine qa_ist2 dX9_takes_5 ?_
  refine qa_ild2 dX9_takes_6 ?_
  refine qa_if_eq (tgt := 14) dX9_takes_7 (by decide) (fun c2 => ?_) (fun c2 => ?_)
  · have h := h.1 c2
    refine qa_ild2 dX9_takes_14 ?_
    exact qa_zret rfl h.1 dX9_takes_15 ⟨rfl, rfl⟩ ⟨rfl, hp1, _, rfl, h.2⟩
  · have h := h.2 c2
    refine qa_ald0 dX9_takes_10 ?_
    refine qa_V0V dX9_takes_11 lm_X9_163 sh_91 rfl (by decide) (by decide) (Nat.le_of_ble_eq_true rfl) (tX9_advance l hp1  h) (fun μ3 hp3 h => ?_)
    refine qa_ild2 dX9_takes_14 ?_
    exact qa_zret rfl h.1 dX9_takes_15 ⟨rfl, rfl⟩ ⟨rfl, hp3, _, rfl, h.2⟩
def wX9_needs (n : Nat) (v1 : Nat) (μ0 : qa_M) (Q : qa_M → Prop) : Prop := wX9_takes n v1 μ0 (fun r1 μ1 => ((¬ r1 = 0 → Q μ1) ∧ (r1 = 0 → wX9_errs n (1 : Int32) μ1 (fun μ3 => Q μ3))))
theorem tX9_needs (l : Launch) {n : Nat} {v1 : Nat} {μ0 : qa_M} {Q : qa_M → Prop} (hp0 : qa_PP μ0.2.2) (k1 : v1 < 30) (h : wX9_needs n v1 μ0 Q) : qa_Met l yX9_needs cX9_needs 2 none 7 0 0 [.ref 91, .ref (2000 + v1)] 113 μ0 (qa_pV Q) := by
  refine qa_ofG (by decide) (Nat.le_of_ble_eq_true rfl) ?_
  unfold wX9_needs at h
  change qa_G l yX9_needs cX9_needs 2 none 7 0 0 (qa_pV Q) 0 0 0 [some (.ref 91), some (.ref (2000 + v1))] [] 113 μ0
  refine qa_ald0 dX9_needs_0 ?_
  refine qa_ald1 dX9_needs_1 ?_
  refine qa_V1I dX9_needs_2 lm_X9_166 sh_91 rfl (by decide) (by decide) (Nat.le_of_ble_eq_true rfl) (tX9_takes l hp0 k1 h) (fun r1 μ1 hp1 h => ?_)
  refine qa_if_ne (tgt := 13) dX9_needs_5 (by decide) (fun c2 => ?_) (fun c2 => ?_)
  · have h := h.1 c2
    exact qa_vret rfl dX9_needs_13 ⟨rfl, rfl⟩ ⟨rfl, hp1, rfl, h⟩
  · have h := h.2 c2
    refine qa_ald0 dX9_needs_8 ?_
    refine qa_iconst (v := 1) dX9_needs_9 (by decide) ?_
    refine qa_V1V dX9_needs_10 lm_X9_169 sh_91 rfl (by decide) (by decide) (Nat.le_of_ble_eq_true rfl) (tX9_errs l hp1  h) (fun μ3 hp3 h => ?_)
    exact qa_vret rfl dX9_needs_13 ⟨rfl, rfl⟩ ⟨rfl, hp3, rfl, h⟩
def wX9_never_17 : Nat → Int32 → Int32 → qa_M → (Int32 → qa_M → Prop) → (Int32 → qa_M → Prop) → Prop
  | 0, _, _, _, _, _ => False
  | n + 1, v3, v4, μ0, K0, Q => (((μ0.1 91 35) ≤ v4 → K0 v3 μ0) ∧ (¬ (μ0.1 91 35) ≤ v4 → vp_in v4 256 ∧ ∀ x4, x4 = (v3 ||| (μ0.1 107 v4.toNatClampNeg)) → wX9_never_17 n x4 (v4 + (1 : Int32)) μ0 K0 Q))
def wX9_never (n : Nat) (v1 : Int32) (μ0 : qa_M) (Q : Int32 → qa_M → Prop) : Prop := wX9_layLeans n v1 μ0 (fun r1 μ1 => ((0 ≤ r1 → wX9_never_17 n (0 : Int32) (0 : Int32) μ1 (fun v3_6 μ5 => ((¬ (μ5.1 91 35) = 0 → wX9_houses n  μ5 (fun r8 μ8 => Q ((((1 : Int32) <<< (r8 &&& 31)) - (1 : Int32)) &&& (v3_6 ^^^ (-1 : Int32))) μ8)) ∧ ((μ5.1 91 35) = 0 → Q (-1 : Int32) μ5))) Q) ∧ (¬ 0 ≤ r1 → Q r1 μ1)))
theorem tX9_never_17 (l : Launch) {K0 : Int32 → qa_M → Prop} {Q : Int32 → qa_M → Prop} (hK0 : ∀ (v3 : Int32) (μ : qa_M), qa_PP μ.2.2 → K0 v3 μ → qa_G l yX9_never cX9_never 5 (some .int) 4 0 0 (qa_pI Q) 0 0 42 [some (.ref 91), none, none, some (.int v3), none] [] 113 μ) : ∀ (n : Nat) (v3 : Int32) (v4 : Int32) (μ0 : qa_M), qa_PP μ0.2.2 → wX9_never_17 n v3 v4 μ0 K0 Q → qa_G l yX9_never cX9_never 5 (some .int) 4 0 0 (qa_pI Q) 0 0 17 [some (.ref 91), none, none, some (.int v3), some (.int v4)] [] 113 μ0 := by
  intro n
  induction n with
  | zero =>
    intro v3 v4 μ0 hp0  h
    rw [wX9_never_17] at h
    exact h.elim
  | succ n ih =>
    intro v3 v4 μ0 hp0  h
    rw [wX9_never_17] at h
    refine qa_ild4 dX9_never_17 ?_
    refine qa_ald0 dX9_never_19 ?_
    refine qa_getI dX9_never_20 lf_X9_374 (Or.inl rfl) sh_91 (by decide) ?_
    refine qa_icmp_ge (tgt := 42) dX9_never_23 (by decide) (fun c3 => ?_) (fun c3 => ?_)
    · have h := h.1 c3
      refine qa_fgt (L' := [some (.ref 91), none, none, some (.int v3), none]) (⟨rfl, ⟨rfl, trivial⟩⟩) ?_
      exact hK0 v3 μ0 hp0  h
    · have h := h.2 c3
      refine qa_ild3 dX9_never_26 ?_
      refine qa_ald0 dX9_never_27 ?_
      refine qa_getR dX9_never_28 lf_X9_61 rfl sh_91 (by decide) (pp_91_33 hp0) (by decide) ?_
      refine qa_ild4 dX9_never_31 ?_
      refine qa_iald dX9_never_33 sh_107 (by decide) h.1 ?_
      have h := h.2
      refine qa_ior dX9_never_34 ?_
      refine qa_nmI (fun x4 e4 => ?_)
      have h := h x4 e4
      refine qa_ist3 dX9_never_35 ?_
      refine qa_inc4 dX9_never_36 (qa_io1 _) ?_
      refine qa_goto (tgt := 17) dX9_never_39 (by decide) ?_
      refine qa_fgt (L' := [some (.ref 91), none, none, some (.int x4), some (.int (v4 + (1 : Int32)))]) (⟨rfl, ⟨rfl, ⟨rfl, trivial⟩⟩⟩) ?_
      exact ih x4 (v4 + (1 : Int32)) μ0 hp0  h
theorem tX9_never (l : Launch) {n : Nat} {v1 : Int32} {μ0 : qa_M} {Q : Int32 → qa_M → Prop} (hp0 : qa_PP μ0.2.2)  (h : wX9_never n v1 μ0 Q) : qa_Met l yX9_never cX9_never 5 (some .int) 4 0 0 [.ref 91, .int v1] 113 μ0 (qa_pI Q) := by
  refine qa_ofG (by decide) (Nat.le_of_ble_eq_true rfl) ?_
  unfold wX9_never at h
  change qa_G l yX9_never cX9_never 5 (some .int) 4 0 0 (qa_pI Q) 0 0 0 [some (.ref 91), some (.int v1), none, none, none] [] 113 μ0
  refine qa_ald0 dX9_never_0 ?_
  refine qa_ild1 dX9_never_1 ?_
  refine qa_V1I dX9_never_2 lm_X9_377 sh_91 rfl (by decide) (by decide) (Nat.le_of_ble_eq_true rfl) (tX9_layLeans l hp0  h) (fun r1 μ1 hp1 h => ?_)
  refine qa_ist2 dX9_never_5 ?_
  refine qa_ild2 dX9_never_6 ?_
  refine qa_if_ge (tgt := 12) dX9_never_7 (by decide) (fun c2 => ?_) (fun c2 => ?_)
  · have h := h.1 c2
    refine qa_iconst (v := 0) dX9_never_12 (by decide) ?_
    refine qa_ist3 dX9_never_13 ?_
    refine qa_iconst (v := 0) dX9_never_14 (by decide) ?_
    refine qa_ist4 dX9_never_15 ?_
    refine qa_fgt (L' := [some (.ref 91), none, none, some (.int (0 : Int32)), some (.int (0 : Int32))]) (⟨rfl, ⟨rfl, ⟨rfl, trivial⟩⟩⟩) ?_
    refine tX9_never_17 l ?_ n (0 : Int32) (0 : Int32) μ1 hp1  h
    · intro v3_6 μ5 hp5  h
      refine qa_ald0 dX9_never_42 ?_
      refine qa_getI dX9_never_43 lf_X9_374 (Or.inl rfl) sh_91 (by decide) ?_
      refine qa_if_ne (tgt := 53) dX9_never_46 (by decide) (fun c7 => ?_) (fun c7 => ?_)
      · have h := h.1 c7
        refine qa_iconst (v := 1) dX9_never_53 (by decide) ?_
        refine qa_ald0 dX9_never_54 ?_
        refine qa_V0I dX9_never_55 lm_X9_100 sh_91 rfl (by decide) (by decide) (Nat.le_of_ble_eq_true rfl) (tX9_houses l hp5  h) (fun r8 μ8 hp8 h => ?_)
        refine qa_ishl dX9_never_58 ?_
        refine qa_iconst (v := 1) dX9_never_59 (by decide) ?_
        refine qa_isub dX9_never_60 ?_
        refine qa_ild3 dX9_never_61 ?_
        refine qa_iconst (v := -1) dX9_never_62 (by decide) ?_
        refine qa_ixor dX9_never_63 ?_
        refine qa_iand dX9_never_64 ?_
        exact qa_iret rfl dX9_never_65 ⟨rfl, rfl⟩ ⟨rfl, hp8, _, rfl, h⟩
      · have h := h.2 c7
        refine qa_iconst (v := -1) dX9_never_49 (by decide) ?_
        refine qa_goto (tgt := 65) dX9_never_50 (by decide) ?_
        exact qa_iret rfl dX9_never_65 ⟨rfl, rfl⟩ ⟨rfl, hp5, _, rfl, h⟩
  · have h := h.2 c2
    refine qa_ild2 dX9_never_10 ?_
    exact qa_iret rfl dX9_never_11 ⟨rfl, rfl⟩ ⟨rfl, hp1, _, rfl, h⟩
def wX9_noon_53 (n : Nat) (v1 : Int32) (v3 : Int32) (μ0 : qa_M) (K0 : Int32 → Int32 → Int32 → qa_M → Prop) (Q : Int32 → qa_M → Prop) : Prop := K0 v1 v3 (v3 + (1 : Int32)) μ0
def wX9_noon_15 : Nat → Int32 → Int32 → Int32 → qa_M → (Int32 → qa_M → Prop) → Prop
  | 0, _, _, _, _, _ => False
  | n + 1, v1, v2, v3, μ0, Q => wX9_houses n  μ0 (fun r3 μ3 => ((r3 ≤ v3 → Q v2 μ3) ∧ (¬ r3 ≤ v3 → ((v2 = (-1 : Int32) → wX9_noon_53 n v1 v3 μ3 (fun v1 v2 v3 μk => wX9_noon_15 n v1 v2 v3 μk Q) Q) ∧ (¬ v2 = (-1 : Int32) → wX9_placeOf n v3 v1 μ3 (fun r6 μ6 => vp_in r6 8 ∧ wX9_placeOf n v2 v1 μ6 (fun r7 μ7 => vp_in r7 8 ∧ (((μ6.1 98 r6.toNatClampNeg) ≤ (μ7.1 98 r7.toNatClampNeg) → wX9_noon_15 n v1 v2 (v3 + (1 : Int32)) μ7 Q) ∧ (¬ (μ6.1 98 r6.toNatClampNeg) ≤ (μ7.1 98 r7.toNatClampNeg) → wX9_noon_53 n v1 v3 μ7 (fun v1 v2 v3 μk => wX9_noon_15 n v1 v2 v3 μk Q) Q)))))))))
def wX9_noon (n : Nat) (v1 : Int32) (μ0 : qa_M) (Q : Int32 → qa_M → Prop) : Prop := wX9_asksWeek n v1 μ0 (fun r1 μ1 => ((¬ r1 = 0 → wX9_noon_15 n v1 (-1 : Int32) (0 : Int32) μ1  Q) ∧ (r1 = 0 → Q (-2 : Int32) μ1)))
theorem tX9_noon_53 (l : Launch) {K0 : Int32 → Int32 → Int32 → qa_M → Prop} {Q : Int32 → qa_M → Prop} (hK0 : ∀ (v1 : Int32) (v2 : Int32) (v3 : Int32) (μ : qa_M), qa_PP μ.2.2 → K0 v1 v2 v3 μ → qa_G l yX9_noon cX9_noon 4 (some .int) 5 0 0 (qa_pI Q) 0 0 15 [some (.ref 91), some (.int v1), some (.int v2), some (.int v3)] [] 113 μ) : ∀ (n : Nat) (v1 : Int32) (v3 : Int32) (μ0 : qa_M), qa_PP μ0.2.2 → wX9_noon_53 n v1 v3 μ0 K0 Q → qa_G l yX9_noon cX9_noon 4 (some .int) 5 0 0 (qa_pI Q) 0 0 53 [some (.ref 91), some (.int v1), none, some (.int v3)] [] 113 μ0 := by
  intro n
  intro v1 v3 μ0 hp0  h
  unfold wX9_noon_53 at h
  refine qa_ild3 dX9_noon_53 ?_
  refine qa_ist2 dX9_noon_54 ?_
  refine qa_inc3 dX9_noon_55 (qa_io1 _) ?_
  refine qa_goto (tgt := 15) dX9_noon_58 (by decide) ?_
  refine qa_fgt (L' := [some (.ref 91), some (.int v1), some (.int v3), some (.int (v3 + (1 : Int32)))]) (⟨rfl, ⟨rfl, ⟨rfl, ⟨rfl, trivial⟩⟩⟩⟩) ?_
  exact hK0 v1 v3 (v3 + (1 : Int32)) μ0 hp0  h
theorem tX9_noon_15 (l : Launch)  {Q : Int32 → qa_M → Prop}  : ∀ (n : Nat) (v1 : Int32) (v2 : Int32) (v3 : Int32) (μ0 : qa_M), qa_PP μ0.2.2 → wX9_noon_15 n v1 v2 v3 μ0  Q → qa_G l yX9_noon cX9_noon 4 (some .int) 5 0 0 (qa_pI Q) 0 0 15 [some (.ref 91), some (.int v1), some (.int v2), some (.int v3)] [] 113 μ0 := by
  intro n
  induction n with
  | zero =>
    intro v1 v2 v3 μ0 hp0  h
    rw [wX9_noon_15] at h
    exact h.elim
  | succ n ih =>
    intro v1 v2 v3 μ0 hp0  h
    rw [wX9_noon_15] at h
    refine qa_ild3 dX9_noon_15 ?_
    refine qa_ald0 dX9_noon_16 ?_
    refine qa_V0I dX9_noon_17 lm_X9_100 sh_91 rfl (by decide) (by decide) (Nat.le_of_ble_eq_true rfl) (tX9_houses l hp0  h) (fun r3 μ3 hp3 h => ?_)
    refine qa_icmp_ge (tgt := 61) dX9_noon_20 (by decide) (fun c4 => ?_) (fun c4 => ?_)
    · have h := h.1 c4
      refine qa_ild2 dX9_noon_61 ?_
      exact qa_iret rfl dX9_noon_62 ⟨rfl, rfl⟩ ⟨rfl, hp3, _, rfl, h⟩
    · have h := h.2 c4
      refine qa_ild2 dX9_noon_23 ?_
      refine qa_iconst (v := -1) dX9_noon_24 (by decide) ?_
      refine qa_icmp_eq (tgt := 53) dX9_noon_25 (by decide) (fun c5 => ?_) (fun c5 => ?_)
      · have h := h.1 c5
        refine qa_fgt (L' := [some (.ref 91), some (.int v1), none, some (.int v3)]) (⟨rfl, ⟨rfl, ⟨rfl, trivial⟩⟩⟩) ?_
        refine tX9_noon_53 l ih n v1 v3 μ3 hp3  h
      · have h := h.2 c5
        refine qa_ald0 dX9_noon_28 ?_
        refine qa_getR dX9_noon_29 lf_X9_34 rfl sh_91 (by decide) (pp_91_15 hp3) (by decide) ?_
        refine qa_ald0 dX9_noon_32 ?_
        refine qa_ild3 dX9_noon_33 ?_
        refine qa_ild1 dX9_noon_34 ?_
        refine qa_V2I dX9_noon_35 lm_X9_261 sh_91 rfl (by decide) (by decide) (Nat.le_of_ble_eq_true rfl) (tX9_placeOf l hp3  h) (fun r6 μ6 hp6 h => ?_)
        refine qa_iald dX9_noon_38 sh_98 (by decide) h.1 ?_
        have h := h.2
        refine qa_ald0 dX9_noon_39 ?_
        refine qa_getR dX9_noon_40 lf_X9_34 rfl sh_91 (by decide) (pp_91_15 hp6) (by decide) ?_
        refine qa_ald0 dX9_noon_43 ?_
        refine qa_ild2 dX9_noon_44 ?_
        refine qa_ild1 dX9_noon_45 ?_
        refine qa_V2I dX9_noon_46 lm_X9_261 sh_91 rfl (by decide) (by decide) (Nat.le_of_ble_eq_true rfl) (tX9_placeOf l hp6  h) (fun r7 μ7 hp7 h => ?_)
        refine qa_iald dX9_noon_49 sh_98 (by decide) h.1 ?_
        have h := h.2
        refine qa_icmp_le (tgt := 55) dX9_noon_50 (by decide) (fun c8 => ?_) (fun c8 => ?_)
        · have h := h.1 c8
          refine qa_inc3 dX9_noon_55 (qa_io1 _) ?_
          refine qa_goto (tgt := 15) dX9_noon_58 (by decide) ?_
          refine qa_fgt (L' := [some (.ref 91), some (.int v1), some (.int v2), some (.int (v3 + (1 : Int32)))]) (⟨rfl, ⟨rfl, ⟨rfl, ⟨rfl, trivial⟩⟩⟩⟩) ?_
          exact ih v1 v2 (v3 + (1 : Int32)) μ7 hp7  h
        · have h := h.2 c8
          refine qa_fgt (L' := [some (.ref 91), some (.int v1), none, some (.int v3)]) (⟨rfl, ⟨rfl, ⟨rfl, trivial⟩⟩⟩) ?_
          refine tX9_noon_53 l ih n v1 v3 μ7 hp7  h
theorem tX9_noon (l : Launch) {n : Nat} {v1 : Int32} {μ0 : qa_M} {Q : Int32 → qa_M → Prop} (hp0 : qa_PP μ0.2.2)  (h : wX9_noon n v1 μ0 Q) : qa_Met l yX9_noon cX9_noon 4 (some .int) 5 0 0 [.ref 91, .int v1] 113 μ0 (qa_pI Q) := by
  refine qa_ofG (by decide) (Nat.le_of_ble_eq_true rfl) ?_
  unfold wX9_noon at h
  change qa_G l yX9_noon cX9_noon 4 (some .int) 5 0 0 (qa_pI Q) 0 0 0 [some (.ref 91), some (.int v1), none, none] [] 113 μ0
  refine qa_ald0 dX9_noon_0 ?_
  refine qa_ild1 dX9_noon_1 ?_
  refine qa_V1I dX9_noon_2 lm_X9_292 sh_91 rfl (by decide) (by decide) (Nat.le_of_ble_eq_true rfl) (tX9_asksWeek l hp0  h) (fun r1 μ1 hp1 h => ?_)
  refine qa_if_ne (tgt := 11) dX9_noon_5 (by decide) (fun c2 => ?_) (fun c2 => ?_)
  · have h := h.1 c2
    refine qa_iconst (v := -1) dX9_noon_11 (by decide) ?_
    refine qa_ist2 dX9_noon_12 ?_
    refine qa_iconst (v := 0) dX9_noon_13 (by decide) ?_
    refine qa_ist3 dX9_noon_14 ?_
    refine qa_fgt (L' := [some (.ref 91), some (.int v1), some (.int (-1 : Int32)), some (.int (0 : Int32))]) (⟨rfl, ⟨rfl, ⟨rfl, ⟨rfl, trivial⟩⟩⟩⟩) ?_
    refine tX9_noon_15 l  n v1 (-1 : Int32) (0 : Int32) μ1 hp1  h
  · have h := h.2 c2
    refine qa_bipush (v := -2) dX9_noon_8 (by decide) ?_
    exact qa_iret rfl dX9_noon_10 ⟨rfl, rfl⟩ ⟨rfl, hp1, _, rfl, h⟩
def wX9_nose_15 : Nat → Int32 → Int32 → Int32 → qa_M → (Int32 → qa_M → Prop) → Prop
  | 0, _, _, _, _, _ => False
  | n + 1, v1, v2, v3, μ0, Q => wX9_weeks n  μ0 (fun r3 μ3 => ((r3 < v3 → Q v2 μ3) ∧ (¬ r3 < v3 → wX9_placeOf n v1 v3 μ3 (fun r5 μ5 => vp_in r5 8 ∧ ∀ x6, x6 = (v2 + (μ5.1 99 r5.toNatClampNeg)) → wX9_nose_15 n v1 x6 (v3 + (1 : Int32)) μ5 Q))))
def wX9_nose (n : Nat) (v1 : Int32) (μ0 : qa_M) (Q : Int32 → qa_M → Prop) : Prop := wX9_asksHouse n v1 μ0 (fun r1 μ1 => ((¬ r1 = 0 → wX9_nose_15 n v1 (0 : Int32) (0 : Int32) μ1  Q) ∧ (r1 = 0 → Q (-2 : Int32) μ1)))
theorem tX9_nose_15 (l : Launch)  {Q : Int32 → qa_M → Prop}  : ∀ (n : Nat) (v1 : Int32) (v2 : Int32) (v3 : Int32) (μ0 : qa_M), qa_PP μ0.2.2 → wX9_nose_15 n v1 v2 v3 μ0  Q → qa_G l yX9_nose cX9_nose 4 (some .int) 5 0 0 (qa_pI Q) 0 0 15 [some (.ref 91), some (.int v1), some (.int v2), some (.int v3)] [] 113 μ0 := by
  intro n
  induction n with
  | zero =>
    intro v1 v2 v3 μ0 hp0  h
    rw [wX9_nose_15] at h
    exact h.elim
  | succ n ih =>
    intro v1 v2 v3 μ0 hp0  h
    rw [wX9_nose_15] at h
    refine qa_ild3 dX9_nose_15 ?_
    refine qa_ald0 dX9_nose_16 ?_
    refine qa_V0I dX9_nose_17 lm_X9_96 sh_91 rfl (by decide) (by decide) (Nat.le_of_ble_eq_true rfl) (tX9_weeks l hp0  h) (fun r3 μ3 hp3 h => ?_)
    refine qa_icmp_gt (tgt := 43) dX9_nose_20 (by decide) (fun c4 => ?_) (fun c4 => ?_)
    · have h := h.1 c4
      refine qa_ild2 dX9_nose_43 ?_
      exact qa_iret rfl dX9_nose_44 ⟨rfl, rfl⟩ ⟨rfl, hp3, _, rfl, h⟩
    · have h := h.2 c4
      refine qa_ild2 dX9_nose_23 ?_
      refine qa_ald0 dX9_nose_24 ?_
      refine qa_getR dX9_nose_25 lf_X9_37 rfl sh_91 (by decide) (pp_91_16 hp3) (by decide) ?_
      refine qa_ald0 dX9_nose_28 ?_
      refine qa_ild1 dX9_nose_29 ?_
      refine qa_ild3 dX9_nose_30 ?_
      refine qa_V2I dX9_nose_31 lm_X9_261 sh_91 rfl (by decide) (by decide) (Nat.le_of_ble_eq_true rfl) (tX9_placeOf l hp3  h) (fun r5 μ5 hp5 h => ?_)
      refine qa_iald dX9_nose_34 sh_99 (by decide) h.1 ?_
      have h := h.2
      refine qa_iadd dX9_nose_35 ?_
      refine qa_nmI (fun x6 e6 => ?_)
      have h := h x6 e6
      refine qa_ist2 dX9_nose_36 ?_
      refine qa_inc3 dX9_nose_37 (qa_io1 _) ?_
      refine qa_goto (tgt := 15) dX9_nose_40 (by decide) ?_
      refine qa_fgt (L' := [some (.ref 91), some (.int v1), some (.int x6), some (.int (v3 + (1 : Int32)))]) (⟨rfl, ⟨rfl, ⟨rfl, ⟨rfl, trivial⟩⟩⟩⟩) ?_
      exact ih v1 x6 (v3 + (1 : Int32)) μ5 hp5  h
theorem tX9_nose (l : Launch) {n : Nat} {v1 : Int32} {μ0 : qa_M} {Q : Int32 → qa_M → Prop} (hp0 : qa_PP μ0.2.2)  (h : wX9_nose n v1 μ0 Q) : qa_Met l yX9_nose cX9_nose 4 (some .int) 5 0 0 [.ref 91, .int v1] 113 μ0 (qa_pI Q) := by
  refine qa_ofG (by decide) (Nat.le_of_ble_eq_true rfl) ?_
  unfold wX9_nose at h
  change qa_G l yX9_nose cX9_nose 4 (some .int) 5 0 0 (qa_pI Q) 0 0 0 [some (.ref 91), some (.int v1), none, none] [] 113 μ0
  refine qa_ald0 dX9_nose_0 ?_
  refine qa_ild1 dX9_nose_1 ?_
  refine qa_V1I dX9_nose_2 lm_X9_307 sh_91 rfl (by decide) (by decide) (Nat.le_of_ble_eq_true rfl) (tX9_asksHouse l hp0  h) (fun r1 μ1 hp1 h => ?_)
  refine qa_if_ne (tgt := 11) dX9_nose_5 (by decide) (fun c2 => ?_) (fun c2 => ?_)
  · have h := h.1 c2
    refine qa_iconst (v := 0) dX9_nose_11 (by decide) ?_
    refine qa_ist2 dX9_nose_12 ?_
    refine qa_iconst (v := 0) dX9_nose_13 (by decide) ?_
    refine qa_ist3 dX9_nose_14 ?_
    refine qa_fgt (L' := [some (.ref 91), some (.int v1), some (.int (0 : Int32)), some (.int (0 : Int32))]) (⟨rfl, ⟨rfl, ⟨rfl, ⟨rfl, trivial⟩⟩⟩⟩) ?_
    refine tX9_nose_15 l  n v1 (0 : Int32) (0 : Int32) μ1 hp1  h
  · have h := h.2 c2
    refine qa_bipush (v := -2) dX9_nose_8 (by decide) ?_
    exact qa_iret rfl dX9_nose_10 ⟨rfl, rfl⟩ ⟨rfl, hp1, _, rfl, h⟩
def wX9_number_47 (n : Nat)  (μ0 : qa_M)  (Q : Int32 → qa_M → Prop) : Prop := wX9_good n  μ0 (fun r5 μ5 => ((¬ r5 = 0 → ∀ x7, x7 = (μ5.1 91 11) → wX9_advance n  μ5 (fun μ8 => Q x7 μ8)) ∧ (r5 = 0 → Q (0 : Int32) μ5)))
def wX9_number_20 (n : Nat) (v1 : Int32) (v2 : Int32) (μ0 : qa_M)  (Q : Int32 → qa_M → Prop) : Prop := wX9_good n  μ0 (fun r3 μ3 => ((r3 = 0 → wX9_number_47 n  μ3  Q) ∧ (¬ r3 = 0 → wX9_in n (μ3.1 91 11).toInt64 v1.toInt64 v2.toInt64 μ3 (fun r9 μ9 => ((¬ r9 = 0 → wX9_number_47 n  μ9  Q) ∧ (r9 = 0 → wX9_errs n (2 : Int32) μ9 (fun μ11 => wX9_number_47 n  μ11  Q)))))))
def wX9_number (n : Nat) (v1 : Int32) (v2 : Int32) (μ0 : qa_M) (Q : Int32 → qa_M → Prop) : Prop := wX9_good n  μ0 (fun r1 μ1 => ((r1 = 0 → wX9_number_20 n v1 v2 μ1  Q) ∧ (¬ r1 = 0 → (((μ1.1 91 10) = (2 : Int32) → wX9_number_20 n v1 v2 μ1  Q) ∧ (¬ (μ1.1 91 10) = (2 : Int32) → wX9_errs n (1 : Int32) μ1 (fun μ13 => wX9_number_20 n v1 v2 μ13  Q))))))
theorem tX9_number_47 (l : Launch)  {Q : Int32 → qa_M → Prop}  : ∀ (n : Nat)  (μ0 : qa_M), qa_PP μ0.2.2 → wX9_number_47 n  μ0  Q → qa_G l yX9_number cX9_number 4 (some .int) 2 0 0 (qa_pI Q) 0 0 47 [some (.ref 91), none, none, none] [] 113 μ0 := by
  intro n
  intro  μ0 hp0  h
  unfold wX9_number_47 at h
  refine qa_ald0 dX9_number_47 ?_
  refine qa_V0I dX9_number_48 lm_X9_147 sh_91 rfl (by decide) (by decide) (Nat.le_of_ble_eq_true rfl) (tX9_good l hp0  h) (fun r5 μ5 hp5 h => ?_)
  refine qa_if_ne (tgt := 56) dX9_number_51 (by decide) (fun c6 => ?_) (fun c6 => ?_)
  · have h := h.1 c6
    refine qa_ald0 dX9_number_56 ?_
    refine qa_getI dX9_number_57 lf_X9_134 (Or.inl rfl) sh_91 (by decide) ?_
    refine qa_nmI (fun x7 e7 => ?_)
    have h := h x7 e7
    refine qa_ist3 dX9_number_60 ?_
    refine qa_ald0 dX9_number_61 ?_
    refine qa_V0V dX9_number_62 lm_X9_163 sh_91 rfl (by decide) (by decide) (Nat.le_of_ble_eq_true rfl) (tX9_advance l hp5  h) (fun μ8 hp8 h => ?_)
    refine qa_ild3 dX9_number_65 ?_
    exact qa_iret rfl dX9_number_66 ⟨rfl, rfl⟩ ⟨rfl, hp8, _, rfl, h⟩
  · have h := h.2 c6
    refine qa_iconst (v := 0) dX9_number_54 (by decide) ?_
    exact qa_iret rfl dX9_number_55 ⟨rfl, rfl⟩ ⟨rfl, hp5, _, rfl, h⟩
theorem tX9_number_20 (l : Launch)  {Q : Int32 → qa_M → Prop}  : ∀ (n : Nat) (v1 : Int32) (v2 : Int32) (μ0 : qa_M), qa_PP μ0.2.2 → wX9_number_20 n v1 v2 μ0  Q → qa_G l yX9_number cX9_number 4 (some .int) 2 0 0 (qa_pI Q) 0 0 20 [some (.ref 91), some (.int v1), some (.int v2), none] [] 113 μ0 := by
  intro n
  intro v1 v2 μ0 hp0  h
  unfold wX9_number_20 at h
  refine qa_ald0 dX9_number_20 ?_
  refine qa_V0I dX9_number_21 lm_X9_147 sh_91 rfl (by decide) (by decide) (Nat.le_of_ble_eq_true rfl) (tX9_good l hp0  h) (fun r3 μ3 hp3 h => ?_)
  refine qa_if_eq (tgt := 47) dX9_number_24 (by decide) (fun c4 => ?_) (fun c4 => ?_)
  · have h := h.1 c4
    refine qa_fgt (L' := [some (.ref 91), none, none, none]) (⟨rfl, trivial⟩) ?_
    refine tX9_number_47 l  n  μ3 hp3  h
  · have h := h.2 c4
    refine qa_ald0 dX9_number_27 ?_
    refine qa_getI dX9_number_28 lf_X9_134 (Or.inl rfl) sh_91 (by decide) ?_
    refine qa_i2l dX9_number_31 ?_
    refine qa_ild1 dX9_number_32 ?_
    refine qa_i2l dX9_number_33 ?_
    refine qa_ild2 dX9_number_34 ?_
    refine qa_i2l dX9_number_35 ?_
    refine qa_S3I dX9_number_36 lm_X9_88  (by decide) (Nat.le_of_ble_eq_true rfl) (tX9_in l hp3  h) (fun r9 μ9 hp9 h => ?_)
    refine qa_if_ne (tgt := 47) dX9_number_39 (by decide) (fun c10 => ?_) (fun c10 => ?_)
    · have h := h.1 c10
      refine qa_fgt (L' := [some (.ref 91), none, none, none]) (⟨rfl, trivial⟩) ?_
      refine tX9_number_47 l  n  μ9 hp9  h
    · have h := h.2 c10
      refine qa_ald0 dX9_number_42 ?_
      refine qa_iconst (v := 2) dX9_number_43 (by decide) ?_
      refine qa_V1V dX9_number_44 lm_X9_169 sh_91 rfl (by decide) (by decide) (Nat.le_of_ble_eq_true rfl) (tX9_errs l hp9  h) (fun μ11 hp11 h => ?_)
      refine qa_fgt (L' := [some (.ref 91), none, none, none]) (⟨rfl, trivial⟩) ?_
      refine tX9_number_47 l  n  μ11 hp11  h
theorem tX9_number (l : Launch) {n : Nat} {v1 : Int32} {v2 : Int32} {μ0 : qa_M} {Q : Int32 → qa_M → Prop} (hp0 : qa_PP μ0.2.2)  (h : wX9_number n v1 v2 μ0 Q) : qa_Met l yX9_number cX9_number 4 (some .int) 2 0 0 [.ref 91, .int v1, .int v2] 113 μ0 (qa_pI Q) := by
  refine qa_ofG (by decide) (Nat.le_of_ble_eq_true rfl) ?_
  unfold wX9_number at h
  change qa_G l yX9_number cX9_number 4 (some .int) 2 0 0 (qa_pI Q) 0 0 0 [some (.ref 91), some (.int v1), some (.int v2), none] [] 113 μ0
  refine qa_ald0 dX9_number_0 ?_
  refine qa_V0I dX9_number_1 lm_X9_147 sh_91 rfl (by decide) (by decide) (Nat.le_of_ble_eq_true rfl) (tX9_good l hp0  h) (fun r1 μ1 hp1 h => ?_)
  refine qa_if_eq (tgt := 20) dX9_number_4 (by decide) (fun c2 => ?_) (fun c2 => ?_)
  · have h := h.1 c2
    refine qa_fgt (L' := [some (.ref 91), some (.int v1), some (.int v2), none]) (⟨rfl, ⟨rfl, ⟨rfl, trivial⟩⟩⟩) ?_
    refine tX9_number_20 l  n v1 v2 μ1 hp1  h
  · have h := h.2 c2
    refine qa_ald0 dX9_number_7 ?_
    refine qa_getI dX9_number_8 lf_X9_123 (Or.inl rfl) sh_91 (by decide) ?_
    refine qa_iconst (v := 2) dX9_number_11 (by decide) ?_
    refine qa_icmp_eq (tgt := 20) dX9_number_12 (by decide) (fun c12 => ?_) (fun c12 => ?_)
    · have h := h.1 c12
      refine qa_fgt (L' := [some (.ref 91), some (.int v1), some (.int v2), none]) (⟨rfl, ⟨rfl, ⟨rfl, trivial⟩⟩⟩) ?_
      refine tX9_number_20 l  n v1 v2 μ1 hp1  h
    · have h := h.2 c12
      refine qa_ald0 dX9_number_15 ?_
      refine qa_iconst (v := 1) dX9_number_16 (by decide) ?_
      refine qa_V1V dX9_number_17 lm_X9_169 sh_91 rfl (by decide) (by decide) (Nat.le_of_ble_eq_true rfl) (tX9_errs l hp1  h) (fun μ13 hp13 h => ?_)
      refine qa_fgt (L' := [some (.ref 91), some (.int v1), some (.int v2), none]) (⟨rfl, ⟨rfl, ⟨rfl, trivial⟩⟩⟩) ?_
      refine tX9_number_20 l  n v1 v2 μ13 hp13  h
def wX9_often_51 (n : Nat) (v1 : Int32) (v2 : Int32) (v4 : Int32) (s0 : Int32) (s1 : Int32) (μ0 : qa_M) (K0 : Int32 → Int32 → Int32 → Int32 → qa_M → Prop) (Q : Int32 → qa_M → Prop) : Prop := ∀ x9, x9 = (s1 + s0) → K0 v1 v2 x9 (v4 + (1 : Int32)) μ0
def wX9_often_25 : Nat → Int32 → Int32 → Int32 → Int32 → qa_M → (Int32 → qa_M → Prop) → Prop
  | 0, _, _, _, _, _, _ => False
  | n + 1, v1, v2, v3, v4, μ0, Q => wX9_weeks n  μ0 (fun r5 μ5 => ((r5 < v4 → Q v3 μ5) ∧ (¬ r5 < v4 → wX9_placeOf n v1 v4 μ5 (fun r7 μ7 => ((¬ r7 = v2 → wX9_often_51 n v1 v2 v4 (0 : Int32) v3 μ7 (fun v1 v2 v3 v4 μk => wX9_often_25 n v1 v2 v3 v4 μk Q) Q) ∧ (r7 = v2 → wX9_often_51 n v1 v2 v4 (1 : Int32) v3 μ7 (fun v1 v2 v3 v4 μk => wX9_often_25 n v1 v2 v3 v4 μk Q) Q))))))
def wX9_often (n : Nat) (v1 : Int32) (v2 : Int32) (μ0 : qa_M) (Q : Int32 → qa_M → Prop) : Prop := wX9_asksHouse n v1 μ0 (fun r1 μ1 => ((r1 = 0 → Q (-2 : Int32) μ1) ∧ (¬ r1 = 0 → wX9_isPlace n v2.toInt64 μ1 (fun r3 μ3 => ((¬ r3 = 0 → wX9_often_25 n v1 v2 (0 : Int32) (0 : Int32) μ3  Q) ∧ (r3 = 0 → Q (-2 : Int32) μ3))))))
theorem tX9_often_51 (l : Launch) {K0 : Int32 → Int32 → Int32 → Int32 → qa_M → Prop} {Q : Int32 → qa_M → Prop} (hK0 : ∀ (v1 : Int32) (v2 : Int32) (v3 : Int32) (v4 : Int32) (μ : qa_M), qa_PP μ.2.2 → K0 v1 v2 v3 v4 μ → qa_G l yX9_often cX9_often 5 (some .int) 5 0 0 (qa_pI Q) 0 0 25 [some (.ref 91), some (.int v1), some (.int v2), some (.int v3), some (.int v4)] [] 113 μ) : ∀ (n : Nat) (v1 : Int32) (v2 : Int32) (v4 : Int32) (s0 : Int32) (s1 : Int32) (μ0 : qa_M), qa_PP μ0.2.2 → wX9_often_51 n v1 v2 v4 s0 s1 μ0 K0 Q → qa_G l yX9_often cX9_often 5 (some .int) 5 0 0 (qa_pI Q) 0 0 51 [some (.ref 91), some (.int v1), some (.int v2), none, some (.int v4)] [.int s0, .int s1] 113 μ0 := by
  intro n
  intro v1 v2 v4 s0 s1 μ0 hp0  h
  unfold wX9_often_51 at h
  refine qa_iadd dX9_often_51 ?_
  refine qa_nmI (fun x9 e9 => ?_)
  have h := h x9 e9
  refine qa_ist3 dX9_often_52 ?_
  refine qa_inc4 dX9_often_53 (qa_io1 _) ?_
  refine qa_goto (tgt := 25) dX9_often_56 (by decide) ?_
  refine qa_fgt (L' := [some (.ref 91), some (.int v1), some (.int v2), some (.int x9), some (.int (v4 + (1 : Int32)))]) (⟨rfl, ⟨rfl, ⟨rfl, ⟨rfl, ⟨rfl, trivial⟩⟩⟩⟩⟩) ?_
  exact hK0 v1 v2 x9 (v4 + (1 : Int32)) μ0 hp0  h
theorem tX9_often_25 (l : Launch)  {Q : Int32 → qa_M → Prop}  : ∀ (n : Nat) (v1 : Int32) (v2 : Int32) (v3 : Int32) (v4 : Int32) (μ0 : qa_M), qa_PP μ0.2.2 → wX9_often_25 n v1 v2 v3 v4 μ0  Q → qa_G l yX9_often cX9_often 5 (some .int) 5 0 0 (qa_pI Q) 0 0 25 [some (.ref 91), some (.int v1), some (.int v2), some (.int v3), some (.int v4)] [] 113 μ0 := by
  intro n
  induction n with
  | zero =>
    intro v1 v2 v3 v4 μ0 hp0  h
    rw [wX9_often_25] at h
    exact h.elim
  | succ n ih =>
    intro v1 v2 v3 v4 μ0 hp0  h
    rw [wX9_often_25] at h
    refine qa_ild4 dX9_often_25 ?_
    refine qa_ald0 dX9_often_27 ?_
    refine qa_V0I dX9_often_28 lm_X9_96 sh_91 rfl (by decide) (by decide) (Nat.le_of_ble_eq_true rfl) (tX9_weeks l hp0  h) (fun r5 μ5 hp5 h => ?_)
    refine qa_icmp_gt (tgt := 59) dX9_often_31 (by decide) (fun c6 => ?_) (fun c6 => ?_)
    · have h := h.1 c6
      refine qa_ild3 dX9_often_59 ?_
      exact qa_iret rfl dX9_often_60 ⟨rfl, rfl⟩ ⟨rfl, hp5, _, rfl, h⟩
    · have h := h.2 c6
      refine qa_ild3 dX9_often_34 ?_
      refine qa_ald0 dX9_often_35 ?_
      refine qa_ild1 dX9_often_36 ?_
      refine qa_ild4 dX9_often_37 ?_
      refine qa_V2I dX9_often_39 lm_X9_261 sh_91 rfl (by decide) (by decide) (Nat.le_of_ble_eq_true rfl) (tX9_placeOf l hp5  h) (fun r7 μ7 hp7 h => ?_)
      refine qa_ild2 dX9_often_42 ?_
      refine qa_icmp_ne (tgt := 50) dX9_often_43 (by decide) (fun c8 => ?_) (fun c8 => ?_)
      · have h := h.1 c8
        refine qa_iconst (v := 0) dX9_often_50 (by decide) ?_
        refine qa_fgt (L' := [some (.ref 91), some (.int v1), some (.int v2), none, some (.int v4)]) (⟨rfl, ⟨rfl, ⟨rfl, ⟨rfl, trivial⟩⟩⟩⟩) ?_
        refine tX9_often_51 l ih n v1 v2 v4 (0 : Int32) v3 μ7 hp7  h
      · have h := h.2 c8
        refine qa_iconst (v := 1) dX9_often_46 (by decide) ?_
        refine qa_goto (tgt := 51) dX9_often_47 (by decide) ?_
        refine qa_fgt (L' := [some (.ref 91), some (.int v1), some (.int v2), none, some (.int v4)]) (⟨rfl, ⟨rfl, ⟨rfl, ⟨rfl, trivial⟩⟩⟩⟩) ?_
        refine tX9_often_51 l ih n v1 v2 v4 (1 : Int32) v3 μ7 hp7  h
theorem tX9_often (l : Launch) {n : Nat} {v1 : Int32} {v2 : Int32} {μ0 : qa_M} {Q : Int32 → qa_M → Prop} (hp0 : qa_PP μ0.2.2)  (h : wX9_often n v1 v2 μ0 Q) : qa_Met l yX9_often cX9_often 5 (some .int) 5 0 0 [.ref 91, .int v1, .int v2] 113 μ0 (qa_pI Q) := by
  refine qa_ofG (by decide) (Nat.le_of_ble_eq_true rfl) ?_
  unfold wX9_often at h
  change qa_G l yX9_often cX9_often 5 (some .int) 5 0 0 (qa_pI Q) 0 0 0 [some (.ref 91), some (.int v1), some (.int v2), none, none] [] 113 μ0
  refine qa_ald0 dX9_often_0 ?_
  refine qa_ild1 dX9_often_1 ?_
  refine qa_V1I dX9_often_2 lm_X9_307 sh_91 rfl (by decide) (by decide) (Nat.le_of_ble_eq_true rfl) (tX9_asksHouse l hp0  h) (fun r1 μ1 hp1 h => ?_)
  refine qa_if_eq (tgt := 17) dX9_often_5 (by decide) (fun c2 => ?_) (fun c2 => ?_)
  · have h := h.1 c2
    refine qa_bipush (v := -2) dX9_often_17 (by decide) ?_
    exact qa_iret rfl dX9_often_19 ⟨rfl, rfl⟩ ⟨rfl, hp1, _, rfl, h⟩
  · have h := h.2 c2
    refine qa_ald0 dX9_often_8 ?_
    refine qa_ild2 dX9_often_9 ?_
    refine qa_i2l dX9_often_10 ?_
    refine qa_V1I dX9_often_11 lm_X9_254 sh_91 rfl (by decide) (by decide) (Nat.le_of_ble_eq_true rfl) (tX9_isPlace l hp1  h) (fun r3 μ3 hp3 h => ?_)
    refine qa_if_ne (tgt := 20) dX9_often_14 (by decide) (fun c4 => ?_) (fun c4 => ?_)
    · have h := h.1 c4
      refine qa_iconst (v := 0) dX9_often_20 (by decide) ?_
      refine qa_ist3 dX9_often_21 ?_
      refine qa_iconst (v := 0) dX9_often_22 (by decide) ?_
      refine qa_ist4 dX9_often_23 ?_
      refine qa_fgt (L' := [some (.ref 91), some (.int v1), some (.int v2), some (.int (0 : Int32)), some (.int (0 : Int32))]) (⟨rfl, ⟨rfl, ⟨rfl, ⟨rfl, ⟨rfl, trivial⟩⟩⟩⟩⟩) ?_
      refine tX9_often_25 l  n v1 v2 (0 : Int32) (0 : Int32) μ3 hp3  h
    · have h := h.2 c4
      refine qa_bipush (v := -2) dX9_often_17 (by decide) ?_
      exact qa_iret rfl dX9_often_19 ⟨rfl, rfl⟩ ⟨rfl, hp3, _, rfl, h⟩
def wX9_pale (n : Nat)  (μ0 : qa_M) (Q : Int32 → qa_M → Prop) : Prop := wX9_asksTown n  μ0 (fun r1 μ1 => ((r1 = 0 → Q (-2 : Int32) μ1) ∧ (¬ r1 = 0 → wX9_paleOf n  μ1 (fun r3 μ3 => Q r3 μ3))))
theorem tX9_pale (l : Launch) {n : Nat}  {μ0 : qa_M} {Q : Int32 → qa_M → Prop} (hp0 : qa_PP μ0.2.2)  (h : wX9_pale n  μ0 Q) : qa_Met l yX9_pale cX9_pale 1 (some .int) 4 0 0 [.ref 91] 113 μ0 (qa_pI Q) := by
  refine qa_ofG (by decide) (Nat.le_of_ble_eq_true rfl) ?_
  unfold wX9_pale at h
  change qa_G l yX9_pale cX9_pale 1 (some .int) 4 0 0 (qa_pI Q) 0 0 0 [some (.ref 91)] [] 113 μ0
  refine qa_ald0 dX9_pale_0 ?_
  refine qa_V0I dX9_pale_1 lm_X9_283 sh_91 rfl (by decide) (by decide) (Nat.le_of_ble_eq_true rfl) (tX9_asksTown l hp0  h) (fun r1 μ1 hp1 h => ?_)
  refine qa_if_eq (tgt := 14) dX9_pale_4 (by decide) (fun c2 => ?_) (fun c2 => ?_)
  · have h := h.1 c2
    refine qa_bipush (v := -2) dX9_pale_14 (by decide) ?_
    exact qa_iret rfl dX9_pale_16 ⟨rfl, rfl⟩ ⟨rfl, hp1, _, rfl, h⟩
  · have h := h.2 c2
    refine qa_ald0 dX9_pale_7 ?_
    refine qa_V0I dX9_pale_8 lm_X9_319 sh_91 rfl (by decide) (by decide) (Nat.le_of_ble_eq_true rfl) (tX9_paleOf l hp1  h) (fun r3 μ3 hp3 h => ?_)
    refine qa_goto (tgt := 16) dX9_pale_11 (by decide) ?_
    exact qa_iret rfl dX9_pale_16 ⟨rfl, rfl⟩ ⟨rfl, hp3, _, rfl, h⟩
def wX9_paste_113 : Nat → Int32 → Int32 → Int32 → Int32 → Int32 → Int32 → qa_M → (Int32 → Int32 → Int32 → qa_M → Prop) → (Int32 → qa_M → Prop) → Prop
  | 0, _, _, _, _, _, _, _, _, _ => False
  | n + 1, v1, v2, v3, v4, v5, v6, μ0, K0, Q => ((v5 ≤ v6 → K0 v3 v4 v5 μ0) ∧ (¬ v5 ≤ v6 → vp_in ((((60 : Int32) * v1) + v2) + v6) 240 ∧ vp_in v6 60 ∧ ∀ μ14, μ14 = qa_uJ μ0 113 v6.toNatClampNeg (μ0.2.1 112 ((((60 : Int32) * v1) + v2) + v6).toNatClampNeg) → wX9_paste_113 n v1 v2 v3 v4 v5 (v6 + (1 : Int32)) μ14 K0 Q))
def wX9_paste_150 : Nat → Int32 → Int32 → Int32 → Int32 → qa_M → (Int32 → qa_M → Prop) → Prop
  | 0, _, _, _, _, _, _ => False
  | n + 1, v3, v4, v5, v6, μ0, Q => ((v5 ≤ v6 → Q (0 : Int32) μ0) ∧ (¬ v5 ≤ v6 → vp_in v6 60 ∧ vp_in ((((60 : Int32) * v3) + v4) + v6) 240 ∧ ∀ μ18, μ18 = qa_uJ μ0 112 ((((60 : Int32) * v3) + v4) + v6).toNatClampNeg (μ0.2.1 113 v6.toNatClampNeg) → wX9_paste_150 n v3 v4 v5 (v6 + (1 : Int32)) μ18 Q))
def wX9_paste (n : Nat) (v1 : Int32) (v2 : Int32) (v3 : Int32) (v4 : Int32) (v5 : Int32) (μ0 : qa_M) (Q : Int32 → qa_M → Prop) : Prop := wX9_isSlot n v1 μ0 (fun r1 μ1 => ((r1 = 0 → Q (-2 : Int32) μ1) ∧ (¬ r1 = 0 → wX9_isSlot n v3 μ1 (fun r3 μ3 => ((¬ r3 = 0 → vp_in v1 4 ∧ (((μ3.1 110 v1.toNatClampNeg) = (-1 : Int32) → Q (-6 : Int32) μ3) ∧ (¬ (μ3.1 110 v1.toNatClampNeg) = (-1 : Int32) → vp_in v3 4 ∧ ((¬ (μ3.1 110 v3.toNatClampNeg) = (-1 : Int32) → vp_in v1 4 ∧ vp_in v3 4 ∧ (((μ3.1 111 v1.toNatClampNeg) = (μ3.1 111 v3.toNatClampNeg) → ((v2 < 0 → Q (-7 : Int32) μ3) ∧ (¬ v2 < 0 → ((v4 < 0 → Q (-7 : Int32) μ3) ∧ (¬ v4 < 0 → ((v5 < 0 → Q (-7 : Int32) μ3) ∧ (¬ v5 < 0 → vp_in v1 4 ∧ ((0 < (lg_cmp (v2.toInt64 + v5.toInt64) (μ3.1 110 v1.toNatClampNeg).toInt64) → Q (-7 : Int32) μ3) ∧ (¬ 0 < (lg_cmp (v2.toInt64 + v5.toInt64) (μ3.1 110 v1.toNatClampNeg).toInt64) → vp_in v3 4 ∧ (((lg_cmp (v4.toInt64 + v5.toInt64) (μ3.1 110 v3.toNatClampNeg).toInt64) ≤ 0 → wX9_paste_113 n v1 v2 v3 v4 v5 (0 : Int32) μ3 (fun v3_16 v4_16 v5_16 μ15 => wX9_paste_150 n v3_16 v4_16 v5_16 (0 : Int32) μ15  Q) Q) ∧ (¬ (lg_cmp (v4.toInt64 + v5.toInt64) (μ3.1 110 v3.toNatClampNeg).toInt64) ≤ 0 → Q (-7 : Int32) μ3))))))))))) ∧ (¬ (μ3.1 111 v1.toNatClampNeg) = (μ3.1 111 v3.toNatClampNeg) → Q (-8 : Int32) μ3))) ∧ ((μ3.1 110 v3.toNatClampNeg) = (-1 : Int32) → Q (-6 : Int32) μ3))))) ∧ (r3 = 0 → Q (-2 : Int32) μ3))))))
theorem tX9_paste_113 (l : Launch) {K0 : Int32 → Int32 → Int32 → qa_M → Prop} {Q : Int32 → qa_M → Prop} (hK0 : ∀ (v3 : Int32) (v4 : Int32) (v5 : Int32) (μ : qa_M), qa_PP μ.2.2 → K0 v3 v4 v5 μ → qa_G l yX9_paste cX9_paste 7 (some .int) 2 0 0 (qa_pI Q) 0 0 147 [some (.ref 91), none, none, some (.int v3), some (.int v4), some (.int v5), none] [] 113 μ) : ∀ (n : Nat) (v1 : Int32) (v2 : Int32) (v3 : Int32) (v4 : Int32) (v5 : Int32) (v6 : Int32) (μ0 : qa_M), qa_PP μ0.2.2 → wX9_paste_113 n v1 v2 v3 v4 v5 v6 μ0 K0 Q → qa_G l yX9_paste cX9_paste 7 (some .int) 2 0 0 (qa_pI Q) 0 0 113 [some (.ref 91), some (.int v1), some (.int v2), some (.int v3), some (.int v4), some (.int v5), some (.int v6)] [] 113 μ0 := by
  intro n
  induction n with
  | zero =>
    intro v1 v2 v3 v4 v5 v6 μ0 hp0  h
    rw [wX9_paste_113] at h
    exact h.elim
  | succ n ih =>
    intro v1 v2 v3 v4 v5 v6 μ0 hp0  h
    rw [wX9_paste_113] at h
    refine qa_ild6 dX9_paste_113 ?_
    refine qa_ild5 dX9_paste_115 ?_
    refine qa_icmp_ge (tgt := 147) dX9_paste_117 (by decide) (fun c13 => ?_) (fun c13 => ?_)
    · have h := h.1 c13
      refine qa_fgt (L' := [some (.ref 91), none, none, some (.int v3), some (.int v4), some (.int v5), none]) (⟨rfl, ⟨rfl, ⟨rfl, ⟨rfl, trivial⟩⟩⟩⟩) ?_
      exact hK0 v3 v4 v5 μ0 hp0  h
    · have h := h.2 c13
      refine qa_ald0 dX9_paste_120 ?_
      refine qa_getR dX9_paste_121 lf_X9_80 rfl sh_91 (by decide) (pp_91_44 hp0) (by decide) ?_
      refine qa_ild6 dX9_paste_124 ?_
      refine qa_ald0 dX9_paste_126 ?_
      refine qa_getR dX9_paste_127 lf_X9_76 rfl sh_91 (by decide) (pp_91_43 hp0) (by decide) ?_
      refine qa_bipush (v := 60) dX9_paste_130 (by decide) ?_
      refine qa_ild1 dX9_paste_132 ?_
      refine qa_imul dX9_paste_133 ?_
      refine qa_ild2 dX9_paste_134 ?_
      refine qa_iadd dX9_paste_135 ?_
      refine qa_ild6 dX9_paste_136 ?_
      refine qa_iadd dX9_paste_138 ?_
      refine qa_lald dX9_paste_139 sh_112 (by decide) h.1 ?_
      have h := h.2
      refine qa_last dX9_paste_140 sh_113 (by decide) h.1 ?_
      have h := h.2
      refine qa_nmM (fun μ14 em14 => ?_)
      have h := h μ14 em14
      have hp14 : qa_PP μ14.2.2 := by rw [em14]; exact hp0
      refine qa_inc6 dX9_paste_141 (qa_io1 _) ?_
      refine qa_goto (tgt := 113) dX9_paste_144 (by decide) ?_
      refine qa_fgt (L' := [some (.ref 91), some (.int v1), some (.int v2), some (.int v3), some (.int v4), some (.int v5), some (.int (v6 + (1 : Int32)))]) (⟨rfl, ⟨rfl, ⟨rfl, ⟨rfl, ⟨rfl, ⟨rfl, ⟨rfl, trivial⟩⟩⟩⟩⟩⟩⟩) ?_
      exact ih v1 v2 v3 v4 v5 (v6 + (1 : Int32)) μ14 hp14  h
theorem tX9_paste_150 (l : Launch)  {Q : Int32 → qa_M → Prop}  : ∀ (n : Nat) (v3 : Int32) (v4 : Int32) (v5 : Int32) (v6 : Int32) (μ0 : qa_M), qa_PP μ0.2.2 → wX9_paste_150 n v3 v4 v5 v6 μ0  Q → qa_G l yX9_paste cX9_paste 7 (some .int) 2 0 0 (qa_pI Q) 0 0 150 [some (.ref 91), none, none, some (.int v3), some (.int v4), some (.int v5), some (.int v6)] [] 113 μ0 := by
  intro n
  induction n with
  | zero =>
    intro v3 v4 v5 v6 μ0 hp0  h
    rw [wX9_paste_150] at h
    exact h.elim
  | succ n ih =>
    intro v3 v4 v5 v6 μ0 hp0  h
    rw [wX9_paste_150] at h
    refine qa_ild6 dX9_paste_150 ?_
    refine qa_ild5 dX9_paste_152 ?_
    refine qa_icmp_ge (tgt := 185) dX9_paste_154 (by decide) (fun c17 => ?_) (fun c17 => ?_)
    · have h := h.1 c17
      refine qa_iconst (v := 0) dX9_paste_185 (by decide) ?_
      exact qa_iret rfl dX9_paste_186 ⟨rfl, rfl⟩ ⟨rfl, hp0, _, rfl, h⟩
    · have h := h.2 c17
      refine qa_ald0 dX9_paste_157 ?_
      refine qa_getR dX9_paste_158 lf_X9_76 rfl sh_91 (by decide) (pp_91_43 hp0) (by decide) ?_
      refine qa_bipush (v := 60) dX9_paste_161 (by decide) ?_
      refine qa_ild3 dX9_paste_163 ?_
      refine qa_imul dX9_paste_164 ?_
      refine qa_ild4 dX9_paste_165 ?_
      refine qa_iadd dX9_paste_167 ?_
      refine qa_ild6 dX9_paste_168 ?_
      refine qa_iadd dX9_paste_170 ?_
      refine qa_ald0 dX9_paste_171 ?_
      refine qa_getR dX9_paste_172 lf_X9_80 rfl sh_91 (by decide) (pp_91_44 hp0) (by decide) ?_
      refine qa_ild6 dX9_paste_175 ?_
      refine qa_lald dX9_paste_177 sh_113 (by decide) h.1 ?_
      have h := h.2
      refine qa_last dX9_paste_178 sh_112 (by decide) h.1 ?_
      have h := h.2
      refine qa_nmM (fun μ18 em18 => ?_)
      have h := h μ18 em18
      have hp18 : qa_PP μ18.2.2 := by rw [em18]; exact hp0
      refine qa_inc6 dX9_paste_179 (qa_io1 _) ?_
      refine qa_goto (tgt := 150) dX9_paste_182 (by decide) ?_
      refine qa_fgt (L' := [some (.ref 91), none, none, some (.int v3), some (.int v4), some (.int v5), some (.int (v6 + (1 : Int32)))]) (⟨rfl, ⟨rfl, ⟨rfl, ⟨rfl, ⟨rfl, trivial⟩⟩⟩⟩⟩) ?_
      exact ih v3 v4 v5 (v6 + (1 : Int32)) μ18 hp18  h
theorem tX9_paste (l : Launch) {n : Nat} {v1 : Int32} {v2 : Int32} {v3 : Int32} {v4 : Int32} {v5 : Int32} {μ0 : qa_M} {Q : Int32 → qa_M → Prop} (hp0 : qa_PP μ0.2.2)  (h : wX9_paste n v1 v2 v3 v4 v5 μ0 Q) : qa_Met l yX9_paste cX9_paste 7 (some .int) 2 0 0 [.ref 91, .int v1, .int v2, .int v3, .int v4, .int v5] 113 μ0 (qa_pI Q) := by
  refine qa_ofG (by decide) (Nat.le_of_ble_eq_true rfl) ?_
  unfold wX9_paste at h
  change qa_G l yX9_paste cX9_paste 7 (some .int) 2 0 0 (qa_pI Q) 0 0 0 [some (.ref 91), some (.int v1), some (.int v2), some (.int v3), some (.int v4), some (.int v5), none] [] 113 μ0
  refine qa_ild1 dX9_paste_0 ?_
  refine qa_S1I dX9_paste_1 lm_X9_367  (by decide) (Nat.le_of_ble_eq_true rfl) (tX9_isSlot l hp0  h) (fun r1 μ1 hp1 h => ?_)
  refine qa_if_eq (tgt := 14) dX9_paste_4 (by decide) (fun c2 => ?_) (fun c2 => ?_)
  · have h := h.1 c2
    refine qa_bipush (v := -2) dX9_paste_14 (by decide) ?_
    exact qa_iret rfl dX9_paste_16 ⟨rfl, rfl⟩ ⟨rfl, hp1, _, rfl, h⟩
  · have h := h.2 c2
    refine qa_ild3 dX9_paste_7 ?_
    refine qa_S1I dX9_paste_8 lm_X9_367  (by decide) (Nat.le_of_ble_eq_true rfl) (tX9_isSlot l hp1  h) (fun r3 μ3 hp3 h => ?_)
    refine qa_if_ne (tgt := 17) dX9_paste_11 (by decide) (fun c4 => ?_) (fun c4 => ?_)
    · have h := h.1 c4
      refine qa_ald0 dX9_paste_17 ?_
      refine qa_getR dX9_paste_18 lf_X9_70 rfl sh_91 (by decide) (pp_91_41 hp3) (by decide) ?_
      refine qa_ild1 dX9_paste_21 ?_
      refine qa_iald dX9_paste_22 sh_110 (by decide) h.1 ?_
      have h := h.2
      refine qa_iconst (v := -1) dX9_paste_23 (by decide) ?_
      refine qa_icmp_eq (tgt := 37) dX9_paste_24 (by decide) (fun c5 => ?_) (fun c5 => ?_)
      · have h := h.1 c5
        refine qa_bipush (v := -6) dX9_paste_37 (by decide) ?_
        exact qa_iret rfl dX9_paste_39 ⟨rfl, rfl⟩ ⟨rfl, hp3, _, rfl, h⟩
      · have h := h.2 c5
        refine qa_ald0 dX9_paste_27 ?_
        refine qa_getR dX9_paste_28 lf_X9_70 rfl sh_91 (by decide) (pp_91_41 hp3) (by decide) ?_
        refine qa_ild3 dX9_paste_31 ?_
        refine qa_iald dX9_paste_32 sh_110 (by decide) h.1 ?_
        have h := h.2
        refine qa_iconst (v := -1) dX9_paste_33 (by decide) ?_
        refine qa_icmp_ne (tgt := 40) dX9_paste_34 (by decide) (fun c6 => ?_) (fun c6 => ?_)
        · have h := h.1 c6
          refine qa_ald0 dX9_paste_40 ?_
          refine qa_getR dX9_paste_41 lf_X9_73 rfl sh_91 (by decide) (pp_91_42 hp3) (by decide) ?_
          refine qa_ild1 dX9_paste_44 ?_
          refine qa_iald dX9_paste_45 sh_111 (by decide) h.1 ?_
          have h := h.2
          refine qa_ald0 dX9_paste_46 ?_
          refine qa_getR dX9_paste_47 lf_X9_73 rfl sh_91 (by decide) (pp_91_42 hp3) (by decide) ?_
          refine qa_ild3 dX9_paste_50 ?_
          refine qa_iald dX9_paste_51 sh_111 (by decide) h.1 ?_
          have h := h.2
          refine qa_icmp_eq (tgt := 58) dX9_paste_52 (by decide) (fun c7 => ?_) (fun c7 => ?_)
          · have h := h.1 c7
            refine qa_ild2 dX9_paste_58 ?_
            refine qa_if_lt (tgt := 107) dX9_paste_59 (by decide) (fun c8 => ?_) (fun c8 => ?_)
            · have h := h.1 c8
              refine qa_bipush (v := -7) dX9_paste_107 (by decide) ?_
              exact qa_iret rfl dX9_paste_109 ⟨rfl, rfl⟩ ⟨rfl, hp3, _, rfl, h⟩
            · have h := h.2 c8
              refine qa_ild4 dX9_paste_62 ?_
              refine qa_if_lt (tgt := 107) dX9_paste_64 (by decide) (fun c9 => ?_) (fun c9 => ?_)
              · have h := h.1 c9
                refine qa_bipush (v := -7) dX9_paste_107 (by decide) ?_
                exact qa_iret rfl dX9_paste_109 ⟨rfl, rfl⟩ ⟨rfl, hp3, _, rfl, h⟩
              · have h := h.2 c9
                refine qa_ild5 dX9_paste_67 ?_
                refine qa_if_lt (tgt := 107) dX9_paste_69 (by decide) (fun c10 => ?_) (fun c10 => ?_)
                · have h := h.1 c10
                  refine qa_bipush (v := -7) dX9_paste_107 (by decide) ?_
                  exact qa_iret rfl dX9_paste_109 ⟨rfl, rfl⟩ ⟨rfl, hp3, _, rfl, h⟩
                · have h := h.2 c10
                  refine qa_ild2 dX9_paste_72 ?_
                  refine qa_i2l dX9_paste_73 ?_
                  refine qa_ild5 dX9_paste_74 ?_
                  refine qa_i2l dX9_paste_76 ?_
                  refine qa_ladd dX9_paste_77 ?_
                  refine qa_ald0 dX9_paste_78 ?_
                  refine qa_getR dX9_paste_79 lf_X9_70 rfl sh_91 (by decide) (pp_91_41 hp3) (by decide) ?_
                  refine qa_ild1 dX9_paste_82 ?_
                  refine qa_iald dX9_paste_83 sh_110 (by decide) h.1 ?_
                  have h := h.2
                  refine qa_i2l dX9_paste_84 ?_
                  refine qa_lcmp dX9_paste_85 ?_
                  refine qa_if_gt (tgt := 107) dX9_paste_86 (by decide) (fun c11 => ?_) (fun c11 => ?_)
                  · have h := h.1 c11
                    refine qa_bipush (v := -7) dX9_paste_107 (by decide) ?_
                    exact qa_iret rfl dX9_paste_109 ⟨rfl, rfl⟩ ⟨rfl, hp3, _, rfl, h⟩
                  · have h := h.2 c11
                    refine qa_ild4 dX9_paste_89 ?_
                    refine qa_i2l dX9_paste_91 ?_
                    refine qa_ild5 dX9_paste_92 ?_
                    refine qa_i2l dX9_paste_94 ?_
                    refine qa_ladd dX9_paste_95 ?_
                    refine qa_ald0 dX9_paste_96 ?_
                    refine qa_getR dX9_paste_97 lf_X9_70 rfl sh_91 (by decide) (pp_91_41 hp3) (by decide) ?_
                    refine qa_ild3 dX9_paste_100 ?_
                    refine qa_iald dX9_paste_101 sh_110 (by decide) h.1 ?_
                    have h := h.2
                    refine qa_i2l dX9_paste_102 ?_
                    refine qa_lcmp dX9_paste_103 ?_
                    refine qa_if_le (tgt := 110) dX9_paste_104 (by decide) (fun c12 => ?_) (fun c12 => ?_)
                    · have h := h.1 c12
                      refine qa_iconst (v := 0) dX9_paste_110 (by decide) ?_
                      refine qa_ist6 dX9_paste_111 ?_
                      refine qa_fgt (L' := [some (.ref 91), some (.int v1), some (.int v2), some (.int v3), some (.int v4), some (.int v5), some (.int (0 : Int32))]) (⟨rfl, ⟨rfl, ⟨rfl, ⟨rfl, ⟨rfl, ⟨rfl, ⟨rfl, trivial⟩⟩⟩⟩⟩⟩⟩) ?_
                      refine tX9_paste_113 l ?_ n v1 v2 v3 v4 v5 (0 : Int32) μ3 hp3  h
                      · intro v3_16 v4_16 v5_16 μ15 hp15  h
                        refine qa_iconst (v := 0) dX9_paste_147 (by decide) ?_
                        refine qa_ist6 dX9_paste_148 ?_
                        refine qa_fgt (L' := [some (.ref 91), none, none, some (.int v3_16), some (.int v4_16), some (.int v5_16), some (.int (0 : Int32))]) (⟨rfl, ⟨rfl, ⟨rfl, ⟨rfl, ⟨rfl, trivial⟩⟩⟩⟩⟩) ?_
                        refine tX9_paste_150 l  n v3_16 v4_16 v5_16 (0 : Int32) μ15 hp15  h
                    · have h := h.2 c12
                      refine qa_bipush (v := -7) dX9_paste_107 (by decide) ?_
                      exact qa_iret rfl dX9_paste_109 ⟨rfl, rfl⟩ ⟨rfl, hp3, _, rfl, h⟩
          · have h := h.2 c7
            refine qa_bipush (v := -8) dX9_paste_55 (by decide) ?_
            exact qa_iret rfl dX9_paste_57 ⟨rfl, rfl⟩ ⟨rfl, hp3, _, rfl, h⟩
        · have h := h.2 c6
          refine qa_bipush (v := -6) dX9_paste_37 (by decide) ?_
          exact qa_iret rfl dX9_paste_39 ⟨rfl, rfl⟩ ⟨rfl, hp3, _, rfl, h⟩
    · have h := h.2 c4
      refine qa_bipush (v := -2) dX9_paste_14 (by decide) ?_
      exact qa_iret rfl dX9_paste_16 ⟨rfl, rfl⟩ ⟨rfl, hp3, _, rfl, h⟩
def wX9_place (n : Nat) (v1 : Int32) (v2 : Int32) (μ0 : qa_M) (Q : Int32 → qa_M → Prop) : Prop := wX9_asItIs n  μ0 (fun μ1 => wX9_isPlace n v1.toInt64 μ1 (fun r2 μ2 => ((r2 = 0 → Q (-2 : Int32) μ2) ∧ (¬ r2 = 0 → wX9_in n v2.toInt64 (0 : Int64) (1 : Int64) μ2 (fun r4 μ4 => ((¬ r4 = 0 → ((¬ v2 = 0 → vp_in v1 8 ∧ Q (μ4.1 99 v1.toNatClampNeg) μ4) ∧ (v2 = 0 → vp_in v1 8 ∧ Q (μ4.1 98 v1.toNatClampNeg) μ4))) ∧ (r4 = 0 → Q (-2 : Int32) μ4)))))))
theorem tX9_place (l : Launch) {n : Nat} {v1 : Int32} {v2 : Int32} {μ0 : qa_M} {Q : Int32 → qa_M → Prop} (hp0 : qa_PP μ0.2.2)  (h : wX9_place n v1 v2 μ0 Q) : qa_Met l yX9_place cX9_place 3 (some .int) 2 0 0 [.ref 91, .int v1, .int v2] 113 μ0 (qa_pI Q) := by
  refine qa_ofG (by decide) (Nat.le_of_ble_eq_true rfl) ?_
  unfold wX9_place at h
  change qa_G l yX9_place cX9_place 3 (some .int) 2 0 0 (qa_pI Q) 0 0 0 [some (.ref 91), some (.int v1), some (.int v2)] [] 113 μ0
  refine qa_ald0 dX9_place_0 ?_
  refine qa_V0V dX9_place_1 lm_X9_251 sh_91 rfl (by decide) (by decide) (Nat.le_of_ble_eq_true rfl) (tX9_asItIs l hp0  h) (fun μ1 hp1 h => ?_)
  refine qa_ald0 dX9_place_4 ?_
  refine qa_ild1 dX9_place_5 ?_
  refine qa_i2l dX9_place_6 ?_
  refine qa_V1I dX9_place_7 lm_X9_254 sh_91 rfl (by decide) (by decide) (Nat.le_of_ble_eq_true rfl) (tX9_isPlace l hp1  h) (fun r2 μ2 hp2 h => ?_)
  refine qa_if_eq (tgt := 23) dX9_place_10 (by decide) (fun c3 => ?_) (fun c3 => ?_)
  · have h := h.1 c3
    refine qa_bipush (v := -2) dX9_place_23 (by decide) ?_
    exact qa_iret rfl dX9_place_25 ⟨rfl, rfl⟩ ⟨rfl, hp2, _, rfl, h⟩
  · have h := h.2 c3
    refine qa_ild2 dX9_place_13 ?_
    refine qa_i2l dX9_place_14 ?_
    refine qa_lconst (v := 0) dX9_place_15 (by decide) ?_
    refine qa_lconst (v := 1) dX9_place_16 (by decide) ?_
    refine qa_S3I dX9_place_17 lm_X9_88  (by decide) (Nat.le_of_ble_eq_true rfl) (tX9_in l hp2  h) (fun r4 μ4 hp4 h => ?_)
    refine qa_if_ne (tgt := 26) dX9_place_20 (by decide) (fun c5 => ?_) (fun c5 => ?_)
    · have h := h.1 c5
      refine qa_ild2 dX9_place_26 ?_
      refine qa_if_ne (tgt := 39) dX9_place_27 (by decide) (fun c6 => ?_) (fun c6 => ?_)
      · have h := h.1 c6
        refine qa_ald0 dX9_place_39 ?_
        refine qa_getR dX9_place_40 lf_X9_37 rfl sh_91 (by decide) (pp_91_16 hp4) (by decide) ?_
        refine qa_ild1 dX9_place_43 ?_
        refine qa_iald dX9_place_44 sh_99 (by decide) h.1 ?_
        have h := h.2
        exact qa_iret rfl dX9_place_45 ⟨rfl, rfl⟩ ⟨rfl, hp4, _, rfl, h⟩
      · have h := h.2 c6
        refine qa_ald0 dX9_place_30 ?_
        refine qa_getR dX9_place_31 lf_X9_34 rfl sh_91 (by decide) (pp_91_15 hp4) (by decide) ?_
        refine qa_ild1 dX9_place_34 ?_
        refine qa_iald dX9_place_35 sh_98 (by decide) h.1 ?_
        have h := h.2
        refine qa_goto (tgt := 45) dX9_place_36 (by decide) ?_
        exact qa_iret rfl dX9_place_45 ⟨rfl, rfl⟩ ⟨rfl, hp4, _, rfl, h⟩
    · have h := h.2 c5
      refine qa_bipush (v := -2) dX9_place_23 (by decide) ?_
      exact qa_iret rfl dX9_place_25 ⟨rfl, rfl⟩ ⟨rfl, hp4, _, rfl, h⟩
def wX9_post_59 (n : Nat) (v1 : Int32) (v2 : Int32) (μ0 : qa_M) (K0 : Int32 → Int32 → qa_M → Prop) (Q : Int32 → qa_M → Prop) : Prop := ∀ μ12, μ12 = qa_uI μ0 91 21 ((μ0.1 91 21) + (1 : Int32)) → K0 v1 v2 μ12
def wX9_post_19 : Nat → Int32 → Int32 → qa_M → (Int32 → qa_M → Prop) → Prop
  | 0, _, _, _, _ => False
  | n + 1, v1, v2, μ0, Q => (((30 : Int32) < (μ0.1 91 21) → Q v1 μ0) ∧ (¬ (30 : Int32) < (μ0.1 91 21) → wX9_goAll n  μ0 (fun μ5 => wX9_rightSet n  μ5 (fun r6 μ6 => wX9_bits n r6 μ6 (fun r7 μ7 => ((v2 < r7 → wX9_rightSet n  μ7 (fun r9 μ9 => wX9_bits n r9 μ9 (fun r10 μ10 => ∀ x11, x11 = (μ10.1 91 21) → wX9_post_59 n x11 r10 μ10 (fun v1 v2 μk => wX9_post_19 n v1 v2 μk Q) Q))) ∧ (¬ v2 < r7 → wX9_post_59 n v1 v2 μ7 (fun v1 v2 μk => wX9_post_19 n v1 v2 μk Q) Q)))))))
def wX9_post (n : Nat)  (μ0 : qa_M) (Q : Int32 → qa_M → Prop) : Prop := wX9_asksTown n  μ0 (fun r1 μ1 => ((¬ r1 = 0 → ∀ μ3, μ3 = qa_uI μ1 91 21 (1 : Int32) → wX9_post_19 n (1 : Int32) (-1 : Int32) μ3  Q) ∧ (r1 = 0 → Q (-2 : Int32) μ1)))
theorem tX9_post_59 (l : Launch) {K0 : Int32 → Int32 → qa_M → Prop} {Q : Int32 → qa_M → Prop} (hK0 : ∀ (v1 : Int32) (v2 : Int32) (μ : qa_M), qa_PP μ.2.2 → K0 v1 v2 μ → qa_G l yX9_post cX9_post 3 (some .int) 4 0 0 (qa_pI Q) 0 0 19 [some (.ref 91), some (.int v1), some (.int v2)] [] 113 μ) : ∀ (n : Nat) (v1 : Int32) (v2 : Int32) (μ0 : qa_M), qa_PP μ0.2.2 → wX9_post_59 n v1 v2 μ0 K0 Q → qa_G l yX9_post cX9_post 3 (some .int) 4 0 0 (qa_pI Q) 0 0 59 [some (.ref 91), some (.int v1), some (.int v2)] [] 113 μ0 := by
  intro n
  intro v1 v2 μ0 hp0  h
  unfold wX9_post_59 at h
  refine qa_ald0 dX9_post_59 ?_
  refine qa_dup dX9_post_60 rfl ?_
  refine qa_getI dX9_post_61 lf_X9_233 (Or.inl rfl) sh_91 (by decide) ?_
  refine qa_iconst (v := 1) dX9_post_64 (by decide) ?_
  refine qa_iadd dX9_post_65 ?_
  refine qa_putI dX9_post_66 lf_X9_233 rfl sh_91 (by decide) rfl ?_
  refine qa_nmM (fun μ12 em12 => ?_)
  have h := h μ12 em12
  have hp12 : qa_PP μ12.2.2 := by rw [em12]; exact hp0
  refine qa_goto (tgt := 19) dX9_post_69 (by decide) ?_
  refine qa_fgt (L' := [some (.ref 91), some (.int v1), some (.int v2)]) (⟨rfl, ⟨rfl, ⟨rfl, trivial⟩⟩⟩) ?_
  exact hK0 v1 v2 μ12 hp12  h
theorem tX9_post_19 (l : Launch)  {Q : Int32 → qa_M → Prop}  : ∀ (n : Nat) (v1 : Int32) (v2 : Int32) (μ0 : qa_M), qa_PP μ0.2.2 → wX9_post_19 n v1 v2 μ0  Q → qa_G l yX9_post cX9_post 3 (some .int) 4 0 0 (qa_pI Q) 0 0 19 [some (.ref 91), some (.int v1), some (.int v2)] [] 113 μ0 := by
  intro n
  induction n with
  | zero =>
    intro v1 v2 μ0 hp0  h
    rw [wX9_post_19] at h
    exact h.elim
  | succ n ih =>
    intro v1 v2 μ0 hp0  h
    rw [wX9_post_19] at h
    refine qa_ald0 dX9_post_19 ?_
    refine qa_getI dX9_post_20 lf_X9_233 (Or.inl rfl) sh_91 (by decide) ?_
    refine qa_bipush (v := 30) dX9_post_23 (by decide) ?_
    refine qa_icmp_gt (tgt := 72) dX9_post_25 (by decide) (fun c4 => ?_) (fun c4 => ?_)
    · have h := h.1 c4
      refine qa_ild1 dX9_post_72 ?_
      exact qa_iret rfl dX9_post_73 ⟨rfl, rfl⟩ ⟨rfl, hp0, _, rfl, h⟩
    · have h := h.2 c4
      refine qa_ald0 dX9_post_28 ?_
      refine qa_V0V dX9_post_29 lm_X9_280 sh_91 rfl (by decide) (by decide) (Nat.le_of_ble_eq_true rfl) (tX9_goAll l hp0  h) (fun μ5 hp5 h => ?_)
      refine qa_ald0 dX9_post_32 ?_
      refine qa_V0I dX9_post_33 lm_X9_339 sh_91 rfl (by decide) (by decide) (Nat.le_of_ble_eq_true rfl) (tX9_rightSet l hp5  h) (fun r6 μ6 hp6 h => ?_)
      refine qa_S1I dX9_post_36 lm_X9_342  (by decide) (Nat.le_of_ble_eq_true rfl) (tX9_bits l hp6  h) (fun r7 μ7 hp7 h => ?_)
      refine qa_ild2 dX9_post_39 ?_
      refine qa_icmp_gt (tgt := 46) dX9_post_40 (by decide) (fun c8 => ?_) (fun c8 => ?_)
      · have h := h.1 c8
        refine qa_ald0 dX9_post_46 ?_
        refine qa_V0I dX9_post_47 lm_X9_339 sh_91 rfl (by decide) (by decide) (Nat.le_of_ble_eq_true rfl) (tX9_rightSet l hp7  h) (fun r9 μ9 hp9 h => ?_)
        refine qa_S1I dX9_post_50 lm_X9_342  (by decide) (Nat.le_of_ble_eq_true rfl) (tX9_bits l hp9  h) (fun r10 μ10 hp10 h => ?_)
        refine qa_ist2 dX9_post_53 ?_
        refine qa_ald0 dX9_post_54 ?_
        refine qa_getI dX9_post_55 lf_X9_233 (Or.inl rfl) sh_91 (by decide) ?_
        refine qa_nmI (fun x11 e11 => ?_)
        have h := h x11 e11
        refine qa_ist1 dX9_post_58 ?_
        refine qa_fgt (L' := [some (.ref 91), some (.int x11), some (.int r10)]) (⟨rfl, ⟨rfl, ⟨rfl, trivial⟩⟩⟩) ?_
        refine tX9_post_59 l ih n x11 r10 μ10 hp10  h
      · have h := h.2 c8
        refine qa_goto (tgt := 59) dX9_post_43 (by decide) ?_
        refine qa_fgt (L' := [some (.ref 91), some (.int v1), some (.int v2)]) (⟨rfl, ⟨rfl, ⟨rfl, trivial⟩⟩⟩) ?_
        refine tX9_post_59 l ih n v1 v2 μ7 hp7  h
theorem tX9_post (l : Launch) {n : Nat}  {μ0 : qa_M} {Q : Int32 → qa_M → Prop} (hp0 : qa_PP μ0.2.2)  (h : wX9_post n  μ0 Q) : qa_Met l yX9_post cX9_post 3 (some .int) 4 0 0 [.ref 91] 113 μ0 (qa_pI Q) := by
  refine qa_ofG (by decide) (Nat.le_of_ble_eq_true rfl) ?_
  unfold wX9_post at h
  change qa_G l yX9_post cX9_post 3 (some .int) 4 0 0 (qa_pI Q) 0 0 0 [some (.ref 91), none, none] [] 113 μ0
  refine qa_ald0 dX9_post_0 ?_
  refine qa_V0I dX9_post_1 lm_X9_283 sh_91 rfl (by decide) (by decide) (Nat.le_of_ble_eq_true rfl) (tX9_asksTown l hp0  h) (fun r1 μ1 hp1 h => ?_)
  refine qa_if_ne (tgt := 10) dX9_post_4 (by decide) (fun c2 => ?_) (fun c2 => ?_)
  · have h := h.1 c2
    refine qa_iconst (v := 1) dX9_post_10 (by decide) ?_
    refine qa_ist1 dX9_post_11 ?_
    refine qa_iconst (v := -1) dX9_post_12 (by decide) ?_
    refine qa_ist2 dX9_post_13 ?_
    refine qa_ald0 dX9_post_14 ?_
    refine qa_iconst (v := 1) dX9_post_15 (by decide) ?_
    refine qa_putI dX9_post_16 lf_X9_233 rfl sh_91 (by decide) rfl ?_
    refine qa_nmM (fun μ3 em3 => ?_)
    have h := h μ3 em3
    have hp3 : qa_PP μ3.2.2 := by rw [em3]; exact hp1
    refine qa_fgt (L' := [some (.ref 91), some (.int (1 : Int32)), some (.int (-1 : Int32))]) (⟨rfl, ⟨rfl, ⟨rfl, trivial⟩⟩⟩) ?_
    refine tX9_post_19 l  n (1 : Int32) (-1 : Int32) μ3 hp3  h
  · have h := h.2 c2
    refine qa_bipush (v := -2) dX9_post_7 (by decide) ?_
    exact qa_iret rfl dX9_post_9 ⟨rfl, rfl⟩ ⟨rfl, hp1, _, rfl, h⟩
def wX9_pushes (n : Nat) (v1 : Int32) (v2 : Int32) (μ0 : qa_M) (Q : Int32 → qa_M → Prop) : Prop := wX9_asksAhead n v2 μ0 (fun r1 μ1 => ((r1 = 0 → Q (-2 : Int32) μ1) ∧ (¬ r1 = 0 → wX9_isHouse n v1 μ1 (fun r3 μ3 => ((r3 = 0 → Q (-2 : Int32) μ3) ∧ (¬ r3 = 0 → wX9_pushOf n v1 v2 μ3 (fun r5 μ5 => Q r5 μ5)))))))
theorem tX9_pushes (l : Launch) {n : Nat} {v1 : Int32} {v2 : Int32} {μ0 : qa_M} {Q : Int32 → qa_M → Prop} (hp0 : qa_PP μ0.2.2)  (h : wX9_pushes n v1 v2 μ0 Q) : qa_Met l yX9_pushes cX9_pushes 3 (some .int) 5 0 0 [.ref 91, .int v1, .int v2] 113 μ0 (qa_pI Q) := by
  refine qa_ofG (by decide) (Nat.le_of_ble_eq_true rfl) ?_
  unfold wX9_pushes at h
  change qa_G l yX9_pushes cX9_pushes 3 (some .int) 5 0 0 (qa_pI Q) 0 0 0 [some (.ref 91), some (.int v1), some (.int v2)] [] 113 μ0
  refine qa_ald0 dX9_pushes_0 ?_
  refine qa_ild2 dX9_pushes_1 ?_
  refine qa_V1I dX9_pushes_2 lm_X9_298 sh_91 rfl (by decide) (by decide) (Nat.le_of_ble_eq_true rfl) (tX9_asksAhead l hp0  h) (fun r1 μ1 hp1 h => ?_)
  refine qa_if_eq (tgt := 25) dX9_pushes_5 (by decide) (fun c2 => ?_) (fun c2 => ?_)
  · have h := h.1 c2
    refine qa_bipush (v := -2) dX9_pushes_25 (by decide) ?_
    exact qa_iret rfl dX9_pushes_27 ⟨rfl, rfl⟩ ⟨rfl, hp1, _, rfl, h⟩
  · have h := h.2 c2
    refine qa_ald0 dX9_pushes_8 ?_
    refine qa_ild1 dX9_pushes_9 ?_
    refine qa_V1I dX9_pushes_10 lm_X9_103 sh_91 rfl (by decide) (by decide) (Nat.le_of_ble_eq_true rfl) (tX9_isHouse l hp1  h) (fun r3 μ3 hp3 h => ?_)
    refine qa_if_eq (tgt := 25) dX9_pushes_13 (by decide) (fun c4 => ?_) (fun c4 => ?_)
    · have h := h.1 c4
      refine qa_bipush (v := -2) dX9_pushes_25 (by decide) ?_
      exact qa_iret rfl dX9_pushes_27 ⟨rfl, rfl⟩ ⟨rfl, hp3, _, rfl, h⟩
    · have h := h.2 c4
      refine qa_ald0 dX9_pushes_16 ?_
      refine qa_ild1 dX9_pushes_17 ?_
      refine qa_ild2 dX9_pushes_18 ?_
      refine qa_V2I dX9_pushes_19 lm_X9_301 sh_91 rfl (by decide) (by decide) (Nat.le_of_ble_eq_true rfl) (tX9_pushOf l hp3  h) (fun r5 μ5 hp5 h => ?_)
      refine qa_goto (tgt := 27) dX9_pushes_22 (by decide) ?_
      exact qa_iret rfl dX9_pushes_27 ⟨rfl, rfl⟩ ⟨rfl, hp5, _, rfl, h⟩
def wX9_rate (n : Nat) (v1 : Int32) (v2 : Int32) (μ0 : qa_M) (Q : Int32 → qa_M → Prop) : Prop := wX9_isHouse n v1 μ0 (fun r1 μ1 => ((r1 = 0 → Q (-2 : Int32) μ1) ∧ (¬ r1 = 0 → wX9_in n v2.toInt64 (0 : Int64) (40 : Int64) μ1 (fun r3 μ3 => ((¬ r3 = 0 → (((μ3.1 92 (8 : Int32).toNatClampNeg) ≤ 0 → vp_in ((10 : Int32) + ((2 : Int32) * v1)) 114 ∧ ∀ x6, x6 = (μ3.1 92 ((10 : Int32) + ((2 : Int32) * v1)).toNatClampNeg) → vp_in ((10 : Int32) + ((2 : Int32) * v1)) 114 ∧ ∀ μ7, μ7 = qa_uI μ3 92 ((10 : Int32) + ((2 : Int32) * v1)).toNatClampNeg v2 → Q x6 μ7) ∧ (¬ (μ3.1 92 (8 : Int32).toNatClampNeg) ≤ 0 → Q (-5 : Int32) μ3))) ∧ (r3 = 0 → Q (-2 : Int32) μ3))))))
theorem tX9_rate (l : Launch) {n : Nat} {v1 : Int32} {v2 : Int32} {μ0 : qa_M} {Q : Int32 → qa_M → Prop} (hp0 : qa_PP μ0.2.2)  (h : wX9_rate n v1 v2 μ0 Q) : qa_Met l yX9_rate cX9_rate 4 (some .int) 2 0 0 [.ref 91, .int v1, .int v2] 113 μ0 (qa_pI Q) := by
  refine qa_ofG (by decide) (Nat.le_of_ble_eq_true rfl) ?_
  unfold wX9_rate at h
  change qa_G l yX9_rate cX9_rate 4 (some .int) 2 0 0 (qa_pI Q) 0 0 0 [some (.ref 91), some (.int v1), some (.int v2), none] [] 113 μ0
  refine qa_ald0 dX9_rate_0 ?_
  refine qa_ild1 dX9_rate_1 ?_
  refine qa_V1I dX9_rate_2 lm_X9_103 sh_91 rfl (by decide) (by decide) (Nat.le_of_ble_eq_true rfl) (tX9_isHouse l hp0  h) (fun r1 μ1 hp1 h => ?_)
  refine qa_if_eq (tgt := 20) dX9_rate_5 (by decide) (fun c2 => ?_) (fun c2 => ?_)
  · have h := h.1 c2
    refine qa_bipush (v := -2) dX9_rate_20 (by decide) ?_
    exact qa_iret rfl dX9_rate_22 ⟨rfl, rfl⟩ ⟨rfl, hp1, _, rfl, h⟩
  · have h := h.2 c2
    refine qa_ild2 dX9_rate_8 ?_
    refine qa_i2l dX9_rate_9 ?_
    refine qa_lconst (v := 0) dX9_rate_10 (by decide) ?_
    refine qa_ldc2 dX9_rate_11 lk_X9_458 ?_
    refine qa_S3I dX9_rate_14 lm_X9_88  (by decide) (Nat.le_of_ble_eq_true rfl) (tX9_in l hp1  h) (fun r3 μ3 hp3 h => ?_)
    refine qa_if_ne (tgt := 23) dX9_rate_17 (by decide) (fun c4 => ?_) (fun c4 => ?_)
    · have h := h.1 c4
      refine qa_ald0 dX9_rate_23 ?_
      refine qa_getR dX9_rate_24 lf_X9_9 rfl sh_91 (by decide) (pp_91_1 hp3) (by decide) ?_
      refine qa_bipush (v := 8) dX9_rate_27 (by decide) ?_
      refine qa_iald dX9_rate_29 sh_92 (by decide) (by unfold vp_in; decide) ?_
      refine qa_if_le (tgt := 36) dX9_rate_30 (by decide) (fun c5 => ?_) (fun c5 => ?_)
      · have h := h.1 c5
        refine qa_ald0 dX9_rate_36 ?_
        refine qa_getR dX9_rate_37 lf_X9_9 rfl sh_91 (by decide) (pp_91_1 hp3) (by decide) ?_
        refine qa_bipush (v := 10) dX9_rate_40 (by decide) ?_
        refine qa_iconst (v := 2) dX9_rate_42 (by decide) ?_
        refine qa_ild1 dX9_rate_43 ?_
        refine qa_imul dX9_rate_44 ?_
        refine qa_iadd dX9_rate_45 ?_
        refine qa_iald dX9_rate_46 sh_92 (by decide) h.1 ?_
        have h := h.2
        refine qa_nmI (fun x6 e6 => ?_)
        have h := h x6 e6
        refine qa_ist3 dX9_rate_47 ?_
        refine qa_ald0 dX9_rate_48 ?_
        refine qa_getR dX9_rate_49 lf_X9_9 rfl sh_91 (by decide) (pp_91_1 hp3) (by decide) ?_
        refine qa_bipush (v := 10) dX9_rate_52 (by decide) ?_
        refine qa_iconst (v := 2) dX9_rate_54 (by decide) ?_
        refine qa_ild1 dX9_rate_55 ?_
        refine qa_imul dX9_rate_56 ?_
        refine qa_iadd dX9_rate_57 ?_
        refine qa_ild2 dX9_rate_58 ?_
        refine qa_iast dX9_rate_59 sh_92 (by decide) h.1 ?_
        have h := h.2
        refine qa_nmM (fun μ7 em7 => ?_)
        have h := h μ7 em7
        have hp7 : qa_PP μ7.2.2 := by rw [em7]; exact hp3
        refine qa_ild3 dX9_rate_60 ?_
        exact qa_iret rfl dX9_rate_61 ⟨rfl, rfl⟩ ⟨rfl, hp7, _, rfl, h⟩
      · have h := h.2 c5
        refine qa_bipush (v := -5) dX9_rate_33 (by decide) ?_
        exact qa_iret rfl dX9_rate_35 ⟨rfl, rfl⟩ ⟨rfl, hp3, _, rfl, h⟩
    · have h := h.2 c4
      refine qa_bipush (v := -2) dX9_rate_20 (by decide) ?_
      exact qa_iret rfl dX9_rate_22 ⟨rfl, rfl⟩ ⟨rfl, hp3, _, rfl, h⟩
def wX9_told (n : Nat) (v1 : Nat) (v2 : Int32) (v3 : Int32) (μ0 : qa_M) (Q : Int32 → qa_M → Prop) : Prop := wX9_needs n v1 μ0 (fun μ1 => wX9_number n v2 v3 μ1 (fun r2 μ2 => Q r2 μ2))
theorem tX9_told (l : Launch) {n : Nat} {v1 : Nat} {v2 : Int32} {v3 : Int32} {μ0 : qa_M} {Q : Int32 → qa_M → Prop} (hp0 : qa_PP μ0.2.2) (k1 : v1 < 30) (h : wX9_told n v1 v2 v3 μ0 Q) : qa_Met l yX9_told cX9_told 4 (some .int) 8 0 0 [.ref 91, .ref (2000 + v1), .int v2, .int v3] 113 μ0 (qa_pI Q) := by
  refine qa_ofG (by decide) (Nat.le_of_ble_eq_true rfl) ?_
  unfold wX9_told at h
  change qa_G l yX9_told cX9_told 4 (some .int) 8 0 0 (qa_pI Q) 0 0 0 [some (.ref 91), some (.ref (2000 + v1)), some (.int v2), some (.int v3)] [] 113 μ0
  refine qa_ald0 dX9_told_0 ?_
  refine qa_ald1 dX9_told_1 ?_
  refine qa_V1V dX9_told_2 lm_X9_173 sh_91 rfl (by decide) (by decide) (Nat.le_of_ble_eq_true rfl) (tX9_needs l hp0 k1 h) (fun μ1 hp1 h => ?_)
  refine qa_ald0 dX9_told_5 ?_
  refine qa_ild2 dX9_told_6 ?_
  refine qa_ild3 dX9_told_7 ?_
  refine qa_V2I dX9_told_8 lm_X9_177 sh_91 rfl (by decide) (by decide) (Nat.le_of_ble_eq_true rfl) (tX9_number l hp1  h) (fun r2 μ2 hp2 h => ?_)
  exact qa_iret rfl dX9_told_11 ⟨rfl, rfl⟩ ⟨rfl, hp2, _, rfl, h⟩
def wX9_readFirst (n : Nat)  (μ0 : qa_M) (Q : qa_M → Prop) : Prop := wX9_needs n 15 μ0 (fun μ1 => wX9_told n 16 (1 : Int32) (20 : Int32) μ1 (fun r2 μ2 => ∀ μ3, μ3 = qa_uI μ2 97 (0 : Int32).toNatClampNeg r2 → wX9_told n 17 (0 : Int32) (3 : Int32) μ3 (fun r4 μ4 => ∀ μ5, μ5 = qa_uI μ4 97 (1 : Int32).toNatClampNeg r4 → wX9_told n 18 (1 : Int32) (30 : Int32) μ5 (fun r6 μ6 => ∀ μ7, μ7 = qa_uI μ6 97 (2 : Int32).toNatClampNeg r6 → wX9_told n 19 (0 : Int32) (10 : Int32) μ7 (fun r8 μ8 => ∀ μ9, μ9 = qa_uI μ8 97 (3 : Int32).toNatClampNeg r8 → Q μ9)))))
theorem tX9_readFirst (l : Launch) {n : Nat}  {μ0 : qa_M} {Q : qa_M → Prop} (hp0 : qa_PP μ0.2.2)  (h : wX9_readFirst n  μ0 Q) : qa_Met l yX9_readFirst cX9_readFirst 1 none 9 0 0 [.ref 91] 113 μ0 (qa_pV Q) := by
  refine qa_ofG (by decide) (Nat.le_of_ble_eq_true rfl) ?_
  unfold wX9_readFirst at h
  change qa_G l yX9_readFirst cX9_readFirst 1 none 9 0 0 (qa_pV Q) 0 0 0 [some (.ref 91)] [] 113 μ0
  refine qa_ald0 dX9_readFirst_0 ?_
  refine qa_ldcS (i := 15) (tx := "town") dX9_readFirst_1 (by decide) ?_
  refine qa_V1V dX9_readFirst_3 lm_X9_173 sh_91 rfl (by decide) (by decide) (Nat.le_of_ble_eq_true rfl) (tX9_needs l hp0 (by decide) h) (fun μ1 hp1 h => ?_)
  refine qa_ald0 dX9_readFirst_6 ?_
  refine qa_getR dX9_readFirst_7 lf_X9_31 rfl sh_91 (by decide) (pp_91_14 hp1) (by decide) ?_
  refine qa_iconst (v := 0) dX9_readFirst_10 (by decide) ?_
  refine qa_ald0 dX9_readFirst_11 ?_
  refine qa_ldcS (i := 16) (tx := "weeks") dX9_readFirst_12 (by decide) ?_
  refine qa_iconst (v := 1) dX9_readFirst_14 (by decide) ?_
  refine qa_bipush (v := 20) dX9_readFirst_15 (by decide) ?_
  refine qa_V3I dX9_readFirst_17 lm_X9_183 sh_91 rfl (by decide) (by decide) (Nat.le_of_ble_eq_true rfl) (tX9_told l hp1 (by decide) h) (fun r2 μ2 hp2 h => ?_)
  refine qa_iast dX9_readFirst_20 sh_97 (by decide) (by unfold vp_in; decide) ?_
  refine qa_nmM (fun μ3 em3 => ?_)
  have h := h μ3 em3
  have hp3 : qa_PP μ3.2.2 := by rw [em3]; exact hp2
  refine qa_ald0 dX9_readFirst_21 ?_
  refine qa_getR dX9_readFirst_22 lf_X9_31 rfl sh_91 (by decide) (pp_91_14 hp3) (by decide) ?_
  refine qa_iconst (v := 1) dX9_readFirst_25 (by decide) ?_
  refine qa_ald0 dX9_readFirst_26 ?_
  refine qa_ldcS (i := 17) (tx := "law") dX9_readFirst_27 (by decide) ?_
  refine qa_iconst (v := 0) dX9_readFirst_29 (by decide) ?_
  refine qa_iconst (v := 3) dX9_readFirst_30 (by decide) ?_
  refine qa_V3I dX9_readFirst_31 lm_X9_183 sh_91 rfl (by decide) (by decide) (Nat.le_of_ble_eq_true rfl) (tX9_told l hp3 (by decide) h) (fun r4 μ4 hp4 h => ?_)
  refine qa_iast dX9_readFirst_34 sh_97 (by decide) (by unfold vp_in; decide) ?_
  refine qa_nmM (fun μ5 em5 => ?_)
  have h := h μ5 em5
  have hp5 : qa_PP μ5.2.2 := by rw [em5]; exact hp4
  refine qa_ald0 dX9_readFirst_35 ?_
  refine qa_getR dX9_readFirst_36 lf_X9_31 rfl sh_91 (by decide) (pp_91_14 hp5) (by decide) ?_
  refine qa_iconst (v := 2) dX9_readFirst_39 (by decide) ?_
  refine qa_ald0 dX9_readFirst_40 ?_
  refine qa_ldcS (i := 18) (tx := "heavy") dX9_readFirst_41 (by decide) ?_
  refine qa_iconst (v := 1) dX9_readFirst_43 (by decide) ?_
  refine qa_bipush (v := 30) dX9_readFirst_44 (by decide) ?_
  refine qa_V3I dX9_readFirst_46 lm_X9_183 sh_91 rfl (by decide) (by decide) (Nat.le_of_ble_eq_true rfl) (tX9_told l hp5 (by decide) h) (fun r6 μ6 hp6 h => ?_)
  refine qa_iast dX9_readFirst_49 sh_97 (by decide) (by unfold vp_in; decide) ?_
  refine qa_nmM (fun μ7 em7 => ?_)
  have h := h μ7 em7
  have hp7 : qa_PP μ7.2.2 := by rw [em7]; exact hp6
  refine qa_ald0 dX9_readFirst_50 ?_
  refine qa_getR dX9_readFirst_51 lf_X9_31 rfl sh_91 (by decide) (pp_91_14 hp7) (by decide) ?_
  refine qa_iconst (v := 3) dX9_readFirst_54 (by decide) ?_
  refine qa_ald0 dX9_readFirst_55 ?_
  refine qa_ldcS (i := 19) (tx := "odds") dX9_readFirst_56 (by decide) ?_
  refine qa_iconst (v := 0) dX9_readFirst_58 (by decide) ?_
  refine qa_bipush (v := 10) dX9_readFirst_59 (by decide) ?_
  refine qa_V3I dX9_readFirst_61 lm_X9_183 sh_91 rfl (by decide) (by decide) (Nat.le_of_ble_eq_true rfl) (tX9_told l hp7 (by decide) h) (fun r8 μ8 hp8 h => ?_)
  refine qa_iast dX9_readFirst_64 sh_97 (by decide) (by unfold vp_in; decide) ?_
  refine qa_nmM (fun μ9 em9 => ?_)
  have h := h μ9 em9
  have hp9 : qa_PP μ9.2.2 := by rw [em9]; exact hp8
  exact qa_vret rfl dX9_readFirst_65 ⟨rfl, rfl⟩ ⟨rfl, hp9, rfl, h⟩
def wX9_readNext_128 (n : Nat) (s0 : Int32) (s1 : Int32) (μ0 : qa_M)  (Q : qa_M → Prop) : Prop := vp_in s1 114 ∧ ∀ μ39, μ39 = qa_uI μ0 97 s1.toNatClampNeg s0 → ∀ μ40, μ40 = qa_uI μ39 97 (4 : Int32).toNatClampNeg ((μ39.1 97 (4 : Int32).toNatClampNeg) + (1 : Int32)) → Q μ40
def wX9_readNext_63 (n : Nat)  (μ0 : qa_M)  (Q : qa_M → Prop) : Prop := wX9_good n  μ0 (fun r6 μ6 => ((¬ r6 = 0 → wX9_takes n 20 μ6 (fun r8 μ8 => ((r8 = 0 → wX9_takes n 21 μ8 (fun r10 μ10 => ((r10 = 0 → wX9_takes n 22 μ10 (fun r12 μ12 => ((r12 = 0 → wX9_advance n  μ12 (fun μ14 => ∀ x15, x15 = ((60 : Int32) + ((3 : Int32) * (μ14.1 97 (7 : Int32).toNatClampNeg))) → wX9_number n (0 : Int32) ((μ14.1 97 (4 : Int32).toNatClampNeg) - (1 : Int32)) μ14 (fun r16 μ16 => vp_in x15 114 ∧ ∀ μ17, μ17 = qa_uI μ16 97 x15.toNatClampNeg r16 → wX9_told n 29 (0 : Int32) (7 : Int32) μ17 (fun r18 μ18 => vp_in (x15 + (1 : Int32)) 114 ∧ ∀ μ19, μ19 = qa_uI μ18 97 (x15 + (1 : Int32)).toNatClampNeg r18 → wX9_told n 28 (0 : Int32) (19 : Int32) μ19 (fun r20 μ20 => vp_in (x15 + (2 : Int32)) 114 ∧ ∀ μ21, μ21 = qa_uI μ20 97 (x15 + (2 : Int32)).toNatClampNeg r20 → ∀ μ22, μ22 = qa_uI μ21 97 (7 : Int32).toNatClampNeg ((μ21.1 97 (7 : Int32).toNatClampNeg) + (1 : Int32)) → Q μ22))))) ∧ (¬ r12 = 0 → wX9_told n 28 (0 : Int32) (19 : Int32) μ12 (fun r23 μ23 => vp_in ((56 : Int32) + (μ12.1 97 (6 : Int32).toNatClampNeg)) 114 ∧ ∀ μ24, μ24 = qa_uI μ23 97 ((56 : Int32) + (μ12.1 97 (6 : Int32).toNatClampNeg)).toNatClampNeg r23 → ∀ μ25, μ25 = qa_uI μ24 97 (6 : Int32).toNatClampNeg ((μ24.1 97 (6 : Int32).toNatClampNeg) + (1 : Int32)) → Q μ25))))) ∧ (¬ r10 = 0 → ∀ x26, x26 = ((26 : Int32) + ((3 : Int32) * (μ10.1 97 (5 : Int32).toNatClampNeg))) → wX9_number n (0 : Int32) (7 : Int32) μ10 (fun r27 μ27 => vp_in x26 114 ∧ ∀ μ28, μ28 = qa_uI μ27 97 x26.toNatClampNeg r27 → wX9_told n 26 (0 : Int32) (20 : Int32) μ28 (fun r29 μ29 => vp_in (x26 + (1 : Int32)) 114 ∧ ∀ μ30, μ30 = qa_uI μ29 97 (x26 + (1 : Int32)).toNatClampNeg r29 → wX9_told n 27 (0 : Int32) (20 : Int32) μ30 (fun r31 μ31 => vp_in (x26 + (2 : Int32)) 114 ∧ ∀ μ32, μ32 = qa_uI μ31 97 (x26 + (2 : Int32)).toNatClampNeg r31 → ∀ μ33, μ33 = qa_uI μ32 97 (5 : Int32).toNatClampNeg ((μ32.1 97 (5 : Int32).toNatClampNeg) + (1 : Int32)) → Q μ33))))))) ∧ (¬ r8 = 0 → ∀ x34, x34 = ((10 : Int32) + ((2 : Int32) * (μ8.1 97 (4 : Int32).toNatClampNeg))) → wX9_told n 24 (0 : Int32) (40 : Int32) μ8 (fun r35 μ35 => vp_in x34 114 ∧ ∀ μ36, μ36 = qa_uI μ35 97 x34.toNatClampNeg r35 → wX9_takes n 25 μ36 (fun r37 μ37 => ((r37 = 0 → wX9_readNext_128 n (0 : Int32) (x34 + (1 : Int32)) μ37  Q) ∧ (¬ r37 = 0 → wX9_readNext_128 n (1 : Int32) (x34 + (1 : Int32)) μ37  Q)))))))) ∧ (r6 = 0 → Q μ6)))
def wX9_readNext_51 (n : Nat)  (μ0 : qa_M)  (Q : qa_M → Prop) : Prop := wX9_isFull n  μ0 (fun r4 μ4 => ((r4 = 0 → wX9_readNext_63 n  μ4  Q) ∧ (¬ r4 = 0 → wX9_errs n (3 : Int32) μ4 (fun μ41 => wX9_readNext_63 n  μ41  Q))))
def wX9_readNext_41 (n : Nat) (s0 : Int32) (μ0 : qa_M)  (Q : qa_M → Prop) : Prop := ((¬ s0 = 0 → wX9_readNext_51 n  μ0  Q) ∧ (s0 = 0 → wX9_errs n (1 : Int32) μ0 (fun μ42 => wX9_readNext_51 n  μ42  Q)))
def wX9_readNext_36 (n : Nat)  (μ0 : qa_M)  (Q : qa_M → Prop) : Prop := wX9_readNext_41 n (1 : Int32) μ0  Q
def wX9_readNext (n : Nat)  (μ0 : qa_M) (Q : qa_M → Prop) : Prop := wX9_is n 20 μ0 (fun r1 μ1 => ((¬ r1 = 0 → wX9_readNext_36 n  μ1  Q) ∧ (r1 = 0 → wX9_is n 21 μ1 (fun r43 μ43 => ((¬ r43 = 0 → wX9_readNext_36 n  μ43  Q) ∧ (r43 = 0 → wX9_is n 22 μ43 (fun r45 μ45 => ((¬ r45 = 0 → wX9_readNext_36 n  μ45  Q) ∧ (r45 = 0 → wX9_is n 23 μ45 (fun r47 μ47 => ((r47 = 0 → wX9_readNext_41 n (0 : Int32) μ47  Q) ∧ (¬ r47 = 0 → wX9_readNext_36 n  μ47  Q))))))))))))
theorem tX9_readNext_128 (l : Launch)  {Q : qa_M → Prop}  : ∀ (n : Nat) (s0 : Int32) (s1 : Int32) (μ0 : qa_M), qa_PP μ0.2.2 → wX9_readNext_128 n s0 s1 μ0  Q → qa_G l yX9_readNext cX9_readNext 3 none 9 0 0 (qa_pV Q) 0 0 128 [some (.ref 91), none, none] [.int s0, .int s1, .ref 97] 113 μ0 := by
  intro n
  intro s0 s1 μ0 hp0  h
  unfold wX9_readNext_128 at h
  refine qa_iast dX9_readNext_128 sh_97 (by decide) h.1 ?_
  have h := h.2
  refine qa_nmM (fun μ39 em39 => ?_)
  have h := h μ39 em39
  have hp39 : qa_PP μ39.2.2 := by rw [em39]; exact hp0
  refine qa_ald0 dX9_readNext_129 ?_
  refine qa_getR dX9_readNext_130 lf_X9_31 rfl sh_91 (by decide) (pp_91_14 hp39) (by decide) ?_
  refine qa_iconst (v := 4) dX9_readNext_133 (by decide) ?_
  refine qa_dup2 dX9_readNext_134 rfl rfl ?_
  refine qa_iald dX9_readNext_135 sh_97 (by decide) (by unfold vp_in; decide) ?_
  refine qa_iconst (v := 1) dX9_readNext_136 (by decide) ?_
  refine qa_iadd dX9_readNext_137 ?_
  refine qa_iast dX9_readNext_138 sh_97 (by decide) (by unfold vp_in; decide) ?_
  refine qa_nmM (fun μ40 em40 => ?_)
  have h := h μ40 em40
  have hp40 : qa_PP μ40.2.2 := by rw [em40]; exact hp39
  refine qa_goto (tgt := 351) dX9_readNext_139 (by decide) ?_
  exact qa_vret rfl dX9_readNext_351 ⟨rfl, rfl⟩ ⟨rfl, hp40, rfl, h⟩
theorem tX9_readNext_63 (l : Launch)  {Q : qa_M → Prop}  : ∀ (n : Nat)  (μ0 : qa_M), qa_PP μ0.2.2 → wX9_readNext_63 n  μ0  Q → qa_G l yX9_readNext cX9_readNext 3 none 9 0 0 (qa_pV Q) 0 0 63 [some (.ref 91), none, none] [] 113 μ0 := by
  intro n
  intro  μ0 hp0  h
  unfold wX9_readNext_63 at h
  refine qa_ald0 dX9_readNext_63 ?_
  refine qa_V0I dX9_readNext_64 lm_X9_147 sh_91 rfl (by decide) (by decide) (Nat.le_of_ble_eq_true rfl) (tX9_good l hp0  h) (fun r6 μ6 hp6 h => ?_)
  refine qa_if_ne (tgt := 71) dX9_readNext_67 (by decide) (fun c7 => ?_) (fun c7 => ?_)
  · have h := h.1 c7
    refine qa_ald0 dX9_readNext_71 ?_
    refine qa_ldcS (i := 20) (tx := "house") dX9_readNext_72 (by decide) ?_
    refine qa_V1I dX9_readNext_74 lm_X9_166 sh_91 rfl (by decide) (by decide) (Nat.le_of_ble_eq_true rfl) (tX9_takes l hp6 (by decide) h) (fun r8 μ8 hp8 h => ?_)
    refine qa_if_eq (tgt := 142) dX9_readNext_77 (by decide) (fun c9 => ?_) (fun c9 => ?_)
    · have h := h.1 c9
      refine qa_ald0 dX9_readNext_142 ?_
      refine qa_ldcS (i := 21) (tx := "place") dX9_readNext_143 (by decide) ?_
      refine qa_V1I dX9_readNext_145 lm_X9_166 sh_91 rfl (by decide) (by decide) (Nat.le_of_ble_eq_true rfl) (tX9_takes l hp8 (by decide) h) (fun r10 μ10 hp10 h => ?_)
      refine qa_if_eq (tgt := 223) dX9_readNext_148 (by decide) (fun c11 => ?_) (fun c11 => ?_)
      · have h := h.1 c11
        refine qa_ald0 dX9_readNext_223 ?_
        refine qa_ldcS (i := 22) (tx := "snow") dX9_readNext_224 (by decide) ?_
        refine qa_V1I dX9_readNext_226 lm_X9_166 sh_91 rfl (by decide) (by decide) (Nat.le_of_ble_eq_true rfl) (tX9_takes l hp10 (by decide) h) (fun r12 μ12 hp12 h => ?_)
        refine qa_if_eq (tgt := 270) dX9_readNext_229 (by decide) (fun c13 => ?_) (fun c13 => ?_)
        · have h := h.1 c13
          refine qa_ald0 dX9_readNext_270 ?_
          refine qa_V0V dX9_readNext_271 lm_X9_163 sh_91 rfl (by decide) (by decide) (Nat.le_of_ble_eq_true rfl) (tX9_advance l hp12  h) (fun μ14 hp14 h => ?_)
          refine qa_bipush (v := 60) dX9_readNext_274 (by decide) ?_
          refine qa_iconst (v := 3) dX9_readNext_276 (by decide) ?_
          refine qa_ald0 dX9_readNext_277 ?_
          refine qa_getR dX9_readNext_278 lf_X9_31 rfl sh_91 (by decide) (pp_91_14 hp14) (by decide) ?_
          refine qa_bipush (v := 7) dX9_readNext_281 (by decide) ?_
          refine qa_iald dX9_readNext_283 sh_97 (by decide) (by unfold vp_in; decide) ?_
          refine qa_imul dX9_readNext_284 ?_
          refine qa_iadd dX9_readNext_285 ?_
          refine qa_nmI (fun x15 e15 => ?_)
          have h := h x15 e15
          refine qa_ist2 dX9_readNext_286 ?_
          refine qa_ald0 dX9_readNext_287 ?_
          refine qa_getR dX9_readNext_288 lf_X9_31 rfl sh_91 (by decide) (pp_91_14 hp14) (by decide) ?_
          refine qa_ild2 dX9_readNext_291 ?_
          refine qa_ald0 dX9_readNext_292 ?_
          refine qa_iconst (v := 0) dX9_readNext_293 (by decide) ?_
          refine qa_ald0 dX9_readNext_294 ?_
          refine qa_getR dX9_readNext_295 lf_X9_31 rfl sh_91 (by decide) (pp_91_14 hp14) (by decide) ?_
          refine qa_iconst (v := 4) dX9_readNext_298 (by decide) ?_
          refine qa_iald dX9_readNext_299 sh_97 (by decide) (by unfold vp_in; decide) ?_
          refine qa_iconst (v := 1) dX9_readNext_300 (by decide) ?_
          refine qa_isub dX9_readNext_301 ?_
          refine qa_V2I dX9_readNext_302 lm_X9_177 sh_91 rfl (by decide) (by decide) (Nat.le_of_ble_eq_true rfl) (tX9_number l hp14  h) (fun r16 μ16 hp16 h => ?_)
          refine qa_iast dX9_readNext_305 sh_97 (by decide) h.1 ?_
          have h := h.2
          refine qa_nmM (fun μ17 em17 => ?_)
          have h := h μ17 em17
          have hp17 : qa_PP μ17.2.2 := by rw [em17]; exact hp16
          refine qa_ald0 dX9_readNext_306 ?_
          refine qa_getR dX9_readNext_307 lf_X9_31 rfl sh_91 (by decide) (pp_91_14 hp17) (by decide) ?_
          refine qa_ild2 dX9_readNext_310 ?_
          refine qa_iconst (v := 1) dX9_readNext_311 (by decide) ?_
          refine qa_iadd dX9_readNext_312 ?_
          refine qa_ald0 dX9_readNext_313 ?_
          refine qa_ldcS (i := 29) (tx := "to") dX9_readNext_314 (by decide) ?_
          refine qa_iconst (v := 0) dX9_readNext_316 (by decide) ?_
          refine qa_bipush (v := 7) dX9_readNext_317 (by decide) ?_
          refine qa_V3I dX9_readNext_319 lm_X9_183 sh_91 rfl (by decide) (by decide) (Nat.le_of_ble_eq_true rfl) (tX9_told l hp17 (by decide) h) (fun r18 μ18 hp18 h => ?_)
          refine qa_iast dX9_readNext_322 sh_97 (by decide) h.1 ?_
          have h := h.2
          refine qa_nmM (fun μ19 em19 => ?_)
          have h := h μ19 em19
          have hp19 : qa_PP μ19.2.2 := by rw [em19]; exact hp18
          refine qa_ald0 dX9_readNext_323 ?_
          refine qa_getR dX9_readNext_324 lf_X9_31 rfl sh_91 (by decide) (pp_91_14 hp19) (by decide) ?_
          refine qa_ild2 dX9_readNext_327 ?_
          refine qa_iconst (v := 2) dX9_readNext_328 (by decide) ?_
          refine qa_iadd dX9_readNext_329 ?_
          refine qa_ald0 dX9_readNext_330 ?_
          refine qa_ldcS (i := 28) (tx := "at") dX9_readNext_331 (by decide) ?_
          refine qa_iconst (v := 0) dX9_readNext_333 (by decide) ?_
          refine qa_bipush (v := 19) dX9_readNext_334 (by decide) ?_
          refine qa_V3I dX9_readNext_336 lm_X9_183 sh_91 rfl (by decide) (by decide) (Nat.le_of_ble_eq_true rfl) (tX9_told l hp19 (by decide) h) (fun r20 μ20 hp20 h => ?_)
          refine qa_iast dX9_readNext_339 sh_97 (by decide) h.1 ?_
          have h := h.2
          refine qa_nmM (fun μ21 em21 => ?_)
          have h := h μ21 em21
          have hp21 : qa_PP μ21.2.2 := by rw [em21]; exact hp20
          refine qa_ald0 dX9_readNext_340 ?_
          refine qa_getR dX9_readNext_341 lf_X9_31 rfl sh_91 (by decide) (pp_91_14 hp21) (by decide) ?_
          refine qa_bipush (v := 7) dX9_readNext_344 (by decide) ?_
          refine qa_dup2 dX9_readNext_346 rfl rfl ?_
          refine qa_iald dX9_readNext_347 sh_97 (by decide) (by unfold vp_in; decide) ?_
          refine qa_iconst (v := 1) dX9_readNext_348 (by decide) ?_
          refine qa_iadd dX9_readNext_349 ?_
          refine qa_iast dX9_readNext_350 sh_97 (by decide) (by unfold vp_in; decide) ?_
          refine qa_nmM (fun μ22 em22 => ?_)
          have h := h μ22 em22
          have hp22 : qa_PP μ22.2.2 := by rw [em22]; exact hp21
          exact qa_vret rfl dX9_readNext_351 ⟨rfl, rfl⟩ ⟨rfl, hp22, rfl, h⟩
        · have h := h.2 c13
          refine qa_ald0 dX9_readNext_232 ?_
          refine qa_getR dX9_readNext_233 lf_X9_31 rfl sh_91 (by decide) (pp_91_14 hp12) (by decide) ?_
          refine qa_bipush (v := 56) dX9_readNext_236 (by decide) ?_
          refine qa_ald0 dX9_readNext_238 ?_
          refine qa_getR dX9_readNext_239 lf_X9_31 rfl sh_91 (by decide) (pp_91_14 hp12) (by decide) ?_
          refine qa_bipush (v := 6) dX9_readNext_242 (by decide) ?_
          refine qa_iald dX9_readNext_244 sh_97 (by decide) (by unfold vp_in; decide) ?_
          refine qa_iadd dX9_readNext_245 ?_
          refine qa_ald0 dX9_readNext_246 ?_
          refine qa_ldcS (i := 28) (tx := "at") dX9_readNext_247 (by decide) ?_
          refine qa_iconst (v := 0) dX9_readNext_249 (by decide) ?_
          refine qa_bipush (v := 19) dX9_readNext_250 (by decide) ?_
          refine qa_V3I dX9_readNext_252 lm_X9_183 sh_91 rfl (by decide) (by decide) (Nat.le_of_ble_eq_true rfl) (tX9_told l hp12 (by decide) h) (fun r23 μ23 hp23 h => ?_)
          refine qa_iast dX9_readNext_255 sh_97 (by decide) h.1 ?_
          have h := h.2
          refine qa_nmM (fun μ24 em24 => ?_)
          have h := h μ24 em24
          have hp24 : qa_PP μ24.2.2 := by rw [em24]; exact hp23
          refine qa_ald0 dX9_readNext_256 ?_
          refine qa_getR dX9_readNext_257 lf_X9_31 rfl sh_91 (by decide) (pp_91_14 hp24) (by decide) ?_
          refine qa_bipush (v := 6) dX9_readNext_260 (by decide) ?_
          refine qa_dup2 dX9_readNext_262 rfl rfl ?_
          refine qa_iald dX9_readNext_263 sh_97 (by decide) (by unfold vp_in; decide) ?_
          refine qa_iconst (v := 1) dX9_readNext_264 (by decide) ?_
          refine qa_iadd dX9_readNext_265 ?_
          refine qa_iast dX9_readNext_266 sh_97 (by decide) (by unfold vp_in; decide) ?_
          refine qa_nmM (fun μ25 em25 => ?_)
          have h := h μ25 em25
          have hp25 : qa_PP μ25.2.2 := by rw [em25]; exact hp24
          refine qa_goto (tgt := 351) dX9_readNext_267 (by decide) ?_
          exact qa_vret rfl dX9_readNext_351 ⟨rfl, rfl⟩ ⟨rfl, hp25, rfl, h⟩
      · have h := h.2 c11
        refine qa_bipush (v := 26) dX9_readNext_151 (by decide) ?_
        refine qa_iconst (v := 3) dX9_readNext_153 (by decide) ?_
        refine qa_ald0 dX9_readNext_154 ?_
        refine qa_getR dX9_readNext_155 lf_X9_31 rfl sh_91 (by decide) (pp_91_14 hp10) (by decide) ?_
        refine qa_iconst (v := 5) dX9_readNext_158 (by decide) ?_
        refine qa_iald dX9_readNext_159 sh_97 (by decide) (by unfold vp_in; decide) ?_
        refine qa_imul dX9_readNext_160 ?_
        refine qa_iadd dX9_readNext_161 ?_
        refine qa_nmI (fun x26 e26 => ?_)
        have h := h x26 e26
        refine qa_ist2 dX9_readNext_162 ?_
        refine qa_ald0 dX9_readNext_163 ?_
        refine qa_getR dX9_readNext_164 lf_X9_31 rfl sh_91 (by decide) (pp_91_14 hp10) (by decide) ?_
        refine qa_ild2 dX9_readNext_167 ?_
        refine qa_ald0 dX9_readNext_168 ?_
        refine qa_iconst (v := 0) dX9_readNext_169 (by decide) ?_
        refine qa_bipush (v := 7) dX9_readNext_170 (by decide) ?_
        refine qa_V2I dX9_readNext_172 lm_X9_177 sh_91 rfl (by decide) (by decide) (Nat.le_of_ble_eq_true rfl) (tX9_number l hp10  h) (fun r27 μ27 hp27 h => ?_)
        refine qa_iast dX9_readNext_175 sh_97 (by decide) h.1 ?_
        have h := h.2
        refine qa_nmM (fun μ28 em28 => ?_)
        have h := h μ28 em28
        have hp28 : qa_PP μ28.2.2 := by rw [em28]; exact hp27
        refine qa_ald0 dX9_readNext_176 ?_
        refine qa_getR dX9_readNext_177 lf_X9_31 rfl sh_91 (by decide) (pp_91_14 hp28) (by decide) ?_
        refine qa_ild2 dX9_readNext_180 ?_
        refine qa_iconst (v := 1) dX9_readNext_181 (by decide) ?_
        refine qa_iadd dX9_readNext_182 ?_
        refine qa_ald0 dX9_readNext_183 ?_
        refine qa_ldcS (i := 26) (tx := "sun") dX9_readNext_184 (by decide) ?_
        refine qa_iconst (v := 0) dX9_readNext_186 (by decide) ?_
        refine qa_bipush (v := 20) dX9_readNext_187 (by decide) ?_
        refine qa_V3I dX9_readNext_189 lm_X9_183 sh_91 rfl (by decide) (by decide) (Nat.le_of_ble_eq_true rfl) (tX9_told l hp28 (by decide) h) (fun r29 μ29 hp29 h => ?_)
        refine qa_iast dX9_readNext_192 sh_97 (by decide) h.1 ?_
        have h := h.2
        refine qa_nmM (fun μ30 em30 => ?_)
        have h := h μ30 em30
        have hp30 : qa_PP μ30.2.2 := by rw [em30]; exact hp29
        refine qa_ald0 dX9_readNext_193 ?_
        refine qa_getR dX9_readNext_194 lf_X9_31 rfl sh_91 (by decide) (pp_91_14 hp30) (by decide) ?_
        refine qa_ild2 dX9_readNext_197 ?_
        refine qa_iconst (v := 2) dX9_readNext_198 (by decide) ?_
        refine qa_iadd dX9_readNext_199 ?_
        refine qa_ald0 dX9_readNext_200 ?_
        refine qa_ldcS (i := 27) (tx := "smell") dX9_readNext_201 (by decide) ?_
        refine qa_iconst (v := 0) dX9_readNext_203 (by decide) ?_
        refine qa_bipush (v := 20) dX9_readNext_204 (by decide) ?_
        refine qa_V3I dX9_readNext_206 lm_X9_183 sh_91 rfl (by decide) (by decide) (Nat.le_of_ble_eq_true rfl) (tX9_told l hp30 (by decide) h) (fun r31 μ31 hp31 h => ?_)
        refine qa_iast dX9_readNext_209 sh_97 (by decide) h.1 ?_
        have h := h.2
        refine qa_nmM (fun μ32 em32 => ?_)
        have h := h μ32 em32
        have hp32 : qa_PP μ32.2.2 := by rw [em32]; exact hp31
        refine qa_ald0 dX9_readNext_210 ?_
        refine qa_getR dX9_readNext_211 lf_X9_31 rfl sh_91 (by decide) (pp_91_14 hp32) (by decide) ?_
        refine qa_iconst (v := 5) dX9_readNext_214 (by decide) ?_
        refine qa_dup2 dX9_readNext_215 rfl rfl ?_
        refine qa_iald dX9_readNext_216 sh_97 (by decide) (by unfold vp_in; decide) ?_
        refine qa_iconst (v := 1) dX9_readNext_217 (by decide) ?_
        refine qa_iadd dX9_readNext_218 ?_
        refine qa_iast dX9_readNext_219 sh_97 (by decide) (by unfold vp_in; decide) ?_
        refine qa_nmM (fun μ33 em33 => ?_)
        have h := h μ33 em33
        have hp33 : qa_PP μ33.2.2 := by rw [em33]; exact hp32
        refine qa_goto (tgt := 351) dX9_readNext_220 (by decide) ?_
        exact qa_vret rfl dX9_readNext_351 ⟨rfl, rfl⟩ ⟨rfl, hp33, rfl, h⟩
    · have h := h.2 c9
      refine qa_bipush (v := 10) dX9_readNext_80 (by decide) ?_
      refine qa_iconst (v := 2) dX9_readNext_82 (by decide) ?_
      refine qa_ald0 dX9_readNext_83 ?_
      refine qa_getR dX9_readNext_84 lf_X9_31 rfl sh_91 (by decide) (pp_91_14 hp8) (by decide) ?_
      refine qa_iconst (v := 4) dX9_readNext_87 (by decide) ?_
      refine qa_iald dX9_readNext_88 sh_97 (by decide) (by unfold vp_in; decide) ?_
      refine qa_imul dX9_readNext_89 ?_
      refine qa_iadd dX9_readNext_90 ?_
      refine qa_nmI (fun x34 e34 => ?_)
      have h := h x34 e34
      refine qa_ist2 dX9_readNext_91 ?_
      refine qa_ald0 dX9_readNext_92 ?_
      refine qa_getR dX9_readNext_93 lf_X9_31 rfl sh_91 (by decide) (pp_91_14 hp8) (by decide) ?_
      refine qa_ild2 dX9_readNext_96 ?_
      refine qa_ald0 dX9_readNext_97 ?_
      refine qa_ldcS (i := 24) (tx := "push") dX9_readNext_98 (by decide) ?_
      refine qa_iconst (v := 0) dX9_readNext_100 (by decide) ?_
      refine qa_bipush (v := 40) dX9_readNext_101 (by decide) ?_
      refine qa_V3I dX9_readNext_103 lm_X9_183 sh_91 rfl (by decide) (by decide) (Nat.le_of_ble_eq_true rfl) (tX9_told l hp8 (by decide) h) (fun r35 μ35 hp35 h => ?_)
      refine qa_iast dX9_readNext_106 sh_97 (by decide) h.1 ?_
      have h := h.2
      refine qa_nmM (fun μ36 em36 => ?_)
      have h := h μ36 em36
      have hp36 : qa_PP μ36.2.2 := by rw [em36]; exact hp35
      refine qa_ald0 dX9_readNext_107 ?_
      refine qa_getR dX9_readNext_108 lf_X9_31 rfl sh_91 (by decide) (pp_91_14 hp36) (by decide) ?_
      refine qa_ild2 dX9_readNext_111 ?_
      refine qa_iconst (v := 1) dX9_readNext_112 (by decide) ?_
      refine qa_iadd dX9_readNext_113 ?_
      refine qa_ald0 dX9_readNext_114 ?_
      refine qa_ldcS (i := 25) (tx := "leans") dX9_readNext_115 (by decide) ?_
      refine qa_V1I dX9_readNext_117 lm_X9_166 sh_91 rfl (by decide) (by decide) (Nat.le_of_ble_eq_true rfl) (tX9_takes l hp36 (by decide) h) (fun r37 μ37 hp37 h => ?_)
      refine qa_if_eq (tgt := 127) dX9_readNext_120 (by decide) (fun c38 => ?_) (fun c38 => ?_)
      · have h := h.1 c38
        refine qa_iconst (v := 0) dX9_readNext_127 (by decide) ?_
        refine qa_fgt (L' := [some (.ref 91), none, none]) (⟨rfl, trivial⟩) ?_
        refine tX9_readNext_128 l  n (0 : Int32) (x34 + (1 : Int32)) μ37 hp37  h
      · have h := h.2 c38
        refine qa_iconst (v := 1) dX9_readNext_123 (by decide) ?_
        refine qa_goto (tgt := 128) dX9_readNext_124 (by decide) ?_
        refine qa_fgt (L' := [some (.ref 91), none, none]) (⟨rfl, trivial⟩) ?_
        refine tX9_readNext_128 l  n (1 : Int32) (x34 + (1 : Int32)) μ37 hp37  h
  · have h := h.2 c7
    exact qa_vret rfl dX9_readNext_70 ⟨rfl, rfl⟩ ⟨rfl, hp6, rfl, h⟩
theorem tX9_readNext_51 (l : Launch)  {Q : qa_M → Prop}  : ∀ (n : Nat)  (μ0 : qa_M), qa_PP μ0.2.2 → wX9_readNext_51 n  μ0  Q → qa_G l yX9_readNext cX9_readNext 3 none 9 0 0 (qa_pV Q) 0 0 51 [some (.ref 91), none, none] [] 113 μ0 := by
  intro n
  intro  μ0 hp0  h
  unfold wX9_readNext_51 at h
  refine qa_ald0 dX9_readNext_51 ?_
  refine qa_V0I dX9_readNext_52 lm_X9_201 sh_91 rfl (by decide) (by decide) (Nat.le_of_ble_eq_true rfl) (tX9_isFull l hp0  h) (fun r4 μ4 hp4 h => ?_)
  refine qa_if_eq (tgt := 63) dX9_readNext_55 (by decide) (fun c5 => ?_) (fun c5 => ?_)
  · have h := h.1 c5
    refine qa_fgt (L' := [some (.ref 91), none, none]) (⟨rfl, trivial⟩) ?_
    refine tX9_readNext_63 l  n  μ4 hp4  h
  · have h := h.2 c5
    refine qa_ald0 dX9_readNext_58 ?_
    refine qa_iconst (v := 3) dX9_readNext_59 (by decide) ?_
    refine qa_V1V dX9_readNext_60 lm_X9_169 sh_91 rfl (by decide) (by decide) (Nat.le_of_ble_eq_true rfl) (tX9_errs l hp4  h) (fun μ41 hp41 h => ?_)
    refine qa_fgt (L' := [some (.ref 91), none, none]) (⟨rfl, trivial⟩) ?_
    refine tX9_readNext_63 l  n  μ41 hp41  h
theorem tX9_readNext_41 (l : Launch)  {Q : qa_M → Prop}  : ∀ (n : Nat) (s0 : Int32) (μ0 : qa_M), qa_PP μ0.2.2 → wX9_readNext_41 n s0 μ0  Q → qa_G l yX9_readNext cX9_readNext 3 none 9 0 0 (qa_pV Q) 0 0 41 [some (.ref 91), none, none] [.int s0] 113 μ0 := by
  intro n
  intro s0 μ0 hp0  h
  unfold wX9_readNext_41 at h
  refine qa_ist1 dX9_readNext_41 ?_
  refine qa_ild1 dX9_readNext_42 ?_
  refine qa_if_ne (tgt := 51) dX9_readNext_43 (by decide) (fun c3 => ?_) (fun c3 => ?_)
  · have h := h.1 c3
    refine qa_fgt (L' := [some (.ref 91), none, none]) (⟨rfl, trivial⟩) ?_
    refine tX9_readNext_51 l  n  μ0 hp0  h
  · have h := h.2 c3
    refine qa_ald0 dX9_readNext_46 ?_
    refine qa_iconst (v := 1) dX9_readNext_47 (by decide) ?_
    refine qa_V1V dX9_readNext_48 lm_X9_169 sh_91 rfl (by decide) (by decide) (Nat.le_of_ble_eq_true rfl) (tX9_errs l hp0  h) (fun μ42 hp42 h => ?_)
    refine qa_fgt (L' := [some (.ref 91), none, none]) (⟨rfl, trivial⟩) ?_
    refine tX9_readNext_51 l  n  μ42 hp42  h
theorem tX9_readNext_36 (l : Launch)  {Q : qa_M → Prop}  : ∀ (n : Nat)  (μ0 : qa_M), qa_PP μ0.2.2 → wX9_readNext_36 n  μ0  Q → qa_G l yX9_readNext cX9_readNext 3 none 9 0 0 (qa_pV Q) 0 0 36 [some (.ref 91), none, none] [] 113 μ0 := by
  intro n
  intro  μ0 hp0  h
  unfold wX9_readNext_36 at h
  refine qa_iconst (v := 1) dX9_readNext_36 (by decide) ?_
  refine qa_goto (tgt := 41) dX9_readNext_37 (by decide) ?_
  refine qa_fgt (L' := [some (.ref 91), none, none]) (⟨rfl, trivial⟩) ?_
  refine tX9_readNext_41 l  n (1 : Int32) μ0 hp0  h
theorem tX9_readNext (l : Launch) {n : Nat}  {μ0 : qa_M} {Q : qa_M → Prop} (hp0 : qa_PP μ0.2.2)  (h : wX9_readNext n  μ0 Q) : qa_Met l yX9_readNext cX9_readNext 3 none 9 0 0 [.ref 91] 113 μ0 (qa_pV Q) := by
  refine qa_ofG (by decide) (Nat.le_of_ble_eq_true rfl) ?_
  unfold wX9_readNext at h
  change qa_G l yX9_readNext cX9_readNext 3 none 9 0 0 (qa_pV Q) 0 0 0 [some (.ref 91), none, none] [] 113 μ0
  refine qa_ald0 dX9_readNext_0 ?_
  refine qa_ldcS (i := 20) (tx := "house") dX9_readNext_1 (by decide) ?_
  refine qa_V1I dX9_readNext_3 lm_X9_159 sh_91 rfl (by decide) (by decide) (Nat.le_of_ble_eq_true rfl) (tX9_is l hp0 (by decide) h) (fun r1 μ1 hp1 h => ?_)
  refine qa_if_ne (tgt := 36) dX9_readNext_6 (by decide) (fun c2 => ?_) (fun c2 => ?_)
  · have h := h.1 c2
    refine qa_fgt (L' := [some (.ref 91), none, none]) (⟨rfl, trivial⟩) ?_
    refine tX9_readNext_36 l  n  μ1 hp1  h
  · have h := h.2 c2
    refine qa_ald0 dX9_readNext_9 ?_
    refine qa_ldcS (i := 21) (tx := "place") dX9_readNext_10 (by decide) ?_
    refine qa_V1I dX9_readNext_12 lm_X9_159 sh_91 rfl (by decide) (by decide) (Nat.le_of_ble_eq_true rfl) (tX9_is l hp1 (by decide) h) (fun r43 μ43 hp43 h => ?_)
    refine qa_if_ne (tgt := 36) dX9_readNext_15 (by decide) (fun c44 => ?_) (fun c44 => ?_)
    · have h := h.1 c44
      refine qa_fgt (L' := [some (.ref 91), none, none]) (⟨rfl, trivial⟩) ?_
      refine tX9_readNext_36 l  n  μ43 hp43  h
    · have h := h.2 c44
      refine qa_ald0 dX9_readNext_18 ?_
      refine qa_ldcS (i := 22) (tx := "snow") dX9_readNext_19 (by decide) ?_
      refine qa_V1I dX9_readNext_21 lm_X9_159 sh_91 rfl (by decide) (by decide) (Nat.le_of_ble_eq_true rfl) (tX9_is l hp43 (by decide) h) (fun r45 μ45 hp45 h => ?_)
      refine qa_if_ne (tgt := 36) dX9_readNext_24 (by decide) (fun c46 => ?_) (fun c46 => ?_)
      · have h := h.1 c46
        refine qa_fgt (L' := [some (.ref 91), none, none]) (⟨rfl, trivial⟩) ?_
        refine tX9_readNext_36 l  n  μ45 hp45  h
      · have h := h.2 c46
        refine qa_ald0 dX9_readNext_27 ?_
        refine qa_ldcS (i := 23) (tx := "letter") dX9_readNext_28 (by decide) ?_
        refine qa_V1I dX9_readNext_30 lm_X9_159 sh_91 rfl (by decide) (by decide) (Nat.le_of_ble_eq_true rfl) (tX9_is l hp45 (by decide) h) (fun r47 μ47 hp47 h => ?_)
        refine qa_if_eq (tgt := 40) dX9_readNext_33 (by decide) (fun c48 => ?_) (fun c48 => ?_)
        · have h := h.1 c48
          refine qa_iconst (v := 0) dX9_readNext_40 (by decide) ?_
          refine qa_fgt (L' := [some (.ref 91), none, none]) (⟨rfl, trivial⟩) ?_
          refine tX9_readNext_41 l  n (0 : Int32) μ47 hp47  h
        · have h := h.2 c48
          refine qa_fgt (L' := [some (.ref 91), none, none]) (⟨rfl, trivial⟩) ?_
          refine tX9_readNext_36 l  n  μ47 hp47  h
def wX9_readLine_52 (n : Nat)  (μ0 : qa_M)  (Q : qa_M → Prop) : Prop := ∀ μ7, μ7 = qa_uI μ0 97 (9 : Int32).toNatClampNeg ((μ0.1 97 (9 : Int32).toNatClampNeg) + (1 : Int32)) → Q μ7
def wX9_readLine_41 (n : Nat)  (μ0 : qa_M)  (Q : qa_M → Prop) : Prop := wX9_good n  μ0 (fun r5 μ5 => ((r5 = 0 → wX9_readLine_52 n  μ5  Q) ∧ (¬ r5 = 0 → wX9_advance n  μ5 (fun μ8 => wX9_readLine_52 n  μ8  Q))))
def wX9_readLine_21 (n : Nat)  (μ0 : qa_M)  (Q : qa_M → Prop) : Prop := wX9_good n  μ0 (fun r3 μ3 => ((r3 = 0 → wX9_readLine_41 n  μ3  Q) ∧ (¬ r3 = 0 → (((μ3.1 91 10) = (3 : Int32) → wX9_readLine_41 n  μ3  Q) ∧ (¬ (μ3.1 91 10) = (3 : Int32) → wX9_errs n (1 : Int32) μ3 (fun μ10 => wX9_readLine_41 n  μ10  Q))))))
def wX9_readLine (n : Nat)  (μ0 : qa_M) (Q : qa_M → Prop) : Prop := ((¬ (μ0.1 97 (9 : Int32).toNatClampNeg) = 0 → wX9_readNext n  μ0 (fun μ2 => wX9_readLine_21 n  μ2  Q)) ∧ ((μ0.1 97 (9 : Int32).toNatClampNeg) = 0 → wX9_readFirst n  μ0 (fun μ11 => wX9_readLine_21 n  μ11  Q)))
theorem tX9_readLine_52 (l : Launch)  {Q : qa_M → Prop}  : ∀ (n : Nat)  (μ0 : qa_M), qa_PP μ0.2.2 → wX9_readLine_52 n  μ0  Q → qa_G l yX9_readLine cX9_readLine 1 none 10 0 0 (qa_pV Q) 0 0 52 [some (.ref 91)] [] 113 μ0 := by
  intro n
  intro  μ0 hp0  h
  unfold wX9_readLine_52 at h
  refine qa_ald0 dX9_readLine_52 ?_
  refine qa_getR dX9_readLine_53 lf_X9_31 rfl sh_91 (by decide) (pp_91_14 hp0) (by decide) ?_
  refine qa_bipush (v := 9) dX9_readLine_56 (by decide) ?_
  refine qa_dup2 dX9_readLine_58 rfl rfl ?_
  refine qa_iald dX9_readLine_59 sh_97 (by decide) (by unfold vp_in; decide) ?_
  refine qa_iconst (v := 1) dX9_readLine_60 (by decide) ?_
  refine qa_iadd dX9_readLine_61 ?_
  refine qa_iast dX9_readLine_62 sh_97 (by decide) (by unfold vp_in; decide) ?_
  refine qa_nmM (fun μ7 em7 => ?_)
  have h := h μ7 em7
  have hp7 : qa_PP μ7.2.2 := by rw [em7]; exact hp0
  exact qa_vret rfl dX9_readLine_63 ⟨rfl, rfl⟩ ⟨rfl, hp7, rfl, h⟩
theorem tX9_readLine_41 (l : Launch)  {Q : qa_M → Prop}  : ∀ (n : Nat)  (μ0 : qa_M), qa_PP μ0.2.2 → wX9_readLine_41 n  μ0  Q → qa_G l yX9_readLine cX9_readLine 1 none 10 0 0 (qa_pV Q) 0 0 41 [some (.ref 91)] [] 113 μ0 := by
  intro n
  intro  μ0 hp0  h
  unfold wX9_readLine_41 at h
  refine qa_ald0 dX9_readLine_41 ?_
  refine qa_V0I dX9_readLine_42 lm_X9_147 sh_91 rfl (by decide) (by decide) (Nat.le_of_ble_eq_true rfl) (tX9_good l hp0  h) (fun r5 μ5 hp5 h => ?_)
  refine qa_if_eq (tgt := 52) dX9_readLine_45 (by decide) (fun c6 => ?_) (fun c6 => ?_)
  · have h := h.1 c6
    refine qa_fgt (L' := [some (.ref 91)]) (⟨rfl, trivial⟩) ?_
    refine tX9_readLine_52 l  n  μ5 hp5  h
  · have h := h.2 c6
    refine qa_ald0 dX9_readLine_48 ?_
    refine qa_V0V dX9_readLine_49 lm_X9_163 sh_91 rfl (by decide) (by decide) (Nat.le_of_ble_eq_true rfl) (tX9_advance l hp5  h) (fun μ8 hp8 h => ?_)
    refine qa_fgt (L' := [some (.ref 91)]) (⟨rfl, trivial⟩) ?_
    refine tX9_readLine_52 l  n  μ8 hp8  h
theorem tX9_readLine_21 (l : Launch)  {Q : qa_M → Prop}  : ∀ (n : Nat)  (μ0 : qa_M), qa_PP μ0.2.2 → wX9_readLine_21 n  μ0  Q → qa_G l yX9_readLine cX9_readLine 1 none 10 0 0 (qa_pV Q) 0 0 21 [some (.ref 91)] [] 113 μ0 := by
  intro n
  intro  μ0 hp0  h
  unfold wX9_readLine_21 at h
  refine qa_ald0 dX9_readLine_21 ?_
  refine qa_V0I dX9_readLine_22 lm_X9_147 sh_91 rfl (by decide) (by decide) (Nat.le_of_ble_eq_true rfl) (tX9_good l hp0  h) (fun r3 μ3 hp3 h => ?_)
  refine qa_if_eq (tgt := 41) dX9_readLine_25 (by decide) (fun c4 => ?_) (fun c4 => ?_)
  · have h := h.1 c4
    refine qa_fgt (L' := [some (.ref 91)]) (⟨rfl, trivial⟩) ?_
    refine tX9_readLine_41 l  n  μ3 hp3  h
  · have h := h.2 c4
    refine qa_ald0 dX9_readLine_28 ?_
    refine qa_getI dX9_readLine_29 lf_X9_123 (Or.inl rfl) sh_91 (by decide) ?_
    refine qa_iconst (v := 3) dX9_readLine_32 (by decide) ?_
    refine qa_icmp_eq (tgt := 41) dX9_readLine_33 (by decide) (fun c9 => ?_) (fun c9 => ?_)
    · have h := h.1 c9
      refine qa_fgt (L' := [some (.ref 91)]) (⟨rfl, trivial⟩) ?_
      refine tX9_readLine_41 l  n  μ3 hp3  h
    · have h := h.2 c9
      refine qa_ald0 dX9_readLine_36 ?_
      refine qa_iconst (v := 1) dX9_readLine_37 (by decide) ?_
      refine qa_V1V dX9_readLine_38 lm_X9_169 sh_91 rfl (by decide) (by decide) (Nat.le_of_ble_eq_true rfl) (tX9_errs l hp3  h) (fun μ10 hp10 h => ?_)
      refine qa_fgt (L' := [some (.ref 91)]) (⟨rfl, trivial⟩) ?_
      refine tX9_readLine_41 l  n  μ10 hp10  h
theorem tX9_readLine (l : Launch) {n : Nat}  {μ0 : qa_M} {Q : qa_M → Prop} (hp0 : qa_PP μ0.2.2)  (h : wX9_readLine n  μ0 Q) : qa_Met l yX9_readLine cX9_readLine 1 none 10 0 0 [.ref 91] 113 μ0 (qa_pV Q) := by
  refine qa_ofG (by decide) (Nat.le_of_ble_eq_true rfl) ?_
  unfold wX9_readLine at h
  change qa_G l yX9_readLine cX9_readLine 1 none 10 0 0 (qa_pV Q) 0 0 0 [some (.ref 91)] [] 113 μ0
  refine qa_ald0 dX9_readLine_0 ?_
  refine qa_getR dX9_readLine_1 lf_X9_31 rfl sh_91 (by decide) (pp_91_14 hp0) (by decide) ?_
  refine qa_bipush (v := 9) dX9_readLine_4 (by decide) ?_
  refine qa_iald dX9_readLine_6 sh_97 (by decide) (by unfold vp_in; decide) ?_
  refine qa_if_ne (tgt := 17) dX9_readLine_7 (by decide) (fun c1 => ?_) (fun c1 => ?_)
  · have h := h.1 c1
    refine qa_ald0 dX9_readLine_17 ?_
    refine qa_V0V dX9_readLine_18 lm_X9_218 sh_91 rfl (by decide) (by decide) (Nat.le_of_ble_eq_true rfl) (tX9_readNext l hp0  h) (fun μ2 hp2 h => ?_)
    refine qa_fgt (L' := [some (.ref 91)]) (⟨rfl, trivial⟩) ?_
    refine tX9_readLine_21 l  n  μ2 hp2  h
  · have h := h.2 c1
    refine qa_ald0 dX9_readLine_10 ?_
    refine qa_V0V dX9_readLine_11 lm_X9_215 sh_91 rfl (by decide) (by decide) (Nat.le_of_ble_eq_true rfl) (tX9_readFirst l hp0  h) (fun μ11 hp11 h => ?_)
    refine qa_goto (tgt := 21) dX9_readLine_14 (by decide) ?_
    refine qa_fgt (L' := [some (.ref 91)]) (⟨rfl, trivial⟩) ?_
    refine tX9_readLine_21 l  n  μ11 hp11  h
def wX9_rest (n : Nat) (v1 : Int32) (v2 : Int32) (μ0 : qa_M) (Q : Int32 → qa_M → Prop) : Prop := wX9_isHouse n v1 μ0 (fun r1 μ1 => ((r1 = 0 → Q (-2 : Int32) μ1) ∧ (¬ r1 = 0 → wX9_isAhead n v2.toInt64 μ1 (fun r3 μ3 => ((¬ r3 = 0 → wX9_keepAct n (((10000 : Int32) + ((100 : Int32) * v1)) + v2) v1 μ3 (fun r5 μ5 => Q r5 μ5)) ∧ (r3 = 0 → Q (-2 : Int32) μ3))))))
theorem tX9_rest (l : Launch) {n : Nat} {v1 : Int32} {v2 : Int32} {μ0 : qa_M} {Q : Int32 → qa_M → Prop} (hp0 : qa_PP μ0.2.2)  (h : wX9_rest n v1 v2 μ0 Q) : qa_Met l yX9_rest cX9_rest 3 (some .int) 5 0 0 [.ref 91, .int v1, .int v2] 113 μ0 (qa_pI Q) := by
  refine qa_ofG (by decide) (Nat.le_of_ble_eq_true rfl) ?_
  unfold wX9_rest at h
  change qa_G l yX9_rest cX9_rest 3 (some .int) 5 0 0 (qa_pI Q) 0 0 0 [some (.ref 91), some (.int v1), some (.int v2)] [] 113 μ0
  refine qa_ald0 dX9_rest_0 ?_
  refine qa_ild1 dX9_rest_1 ?_
  refine qa_V1I dX9_rest_2 lm_X9_103 sh_91 rfl (by decide) (by decide) (Nat.le_of_ble_eq_true rfl) (tX9_isHouse l hp0  h) (fun r1 μ1 hp1 h => ?_)
  refine qa_if_eq (tgt := 17) dX9_rest_5 (by decide) (fun c2 => ?_) (fun c2 => ?_)
  · have h := h.1 c2
    refine qa_bipush (v := -2) dX9_rest_17 (by decide) ?_
    exact qa_iret rfl dX9_rest_19 ⟨rfl, rfl⟩ ⟨rfl, hp1, _, rfl, h⟩
  · have h := h.2 c2
    refine qa_ald0 dX9_rest_8 ?_
    refine qa_ild2 dX9_rest_9 ?_
    refine qa_i2l dX9_rest_10 ?_
    refine qa_V1I dX9_rest_11 lm_X9_289 sh_91 rfl (by decide) (by decide) (Nat.le_of_ble_eq_true rfl) (tX9_isAhead l hp1  h) (fun r3 μ3 hp3 h => ?_)
    refine qa_if_ne (tgt := 20) dX9_rest_14 (by decide) (fun c4 => ?_) (fun c4 => ?_)
    · have h := h.1 c4
      refine qa_ald0 dX9_rest_20 ?_
      refine qa_sipush (v := 10000) dX9_rest_21 (by decide) ?_
      refine qa_bipush (v := 100) dX9_rest_24 (by decide) ?_
      refine qa_ild1 dX9_rest_26 ?_
      refine qa_imul dX9_rest_27 ?_
      refine qa_iadd dX9_rest_28 ?_
      refine qa_ild2 dX9_rest_29 ?_
      refine qa_iadd dX9_rest_30 ?_
      refine qa_ild1 dX9_rest_31 ?_
      refine qa_V2I dX9_rest_32 lm_X9_434 sh_91 rfl (by decide) (by decide) (Nat.le_of_ble_eq_true rfl) (tX9_keepAct l hp3  h) (fun r5 μ5 hp5 h => ?_)
      exact qa_iret rfl dX9_rest_35 ⟨rfl, rfl⟩ ⟨rfl, hp5, _, rfl, h⟩
    · have h := h.2 c4
      refine qa_bipush (v := -2) dX9_rest_17 (by decide) ?_
      exact qa_iret rfl dX9_rest_19 ⟨rfl, rfl⟩ ⟨rfl, hp3, _, rfl, h⟩
def wX9_rests_110 (n : Nat) (v1 : Int32) (v2 : Int32) (v4 : Int32) (s0 : Int32) (s1 : Int32) (μ0 : qa_M) (K0 : Int32 → Int32 → Int32 → Int32 → qa_M → Prop) (Q : Int32 → qa_M → Prop) : Prop := ∀ x10, x10 = (s1 ||| s0) → K0 v1 v2 x10 (v4 + (1 : Int32)) μ0
def wX9_rests_94 (n : Nat) (v1 : Int32) (v2 : Int32) (v3 : Int32) (v4 : Int32) (s0 : Int32) (μ0 : qa_M) (K0 : Int32 → Int32 → Int32 → Int32 → qa_M → Prop) (Q : Int32 → qa_M → Prop) : Prop := ((s0 = 0 → wX9_rests_110 n v1 v2 v4 (0 : Int32) v3 μ0 K0 Q) ∧ (¬ s0 = 0 → wX9_rests_110 n v1 v2 v4 ((1 : Int32) <<< (v4 &&& 31)) v3 μ0 K0 Q))
def wX9_rests_93 (n : Nat) (v1 : Int32) (v2 : Int32) (v3 : Int32) (v4 : Int32) (μ0 : qa_M) (K0 : Int32 → Int32 → Int32 → Int32 → qa_M → Prop) (Q : Int32 → qa_M → Prop) : Prop := wX9_rests_94 n v1 v2 v3 v4 (0 : Int32) μ0 K0 Q
def wX9_rests_17 : Nat → Int32 → Int32 → Int32 → Int32 → qa_M → (Int32 → qa_M → Prop) → Prop
  | 0, _, _, _, _, _, _ => False
  | n + 1, v1, v2, v3, v4, μ0, Q => (((4 : Int32) ≤ v4 → Q v3 μ0) ∧ (¬ (4 : Int32) ≤ v4 → ∀ x4, x4 = (v4 &&& (1 : Int32)) → ∀ x5, x5 = (v4 >>> ((1 : Int32) &&& 31)) → wX9_getsBy n v1 v2 x4 x5 (0 : Int32) μ0 (fun r6 μ6 => wX9_getsBy n v1 v2 ((1 : Int32) - x4) x5 (0 : Int32) μ6 (fun r7 μ7 => ((r6 < r7 → wX9_rests_93 n v1 v2 v3 v4 μ7 (fun v1 v2 v3 v4 μk => wX9_rests_17 n v1 v2 v3 v4 μk Q) Q) ∧ (¬ r6 < r7 → wX9_getsBy n v1 v2 x4 x5 (1 : Int32) μ7 (fun r11 μ11 => wX9_getsBy n v1 v2 x4 ((1 : Int32) - x5) (1 : Int32) μ11 (fun r12 μ12 => ((r11 < r12 → wX9_rests_93 n v1 v2 v3 v4 μ12 (fun v1 v2 v3 v4 μk => wX9_rests_17 n v1 v2 v3 v4 μk Q) Q) ∧ (¬ r11 < r12 → wX9_rests_94 n v1 v2 v3 v4 (1 : Int32) μ12 (fun v1 v2 v3 v4 μk => wX9_rests_17 n v1 v2 v3 v4 μk Q) Q))))))))))
def wX9_rests (n : Nat) (v1 : Int32) (v2 : Int32) (μ0 : qa_M) (Q : Int32 → qa_M → Prop) : Prop := wX9_areTwo n v1 v2 μ0 (fun r1 μ1 => ((¬ r1 = 0 → wX9_rests_17 n v1 v2 (0 : Int32) (0 : Int32) μ1  Q) ∧ (r1 = 0 → Q (-2 : Int32) μ1)))
theorem tX9_rests_110 (l : Launch) {K0 : Int32 → Int32 → Int32 → Int32 → qa_M → Prop} {Q : Int32 → qa_M → Prop} (hK0 : ∀ (v1 : Int32) (v2 : Int32) (v3 : Int32) (v4 : Int32) (μ : qa_M), qa_PP μ.2.2 → K0 v1 v2 v3 v4 μ → qa_G l yX9_rests cX9_rests 8 (some .int) 4 0 0 (qa_pI Q) 0 0 17 [some (.ref 91), some (.int v1), some (.int v2), some (.int v3), some (.int v4), none, none, none] [] 113 μ) : ∀ (n : Nat) (v1 : Int32) (v2 : Int32) (v4 : Int32) (s0 : Int32) (s1 : Int32) (μ0 : qa_M), qa_PP μ0.2.2 → wX9_rests_110 n v1 v2 v4 s0 s1 μ0 K0 Q → qa_G l yX9_rests cX9_rests 8 (some .int) 4 0 0 (qa_pI Q) 0 0 110 [some (.ref 91), some (.int v1), some (.int v2), none, some (.int v4), none, none, none] [.int s0, .int s1] 113 μ0 := by
  intro n
  intro v1 v2 v4 s0 s1 μ0 hp0  h
  unfold wX9_rests_110 at h
  refine qa_ior dX9_rests_110 ?_
  refine qa_nmI (fun x10 e10 => ?_)
  have h := h x10 e10
  refine qa_ist3 dX9_rests_111 ?_
  refine qa_inc4 dX9_rests_112 (qa_io1 _) ?_
  refine qa_goto (tgt := 17) dX9_rests_115 (by decide) ?_
  refine qa_fgt (L' := [some (.ref 91), some (.int v1), some (.int v2), some (.int x10), some (.int (v4 + (1 : Int32))), none, none, none]) (⟨rfl, ⟨rfl, ⟨rfl, ⟨rfl, ⟨rfl, trivial⟩⟩⟩⟩⟩) ?_
  exact hK0 v1 v2 x10 (v4 + (1 : Int32)) μ0 hp0  h
theorem tX9_rests_94 (l : Launch) {K0 : Int32 → Int32 → Int32 → Int32 → qa_M → Prop} {Q : Int32 → qa_M → Prop} (hK0 : ∀ (v1 : Int32) (v2 : Int32) (v3 : Int32) (v4 : Int32) (μ : qa_M), qa_PP μ.2.2 → K0 v1 v2 v3 v4 μ → qa_G l yX9_rests cX9_rests 8 (some .int) 4 0 0 (qa_pI Q) 0 0 17 [some (.ref 91), some (.int v1), some (.int v2), some (.int v3), some (.int v4), none, none, none] [] 113 μ) : ∀ (n : Nat) (v1 : Int32) (v2 : Int32) (v3 : Int32) (v4 : Int32) (s0 : Int32) (μ0 : qa_M), qa_PP μ0.2.2 → wX9_rests_94 n v1 v2 v3 v4 s0 μ0 K0 Q → qa_G l yX9_rests cX9_rests 8 (some .int) 4 0 0 (qa_pI Q) 0 0 94 [some (.ref 91), some (.int v1), some (.int v2), some (.int v3), some (.int v4), none, none, none] [.int s0] 113 μ0 := by
  intro n
  intro v1 v2 v3 v4 s0 μ0 hp0  h
  unfold wX9_rests_94 at h
  refine qa_ist7 dX9_rests_94 ?_
  refine qa_ild3 dX9_rests_96 ?_
  refine qa_ild7 dX9_rests_97 ?_
  refine qa_if_eq (tgt := 109) dX9_rests_99 (by decide) (fun c9 => ?_) (fun c9 => ?_)
  · have h := h.1 c9
    refine qa_iconst (v := 0) dX9_rests_109 (by decide) ?_
    refine qa_fgt (L' := [some (.ref 91), some (.int v1), some (.int v2), none, some (.int v4), none, none, none]) (⟨rfl, ⟨rfl, ⟨rfl, ⟨rfl, trivial⟩⟩⟩⟩) ?_
    refine tX9_rests_110 l hK0 n v1 v2 v4 (0 : Int32) v3 μ0 hp0  h
  · have h := h.2 c9
    refine qa_iconst (v := 1) dX9_rests_102 (by decide) ?_
    refine qa_ild4 dX9_rests_103 ?_
    refine qa_ishl dX9_rests_105 ?_
    refine qa_goto (tgt := 110) dX9_rests_106 (by decide) ?_
    refine qa_fgt (L' := [some (.ref 91), some (.int v1), some (.int v2), none, some (.int v4), none, none, none]) (⟨rfl, ⟨rfl, ⟨rfl, ⟨rfl, trivial⟩⟩⟩⟩) ?_
    refine tX9_rests_110 l hK0 n v1 v2 v4 ((1 : Int32) <<< (v4 &&& 31)) v3 μ0 hp0  h
theorem tX9_rests_93 (l : Launch) {K0 : Int32 → Int32 → Int32 → Int32 → qa_M → Prop} {Q : Int32 → qa_M → Prop} (hK0 : ∀ (v1 : Int32) (v2 : Int32) (v3 : Int32) (v4 : Int32) (μ : qa_M), qa_PP μ.2.2 → K0 v1 v2 v3 v4 μ → qa_G l yX9_rests cX9_rests 8 (some .int) 4 0 0 (qa_pI Q) 0 0 17 [some (.ref 91), some (.int v1), some (.int v2), some (.int v3), some (.int v4), none, none, none] [] 113 μ) : ∀ (n : Nat) (v1 : Int32) (v2 : Int32) (v3 : Int32) (v4 : Int32) (μ0 : qa_M), qa_PP μ0.2.2 → wX9_rests_93 n v1 v2 v3 v4 μ0 K0 Q → qa_G l yX9_rests cX9_rests 8 (some .int) 4 0 0 (qa_pI Q) 0 0 93 [some (.ref 91), some (.int v1), some (.int v2), some (.int v3), some (.int v4), none, none, none] [] 113 μ0 := by
  intro n
  intro v1 v2 v3 v4 μ0 hp0  h
  unfold wX9_rests_93 at h
  refine qa_iconst (v := 0) dX9_rests_93 (by decide) ?_
  refine qa_fgt (L' := [some (.ref 91), some (.int v1), some (.int v2), some (.int v3), some (.int v4), none, none, none]) (⟨rfl, ⟨rfl, ⟨rfl, ⟨rfl, ⟨rfl, trivial⟩⟩⟩⟩⟩) ?_
  refine tX9_rests_94 l hK0 n v1 v2 v3 v4 (0 : Int32) μ0 hp0  h
theorem tX9_rests_17 (l : Launch)  {Q : Int32 → qa_M → Prop}  : ∀ (n : Nat) (v1 : Int32) (v2 : Int32) (v3 : Int32) (v4 : Int32) (μ0 : qa_M), qa_PP μ0.2.2 → wX9_rests_17 n v1 v2 v3 v4 μ0  Q → qa_G l yX9_rests cX9_rests 8 (some .int) 4 0 0 (qa_pI Q) 0 0 17 [some (.ref 91), some (.int v1), some (.int v2), some (.int v3), some (.int v4), none, none, none] [] 113 μ0 := by
  intro n
  induction n with
  | zero =>
    intro v1 v2 v3 v4 μ0 hp0  h
    rw [wX9_rests_17] at h
    exact h.elim
  | succ n ih =>
    intro v1 v2 v3 v4 μ0 hp0  h
    rw [wX9_rests_17] at h
    refine qa_ild4 dX9_rests_17 ?_
    refine qa_iconst (v := 4) dX9_rests_19 (by decide) ?_
    refine qa_icmp_ge (tgt := 118) dX9_rests_20 (by decide) (fun c3 => ?_) (fun c3 => ?_)
    · have h := h.1 c3
      refine qa_ild3 dX9_rests_118 ?_
      exact qa_iret rfl dX9_rests_119 ⟨rfl, rfl⟩ ⟨rfl, hp0, _, rfl, h⟩
    · have h := h.2 c3
      refine qa_ild4 dX9_rests_23 ?_
      refine qa_iconst (v := 1) dX9_rests_25 (by decide) ?_
      refine qa_iand dX9_rests_26 ?_
      refine qa_nmI (fun x4 e4 => ?_)
      have h := h x4 e4
      refine qa_ist5 dX9_rests_27 ?_
      refine qa_ild4 dX9_rests_29 ?_
      refine qa_iconst (v := 1) dX9_rests_31 (by decide) ?_
      refine qa_ishr dX9_rests_32 ?_
      refine qa_nmI (fun x5 e5 => ?_)
      have h := h x5 e5
      refine qa_ist6 dX9_rests_33 ?_
      refine qa_ald0 dX9_rests_35 ?_
      refine qa_ild1 dX9_rests_36 ?_
      refine qa_ild2 dX9_rests_37 ?_
      refine qa_ild5 dX9_rests_38 ?_
      refine qa_ild6 dX9_rests_40 ?_
      refine qa_iconst (v := 0) dX9_rests_42 (by decide) ?_
      refine qa_V5I dX9_rests_43 lm_X9_410 sh_91 rfl (by decide) (by decide) (Nat.le_of_ble_eq_true rfl) (tX9_getsBy l hp0  h) (fun r6 μ6 hp6 h => ?_)
      refine qa_ald0 dX9_rests_46 ?_
      refine qa_ild1 dX9_rests_47 ?_
      refine qa_ild2 dX9_rests_48 ?_
      refine qa_iconst (v := 1) dX9_rests_49 (by decide) ?_
      refine qa_ild5 dX9_rests_50 ?_
      refine qa_isub dX9_rests_52 ?_
      refine qa_ild6 dX9_rests_53 ?_
      refine qa_iconst (v := 0) dX9_rests_55 (by decide) ?_
      refine qa_V5I dX9_rests_56 lm_X9_410 sh_91 rfl (by decide) (by decide) (Nat.le_of_ble_eq_true rfl) (tX9_getsBy l hp6  h) (fun r7 μ7 hp7 h => ?_)
      refine qa_icmp_lt (tgt := 93) dX9_rests_59 (by decide) (fun c8 => ?_) (fun c8 => ?_)
      · have h := h.1 c8
        refine qa_fgt (L' := [some (.ref 91), some (.int v1), some (.int v2), some (.int v3), some (.int v4), none, none, none]) (⟨rfl, ⟨rfl, ⟨rfl, ⟨rfl, ⟨rfl, trivial⟩⟩⟩⟩⟩) ?_
        refine tX9_rests_93 l ih n v1 v2 v3 v4 μ7 hp7  h
      · have h := h.2 c8
        refine qa_ald0 dX9_rests_62 ?_
        refine qa_ild1 dX9_rests_63 ?_
        refine qa_ild2 dX9_rests_64 ?_
        refine qa_ild5 dX9_rests_65 ?_
        refine qa_ild6 dX9_rests_67 ?_
        refine qa_iconst (v := 1) dX9_rests_69 (by decide) ?_
        refine qa_V5I dX9_rests_70 lm_X9_410 sh_91 rfl (by decide) (by decide) (Nat.le_of_ble_eq_true rfl) (tX9_getsBy l hp7  h) (fun r11 μ11 hp11 h => ?_)
        refine qa_ald0 dX9_rests_73 ?_
        refine qa_ild1 dX9_rests_74 ?_
        refine qa_ild2 dX9_rests_75 ?_
        refine qa_ild5 dX9_rests_76 ?_
        refine qa_iconst (v := 1) dX9_rests_78 (by decide) ?_
        refine qa_ild6 dX9_rests_79 ?_
        refine qa_isub dX9_rests_81 ?_
        refine qa_iconst (v := 1) dX9_rests_82 (by decide) ?_
        refine qa_V5I dX9_rests_83 lm_X9_410 sh_91 rfl (by decide) (by decide) (Nat.le_of_ble_eq_true rfl) (tX9_getsBy l hp11  h) (fun r12 μ12 hp12 h => ?_)
        refine qa_icmp_lt (tgt := 93) dX9_rests_86 (by decide) (fun c13 => ?_) (fun c13 => ?_)
        · have h := h.1 c13
          refine qa_fgt (L' := [some (.ref 91), some (.int v1), some (.int v2), some (.int v3), some (.int v4), none, none, none]) (⟨rfl, ⟨rfl, ⟨rfl, ⟨rfl, ⟨rfl, trivial⟩⟩⟩⟩⟩) ?_
          refine tX9_rests_93 l ih n v1 v2 v3 v4 μ12 hp12  h
        · have h := h.2 c13
          refine qa_iconst (v := 1) dX9_rests_89 (by decide) ?_
          refine qa_goto (tgt := 94) dX9_rests_90 (by decide) ?_
          refine qa_fgt (L' := [some (.ref 91), some (.int v1), some (.int v2), some (.int v3), some (.int v4), none, none, none]) (⟨rfl, ⟨rfl, ⟨rfl, ⟨rfl, ⟨rfl, trivial⟩⟩⟩⟩⟩) ?_
          refine tX9_rests_94 l ih n v1 v2 v3 v4 (1 : Int32) μ12 hp12  h
theorem tX9_rests (l : Launch) {n : Nat} {v1 : Int32} {v2 : Int32} {μ0 : qa_M} {Q : Int32 → qa_M → Prop} (hp0 : qa_PP μ0.2.2)  (h : wX9_rests n v1 v2 μ0 Q) : qa_Met l yX9_rests cX9_rests 8 (some .int) 4 0 0 [.ref 91, .int v1, .int v2] 113 μ0 (qa_pI Q) := by
  refine qa_ofG (by decide) (Nat.le_of_ble_eq_true rfl) ?_
  unfold wX9_rests at h
  change qa_G l yX9_rests cX9_rests 8 (some .int) 4 0 0 (qa_pI Q) 0 0 0 [some (.ref 91), some (.int v1), some (.int v2), none, none, none, none, none] [] 113 μ0
  refine qa_ald0 dX9_rests_0 ?_
  refine qa_ild1 dX9_rests_1 ?_
  refine qa_ild2 dX9_rests_2 ?_
  refine qa_V2I dX9_rests_3 lm_X9_328 sh_91 rfl (by decide) (by decide) (Nat.le_of_ble_eq_true rfl) (tX9_areTwo l hp0  h) (fun r1 μ1 hp1 h => ?_)
  refine qa_if_ne (tgt := 12) dX9_rests_6 (by decide) (fun c2 => ?_) (fun c2 => ?_)
  · have h := h.1 c2
    refine qa_iconst (v := 0) dX9_rests_12 (by decide) ?_
    refine qa_ist3 dX9_rests_13 ?_
    refine qa_iconst (v := 0) dX9_rests_14 (by decide) ?_
    refine qa_ist4 dX9_rests_15 ?_
    refine qa_fgt (L' := [some (.ref 91), some (.int v1), some (.int v2), some (.int (0 : Int32)), some (.int (0 : Int32)), none, none, none]) (⟨rfl, ⟨rfl, ⟨rfl, ⟨rfl, ⟨rfl, trivial⟩⟩⟩⟩⟩) ?_
    refine tX9_rests_17 l  n v1 v2 (0 : Int32) (0 : Int32) μ1 hp1  h
  · have h := h.2 c2
    refine qa_bipush (v := -2) dX9_rests_9 (by decide) ?_
    exact qa_iret rfl dX9_rests_11 ⟨rfl, rfl⟩ ⟨rfl, hp1, _, rfl, h⟩
def wX9_right (n : Nat) (v1 : Int32) (μ0 : qa_M) (Q : Int32 → qa_M → Prop) : Prop := wX9_asksTown n  μ0 (fun r1 μ1 => wX9_isLetter n v1 μ1 (fun r2 μ2 => ((r2 = 0 → Q (-2 : Int32) μ2) ∧ (¬ r2 = 0 → wX9_isRight n v1 μ2 (fun r4 μ4 => ((r4 = 0 → Q (0 : Int32) μ4) ∧ (¬ r4 = 0 → Q (1 : Int32) μ4)))))))
theorem tX9_right (l : Launch) {n : Nat} {v1 : Int32} {μ0 : qa_M} {Q : Int32 → qa_M → Prop} (hp0 : qa_PP μ0.2.2)  (h : wX9_right n v1 μ0 Q) : qa_Met l yX9_right cX9_right 2 (some .int) 4 0 0 [.ref 91, .int v1] 113 μ0 (qa_pI Q) := by
  refine qa_ofG (by decide) (Nat.le_of_ble_eq_true rfl) ?_
  unfold wX9_right at h
  change qa_G l yX9_right cX9_right 2 (some .int) 4 0 0 (qa_pI Q) 0 0 0 [some (.ref 91), some (.int v1)] [] 113 μ0
  refine qa_ald0 dX9_right_0 ?_
  refine qa_V0I dX9_right_1 lm_X9_283 sh_91 rfl (by decide) (by decide) (Nat.le_of_ble_eq_true rfl) (tX9_asksTown l hp0  h) (fun r1 μ1 hp1 h => ?_)
  refine qa_pop dX9_right_4 rfl ?_
  refine qa_ald0 dX9_right_5 ?_
  refine qa_ild1 dX9_right_6 ?_
  refine qa_V1I dX9_right_7 lm_X9_224 sh_91 rfl (by decide) (by decide) (Nat.le_of_ble_eq_true rfl) (tX9_isLetter l hp1  h) (fun r2 μ2 hp2 h => ?_)
  refine qa_if_eq (tgt := 29) dX9_right_10 (by decide) (fun c3 => ?_) (fun c3 => ?_)
  · have h := h.1 c3
    refine qa_bipush (v := -2) dX9_right_29 (by decide) ?_
    exact qa_iret rfl dX9_right_31 ⟨rfl, rfl⟩ ⟨rfl, hp2, _, rfl, h⟩
  · have h := h.2 c3
    refine qa_ald0 dX9_right_13 ?_
    refine qa_ild1 dX9_right_14 ?_
    refine qa_V1I dX9_right_15 lm_X9_336 sh_91 rfl (by decide) (by decide) (Nat.le_of_ble_eq_true rfl) (tX9_isRight l hp2  h) (fun r4 μ4 hp4 h => ?_)
    refine qa_if_eq (tgt := 25) dX9_right_18 (by decide) (fun c5 => ?_) (fun c5 => ?_)
    · have h := h.1 c5
      refine qa_iconst (v := 0) dX9_right_25 (by decide) ?_
      refine qa_goto (tgt := 31) dX9_right_26 (by decide) ?_
      exact qa_iret rfl dX9_right_31 ⟨rfl, rfl⟩ ⟨rfl, hp4, _, rfl, h⟩
    · have h := h.2 c5
      refine qa_iconst (v := 1) dX9_right_21 (by decide) ?_
      refine qa_goto (tgt := 31) dX9_right_22 (by decide) ?_
      exact qa_iret rfl dX9_right_31 ⟨rfl, rfl⟩ ⟨rfl, hp4, _, rfl, h⟩
def wX9_rights (n : Nat)  (μ0 : qa_M) (Q : Int32 → qa_M → Prop) : Prop := wX9_asksTown n  μ0 (fun r1 μ1 => ((r1 = 0 → Q (-2 : Int32) μ1) ∧ (¬ r1 = 0 → wX9_rightSet n  μ1 (fun r3 μ3 => Q r3 μ3))))
theorem tX9_rights (l : Launch) {n : Nat}  {μ0 : qa_M} {Q : Int32 → qa_M → Prop} (hp0 : qa_PP μ0.2.2)  (h : wX9_rights n  μ0 Q) : qa_Met l yX9_rights cX9_rights 1 (some .int) 4 0 0 [.ref 91] 113 μ0 (qa_pI Q) := by
  refine qa_ofG (by decide) (Nat.le_of_ble_eq_true rfl) ?_
  unfold wX9_rights at h
  change qa_G l yX9_rights cX9_rights 1 (some .int) 4 0 0 (qa_pI Q) 0 0 0 [some (.ref 91)] [] 113 μ0
  refine qa_ald0 dX9_rights_0 ?_
  refine qa_V0I dX9_rights_1 lm_X9_283 sh_91 rfl (by decide) (by decide) (Nat.le_of_ble_eq_true rfl) (tX9_asksTown l hp0  h) (fun r1 μ1 hp1 h => ?_)
  refine qa_if_eq (tgt := 14) dX9_rights_4 (by decide) (fun c2 => ?_) (fun c2 => ?_)
  · have h := h.1 c2
    refine qa_bipush (v := -2) dX9_rights_14 (by decide) ?_
    exact qa_iret rfl dX9_rights_16 ⟨rfl, rfl⟩ ⟨rfl, hp1, _, rfl, h⟩
  · have h := h.2 c2
    refine qa_ald0 dX9_rights_7 ?_
    refine qa_V0I dX9_rights_8 lm_X9_339 sh_91 rfl (by decide) (by decide) (Nat.le_of_ble_eq_true rfl) (tX9_rightSet l hp1  h) (fun r3 μ3 hp3 h => ?_)
    refine qa_goto (tgt := 16) dX9_rights_11 (by decide) ?_
    exact qa_iret rfl dX9_rights_16 ⟨rfl, rfl⟩ ⟨rfl, hp3, _, rfl, h⟩
def wX9_row_52 : Nat → Int32 → Int32 → qa_M → (Int32 → qa_M → Prop) → Prop
  | 0, _, _, _, _ => False
  | n + 1, v1, v4, μ0, Q => (((60 : Int32) ≤ v4 → Q (0 : Int32) μ0) ∧ (¬ (60 : Int32) ≤ v4 → vp_in (((60 : Int32) * v1) + v4) 240 ∧ ∀ μ10, μ10 = qa_uJ μ0 112 (((60 : Int32) * v1) + v4).toNatClampNeg (0 : Int64) → wX9_row_52 n v1 (v4 + (1 : Int32)) μ10 Q))
def wX9_row (n : Nat) (v1 : Int32) (v2 : Int32) (v3 : Int32) (μ0 : qa_M) (Q : Int32 → qa_M → Prop) : Prop := wX9_isSlot n v1 μ0 (fun r1 μ1 => ((r1 = 0 → Q (-2 : Int32) μ1) ∧ (¬ r1 = 0 → wX9_in n v2.toInt64 (0 : Int64) (3 : Int64) μ1 (fun r3 μ3 => ((r3 = 0 → Q (-2 : Int32) μ3) ∧ (¬ r3 = 0 → ((v3 ≤ (60 : Int32) → ((0 ≤ v3 → vp_in v1 4 ∧ ∀ μ7, μ7 = qa_uI μ3 110 v1.toNatClampNeg v3 → vp_in v1 4 ∧ ∀ μ8, μ8 = qa_uI μ7 111 v1.toNatClampNeg v2 → wX9_row_52 n v1 (0 : Int32) μ8  Q) ∧ (¬ 0 ≤ v3 → Q (-3 : Int32) μ3))) ∧ (¬ v3 ≤ (60 : Int32) → Q (-2 : Int32) μ3))))))))
theorem tX9_row_52 (l : Launch)  {Q : Int32 → qa_M → Prop}  : ∀ (n : Nat) (v1 : Int32) (v4 : Int32) (μ0 : qa_M), qa_PP μ0.2.2 → wX9_row_52 n v1 v4 μ0  Q → qa_G l yX9_row cX9_row 5 (some .int) 2 0 0 (qa_pI Q) 0 0 52 [some (.ref 91), some (.int v1), none, none, some (.int v4)] [] 113 μ0 := by
  intro n
  induction n with
  | zero =>
    intro v1 v4 μ0 hp0  h
    rw [wX9_row_52] at h
    exact h.elim
  | succ n ih =>
    intro v1 v4 μ0 hp0  h
    rw [wX9_row_52] at h
    refine qa_ild4 dX9_row_52 ?_
    refine qa_bipush (v := 60) dX9_row_54 (by decide) ?_
    refine qa_icmp_ge (tgt := 78) dX9_row_56 (by decide) (fun c9 => ?_) (fun c9 => ?_)
    · have h := h.1 c9
      refine qa_iconst (v := 0) dX9_row_78 (by decide) ?_
      exact qa_iret rfl dX9_row_79 ⟨rfl, rfl⟩ ⟨rfl, hp0, _, rfl, h⟩
    · have h := h.2 c9
      refine qa_ald0 dX9_row_59 ?_
      refine qa_getR dX9_row_60 lf_X9_76 rfl sh_91 (by decide) (pp_91_43 hp0) (by decide) ?_
      refine qa_bipush (v := 60) dX9_row_63 (by decide) ?_
      refine qa_ild1 dX9_row_65 ?_
      refine qa_imul dX9_row_66 ?_
      refine qa_ild4 dX9_row_67 ?_
      refine qa_iadd dX9_row_69 ?_
      refine qa_lconst (v := 0) dX9_row_70 (by decide) ?_
      refine qa_last dX9_row_71 sh_112 (by decide) h.1 ?_
      have h := h.2
      refine qa_nmM (fun μ10 em10 => ?_)
      have h := h μ10 em10
      have hp10 : qa_PP μ10.2.2 := by rw [em10]; exact hp0
      refine qa_inc4 dX9_row_72 (qa_io1 _) ?_
      refine qa_goto (tgt := 52) dX9_row_75 (by decide) ?_
      refine qa_fgt (L' := [some (.ref 91), some (.int v1), none, none, some (.int (v4 + (1 : Int32)))]) (⟨rfl, ⟨rfl, ⟨rfl, trivial⟩⟩⟩) ?_
      exact ih v1 (v4 + (1 : Int32)) μ10 hp10  h
theorem tX9_row (l : Launch) {n : Nat} {v1 : Int32} {v2 : Int32} {v3 : Int32} {μ0 : qa_M} {Q : Int32 → qa_M → Prop} (hp0 : qa_PP μ0.2.2)  (h : wX9_row n v1 v2 v3 μ0 Q) : qa_Met l yX9_row cX9_row 5 (some .int) 2 0 0 [.ref 91, .int v1, .int v2, .int v3] 113 μ0 (qa_pI Q) := by
  refine qa_ofG (by decide) (Nat.le_of_ble_eq_true rfl) ?_
  unfold wX9_row at h
  change qa_G l yX9_row cX9_row 5 (some .int) 2 0 0 (qa_pI Q) 0 0 0 [some (.ref 91), some (.int v1), some (.int v2), some (.int v3), none] [] 113 μ0
  refine qa_ild1 dX9_row_0 ?_
  refine qa_S1I dX9_row_1 lm_X9_367  (by decide) (Nat.le_of_ble_eq_true rfl) (tX9_isSlot l hp0  h) (fun r1 μ1 hp1 h => ?_)
  refine qa_if_eq (tgt := 25) dX9_row_4 (by decide) (fun c2 => ?_) (fun c2 => ?_)
  · have h := h.1 c2
    refine qa_bipush (v := -2) dX9_row_25 (by decide) ?_
    exact qa_iret rfl dX9_row_27 ⟨rfl, rfl⟩ ⟨rfl, hp1, _, rfl, h⟩
  · have h := h.2 c2
    refine qa_ild2 dX9_row_7 ?_
    refine qa_i2l dX9_row_8 ?_
    refine qa_lconst (v := 0) dX9_row_9 (by decide) ?_
    refine qa_ldc2 dX9_row_10 lk_X9_353 ?_
    refine qa_S3I dX9_row_13 lm_X9_88  (by decide) (Nat.le_of_ble_eq_true rfl) (tX9_in l hp1  h) (fun r3 μ3 hp3 h => ?_)
    refine qa_if_eq (tgt := 25) dX9_row_16 (by decide) (fun c4 => ?_) (fun c4 => ?_)
    · have h := h.1 c4
      refine qa_bipush (v := -2) dX9_row_25 (by decide) ?_
      exact qa_iret rfl dX9_row_27 ⟨rfl, rfl⟩ ⟨rfl, hp3, _, rfl, h⟩
    · have h := h.2 c4
      refine qa_ild3 dX9_row_19 ?_
      refine qa_bipush (v := 60) dX9_row_20 (by decide) ?_
      refine qa_icmp_le (tgt := 28) dX9_row_22 (by decide) (fun c5 => ?_) (fun c5 => ?_)
      · have h := h.1 c5
        refine qa_ild3 dX9_row_28 ?_
        refine qa_if_ge (tgt := 35) dX9_row_29 (by decide) (fun c6 => ?_) (fun c6 => ?_)
        · have h := h.1 c6
          refine qa_ald0 dX9_row_35 ?_
          refine qa_getR dX9_row_36 lf_X9_70 rfl sh_91 (by decide) (pp_91_41 hp3) (by decide) ?_
          refine qa_ild1 dX9_row_39 ?_
          refine qa_ild3 dX9_row_40 ?_
          refine qa_iast dX9_row_41 sh_110 (by decide) h.1 ?_
          have h := h.2
          refine qa_nmM (fun μ7 em7 => ?_)
          have h := h μ7 em7
          have hp7 : qa_PP μ7.2.2 := by rw [em7]; exact hp3
          refine qa_ald0 dX9_row_42 ?_
          refine qa_getR dX9_row_43 lf_X9_73 rfl sh_91 (by decide) (pp_91_42 hp7) (by decide) ?_
          refine qa_ild1 dX9_row_46 ?_
          refine qa_ild2 dX9_row_47 ?_
          refine qa_iast dX9_row_48 sh_111 (by decide) h.1 ?_
          have h := h.2
          refine qa_nmM (fun μ8 em8 => ?_)
          have h := h μ8 em8
          have hp8 : qa_PP μ8.2.2 := by rw [em8]; exact hp7
          refine qa_iconst (v := 0) dX9_row_49 (by decide) ?_
          refine qa_ist4 dX9_row_50 ?_
          refine qa_fgt (L' := [some (.ref 91), some (.int v1), none, none, some (.int (0 : Int32))]) (⟨rfl, ⟨rfl, ⟨rfl, trivial⟩⟩⟩) ?_
          refine tX9_row_52 l  n v1 (0 : Int32) μ8 hp8  h
        · have h := h.2 c6
          refine qa_bipush (v := -3) dX9_row_32 (by decide) ?_
          exact qa_iret rfl dX9_row_34 ⟨rfl, rfl⟩ ⟨rfl, hp3, _, rfl, h⟩
      · have h := h.2 c5
        refine qa_bipush (v := -2) dX9_row_25 (by decide) ?_
        exact qa_iret rfl dX9_row_27 ⟨rfl, rfl⟩ ⟨rfl, hp3, _, rfl, h⟩
def wX9_same (n : Nat) (v1 : Int32) (μ0 : qa_M) (Q : Int32 → qa_M → Prop) : Prop := wX9_asksWeek n v1 μ0 (fun r1 μ1 => ((r1 = 0 → Q (-2 : Int32) μ1) ∧ (¬ r1 = 0 → wX9_sameIn n v1 μ1 (fun r3 μ3 => Q r3 μ3))))
theorem tX9_same (l : Launch) {n : Nat} {v1 : Int32} {μ0 : qa_M} {Q : Int32 → qa_M → Prop} (hp0 : qa_PP μ0.2.2)  (h : wX9_same n v1 μ0 Q) : qa_Met l yX9_same cX9_same 2 (some .int) 5 0 0 [.ref 91, .int v1] 113 μ0 (qa_pI Q) := by
  refine qa_ofG (by decide) (Nat.le_of_ble_eq_true rfl) ?_
  unfold wX9_same at h
  change qa_G l yX9_same cX9_same 2 (some .int) 5 0 0 (qa_pI Q) 0 0 0 [some (.ref 91), some (.int v1)] [] 113 μ0
  refine qa_ald0 dX9_same_0 ?_
  refine qa_ild1 dX9_same_1 ?_
  refine qa_V1I dX9_same_2 lm_X9_292 sh_91 rfl (by decide) (by decide) (Nat.le_of_ble_eq_true rfl) (tX9_asksWeek l hp0  h) (fun r1 μ1 hp1 h => ?_)
  refine qa_if_eq (tgt := 16) dX9_same_5 (by decide) (fun c2 => ?_) (fun c2 => ?_)
  · have h := h.1 c2
    refine qa_bipush (v := -2) dX9_same_16 (by decide) ?_
    exact qa_iret rfl dX9_same_18 ⟨rfl, rfl⟩ ⟨rfl, hp1, _, rfl, h⟩
  · have h := h.2 c2
    refine qa_ald0 dX9_same_8 ?_
    refine qa_ild1 dX9_same_9 ?_
    refine qa_V1I dX9_same_10 lm_X9_325 sh_91 rfl (by decide) (by decide) (Nat.le_of_ble_eq_true rfl) (tX9_sameIn l hp1  h) (fun r3 μ3 hp3 h => ?_)
    refine qa_goto (tgt := 18) dX9_same_13 (by decide) ?_
    exact qa_iret rfl dX9_same_18 ⟨rfl, rfl⟩ ⟨rfl, hp3, _, rfl, h⟩
def wX9_sees_15 : Nat → Int32 → Int32 → Int32 → qa_M → (Int32 → qa_M → Prop) → Prop
  | 0, _, _, _, _, _ => False
  | n + 1, v1, v2, v3, μ0, Q => wX9_weeks n  μ0 (fun r3 μ3 => ((r3 < v3 → Q v2 μ3) ∧ (¬ r3 < v3 → wX9_placeOf n v1 v3 μ3 (fun r5 μ5 => ∀ x6, x6 = (v2 ||| ((1 : Int32) <<< (r5 &&& 31))) → wX9_sees_15 n v1 x6 (v3 + (1 : Int32)) μ5 Q))))
def wX9_sees (n : Nat) (v1 : Int32) (μ0 : qa_M) (Q : Int32 → qa_M → Prop) : Prop := wX9_asksHouse n v1 μ0 (fun r1 μ1 => ((¬ r1 = 0 → wX9_sees_15 n v1 (0 : Int32) (0 : Int32) μ1  Q) ∧ (r1 = 0 → Q (-2 : Int32) μ1)))
theorem tX9_sees_15 (l : Launch)  {Q : Int32 → qa_M → Prop}  : ∀ (n : Nat) (v1 : Int32) (v2 : Int32) (v3 : Int32) (μ0 : qa_M), qa_PP μ0.2.2 → wX9_sees_15 n v1 v2 v3 μ0  Q → qa_G l yX9_sees cX9_sees 4 (some .int) 5 0 0 (qa_pI Q) 0 0 15 [some (.ref 91), some (.int v1), some (.int v2), some (.int v3)] [] 113 μ0 := by
  intro n
  induction n with
  | zero =>
    intro v1 v2 v3 μ0 hp0  h
    rw [wX9_sees_15] at h
    exact h.elim
  | succ n ih =>
    intro v1 v2 v3 μ0 hp0  h
    rw [wX9_sees_15] at h
    refine qa_ild3 dX9_sees_15 ?_
    refine qa_ald0 dX9_sees_16 ?_
    refine qa_V0I dX9_sees_17 lm_X9_96 sh_91 rfl (by decide) (by decide) (Nat.le_of_ble_eq_true rfl) (tX9_weeks l hp0  h) (fun r3 μ3 hp3 h => ?_)
    refine qa_icmp_gt (tgt := 40) dX9_sees_20 (by decide) (fun c4 => ?_) (fun c4 => ?_)
    · have h := h.1 c4
      refine qa_ild2 dX9_sees_40 ?_
      exact qa_iret rfl dX9_sees_41 ⟨rfl, rfl⟩ ⟨rfl, hp3, _, rfl, h⟩
    · have h := h.2 c4
      refine qa_ild2 dX9_sees_23 ?_
      refine qa_iconst (v := 1) dX9_sees_24 (by decide) ?_
      refine qa_ald0 dX9_sees_25 ?_
      refine qa_ild1 dX9_sees_26 ?_
      refine qa_ild3 dX9_sees_27 ?_
      refine qa_V2I dX9_sees_28 lm_X9_261 sh_91 rfl (by decide) (by decide) (Nat.le_of_ble_eq_true rfl) (tX9_placeOf l hp3  h) (fun r5 μ5 hp5 h => ?_)
      refine qa_ishl dX9_sees_31 ?_
      refine qa_ior dX9_sees_32 ?_
      refine qa_nmI (fun x6 e6 => ?_)
      have h := h x6 e6
      refine qa_ist2 dX9_sees_33 ?_
      refine qa_inc3 dX9_sees_34 (qa_io1 _) ?_
      refine qa_goto (tgt := 15) dX9_sees_37 (by decide) ?_
      refine qa_fgt (L' := [some (.ref 91), some (.int v1), some (.int x6), some (.int (v3 + (1 : Int32)))]) (⟨rfl, ⟨rfl, ⟨rfl, ⟨rfl, trivial⟩⟩⟩⟩) ?_
      exact ih v1 x6 (v3 + (1 : Int32)) μ5 hp5  h
theorem tX9_sees (l : Launch) {n : Nat} {v1 : Int32} {μ0 : qa_M} {Q : Int32 → qa_M → Prop} (hp0 : qa_PP μ0.2.2)  (h : wX9_sees n v1 μ0 Q) : qa_Met l yX9_sees cX9_sees 4 (some .int) 5 0 0 [.ref 91, .int v1] 113 μ0 (qa_pI Q) := by
  refine qa_ofG (by decide) (Nat.le_of_ble_eq_true rfl) ?_
  unfold wX9_sees at h
  change qa_G l yX9_sees cX9_sees 4 (some .int) 5 0 0 (qa_pI Q) 0 0 0 [some (.ref 91), some (.int v1), none, none] [] 113 μ0
  refine qa_ald0 dX9_sees_0 ?_
  refine qa_ild1 dX9_sees_1 ?_
  refine qa_V1I dX9_sees_2 lm_X9_307 sh_91 rfl (by decide) (by decide) (Nat.le_of_ble_eq_true rfl) (tX9_asksHouse l hp0  h) (fun r1 μ1 hp1 h => ?_)
  refine qa_if_ne (tgt := 11) dX9_sees_5 (by decide) (fun c2 => ?_) (fun c2 => ?_)
  · have h := h.1 c2
    refine qa_iconst (v := 0) dX9_sees_11 (by decide) ?_
    refine qa_ist2 dX9_sees_12 ?_
    refine qa_iconst (v := 0) dX9_sees_13 (by decide) ?_
    refine qa_ist3 dX9_sees_14 ?_
    refine qa_fgt (L' := [some (.ref 91), some (.int v1), some (.int (0 : Int32)), some (.int (0 : Int32))]) (⟨rfl, ⟨rfl, ⟨rfl, ⟨rfl, trivial⟩⟩⟩⟩) ?_
    refine tX9_sees_15 l  n v1 (0 : Int32) (0 : Int32) μ1 hp1  h
  · have h := h.2 c2
    refine qa_bipush (v := -2) dX9_sees_8 (by decide) ?_
    exact qa_iret rfl dX9_sees_10 ⟨rfl, rfl⟩ ⟨rfl, hp1, _, rfl, h⟩
def wX9_worthOf_24 : Nat → Int32 → Int32 → qa_M → (Int32 → qa_M → Prop) → Prop
  | 0, _, _, _, _ => False
  | n + 1, v2, v3, μ0, Q => wX9_weeks n  μ0 (fun r4 μ4 => ((r4 ≤ v3 → Q v2 μ4) ∧ (¬ r4 ≤ v3 → vp_in v3 20 ∧ wJ9_abs_0f7a4 n (μ4.1 104 v3.toNatClampNeg) μ4 (fun r6 μ6 => ∀ x7, x7 = (v2 + r6) → wX9_worthOf_24 n x7 (v3 + (1 : Int32)) μ6 Q))))
def wX9_worthOf (n : Nat) (v1 : Int32) (μ0 : qa_M) (Q : Int32 → qa_M → Prop) : Prop := wX9_houses n  μ0 (fun r1 μ1 => ∀ μ2, μ2 = qa_uI μ1 91 22 ((((1 : Int32) <<< (r1 &&& 31)) - (1 : Int32)) &&& (v1 ^^^ (-1 : Int32))) → wX9_goAll n  μ2 (fun μ3 => wX9_worthOf_24 n (0 : Int32) (0 : Int32) μ3  Q))
theorem tX9_worthOf_24 (l : Launch)  {Q : Int32 → qa_M → Prop}  : ∀ (n : Nat) (v2 : Int32) (v3 : Int32) (μ0 : qa_M), qa_PP μ0.2.2 → wX9_worthOf_24 n v2 v3 μ0  Q → qa_G l yX9_worthOf cX9_worthOf 4 (some .int) 3 0 0 (qa_pI Q) 0 0 24 [some (.ref 91), none, some (.int v2), some (.int v3)] [] 113 μ0 := by
  intro n
  induction n with
  | zero =>
    intro v2 v3 μ0 hp0  h
    rw [wX9_worthOf_24] at h
    exact h.elim
  | succ n ih =>
    intro v2 v3 μ0 hp0  h
    rw [wX9_worthOf_24] at h
    refine qa_ild3 dX9_worthOf_24 ?_
    refine qa_ald0 dX9_worthOf_25 ?_
    refine qa_V0I dX9_worthOf_26 lm_X9_96 sh_91 rfl (by decide) (by decide) (Nat.le_of_ble_eq_true rfl) (tX9_weeks l hp0  h) (fun r4 μ4 hp4 h => ?_)
    refine qa_icmp_ge (tgt := 50) dX9_worthOf_29 (by decide) (fun c5 => ?_) (fun c5 => ?_)
    · have h := h.1 c5
      refine qa_ild2 dX9_worthOf_50 ?_
      exact qa_iret rfl dX9_worthOf_51 ⟨rfl, rfl⟩ ⟨rfl, hp4, _, rfl, h⟩
    · have h := h.2 c5
      refine qa_ild2 dX9_worthOf_32 ?_
      refine qa_ald0 dX9_worthOf_33 ?_
      refine qa_getR dX9_worthOf_34 lf_X9_52 rfl sh_91 (by decide) (pp_91_28 hp4) (by decide) ?_
      refine qa_ild3 dX9_worthOf_37 ?_
      refine qa_iald dX9_worthOf_38 sh_104 (by decide) h.1 ?_
      have h := h.2
      refine qa_S1I dX9_worthOf_39 lm_X9_304  (by decide) (Nat.le_of_ble_eq_true rfl) (tJ9_abs_0f7a4 l hp4  h) (fun r6 μ6 hp6 h => ?_)
      refine qa_iadd dX9_worthOf_42 ?_
      refine qa_nmI (fun x7 e7 => ?_)
      have h := h x7 e7
      refine qa_ist2 dX9_worthOf_43 ?_
      refine qa_inc3 dX9_worthOf_44 (qa_io1 _) ?_
      refine qa_goto (tgt := 24) dX9_worthOf_47 (by decide) ?_
      refine qa_fgt (L' := [some (.ref 91), none, some (.int x7), some (.int (v3 + (1 : Int32)))]) (⟨rfl, ⟨rfl, ⟨rfl, trivial⟩⟩⟩) ?_
      exact ih x7 (v3 + (1 : Int32)) μ6 hp6  h
theorem tX9_worthOf (l : Launch) {n : Nat} {v1 : Int32} {μ0 : qa_M} {Q : Int32 → qa_M → Prop} (hp0 : qa_PP μ0.2.2)  (h : wX9_worthOf n v1 μ0 Q) : qa_Met l yX9_worthOf cX9_worthOf 4 (some .int) 3 0 0 [.ref 91, .int v1] 113 μ0 (qa_pI Q) := by
  refine qa_ofG (by decide) (Nat.le_of_ble_eq_true rfl) ?_
  unfold wX9_worthOf at h
  change qa_G l yX9_worthOf cX9_worthOf 4 (some .int) 3 0 0 (qa_pI Q) 0 0 0 [some (.ref 91), some (.int v1), none, none] [] 113 μ0
  refine qa_ald0 dX9_worthOf_0 ?_
  refine qa_iconst (v := 1) dX9_worthOf_1 (by decide) ?_
  refine qa_ald0 dX9_worthOf_2 ?_
  refine qa_V0I dX9_worthOf_3 lm_X9_100 sh_91 rfl (by decide) (by decide) (Nat.le_of_ble_eq_true rfl) (tX9_houses l hp0  h) (fun r1 μ1 hp1 h => ?_)
  refine qa_ishl dX9_worthOf_6 ?_
  refine qa_iconst (v := 1) dX9_worthOf_7 (by decide) ?_
  refine qa_isub dX9_worthOf_8 ?_
  refine qa_ild1 dX9_worthOf_9 ?_
  refine qa_iconst (v := -1) dX9_worthOf_10 (by decide) ?_
  refine qa_ixor dX9_worthOf_11 ?_
  refine qa_iand dX9_worthOf_12 ?_
  refine qa_putI dX9_worthOf_13 lf_X9_242 rfl sh_91 (by decide) rfl ?_
  refine qa_nmM (fun μ2 em2 => ?_)
  have h := h μ2 em2
  have hp2 : qa_PP μ2.2.2 := by rw [em2]; exact hp1
  refine qa_ald0 dX9_worthOf_16 ?_
  refine qa_V0V dX9_worthOf_17 lm_X9_280 sh_91 rfl (by decide) (by decide) (Nat.le_of_ble_eq_true rfl) (tX9_goAll l hp2  h) (fun μ3 hp3 h => ?_)
  refine qa_iconst (v := 0) dX9_worthOf_20 (by decide) ?_
  refine qa_ist2 dX9_worthOf_21 ?_
  refine qa_iconst (v := 0) dX9_worthOf_22 (by decide) ?_
  refine qa_ist3 dX9_worthOf_23 ?_
  refine qa_fgt (L' := [some (.ref 91), none, some (.int (0 : Int32)), some (.int (0 : Int32))]) (⟨rfl, ⟨rfl, ⟨rfl, trivial⟩⟩⟩) ?_
  refine tX9_worthOf_24 l  n (0 : Int32) (0 : Int32) μ3 hp3  h
def wX9_share_33 : Nat → Int32 → Int32 → Int32 → Int32 → qa_M → (Int32 → Int32 → Int32 → qa_M → Prop) → (Int32 → qa_M → Prop) → Prop
  | 0, _, _, _, _, _, _, _ => False
  | n + 1, v1, v2, v3, v4, μ0, K0, Q => ((((1 : Int32) <<< (v3 &&& 31)) ≤ v4 → K0 v1 v2 v3 μ0) ∧ (¬ ((1 : Int32) <<< (v3 &&& 31)) ≤ v4 → wX9_worthOf n v4 μ0 (fun r8 μ8 => vp_in v4 256 ∧ ∀ μ9, μ9 = qa_uI μ8 109 v4.toNatClampNeg r8 → wX9_share_33 n v1 v2 v3 (v4 + (1 : Int32)) μ9 K0 Q)))
def wX9_share_66 : Nat → Int32 → Int32 → Int32 → Int64 → Int32 → qa_M → (Int32 → qa_M → Prop) → Prop
  | 0, _, _, _, _, _, _, _ => False
  | n + 1, v1, v2, v3, v4, v6, μ0, Q => ((((1 : Int32) <<< (v3 &&& 31)) ≤ v6 → wX9_factorial n v3 μ0 (fun r13 μ13 => wX9_part n v4 r13 v2 μ13 (fun r14 μ14 => Q r14.toInt32 μ14))) ∧ (¬ ((1 : Int32) <<< (v3 &&& 31)) ≤ v6 → wX9_bit n v6 v1 μ0 (fun r15 μ15 => ((¬ r15 = 0 → wX9_share_66 n v1 v2 v3 v4 (v6 + (1 : Int32)) μ15 Q) ∧ (r15 = 0 → wX9_bits n v6 μ15 (fun r17 μ17 => wX9_factorial n r17 μ17 (fun r18 μ18 => wX9_bits n v6 μ18 (fun r19 μ19 => wX9_factorial n ((v3 - (1 : Int32)) - r19) μ19 (fun r20 μ20 => vp_in (v6 ||| ((1 : Int32) <<< (v1 &&& 31))) 256 ∧ vp_in v6 256 ∧ ∀ x21, x21 = (v4 + ((r18 * r20) * ((μ20.1 109 (v6 ||| ((1 : Int32) <<< (v1 &&& 31))).toNatClampNeg) - (μ20.1 109 v6.toNatClampNeg)).toInt64)) → wX9_share_66 n v1 v2 v3 x21 (v6 + (1 : Int32)) μ20 Q)))))))))
def wX9_share (n : Nat) (v1 : Int32) (v2 : Int32) (μ0 : qa_M) (Q : Int32 → qa_M → Prop) : Prop := wX9_isHouse n v1 μ0 (fun r1 μ1 => ((r1 = 0 → Q (-2 : Int32) μ1) ∧ (¬ r1 = 0 → wX9_in n v2.toInt64 (0 : Int64) (1 : Int64) μ1 (fun r3 μ3 => ((¬ r3 = 0 → wX9_asItIs n  μ3 (fun μ5 => wX9_houses n  μ5 (fun r6 μ6 => wX9_share_33 n v1 v2 r6 (0 : Int32) μ6 (fun v1_11 v2_11 v3_11 μ10 => wX9_share_66 n v1_11 v2_11 v3_11 (0 : Int64) (0 : Int32) μ10  Q) Q))) ∧ (r3 = 0 → Q (-2 : Int32) μ3))))))
theorem tX9_share_33 (l : Launch) {K0 : Int32 → Int32 → Int32 → qa_M → Prop} {Q : Int32 → qa_M → Prop} (hK0 : ∀ (v1 : Int32) (v2 : Int32) (v3 : Int32) (μ : qa_M), qa_PP μ.2.2 → K0 v1 v2 v3 μ → qa_G l yX9_share cX9_share 7 (some .int) 4 0 0 (qa_pI Q) 0 0 60 [some (.ref 91), some (.int v1), some (.int v2), some (.int v3), none, none, none] [] 113 μ) : ∀ (n : Nat) (v1 : Int32) (v2 : Int32) (v3 : Int32) (v4 : Int32) (μ0 : qa_M), qa_PP μ0.2.2 → wX9_share_33 n v1 v2 v3 v4 μ0 K0 Q → qa_G l yX9_share cX9_share 7 (some .int) 4 0 0 (qa_pI Q) 0 0 33 [some (.ref 91), some (.int v1), some (.int v2), some (.int v3), some (.int v4), none, none] [] 113 μ0 := by
  intro n
  induction n with
  | zero =>
    intro v1 v2 v3 v4 μ0 hp0  h
    rw [wX9_share_33] at h
    exact h.elim
  | succ n ih =>
    intro v1 v2 v3 v4 μ0 hp0  h
    rw [wX9_share_33] at h
    refine qa_ild4 dX9_share_33 ?_
    refine qa_iconst (v := 1) dX9_share_35 (by decide) ?_
    refine qa_ild3 dX9_share_36 ?_
    refine qa_ishl dX9_share_37 ?_
    refine qa_icmp_ge (tgt := 60) dX9_share_38 (by decide) (fun c7 => ?_) (fun c7 => ?_)
    · have h := h.1 c7
      refine qa_fgt (L' := [some (.ref 91), some (.int v1), some (.int v2), some (.int v3), none, none, none]) (⟨rfl, ⟨rfl, ⟨rfl, ⟨rfl, trivial⟩⟩⟩⟩) ?_
      exact hK0 v1 v2 v3 μ0 hp0  h
    · have h := h.2 c7
      refine qa_ald0 dX9_share_41 ?_
      refine qa_getR dX9_share_42 lf_X9_67 rfl sh_91 (by decide) (pp_91_37 hp0) (by decide) ?_
      refine qa_ild4 dX9_share_45 ?_
      refine qa_ald0 dX9_share_47 ?_
      refine qa_ild4 dX9_share_48 ?_
      refine qa_V1I dX9_share_50 lm_X9_392 sh_91 rfl (by decide) (by decide) (Nat.le_of_ble_eq_true rfl) (tX9_worthOf l hp0  h) (fun r8 μ8 hp8 h => ?_)
      refine qa_iast dX9_share_53 sh_109 (by decide) h.1 ?_
      have h := h.2
      refine qa_nmM (fun μ9 em9 => ?_)
      have h := h μ9 em9
      have hp9 : qa_PP μ9.2.2 := by rw [em9]; exact hp8
      refine qa_inc4 dX9_share_54 (qa_io1 _) ?_
      refine qa_goto (tgt := 33) dX9_share_57 (by decide) ?_
      refine qa_fgt (L' := [some (.ref 91), some (.int v1), some (.int v2), some (.int v3), some (.int (v4 + (1 : Int32))), none, none]) (⟨rfl, ⟨rfl, ⟨rfl, ⟨rfl, ⟨rfl, trivial⟩⟩⟩⟩⟩) ?_
      exact ih v1 v2 v3 (v4 + (1 : Int32)) μ9 hp9  h
theorem tX9_share_66 (l : Launch)  {Q : Int32 → qa_M → Prop}  : ∀ (n : Nat) (v1 : Int32) (v2 : Int32) (v3 : Int32) (v4 : Int64) (v6 : Int32) (μ0 : qa_M), qa_PP μ0.2.2 → wX9_share_66 n v1 v2 v3 v4 v6 μ0  Q → qa_G l yX9_share cX9_share 7 (some .int) 4 0 0 (qa_pI Q) 0 0 66 [some (.ref 91), some (.int v1), some (.int v2), some (.int v3), some (.long v4), none, some (.int v6)] [] 113 μ0 := by
  intro n
  induction n with
  | zero =>
    intro v1 v2 v3 v4 v6 μ0 hp0  h
    rw [wX9_share_66] at h
    exact h.elim
  | succ n ih =>
    intro v1 v2 v3 v4 v6 μ0 hp0  h
    rw [wX9_share_66] at h
    refine qa_ild6 dX9_share_66 ?_
    refine qa_iconst (v := 1) dX9_share_68 (by decide) ?_
    refine qa_ild3 dX9_share_69 ?_
    refine qa_ishl dX9_share_70 ?_
    refine qa_icmp_ge (tgt := 136) dX9_share_71 (by decide) (fun c12 => ?_) (fun c12 => ?_)
    · have h := h.1 c12
      refine qa_lld4 dX9_share_136 ?_
      refine qa_ild3 dX9_share_138 ?_
      refine qa_S1J dX9_share_139 lm_X9_402  (by decide) (Nat.le_of_ble_eq_true rfl) (tX9_factorial l hp0  h) (fun r13 μ13 hp13 h => ?_)
      refine qa_ild2 dX9_share_142 ?_
      refine qa_S3J dX9_share_143 lm_X9_406  (by decide) (Nat.le_of_ble_eq_true rfl) (tX9_part l hp13  h) (fun r14 μ14 hp14 h => ?_)
      refine qa_l2i dX9_share_146 ?_
      exact qa_iret rfl dX9_share_147 ⟨rfl, rfl⟩ ⟨rfl, hp14, _, rfl, h⟩
    · have h := h.2 c12
      refine qa_ild6 dX9_share_74 ?_
      refine qa_ild1 dX9_share_76 ?_
      refine qa_S2I dX9_share_77 lm_X9_264  (by decide) (Nat.le_of_ble_eq_true rfl) (tX9_bit l hp0  h) (fun r15 μ15 hp15 h => ?_)
      refine qa_if_ne (tgt := 130) dX9_share_80 (by decide) (fun c16 => ?_) (fun c16 => ?_)
      · have h := h.1 c16
        refine qa_inc6 dX9_share_130 (qa_io1 _) ?_
        refine qa_goto (tgt := 66) dX9_share_133 (by decide) ?_
        refine qa_fgt (L' := [some (.ref 91), some (.int v1), some (.int v2), some (.int v3), some (.long v4), none, some (.int (v6 + (1 : Int32)))]) (⟨rfl, ⟨rfl, ⟨rfl, ⟨rfl, ⟨rfl, ⟨rfl, trivial⟩⟩⟩⟩⟩⟩) ?_
        exact ih v1 v2 v3 v4 (v6 + (1 : Int32)) μ15 hp15  h
      · have h := h.2 c16
        refine qa_lld4 dX9_share_83 ?_
        refine qa_ild6 dX9_share_85 ?_
        refine qa_S1I dX9_share_87 lm_X9_342  (by decide) (Nat.le_of_ble_eq_true rfl) (tX9_bits l hp15  h) (fun r17 μ17 hp17 h => ?_)
        refine qa_S1J dX9_share_90 lm_X9_402  (by decide) (Nat.le_of_ble_eq_true rfl) (tX9_factorial l hp17  h) (fun r18 μ18 hp18 h => ?_)
        refine qa_ild3 dX9_share_93 ?_
        refine qa_iconst (v := 1) dX9_share_94 (by decide) ?_
        refine qa_isub dX9_share_95 ?_
        refine qa_ild6 dX9_share_96 ?_
        refine qa_S1I dX9_share_98 lm_X9_342  (by decide) (Nat.le_of_ble_eq_true rfl) (tX9_bits l hp18  h) (fun r19 μ19 hp19 h => ?_)
        refine qa_isub dX9_share_101 ?_
        refine qa_S1J dX9_share_102 lm_X9_402  (by decide) (Nat.le_of_ble_eq_true rfl) (tX9_factorial l hp19  h) (fun r20 μ20 hp20 h => ?_)
        refine qa_lmul dX9_share_105 ?_
        refine qa_ald0 dX9_share_106 ?_
        refine qa_getR dX9_share_107 lf_X9_67 rfl sh_91 (by decide) (pp_91_37 hp20) (by decide) ?_
        refine qa_ild6 dX9_share_110 ?_
        refine qa_iconst (v := 1) dX9_share_112 (by decide) ?_
        refine qa_ild1 dX9_share_113 ?_
        refine qa_ishl dX9_share_114 ?_
        refine qa_ior dX9_share_115 ?_
        refine qa_iald dX9_share_116 sh_109 (by decide) h.1 ?_
        have h := h.2
        refine qa_ald0 dX9_share_117 ?_
        refine qa_getR dX9_share_118 lf_X9_67 rfl sh_91 (by decide) (pp_91_37 hp20) (by decide) ?_
        refine qa_ild6 dX9_share_121 ?_
        refine qa_iald dX9_share_123 sh_109 (by decide) h.1 ?_
        have h := h.2
        refine qa_isub dX9_share_124 ?_
        refine qa_i2l dX9_share_125 ?_
        refine qa_lmul dX9_share_126 ?_
        refine qa_ladd dX9_share_127 ?_
        refine qa_nmL (fun x21 e21 => ?_)
        have h := h x21 e21
        refine qa_lst4 dX9_share_128 ?_
        refine qa_inc6 dX9_share_130 (qa_io1 _) ?_
        refine qa_goto (tgt := 66) dX9_share_133 (by decide) ?_
        refine qa_fgt (L' := [some (.ref 91), some (.int v1), some (.int v2), some (.int v3), some (.long x21), none, some (.int (v6 + (1 : Int32)))]) (⟨rfl, ⟨rfl, ⟨rfl, ⟨rfl, ⟨rfl, ⟨rfl, trivial⟩⟩⟩⟩⟩⟩) ?_
        exact ih v1 v2 v3 x21 (v6 + (1 : Int32)) μ20 hp20  h
theorem tX9_share (l : Launch) {n : Nat} {v1 : Int32} {v2 : Int32} {μ0 : qa_M} {Q : Int32 → qa_M → Prop} (hp0 : qa_PP μ0.2.2)  (h : wX9_share n v1 v2 μ0 Q) : qa_Met l yX9_share cX9_share 7 (some .int) 4 0 0 [.ref 91, .int v1, .int v2] 113 μ0 (qa_pI Q) := by
  refine qa_ofG (by decide) (Nat.le_of_ble_eq_true rfl) ?_
  unfold wX9_share at h
  change qa_G l yX9_share cX9_share 7 (some .int) 4 0 0 (qa_pI Q) 0 0 0 [some (.ref 91), some (.int v1), some (.int v2), none, none, none, none] [] 113 μ0
  refine qa_ald0 dX9_share_0 ?_
  refine qa_ild1 dX9_share_1 ?_
  refine qa_V1I dX9_share_2 lm_X9_103 sh_91 rfl (by decide) (by decide) (Nat.le_of_ble_eq_true rfl) (tX9_isHouse l hp0  h) (fun r1 μ1 hp1 h => ?_)
  refine qa_if_eq (tgt := 18) dX9_share_5 (by decide) (fun c2 => ?_) (fun c2 => ?_)
  · have h := h.1 c2
    refine qa_bipush (v := -2) dX9_share_18 (by decide) ?_
    exact qa_iret rfl dX9_share_20 ⟨rfl, rfl⟩ ⟨rfl, hp1, _, rfl, h⟩
  · have h := h.2 c2
    refine qa_ild2 dX9_share_8 ?_
    refine qa_i2l dX9_share_9 ?_
    refine qa_lconst (v := 0) dX9_share_10 (by decide) ?_
    refine qa_lconst (v := 1) dX9_share_11 (by decide) ?_
    refine qa_S3I dX9_share_12 lm_X9_88  (by decide) (Nat.le_of_ble_eq_true rfl) (tX9_in l hp1  h) (fun r3 μ3 hp3 h => ?_)
    refine qa_if_ne (tgt := 21) dX9_share_15 (by decide) (fun c4 => ?_) (fun c4 => ?_)
    · have h := h.1 c4
      refine qa_ald0 dX9_share_21 ?_
      refine qa_V0V dX9_share_22 lm_X9_251 sh_91 rfl (by decide) (by decide) (Nat.le_of_ble_eq_true rfl) (tX9_asItIs l hp3  h) (fun μ5 hp5 h => ?_)
      refine qa_ald0 dX9_share_25 ?_
      refine qa_V0I dX9_share_26 lm_X9_100 sh_91 rfl (by decide) (by decide) (Nat.le_of_ble_eq_true rfl) (tX9_houses l hp5  h) (fun r6 μ6 hp6 h => ?_)
      refine qa_ist3 dX9_share_29 ?_
      refine qa_iconst (v := 0) dX9_share_30 (by decide) ?_
      refine qa_ist4 dX9_share_31 ?_
      refine qa_fgt (L' := [some (.ref 91), some (.int v1), some (.int v2), some (.int r6), some (.int (0 : Int32)), none, none]) (⟨rfl, ⟨rfl, ⟨rfl, ⟨rfl, ⟨rfl, trivial⟩⟩⟩⟩⟩) ?_
      refine tX9_share_33 l ?_ n v1 v2 r6 (0 : Int32) μ6 hp6  h
      · intro v1_11 v2_11 v3_11 μ10 hp10  h
        refine qa_lconst (v := 0) dX9_share_60 (by decide) ?_
        refine qa_lst4 dX9_share_61 ?_
        refine qa_iconst (v := 0) dX9_share_63 (by decide) ?_
        refine qa_ist6 dX9_share_64 ?_
        refine qa_fgt (L' := [some (.ref 91), some (.int v1_11), some (.int v2_11), some (.int v3_11), some (.long (0 : Int64)), none, some (.int (0 : Int32))]) (⟨rfl, ⟨rfl, ⟨rfl, ⟨rfl, ⟨rfl, ⟨rfl, trivial⟩⟩⟩⟩⟩⟩) ?_
        refine tX9_share_66 l  n v1_11 v2_11 v3_11 (0 : Int64) (0 : Int32) μ10 hp10  h
    · have h := h.2 c4
      refine qa_bipush (v := -2) dX9_share_18 (by decide) ?_
      exact qa_iret rfl dX9_share_20 ⟨rfl, rfl⟩ ⟨rfl, hp3, _, rfl, h⟩
def wX9_snows (n : Nat)  (μ0 : qa_M) (Q : Int32 → qa_M → Prop) : Prop := wX9_asItIs n  μ0 (fun μ1 => wX9_isTown n  μ1 (fun r2 μ2 => ((r2 = 0 → Q (-2 : Int32) μ2) ∧ (¬ r2 = 0 → wX9_weeks n  μ2 (fun r4 μ4 => Q ((μ2.1 91 19) &&& (((1 : Int32) <<< (r4 &&& 31)) - (1 : Int32))) μ4)))))
theorem tX9_snows (l : Launch) {n : Nat}  {μ0 : qa_M} {Q : Int32 → qa_M → Prop} (hp0 : qa_PP μ0.2.2)  (h : wX9_snows n  μ0 Q) : qa_Met l yX9_snows cX9_snows 1 (some .int) 1 0 0 [.ref 91] 113 μ0 (qa_pI Q) := by
  refine qa_ofG (by decide) (Nat.le_of_ble_eq_true rfl) ?_
  unfold wX9_snows at h
  change qa_G l yX9_snows cX9_snows 1 (some .int) 1 0 0 (qa_pI Q) 0 0 0 [some (.ref 91)] [] 113 μ0
  refine qa_ald0 dX9_snows_0 ?_
  refine qa_V0V dX9_snows_1 lm_X9_251 sh_91 rfl (by decide) (by decide) (Nat.le_of_ble_eq_true rfl) (tX9_asItIs l hp0  h) (fun μ1 hp1 h => ?_)
  refine qa_ald0 dX9_snows_4 ?_
  refine qa_V0I dX9_snows_5 lm_X9_92 sh_91 rfl (by decide) (by decide) (Nat.le_of_ble_eq_true rfl) (tX9_isTown l hp1  h) (fun r2 μ2 hp2 h => ?_)
  refine qa_if_eq (tgt := 27) dX9_snows_8 (by decide) (fun c3 => ?_) (fun c3 => ?_)
  · have h := h.1 c3
    refine qa_bipush (v := -2) dX9_snows_27 (by decide) ?_
    exact qa_iret rfl dX9_snows_29 ⟨rfl, rfl⟩ ⟨rfl, hp2, _, rfl, h⟩
  · have h := h.2 c3
    refine qa_ald0 dX9_snows_11 ?_
    refine qa_getI dX9_snows_12 lf_X9_239 (Or.inl rfl) sh_91 (by decide) ?_
    refine qa_iconst (v := 1) dX9_snows_15 (by decide) ?_
    refine qa_ald0 dX9_snows_16 ?_
    refine qa_V0I dX9_snows_17 lm_X9_96 sh_91 rfl (by decide) (by decide) (Nat.le_of_ble_eq_true rfl) (tX9_weeks l hp2  h) (fun r4 μ4 hp4 h => ?_)
    refine qa_ishl dX9_snows_20 ?_
    refine qa_iconst (v := 1) dX9_snows_21 (by decide) ?_
    refine qa_isub dX9_snows_22 ?_
    refine qa_iand dX9_snows_23 ?_
    refine qa_goto (tgt := 29) dX9_snows_24 (by decide) ?_
    exact qa_iret rfl dX9_snows_29 ⟨rfl, rfl⟩ ⟨rfl, hp4, _, rfl, h⟩
def wX9_span (n : Nat)  (μ0 : qa_M) (Q : Int32 → qa_M → Prop) : Prop := wX9_asksTown n  μ0 (fun r1 μ1 => ((r1 = 0 → Q (-2 : Int32) μ1) ∧ (¬ r1 = 0 → wX9_spanOf n  μ1 (fun r3 μ3 => Q r3 μ3))))
theorem tX9_span (l : Launch) {n : Nat}  {μ0 : qa_M} {Q : Int32 → qa_M → Prop} (hp0 : qa_PP μ0.2.2)  (h : wX9_span n  μ0 Q) : qa_Met l yX9_span cX9_span 1 (some .int) 5 0 0 [.ref 91] 113 μ0 (qa_pI Q) := by
  refine qa_ofG (by decide) (Nat.le_of_ble_eq_true rfl) ?_
  unfold wX9_span at h
  change qa_G l yX9_span cX9_span 1 (some .int) 5 0 0 (qa_pI Q) 0 0 0 [some (.ref 91)] [] 113 μ0
  refine qa_ald0 dX9_span_0 ?_
  refine qa_V0I dX9_span_1 lm_X9_283 sh_91 rfl (by decide) (by decide) (Nat.le_of_ble_eq_true rfl) (tX9_asksTown l hp0  h) (fun r1 μ1 hp1 h => ?_)
  refine qa_if_eq (tgt := 14) dX9_span_4 (by decide) (fun c2 => ?_) (fun c2 => ?_)
  · have h := h.1 c2
    refine qa_bipush (v := -2) dX9_span_14 (by decide) ?_
    exact qa_iret rfl dX9_span_16 ⟨rfl, rfl⟩ ⟨rfl, hp1, _, rfl, h⟩
  · have h := h.2 c2
    refine qa_ald0 dX9_span_7 ?_
    refine qa_V0I dX9_span_8 lm_X9_322 sh_91 rfl (by decide) (by decide) (Nat.le_of_ble_eq_true rfl) (tX9_spanOf l hp1  h) (fun r3 μ3 hp3 h => ?_)
    refine qa_goto (tgt := 16) dX9_span_11 (by decide) ?_
    exact qa_iret rfl dX9_span_16 ⟨rfl, rfl⟩ ⟨rfl, hp3, _, rfl, h⟩
