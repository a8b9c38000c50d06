def wX9_houses (n : Nat)  (μ0 : qa_M) (Q : Int32 → qa_M → Prop) : Prop := Q (μ0.1 92 (4 : Int32).toNatClampNeg) μ0
theorem tX9_houses (l : Launch) {n : Nat}  {μ0 : qa_M} {Q : Int32 → qa_M → Prop} (hp0 : qa_PP μ0.2.2)  (h : wX9_houses n  μ0 Q) : qa_Met l yX9_houses cX9_houses 1 (some .int) 0 0 0 [.ref 91] 113 μ0 (qa_pI Q) := by
  refine qa_ofG (by decide) (Nat.le_of_ble_eq_true rfl) ?_
  unfold wX9_houses at h
  change qa_G l yX9_houses cX9_houses 1 (some .int) 0 0 0 (qa_pI Q) 0 0 0 [some (.ref 91)] [] 113 μ0
  refine qa_ald0 dX9_houses_0 ?_
  refine qa_getR dX9_houses_1 lf_X9_9 rfl sh_91 (by decide) (pp_91_1 hp0) (by decide) ?_
  refine qa_iconst (v := 4) dX9_houses_4 (by decide) ?_
  refine qa_iald dX9_houses_5 sh_92 (by decide) (by unfold vp_in; decide) ?_
  exact qa_iret rfl dX9_houses_6 ⟨rfl, rfl⟩ ⟨rfl, hp0, _, rfl, h⟩
def wX9_placeOf (n : Nat) (v1 : Int32) (v2 : Int32) (μ0 : qa_M) (Q : Int32 → qa_M → Prop) : Prop := vp_in (((8 : Int32) * v2) + v1) 168 ∧ Q (μ0.1 101 (((8 : Int32) * v2) + v1).toNatClampNeg) μ0
theorem tX9_placeOf (l : Launch) {n : Nat} {v1 : Int32} {v2 : Int32} {μ0 : qa_M} {Q : Int32 → qa_M → Prop} (hp0 : qa_PP μ0.2.2)  (h : wX9_placeOf n v1 v2 μ0 Q) : qa_Met l yX9_placeOf cX9_placeOf 3 (some .int) 0 0 0 [.ref 91, .int v1, .int v2] 113 μ0 (qa_pI Q) := by
  refine qa_ofG (by decide) (Nat.le_of_ble_eq_true rfl) ?_
  unfold wX9_placeOf at h
  change qa_G l yX9_placeOf cX9_placeOf 3 (some .int) 0 0 0 (qa_pI Q) 0 0 0 [some (.ref 91), some (.int v1), some (.int v2)] [] 113 μ0
  refine qa_ald0 dX9_placeOf_0 ?_
  refine qa_getR dX9_placeOf_1 lf_X9_43 rfl sh_91 (by decide) (pp_91_25 hp0) (by decide) ?_
  refine qa_bipush (v := 8) dX9_placeOf_4 (by decide) ?_
  refine qa_ild2 dX9_placeOf_6 ?_
  refine qa_imul dX9_placeOf_7 ?_
  refine qa_ild1 dX9_placeOf_8 ?_
  refine qa_iadd dX9_placeOf_9 ?_
  refine qa_iald dX9_placeOf_10 sh_101 (by decide) h.1 ?_
  have h := h.2
  exact qa_iret rfl dX9_placeOf_11 ⟨rfl, rfl⟩ ⟨rfl, hp0, _, rfl, h⟩
def wX9_bit (n : Nat) (v0 : Int32) (v1 : Int32) (μ0 : qa_M) (Q : Int32 → qa_M → Prop) : Prop := Q ((v0 >>> (v1 &&& 31)) &&& (1 : Int32)) μ0
theorem tX9_bit (l : Launch) {n : Nat} {v0 : Int32} {v1 : Int32} {μ0 : qa_M} {Q : Int32 → qa_M → Prop} (hp0 : qa_PP μ0.2.2)  (h : wX9_bit n v0 v1 μ0 Q) : qa_Met l yX9_bit cX9_bit 2 (some .int) 0 0 0 [.int v0, .int v1] 113 μ0 (qa_pI Q) := by
  refine qa_ofG (by decide) (Nat.le_of_ble_eq_true rfl) ?_
  unfold wX9_bit at h
  change qa_G l yX9_bit cX9_bit 2 (some .int) 0 0 0 (qa_pI Q) 0 0 0 [some (.int v0), some (.int v1)] [] 113 μ0
  refine qa_ild0 dX9_bit_0 ?_
  refine qa_ild1 dX9_bit_1 ?_
  refine qa_ishr dX9_bit_2 ?_
  refine qa_iconst (v := 1) dX9_bit_3 (by decide) ?_
  refine qa_iand dX9_bit_4 ?_
  exact qa_iret rfl dX9_bit_5 ⟨rfl, rfl⟩ ⟨rfl, hp0, _, rfl, h⟩
def wX9_forceOf_151 (n : Nat) (v1 : Int32) (v2 : Int32) (v4 : Int32) (s0 : Int32) (s1 : Int32) (μ0 : qa_M) (K0 : Int32 → Int32 → Int32 → Int32 → qa_M → Prop) (Q : Int32 → qa_M → Prop) : Prop := ∀ x11, x11 = (s1 + s0) → K0 v1 v2 x11 (v4 + (1 : Int32)) μ0
def wX9_forceOf_113 (n : Nat) (v1 : Int32) (v2 : Int32) (v3 : Int32) (v4 : Int32) (s0 : Int32) (μ0 : qa_M) (K0 : Int32 → Int32 → Int32 → Int32 → qa_M → Prop) (Q : Int32 → qa_M → Prop) : Prop := vp_in (((8 : Int32) * v1) + v4) 160 ∧ ∀ μ8, μ8 = qa_uI μ0 102 (((8 : Int32) * v1) + v4).toNatClampNeg s0 → wX9_bit n (μ8.1 91 18) v4 μ8 (fun r9 μ9 => ((¬ r9 = (1 : Int32) → wX9_forceOf_151 n v1 v2 v4 s0 v3 μ9 K0 Q) ∧ (r9 = (1 : Int32) → wX9_forceOf_151 n v1 v2 v4 (-s0) v3 μ9 K0 Q)))
def wX9_forceOf_78 (n : Nat) (v1 : Int32) (v2 : Int32) (v3 : Int32) (v4 : Int32) (v5 : Int32) (s0 : Int32) (μ0 : qa_M) (K0 : Int32 → Int32 → Int32 → Int32 → qa_M → Prop) (Q : Int32 → qa_M → Prop) : Prop := ((s0 = 0 → vp_in ((10 : Int32) + ((2 : Int32) * v4)) 114 ∧ vp_in v5 8 ∧ wJ9_max_7cf53 n (0 : Int32) ((μ0.1 92 ((10 : Int32) + ((2 : Int32) * v4)).toNatClampNeg) - (μ0.1 99 v5.toNatClampNeg)) μ0 (fun r7 μ7 => wX9_forceOf_113 n v1 v2 v3 v4 r7 μ7 K0 Q)) ∧ (¬ s0 = 0 → wX9_forceOf_113 n v1 v2 v3 v4 (0 : Int32) μ0 K0 Q))
def wX9_forceOf_73 (n : Nat) (v1 : Int32) (v2 : Int32) (v3 : Int32) (v4 : Int32) (v5 : Int32) (μ0 : qa_M) (K0 : Int32 → Int32 → Int32 → Int32 → qa_M → Prop) (Q : Int32 → qa_M → Prop) : Prop := wX9_forceOf_78 n v1 v2 v3 v4 v5 (1 : Int32) μ0 K0 Q
def wX9_forceOf_77 (n : Nat) (v1 : Int32) (v2 : Int32) (v3 : Int32) (v4 : Int32) (v5 : Int32) (μ0 : qa_M) (K0 : Int32 → Int32 → Int32 → Int32 → qa_M → Prop) (Q : Int32 → qa_M → Prop) : Prop := wX9_forceOf_78 n v1 v2 v3 v4 v5 (0 : Int32) μ0 K0 Q
def wX9_forceOf_5 : Nat → Int32 → Int32 → Int32 → Int32 → qa_M → (Int32 → qa_M → Prop) → Prop
  | 0, _, _, _, _, _, _ => False
  | n + 1, v1, v2, v3, v4, μ0, Q => wX9_houses n  μ0 (fun r1 μ1 => ((r1 ≤ v4 → Q v3 μ1) ∧ (¬ r1 ≤ v4 → wX9_placeOf n v4 v1 μ1 (fun r3 μ3 => vp_in v1 20 ∧ wX9_bit n (((μ3.1 91 22) ||| (μ3.1 100 v1.toNatClampNeg)) ||| v2) v4 μ3 (fun r4 μ4 => ((r4 = (1 : Int32) → wX9_forceOf_73 n v1 v2 v3 v4 r3 μ4 (fun v1 v2 v3 v4 μk => wX9_forceOf_5 n v1 v2 v3 v4 μk Q) Q) ∧ (¬ r4 = (1 : Int32) → wX9_bit n (μ4.1 91 19) v1 μ4 (fun r12 μ12 => ((¬ r12 = (1 : Int32) → wX9_forceOf_77 n v1 v2 v3 v4 r3 μ12 (fun v1 v2 v3 v4 μk => wX9_forceOf_5 n v1 v2 v3 v4 μk Q) Q) ∧ (r12 = (1 : Int32) → ((r3 = 0 → wX9_forceOf_77 n v1 v2 v3 v4 r3 μ12 (fun v1 v2 v3 v4 μk => wX9_forceOf_5 n v1 v2 v3 v4 μk Q) Q) ∧ (¬ r3 = 0 → wX9_houses n  μ12 (fun r15 μ15 => ((r3 = (r15 - (1 : Int32)) → wX9_forceOf_77 n v1 v2 v3 v4 r3 μ15 (fun v1 v2 v3 v4 μk => wX9_forceOf_5 n v1 v2 v3 v4 μk Q) Q) ∧ (¬ r3 = (r15 - (1 : Int32)) → wX9_forceOf_73 n v1 v2 v3 v4 r3 μ15 (fun v1 v2 v3 v4 μk => wX9_forceOf_5 n v1 v2 v3 v4 μk Q) Q)))))))))))))))
def wX9_forceOf (n : Nat) (v1 : Int32) (v2 : Int32) (μ0 : qa_M) (Q : Int32 → qa_M → Prop) : Prop := wX9_forceOf_5 n v1 v2 (0 : Int32) (0 : Int32) μ0  Q
theorem tX9_forceOf_151 (l : Launch) {K0 : Int32 → Int32 → Int32 → Int32 → qa_M → Prop} {Q : Int32 → qa_M → Prop} (hK0 : ∀ (v1 : Int32) (v2 : Int32) (v3 : Int32) (v4 : Int32) (μ : qa_M), qa_PP μ.2.2 → K0 v1 v2 v3 v4 μ → qa_G l yX9_forceOf cX9_forceOf 8 (some .int) 1 0 0 (qa_pI Q) 0 0 5 [some (.ref 91), some (.int v1), some (.int v2), some (.int v3), some (.int v4), none, none, none] [] 113 μ) : ∀ (n : Nat) (v1 : Int32) (v2 : Int32) (v4 : Int32) (s0 : Int32) (s1 : Int32) (μ0 : qa_M), qa_PP μ0.2.2 → wX9_forceOf_151 n v1 v2 v4 s0 s1 μ0 K0 Q → qa_G l yX9_forceOf cX9_forceOf 8 (some .int) 1 0 0 (qa_pI Q) 0 0 151 [some (.ref 91), some (.int v1), some (.int v2), none, some (.int v4), none, none, none] [.int s0, .int s1] 113 μ0 := by
  intro n
  intro v1 v2 v4 s0 s1 μ0 hp0  h
  unfold wX9_forceOf_151 at h
  refine qa_iadd dX9_forceOf_151 ?_
  refine qa_nmI (fun x11 e11 => ?_)
  have h := h x11 e11
  refine qa_ist3 dX9_forceOf_152 ?_
  refine qa_inc4 dX9_forceOf_153 (qa_io1 _) ?_
  refine qa_goto (tgt := 5) dX9_forceOf_156 (by decide) ?_
  refine qa_fgt (L' := [some (.ref 91), some (.int v1), some (.int v2), some (.int x11), some (.int (v4 + (1 : Int32))), none, none, none]) (⟨rfl, ⟨rfl, ⟨rfl, ⟨rfl, ⟨rfl, trivial⟩⟩⟩⟩⟩) ?_
  exact hK0 v1 v2 x11 (v4 + (1 : Int32)) μ0 hp0  h
theorem tX9_forceOf_113 (l : Launch) {K0 : Int32 → Int32 → Int32 → Int32 → qa_M → Prop} {Q : Int32 → qa_M → Prop} (hK0 : ∀ (v1 : Int32) (v2 : Int32) (v3 : Int32) (v4 : Int32) (μ : qa_M), qa_PP μ.2.2 → K0 v1 v2 v3 v4 μ → qa_G l yX9_forceOf cX9_forceOf 8 (some .int) 1 0 0 (qa_pI Q) 0 0 5 [some (.ref 91), some (.int v1), some (.int v2), some (.int v3), some (.int v4), none, none, none] [] 113 μ) : ∀ (n : Nat) (v1 : Int32) (v2 : Int32) (v3 : Int32) (v4 : Int32) (s0 : Int32) (μ0 : qa_M), qa_PP μ0.2.2 → wX9_forceOf_113 n v1 v2 v3 v4 s0 μ0 K0 Q → qa_G l yX9_forceOf cX9_forceOf 8 (some .int) 1 0 0 (qa_pI Q) 0 0 113 [some (.ref 91), some (.int v1), some (.int v2), some (.int v3), some (.int v4), none, none, none] [.int s0] 113 μ0 := by
  intro n
  intro v1 v2 v3 v4 s0 μ0 hp0  h
  unfold wX9_forceOf_113 at h
  refine qa_ist7 dX9_forceOf_113 ?_
  refine qa_ald0 dX9_forceOf_115 ?_
  refine qa_getR dX9_forceOf_116 lf_X9_46 rfl sh_91 (by decide) (pp_91_26 hp0) (by decide) ?_
  refine qa_bipush (v := 8) dX9_forceOf_119 (by decide) ?_
  refine qa_ild1 dX9_forceOf_121 ?_
  refine qa_imul dX9_forceOf_122 ?_
  refine qa_ild4 dX9_forceOf_123 ?_
  refine qa_iadd dX9_forceOf_125 ?_
  refine qa_ild7 dX9_forceOf_126 ?_
  refine qa_iast dX9_forceOf_128 sh_102 (by decide) h.1 ?_
  have h := h.2
  refine qa_nmM (fun μ8 em8 => ?_)
  have h := h μ8 em8
  have hp8 : qa_PP μ8.2.2 := by rw [em8]; exact hp0
  refine qa_ild3 dX9_forceOf_129 ?_
  refine qa_ald0 dX9_forceOf_130 ?_
  refine qa_getI dX9_forceOf_131 lf_X9_236 (Or.inl rfl) sh_91 (by decide) ?_
  refine qa_ild4 dX9_forceOf_134 ?_
  refine qa_S2I dX9_forceOf_136 lm_X9_264  (by decide) (Nat.le_of_ble_eq_true rfl) (tX9_bit l hp8  h) (fun r9 μ9 hp9 h => ?_)
  refine qa_iconst (v := 1) dX9_forceOf_139 (by decide) ?_
  refine qa_icmp_ne (tgt := 149) dX9_forceOf_140 (by decide) (fun c10 => ?_) (fun c10 => ?_)
  · have h := h.1 c10
    refine qa_ild7 dX9_forceOf_149 ?_
    refine qa_fgt (L' := [some (.ref 91), some (.int v1), some (.int v2), none, some (.int v4), none, none, none]) (⟨rfl, ⟨rfl, ⟨rfl, ⟨rfl, trivial⟩⟩⟩⟩) ?_
    refine tX9_forceOf_151 l hK0 n v1 v2 v4 s0 v3 μ9 hp9  h
  · have h := h.2 c10
    refine qa_ild7 dX9_forceOf_143 ?_
    refine qa_ineg dX9_forceOf_145 ?_
    refine qa_goto (tgt := 151) dX9_forceOf_146 (by decide) ?_
    refine qa_fgt (L' := [some (.ref 91), some (.int v1), some (.int v2), none, some (.int v4), none, none, none]) (⟨rfl, ⟨rfl, ⟨rfl, ⟨rfl, trivial⟩⟩⟩⟩) ?_
    refine tX9_forceOf_151 l hK0 n v1 v2 v4 (-s0) v3 μ9 hp9  h
theorem tX9_forceOf_78 (l : Launch) {K0 : Int32 → Int32 → Int32 → Int32 → qa_M → Prop} {Q : Int32 → qa_M → Prop} (hK0 : ∀ (v1 : Int32) (v2 : Int32) (v3 : Int32) (v4 : Int32) (μ : qa_M), qa_PP μ.2.2 → K0 v1 v2 v3 v4 μ → qa_G l yX9_forceOf cX9_forceOf 8 (some .int) 1 0 0 (qa_pI Q) 0 0 5 [some (.ref 91), some (.int v1), some (.int v2), some (.int v3), some (.int v4), none, none, none] [] 113 μ) : ∀ (n : Nat) (v1 : Int32) (v2 : Int32) (v3 : Int32) (v4 : Int32) (v5 : Int32) (s0 : Int32) (μ0 : qa_M), qa_PP μ0.2.2 → wX9_forceOf_78 n v1 v2 v3 v4 v5 s0 μ0 K0 Q → qa_G l yX9_forceOf cX9_forceOf 8 (some .int) 1 0 0 (qa_pI Q) 0 0 78 [some (.ref 91), some (.int v1), some (.int v2), some (.int v3), some (.int v4), some (.int v5), none, none] [.int s0] 113 μ0 := by
  intro n
  intro v1 v2 v3 v4 v5 s0 μ0 hp0  h
  unfold wX9_forceOf_78 at h
  refine qa_ist6 dX9_forceOf_78 ?_
  refine qa_ild6 dX9_forceOf_80 ?_
  refine qa_if_eq (tgt := 89) dX9_forceOf_82 (by decide) (fun c6 => ?_) (fun c6 => ?_)
  · have h := h.1 c6
    refine qa_iconst (v := 0) dX9_forceOf_89 (by decide) ?_
    refine qa_ald0 dX9_forceOf_90 ?_
    refine qa_getR dX9_forceOf_91 lf_X9_9 rfl sh_91 (by decide) (pp_91_1 hp0) (by decide) ?_
    refine qa_bipush (v := 10) dX9_forceOf_94 (by decide) ?_
    refine qa_iconst (v := 2) dX9_forceOf_96 (by decide) ?_
    refine qa_ild4 dX9_forceOf_97 ?_
    refine qa_imul dX9_forceOf_99 ?_
    refine qa_iadd dX9_forceOf_100 ?_
    refine qa_iald dX9_forceOf_101 sh_92 (by decide) h.1 ?_
    have h := h.2
    refine qa_ald0 dX9_forceOf_102 ?_
    refine qa_getR dX9_forceOf_103 lf_X9_37 rfl sh_91 (by decide) (pp_91_16 hp0) (by decide) ?_
    refine qa_ild5 dX9_forceOf_106 ?_
    refine qa_iald dX9_forceOf_108 sh_99 (by decide) h.1 ?_
    have h := h.2
    refine qa_isub dX9_forceOf_109 ?_
    refine qa_S2I dX9_forceOf_110 lm_X9_267  (by decide) (Nat.le_of_ble_eq_true rfl) (tJ9_max_7cf53 l hp0  h) (fun r7 μ7 hp7 h => ?_)
    refine qa_fgt (L' := [some (.ref 91), some (.int v1), some (.int v2), some (.int v3), some (.int v4), none, none, none]) (⟨rfl, ⟨rfl, ⟨rfl, ⟨rfl, ⟨rfl, trivial⟩⟩⟩⟩⟩) ?_
    refine tX9_forceOf_113 l hK0 n v1 v2 v3 v4 r7 μ7 hp7  h
  · have h := h.2 c6
    refine qa_iconst (v := 0) dX9_forceOf_85 (by decide) ?_
    refine qa_goto (tgt := 113) dX9_forceOf_86 (by decide) ?_
    refine qa_fgt (L' := [some (.ref 91), some (.int v1), some (.int v2), some (.int v3), some (.int v4), none, none, none]) (⟨rfl, ⟨rfl, ⟨rfl, ⟨rfl, ⟨rfl, trivial⟩⟩⟩⟩⟩) ?_
    refine tX9_forceOf_113 l hK0 n v1 v2 v3 v4 (0 : Int32) μ0 hp0  h
theorem tX9_forceOf_73 (l : Launch) {K0 : Int32 → Int32 → Int32 → Int32 → qa_M → Prop} {Q : Int32 → qa_M → Prop} (hK0 : ∀ (v1 : Int32) (v2 : Int32) (v3 : Int32) (v4 : Int32) (μ : qa_M), qa_PP μ.2.2 → K0 v1 v2 v3 v4 μ → qa_G l yX9_forceOf cX9_forceOf 8 (some .int) 1 0 0 (qa_pI Q) 0 0 5 [some (.ref 91), some (.int v1), some (.int v2), some (.int v3), some (.int v4), none, none, none] [] 113 μ) : ∀ (n : Nat) (v1 : Int32) (v2 : Int32) (v3 : Int32) (v4 : Int32) (v5 : Int32) (μ0 : qa_M), qa_PP μ0.2.2 → wX9_forceOf_73 n v1 v2 v3 v4 v5 μ0 K0 Q → qa_G l yX9_forceOf cX9_forceOf 8 (some .int) 1 0 0 (qa_pI Q) 0 0 73 [some (.ref 91), some (.int v1), some (.int v2), some (.int v3), some (.int v4), some (.int v5), none, none] [] 113 μ0 := by
  intro n
  intro v1 v2 v3 v4 v5 μ0 hp0  h
  unfold wX9_forceOf_73 at h
  refine qa_iconst (v := 1) dX9_forceOf_73 (by decide) ?_
  refine qa_goto (tgt := 78) dX9_forceOf_74 (by decide) ?_
  refine qa_fgt (L' := [some (.ref 91), some (.int v1), some (.int v2), some (.int v3), some (.int v4), some (.int v5), none, none]) (⟨rfl, ⟨rfl, ⟨rfl, ⟨rfl, ⟨rfl, ⟨rfl, trivial⟩⟩⟩⟩⟩⟩) ?_
  refine tX9_forceOf_78 l hK0 n v1 v2 v3 v4 v5 (1 : Int32) μ0 hp0  h
theorem tX9_forceOf_77 (l : Launch) {K0 : Int32 → Int32 → Int32 → Int32 → qa_M → Prop} {Q : Int32 → qa_M → Prop} (hK0 : ∀ (v1 : Int32) (v2 : Int32) (v3 : Int32) (v4 : Int32) (μ : qa_M), qa_PP μ.2.2 → K0 v1 v2 v3 v4 μ → qa_G l yX9_forceOf cX9_forceOf 8 (some .int) 1 0 0 (qa_pI Q) 0 0 5 [some (.ref 91), some (.int v1), some (.int v2), some (.int v3), some (.int v4), none, none, none] [] 113 μ) : ∀ (n : Nat) (v1 : Int32) (v2 : Int32) (v3 : Int32) (v4 : Int32) (v5 : Int32) (μ0 : qa_M), qa_PP μ0.2.2 → wX9_forceOf_77 n v1 v2 v3 v4 v5 μ0 K0 Q → qa_G l yX9_forceOf cX9_forceOf 8 (some .int) 1 0 0 (qa_pI Q) 0 0 77 [some (.ref 91), some (.int v1), some (.int v2), some (.int v3), some (.int v4), some (.int v5), none, none] [] 113 μ0 := by
  intro n
  intro v1 v2 v3 v4 v5 μ0 hp0  h
  unfold wX9_forceOf_77 at h
  refine qa_iconst (v := 0) dX9_forceOf_77 (by decide) ?_
  refine qa_fgt (L' := [some (.ref 91), some (.int v1), some (.int v2), some (.int v3), some (.int v4), some (.int v5), none, none]) (⟨rfl, ⟨rfl, ⟨rfl, ⟨rfl, ⟨rfl, ⟨rfl, trivial⟩⟩⟩⟩⟩⟩) ?_
  refine tX9_forceOf_78 l hK0 n v1 v2 v3 v4 v5 (0 : Int32) μ0 hp0  h
theorem tX9_forceOf_5 (l : Launch)  {Q : Int32 → qa_M → Prop}  : ∀ (n : Nat) (v1 : Int32) (v2 : Int32) (v3 : Int32) (v4 : Int32) (μ0 : qa_M), qa_PP μ0.2.2 → wX9_forceOf_5 n v1 v2 v3 v4 μ0  Q → qa_G l yX9_forceOf cX9_forceOf 8 (some .int) 1 0 0 (qa_pI Q) 0 0 5 [some (.ref 91), some (.int v1), some (.int v2), some (.int v3), some (.int v4), none, none, none] [] 113 μ0 := by
  intro n
  induction n with
  | zero =>
    intro v1 v2 v3 v4 μ0 hp0  h
    rw [wX9_forceOf_5] at h
    exact h.elim
  | succ n ih =>
    intro v1 v2 v3 v4 μ0 hp0  h
    rw [wX9_forceOf_5] at h
    refine qa_ild4 dX9_forceOf_5 ?_
    refine qa_ald0 dX9_forceOf_7 ?_
    refine qa_V0I dX9_forceOf_8 lm_X9_100 sh_91 rfl (by decide) (by decide) (Nat.le_of_ble_eq_true rfl) (tX9_houses l hp0  h) (fun r1 μ1 hp1 h => ?_)
    refine qa_icmp_ge (tgt := 159) dX9_forceOf_11 (by decide) (fun c2 => ?_) (fun c2 => ?_)
    · have h := h.1 c2
      refine qa_ild3 dX9_forceOf_159 ?_
      exact qa_iret rfl dX9_forceOf_160 ⟨rfl, rfl⟩ ⟨rfl, hp1, _, rfl, h⟩
    · have h := h.2 c2
      refine qa_ald0 dX9_forceOf_14 ?_
      refine qa_ild4 dX9_forceOf_15 ?_
      refine qa_ild1 dX9_forceOf_17 ?_
      refine qa_V2I dX9_forceOf_18 lm_X9_261 sh_91 rfl (by decide) (by decide) (Nat.le_of_ble_eq_true rfl) (tX9_placeOf l hp1  h) (fun r3 μ3 hp3 h => ?_)
      refine qa_ist5 dX9_forceOf_21 ?_
      refine qa_ald0 dX9_forceOf_23 ?_
      refine qa_getI dX9_forceOf_24 lf_X9_242 (Or.inl rfl) sh_91 (by decide) ?_
      refine qa_ald0 dX9_forceOf_27 ?_
      refine qa_getR dX9_forceOf_28 lf_X9_40 rfl sh_91 (by decide) (pp_91_17 hp3) (by decide) ?_
      refine qa_ild1 dX9_forceOf_31 ?_
      refine qa_iald dX9_forceOf_32 sh_100 (by decide) h.1 ?_
      have h := h.2
      refine qa_ior dX9_forceOf_33 ?_
      refine qa_ild2 dX9_forceOf_34 ?_
      refine qa_ior dX9_forceOf_35 ?_
      refine qa_ild4 dX9_forceOf_36 ?_
      refine qa_S2I dX9_forceOf_38 lm_X9_264  (by decide) (Nat.le_of_ble_eq_true rfl) (tX9_bit l hp3  h) (fun r4 μ4 hp4 h => ?_)
      refine qa_iconst (v := 1) dX9_forceOf_41 (by decide) ?_
      refine qa_icmp_eq (tgt := 73) dX9_forceOf_42 (by decide) (fun c5 => ?_) (fun c5 => ?_)
      · have h := h.1 c5
        refine qa_fgt (L' := [some (.ref 91), some (.int v1), some (.int v2), some (.int v3), some (.int v4), some (.int r3), none, none]) (⟨rfl, ⟨rfl, ⟨rfl, ⟨rfl, ⟨rfl, ⟨rfl, trivial⟩⟩⟩⟩⟩⟩) ?_
        refine tX9_forceOf_73 l ih n v1 v2 v3 v4 r3 μ4 hp4  h
      · have h := h.2 c5
        refine qa_ald0 dX9_forceOf_45 ?_
        refine qa_getI dX9_forceOf_46 lf_X9_239 (Or.inl rfl) sh_91 (by decide) ?_
        refine qa_ild1 dX9_forceOf_49 ?_
        refine qa_S2I dX9_forceOf_50 lm_X9_264  (by decide) (Nat.le_of_ble_eq_true rfl) (tX9_bit l hp4  h) (fun r12 μ12 hp12 h => ?_)
        refine qa_iconst (v := 1) dX9_forceOf_53 (by decide) ?_
        refine qa_icmp_ne (tgt := 77) dX9_forceOf_54 (by decide) (fun c13 => ?_) (fun c13 => ?_)
        · have h := h.1 c13
          refine qa_fgt (L' := [some (.ref 91), some (.int v1), some (.int v2), some (.int v3), some (.int v4), some (.int r3), none, none]) (⟨rfl, ⟨rfl, ⟨rfl, ⟨rfl, ⟨rfl, ⟨rfl, trivial⟩⟩⟩⟩⟩⟩) ?_
          refine tX9_forceOf_77 l ih n v1 v2 v3 v4 r3 μ12 hp12  h
        · have h := h.2 c13
          refine qa_ild5 dX9_forceOf_57 ?_
          refine qa_if_eq (tgt := 77) dX9_forceOf_59 (by decide) (fun c14 => ?_) (fun c14 => ?_)
          · have h := h.1 c14
            refine qa_fgt (L' := [some (.ref 91), some (.int v1), some (.int v2), some (.int v3), some (.int v4), some (.int r3), none, none]) (⟨rfl, ⟨rfl, ⟨rfl, ⟨rfl, ⟨rfl, ⟨rfl, trivial⟩⟩⟩⟩⟩⟩) ?_
            refine tX9_forceOf_77 l ih n v1 v2 v3 v4 r3 μ12 hp12  h
          · have h := h.2 c14
            refine qa_ild5 dX9_forceOf_62 ?_
            refine qa_ald0 dX9_forceOf_64 ?_
            refine qa_V0I dX9_forceOf_65 lm_X9_100 sh_91 rfl (by decide) (by decide) (Nat.le_of_ble_eq_true rfl) (tX9_houses l hp12  h) (fun r15 μ15 hp15 h => ?_)
            refine qa_iconst (v := 1) dX9_forceOf_68 (by decide) ?_
            refine qa_isub dX9_forceOf_69 ?_
            refine qa_icmp_eq (tgt := 77) dX9_forceOf_70 (by decide) (fun c16 => ?_) (fun c16 => ?_)
            · have h := h.1 c16
              refine qa_fgt (L' := [some (.ref 91), some (.int v1), some (.int v2), some (.int v3), some (.int v4), some (.int r3), none, none]) (⟨rfl, ⟨rfl, ⟨rfl, ⟨rfl, ⟨rfl, ⟨rfl, trivial⟩⟩⟩⟩⟩⟩) ?_
              refine tX9_forceOf_77 l ih n v1 v2 v3 v4 r3 μ15 hp15  h
            · have h := h.2 c16
              refine qa_fgt (L' := [some (.ref 91), some (.int v1), some (.int v2), some (.int v3), some (.int v4), some (.int r3), none, none]) (⟨rfl, ⟨rfl, ⟨rfl, ⟨rfl, ⟨rfl, ⟨rfl, trivial⟩⟩⟩⟩⟩⟩) ?_
              refine tX9_forceOf_73 l ih n v1 v2 v3 v4 r3 μ15 hp15  h
theorem tX9_forceOf (l : Launch) {n : Nat} {v1 : Int32} {v2 : Int32} {μ0 : qa_M} {Q : Int32 → qa_M → Prop} (hp0 : qa_PP μ0.2.2)  (h : wX9_forceOf n v1 v2 μ0 Q) : qa_Met l yX9_forceOf cX9_forceOf 8 (some .int) 1 0 0 [.ref 91, .int v1, .int v2] 113 μ0 (qa_pI Q) := by
  refine qa_ofG (by decide) (Nat.le_of_ble_eq_true rfl) ?_
  unfold wX9_forceOf at h
  change qa_G l yX9_forceOf cX9_forceOf 8 (some .int) 1 0 0 (qa_pI Q) 0 0 0 [some (.ref 91), some (.int v1), some (.int v2), none, none, none, none, none] [] 113 μ0
  refine qa_iconst (v := 0) dX9_forceOf_0 (by decide) ?_
  refine qa_ist3 dX9_forceOf_1 ?_
  refine qa_iconst (v := 0) dX9_forceOf_2 (by decide) ?_
  refine qa_ist4 dX9_forceOf_3 ?_
  refine qa_fgt (L' := [some (.ref 91), some (.int v1), some (.int v2), some (.int (0 : Int32)), some (.int (0 : Int32)), none, none, none]) (⟨rfl, ⟨rfl, ⟨rfl, ⟨rfl, ⟨rfl, trivial⟩⟩⟩⟩⟩) ?_
  refine tX9_forceOf_5 l  n v1 v2 (0 : Int32) (0 : Int32) μ0 hp0  h
def wX9_over (n : Nat) (v0 : Int32) (v1 : Int32) (μ0 : qa_M) (Q : Int32 → qa_M → Prop) : Prop := ¬ v1 = 0 ∧ ∀ x1, x1 = (v0 - v0 / v1 * v1) → ((0 ≤ x1 → Q x1 μ0) ∧ (¬ 0 ≤ x1 → Q (x1 + v1) μ0))
theorem tX9_over (l : Launch) {n : Nat} {v0 : Int32} {v1 : Int32} {μ0 : qa_M} {Q : Int32 → qa_M → Prop} (hp0 : qa_PP μ0.2.2)  (h : wX9_over n v0 v1 μ0 Q) : qa_Met l yX9_over cX9_over 3 (some .int) 0 0 0 [.int v0, .int v1] 113 μ0 (qa_pI Q) := by
  refine qa_ofG (by decide) (Nat.le_of_ble_eq_true rfl) ?_
  unfold wX9_over at h
  change qa_G l yX9_over cX9_over 3 (some .int) 0 0 0 (qa_pI Q) 0 0 0 [some (.int v0), some (.int v1), none] [] 113 μ0
  refine qa_ild0 dX9_over_0 ?_
  refine qa_ild1 dX9_over_1 ?_
  refine qa_irem dX9_over_2 h.1 ?_
  have h := h.2
  refine qa_nmI (fun x1 e1 => ?_)
  have h := h x1 e1
  refine qa_ist2 dX9_over_3 ?_
  refine qa_ild2 dX9_over_4 ?_
  refine qa_if_ge (tgt := 14) dX9_over_5 (by decide) (fun c2 => ?_) (fun c2 => ?_)
  · have h := h.1 c2
    refine qa_ild2 dX9_over_14 ?_
    exact qa_iret rfl dX9_over_15 ⟨rfl, rfl⟩ ⟨rfl, hp0, _, rfl, h⟩
  · have h := h.2 c2
    refine qa_ild2 dX9_over_8 ?_
    refine qa_ild1 dX9_over_9 ?_
    refine qa_iadd dX9_over_10 ?_
    refine qa_goto (tgt := 15) dX9_over_11 (by decide) ?_
    exact qa_iret rfl dX9_over_15 ⟨rfl, rfl⟩ ⟨rfl, hp0, _, rfl, h⟩
def wX9_turnBy (n : Nat) (v1 : Int32) (v2 : Int32) (μ0 : qa_M) (Q : Int32 → qa_M → Prop) : Prop := ((¬ (μ0.1 91 20) = (1 : Int32) → ((¬ (μ0.1 91 20) = (2 : Int32) → ((¬ (μ0.1 91 20) = (3 : Int32) → ¬ (μ0.1 91 21) = 0 ∧ Q (v1 / (μ0.1 91 21)) μ0) ∧ ((μ0.1 91 20) = (3 : Int32) → ((¬ (v2 - v2 / (2 : Int32) * (2 : Int32)) = (1 : Int32) → ¬ (μ0.1 91 21) = 0 ∧ Q (v1 / (μ0.1 91 21)) μ0) ∧ ((v2 - v2 / (2 : Int32) * (2 : Int32)) = (1 : Int32) → Q (0 : Int32) μ0))))) ∧ ((μ0.1 91 20) = (2 : Int32) → wX9_houses n  μ0 (fun r5 μ5 => ((¬ r5 = 0 → wX9_houses n  μ5 (fun r7 μ7 => wX9_over n v1 r7 μ7 (fun r8 μ8 => Q r8 μ8))) ∧ (r5 = 0 → Q (0 : Int32) μ5)))))) ∧ ((μ0.1 91 20) = (1 : Int32) → ((v1 < (μ0.1 91 21) → (((-(μ0.1 91 21)) < v1 → Q (0 : Int32) μ0) ∧ (¬ (-(μ0.1 91 21)) < v1 → Q (-1 : Int32) μ0))) ∧ (¬ v1 < (μ0.1 91 21) → Q (1 : Int32) μ0))))
theorem tX9_turnBy (l : Launch) {n : Nat} {v1 : Int32} {v2 : Int32} {μ0 : qa_M} {Q : Int32 → qa_M → Prop} (hp0 : qa_PP μ0.2.2)  (h : wX9_turnBy n v1 v2 μ0 Q) : qa_Met l yX9_turnBy cX9_turnBy 3 (some .int) 1 0 0 [.ref 91, .int v1, .int v2] 113 μ0 (qa_pI Q) := by
  refine qa_ofG (by decide) (Nat.le_of_ble_eq_true rfl) ?_
  unfold wX9_turnBy at h
  change qa_G l yX9_turnBy cX9_turnBy 3 (some .int) 1 0 0 (qa_pI Q) 0 0 0 [some (.ref 91), some (.int v1), some (.int v2)] [] 113 μ0
  refine qa_ald0 dX9_turnBy_0 ?_
  refine qa_getI dX9_turnBy_1 lf_X9_230 (Or.inl rfl) sh_91 (by decide) ?_
  refine qa_iconst (v := 1) dX9_turnBy_4 (by decide) ?_
  refine qa_icmp_ne (tgt := 35) dX9_turnBy_5 (by decide) (fun c1 => ?_) (fun c1 => ?_)
  · have h := h.1 c1
    refine qa_ald0 dX9_turnBy_35 ?_
    refine qa_getI dX9_turnBy_36 lf_X9_230 (Or.inl rfl) sh_91 (by decide) ?_
    refine qa_iconst (v := 2) dX9_turnBy_39 (by decide) ?_
    refine qa_icmp_ne (tgt := 63) dX9_turnBy_40 (by decide) (fun c2 => ?_) (fun c2 => ?_)
    · have h := h.1 c2
      refine qa_ald0 dX9_turnBy_63 ?_
      refine qa_getI dX9_turnBy_64 lf_X9_230 (Or.inl rfl) sh_91 (by decide) ?_
      refine qa_iconst (v := 3) dX9_turnBy_67 (by decide) ?_
      refine qa_icmp_ne (tgt := 82) dX9_turnBy_68 (by decide) (fun c3 => ?_) (fun c3 => ?_)
      · have h := h.1 c3
        refine qa_ild1 dX9_turnBy_82 ?_
        refine qa_ald0 dX9_turnBy_83 ?_
        refine qa_getI dX9_turnBy_84 lf_X9_233 (Or.inl rfl) sh_91 (by decide) ?_
        refine qa_idiv dX9_turnBy_87 h.1 ?_
        have h := h.2
        exact qa_iret rfl dX9_turnBy_88 ⟨rfl, rfl⟩ ⟨rfl, hp0, _, rfl, h⟩
      · have h := h.2 c3
        refine qa_ild2 dX9_turnBy_71 ?_
        refine qa_iconst (v := 2) dX9_turnBy_72 (by decide) ?_
        refine qa_irem dX9_turnBy_73 (by decide) ?_
        refine qa_iconst (v := 1) dX9_turnBy_74 (by decide) ?_
        refine qa_icmp_ne (tgt := 82) dX9_turnBy_75 (by decide) (fun c4 => ?_) (fun c4 => ?_)
        · have h := h.1 c4
          refine qa_ild1 dX9_turnBy_82 ?_
          refine qa_ald0 dX9_turnBy_83 ?_
          refine qa_getI dX9_turnBy_84 lf_X9_233 (Or.inl rfl) sh_91 (by decide) ?_
          refine qa_idiv dX9_turnBy_87 h.1 ?_
          have h := h.2
          exact qa_iret rfl dX9_turnBy_88 ⟨rfl, rfl⟩ ⟨rfl, hp0, _, rfl, h⟩
        · have h := h.2 c4
          refine qa_iconst (v := 0) dX9_turnBy_78 (by decide) ?_
          refine qa_goto (tgt := 88) dX9_turnBy_79 (by decide) ?_
          exact qa_iret rfl dX9_turnBy_88 ⟨rfl, rfl⟩ ⟨rfl, hp0, _, rfl, h⟩
    · have h := h.2 c2
      refine qa_ald0 dX9_turnBy_43 ?_
      refine qa_V0I dX9_turnBy_44 lm_X9_100 sh_91 rfl (by decide) (by decide) (Nat.le_of_ble_eq_true rfl) (tX9_houses l hp0  h) (fun r5 μ5 hp5 h => ?_)
      refine qa_if_ne (tgt := 54) dX9_turnBy_47 (by decide) (fun c6 => ?_) (fun c6 => ?_)
      · have h := h.1 c6
        refine qa_ild1 dX9_turnBy_54 ?_
        refine qa_ald0 dX9_turnBy_55 ?_
        refine qa_V0I dX9_turnBy_56 lm_X9_100 sh_91 rfl (by decide) (by decide) (Nat.le_of_ble_eq_true rfl) (tX9_houses l hp5  h) (fun r7 μ7 hp7 h => ?_)
        refine qa_S2I dX9_turnBy_59 lm_X9_258  (by decide) (Nat.le_of_ble_eq_true rfl) (tX9_over l hp7  h) (fun r8 μ8 hp8 h => ?_)
        exact qa_iret rfl dX9_turnBy_62 ⟨rfl, rfl⟩ ⟨rfl, hp8, _, rfl, h⟩
      · have h := h.2 c6
        refine qa_iconst (v := 0) dX9_turnBy_50 (by decide) ?_
        refine qa_goto (tgt := 62) dX9_turnBy_51 (by decide) ?_
        exact qa_iret rfl dX9_turnBy_62 ⟨rfl, rfl⟩ ⟨rfl, hp5, _, rfl, h⟩
  · have h := h.2 c1
    refine qa_ild1 dX9_turnBy_8 ?_
    refine qa_ald0 dX9_turnBy_9 ?_
    refine qa_getI dX9_turnBy_10 lf_X9_233 (Or.inl rfl) sh_91 (by decide) ?_
    refine qa_icmp_lt (tgt := 20) dX9_turnBy_13 (by decide) (fun c9 => ?_) (fun c9 => ?_)
    · have h := h.1 c9
      refine qa_ild1 dX9_turnBy_20 ?_
      refine qa_ald0 dX9_turnBy_21 ?_
      refine qa_getI dX9_turnBy_22 lf_X9_233 (Or.inl rfl) sh_91 (by decide) ?_
      refine qa_ineg dX9_turnBy_25 ?_
      refine qa_icmp_gt (tgt := 33) dX9_turnBy_26 (by decide) (fun c10 => ?_) (fun c10 => ?_)
      · have h := h.1 c10
        refine qa_iconst (v := 0) dX9_turnBy_33 (by decide) ?_
        exact qa_iret rfl dX9_turnBy_34 ⟨rfl, rfl⟩ ⟨rfl, hp0, _, rfl, h⟩
      · have h := h.2 c10
        refine qa_iconst (v := -1) dX9_turnBy_29 (by decide) ?_
        refine qa_goto (tgt := 34) dX9_turnBy_30 (by decide) ?_
        exact qa_iret rfl dX9_turnBy_34 ⟨rfl, rfl⟩ ⟨rfl, hp0, _, rfl, h⟩
    · have h := h.2 c9
      refine qa_iconst (v := 1) dX9_turnBy_16 (by decide) ?_
      refine qa_goto (tgt := 34) dX9_turnBy_17 (by decide) ?_
      exact qa_iret rfl dX9_turnBy_34 ⟨rfl, rfl⟩ ⟨rfl, hp0, _, rfl, h⟩
def wX9_goAll_2 : Nat → Int32 → qa_M → (qa_M → Prop) → (qa_M → Prop) → Prop
  | 0, _, _, _, _ => False
  | n + 1, v1, μ0, K0, Q => (((8 : Int32) ≤ v1 → K0  μ0) ∧ (¬ (8 : Int32) ≤ v1 → vp_in v1 168 ∧ ∀ μ2, μ2 = qa_uI μ0 101 v1.toNatClampNeg v1 → wX9_goAll_2 n (v1 + (1 : Int32)) μ2 K0 Q))
def wX9_goAll_46 : Nat → Int32 → Int32 → qa_M → (Int32 → qa_M → Prop) → (qa_M → Prop) → Prop
  | 0, _, _, _, _, _ => False
  | n + 1, v1, v2, μ0, K0, Q => (((μ0.1 92 (8 : Int32).toNatClampNeg) ≤ v2 → K0 v1 μ0) ∧ (¬ (μ0.1 92 (8 : Int32).toNatClampNeg) ≤ v2 → vp_in ((84 : Int32) + v2) 114 ∧ ∀ x9, x9 = (μ0.1 92 ((84 : Int32) + v2).toNatClampNeg) → (((10000 : Int32) ≤ x9 → wX9_goAll_46 n v1 (v2 + (1 : Int32)) μ0 K0 Q) ∧ (¬ (10000 : Int32) ≤ x9 → ((¬ (x9 - x9 / (100 : Int32) * (100 : Int32)) = v1 → wX9_goAll_46 n v1 (v2 + (1 : Int32)) μ0 K0 Q) ∧ ((x9 - x9 / (100 : Int32) * (100 : Int32)) = v1 → wX9_exchange n (x9 / (1000 : Int32)) ((x9 / (100 : Int32)) - (x9 / (100 : Int32)) / (10 : Int32) * (10 : Int32)) v1 μ0 (fun μ12 => wX9_goAll_46 n v1 (v2 + (1 : Int32)) μ12 K0 Q)))))))
def wX9_goAll_136 : Nat → Int32 → Int32 → qa_M → (Int32 → qa_M → Prop) → (qa_M → Prop) → Prop
  | 0, _, _, _, _, _ => False
  | n + 1, v1, v2, μ0, K0, Q => wX9_houses n  μ0 (fun r19 μ19 => ((r19 ≤ v2 → K0 v1 μ19) ∧ (¬ r19 ≤ v2 → wX9_placeOf n v2 v1 μ19 (fun r21 μ21 => vp_in v1 20 ∧ wX9_houses n  μ21 (fun r22 μ22 => wX9_over n (r21 + (μ21.1 104 v1.toNatClampNeg)) r22 μ22 (fun r23 μ23 => vp_in (((8 : Int32) * (v1 + (1 : Int32))) + v2) 168 ∧ ∀ μ24, μ24 = qa_uI μ23 101 (((8 : Int32) * (v1 + (1 : Int32))) + v2).toNatClampNeg r23 → wX9_goAll_136 n v1 (v2 + (1 : Int32)) μ24 K0 Q))))))
def wX9_goAll_36 : Nat → Int32 → qa_M → (qa_M → Prop) → Prop
  | 0, _, _, _ => False
  | n + 1, v1, μ0, Q => wX9_weeks n  μ0 (fun r6 μ6 => ((r6 ≤ v1 → Q μ6) ∧ (¬ r6 ≤ v1 → wX9_goAll_46 n v1 (0 : Int32) μ6 (fun v1_14 μ13 => wX9_forceOf n v1_14 (0 : Int32) μ13 (fun r15 μ15 => vp_in v1_14 20 ∧ ∀ μ16, μ16 = qa_uI μ15 103 v1_14.toNatClampNeg r15 → vp_in v1_14 20 ∧ wX9_turnBy n (μ16.1 103 v1_14.toNatClampNeg) v1_14 μ16 (fun r17 μ17 => vp_in v1_14 20 ∧ ∀ μ18, μ18 = qa_uI μ17 104 v1_14.toNatClampNeg r17 → wX9_goAll_136 n v1_14 (0 : Int32) μ18 (fun v1_26 μ25 => wX9_goAll_36 n (v1_26 + (1 : Int32)) μ25 Q) Q))) Q)))
def wX9_goAll (n : Nat)  (μ0 : qa_M) (Q : qa_M → Prop) : Prop := wX9_goAll_2 n (0 : Int32) μ0 (fun  μ3 => wX9_exchange n (μ3.1 91 23) (μ3.1 91 24) (0 : Int32) μ3 (fun μ5 => wX9_goAll_36 n (0 : Int32) μ5  Q)) Q
theorem tX9_goAll_2 (l : Launch) {K0 : qa_M → Prop} {Q : qa_M → Prop} (hK0 : ∀  (μ : qa_M), qa_PP μ.2.2 → K0  μ → qa_G l yX9_goAll cX9_goAll 4 none 2 0 0 (qa_pV Q) 0 0 21 [some (.ref 91), none, none, none] [] 113 μ) : ∀ (n : Nat) (v1 : Int32) (μ0 : qa_M), qa_PP μ0.2.2 → wX9_goAll_2 n v1 μ0 K0 Q → qa_G l yX9_goAll cX9_goAll 4 none 2 0 0 (qa_pV Q) 0 0 2 [some (.ref 91), some (.int v1), none, none] [] 113 μ0 := by
  intro n
  induction n with
  | zero =>
    intro v1 μ0 hp0  h
    rw [wX9_goAll_2] at h
    exact h.elim
  | succ n ih =>
    intro v1 μ0 hp0  h
    rw [wX9_goAll_2] at h
    refine qa_ild1 dX9_goAll_2 ?_
    refine qa_bipush (v := 8) dX9_goAll_3 (by decide) ?_
    refine qa_icmp_ge (tgt := 21) dX9_goAll_5 (by decide) (fun c1 => ?_) (fun c1 => ?_)
    · have h := h.1 c1
      refine qa_fgt (L' := [some (.ref 91), none, none, none]) (⟨rfl, trivial⟩) ?_
      exact hK0  μ0 hp0  h
    · have h := h.2 c1
      refine qa_ald0 dX9_goAll_8 ?_
      refine qa_getR dX9_goAll_9 lf_X9_43 rfl sh_91 (by decide) (pp_91_25 hp0) (by decide) ?_
      refine qa_ild1 dX9_goAll_12 ?_
      refine qa_ild1 dX9_goAll_13 ?_
      refine qa_iast dX9_goAll_14 sh_101 (by decide) h.1 ?_
      have h := h.2
      refine qa_nmM (fun μ2 em2 => ?_)
      have h := h μ2 em2
      have hp2 : qa_PP μ2.2.2 := by rw [em2]; exact hp0
      refine qa_inc1 dX9_goAll_15 (qa_io1 _) ?_
      refine qa_goto (tgt := 2) dX9_goAll_18 (by decide) ?_
      refine qa_fgt (L' := [some (.ref 91), some (.int (v1 + (1 : Int32))), none, none]) (⟨rfl, ⟨rfl, trivial⟩⟩) ?_
      exact ih (v1 + (1 : Int32)) μ2 hp2  h
theorem tX9_goAll_46 (l : Launch) {K0 : Int32 → qa_M → Prop} {Q : qa_M → Prop} (hK0 : ∀ (v1 : Int32) (μ : qa_M), qa_PP μ.2.2 → K0 v1 μ → qa_G l yX9_goAll cX9_goAll 4 none 2 0 0 (qa_pV Q) 0 0 105 [some (.ref 91), some (.int v1), none, none] [] 113 μ) : ∀ (n : Nat) (v1 : Int32) (v2 : Int32) (μ0 : qa_M), qa_PP μ0.2.2 → wX9_goAll_46 n v1 v2 μ0 K0 Q → qa_G l yX9_goAll cX9_goAll 4 none 2 0 0 (qa_pV Q) 0 0 46 [some (.ref 91), some (.int v1), some (.int v2), none] [] 113 μ0 := by
  intro n
  induction n with
  | zero =>
    intro v1 v2 μ0 hp0  h
    rw [wX9_goAll_46] at h
    exact h.elim
  | succ n ih =>
    intro v1 v2 μ0 hp0  h
    rw [wX9_goAll_46] at h
    refine qa_ild2 dX9_goAll_46 ?_
    refine qa_ald0 dX9_goAll_47 ?_
    refine qa_getR dX9_goAll_48 lf_X9_9 rfl sh_91 (by decide) (pp_91_1 hp0) (by decide) ?_
    refine qa_bipush (v := 8) dX9_goAll_51 (by decide) ?_
    refine qa_iald dX9_goAll_53 sh_92 (by decide) (by unfold vp_in; decide) ?_
    refine qa_icmp_ge (tgt := 105) dX9_goAll_54 (by decide) (fun c8 => ?_) (fun c8 => ?_)
    · have h := h.1 c8
      refine qa_fgt (L' := [some (.ref 91), some (.int v1), none, none]) (⟨rfl, ⟨rfl, trivial⟩⟩) ?_
      exact hK0 v1 μ0 hp0  h
    · have h := h.2 c8
      refine qa_ald0 dX9_goAll_57 ?_
      refine qa_getR dX9_goAll_58 lf_X9_9 rfl sh_91 (by decide) (pp_91_1 hp0) (by decide) ?_
      refine qa_bipush (v := 84) dX9_goAll_61 (by decide) ?_
      refine qa_ild2 dX9_goAll_63 ?_
      refine qa_iadd dX9_goAll_64 ?_
      refine qa_iald dX9_goAll_65 sh_92 (by decide) h.1 ?_
      have h := h.2
      refine qa_nmI (fun x9 e9 => ?_)
      have h := h x9 e9
      refine qa_ist3 dX9_goAll_66 ?_
      refine qa_ild3 dX9_goAll_67 ?_
      refine qa_sipush (v := 10000) dX9_goAll_68 (by decide) ?_
      refine qa_icmp_ge (tgt := 99) dX9_goAll_71 (by decide) (fun c10 => ?_) (fun c10 => ?_)
      · have h := h.1 c10
        refine qa_inc2 dX9_goAll_99 (qa_io1 _) ?_
        refine qa_goto (tgt := 46) dX9_goAll_102 (by decide) ?_
        refine qa_fgt (L' := [some (.ref 91), some (.int v1), some (.int (v2 + (1 : Int32))), none]) (⟨rfl, ⟨rfl, ⟨rfl, trivial⟩⟩⟩) ?_
        exact ih v1 (v2 + (1 : Int32)) μ0 hp0  h
      · have h := h.2 c10
        refine qa_ild3 dX9_goAll_74 ?_
        refine qa_bipush (v := 100) dX9_goAll_75 (by decide) ?_
        refine qa_irem dX9_goAll_77 (by decide) ?_
        refine qa_ild1 dX9_goAll_78 ?_
        refine qa_icmp_ne (tgt := 99) dX9_goAll_79 (by decide) (fun c11 => ?_) (fun c11 => ?_)
        · have h := h.1 c11
          refine qa_inc2 dX9_goAll_99 (qa_io1 _) ?_
          refine qa_goto (tgt := 46) dX9_goAll_102 (by decide) ?_
          refine qa_fgt (L' := [some (.ref 91), some (.int v1), some (.int (v2 + (1 : Int32))), none]) (⟨rfl, ⟨rfl, ⟨rfl, trivial⟩⟩⟩) ?_
          exact ih v1 (v2 + (1 : Int32)) μ0 hp0  h
        · have h := h.2 c11
          refine qa_ald0 dX9_goAll_82 ?_
          refine qa_ild3 dX9_goAll_83 ?_
          refine qa_sipush (v := 1000) dX9_goAll_84 (by decide) ?_
          refine qa_idiv dX9_goAll_87 (by decide) ?_
          refine qa_ild3 dX9_goAll_88 ?_
          refine qa_bipush (v := 100) dX9_goAll_89 (by decide) ?_
          refine qa_idiv dX9_goAll_91 (by decide) ?_
          refine qa_bipush (v := 10) dX9_goAll_92 (by decide) ?_
          refine qa_irem dX9_goAll_94 (by decide) ?_
          refine qa_ild1 dX9_goAll_95 ?_
          refine qa_V3V dX9_goAll_96 lm_X9_270 sh_91 rfl (by decide) (by decide) (Nat.le_of_ble_eq_true rfl) (tX9_exchange l hp0  h) (fun μ12 hp12 h => ?_)
          refine qa_inc2 dX9_goAll_99 (qa_io1 _) ?_
          refine qa_goto (tgt := 46) dX9_goAll_102 (by decide) ?_
          refine qa_fgt (L' := [some (.ref 91), some (.int v1), some (.int (v2 + (1 : Int32))), none]) (⟨rfl, ⟨rfl, ⟨rfl, trivial⟩⟩⟩) ?_
          exact ih v1 (v2 + (1 : Int32)) μ12 hp12  h
theorem tX9_goAll_136 (l : Launch) {K0 : Int32 → qa_M → Prop} {Q : qa_M → Prop} (hK0 : ∀ (v1 : Int32) (μ : qa_M), qa_PP μ.2.2 → K0 v1 μ → qa_G l yX9_goAll cX9_goAll 4 none 2 0 0 (qa_pV Q) 0 0 183 [some (.ref 91), some (.int v1), none, none] [] 113 μ) : ∀ (n : Nat) (v1 : Int32) (v2 : Int32) (μ0 : qa_M), qa_PP μ0.2.2 → wX9_goAll_136 n v1 v2 μ0 K0 Q → qa_G l yX9_goAll cX9_goAll 4 none 2 0 0 (qa_pV Q) 0 0 136 [some (.ref 91), some (.int v1), some (.int v2), none] [] 113 μ0 := by
  intro n
  induction n with
  | zero =>
    intro v1 v2 μ0 hp0  h
    rw [wX9_goAll_136] at h
    exact h.elim
  | succ n ih =>
    intro v1 v2 μ0 hp0  h
    rw [wX9_goAll_136] at h
    refine qa_ild2 dX9_goAll_136 ?_
    refine qa_ald0 dX9_goAll_137 ?_
    refine qa_V0I dX9_goAll_138 lm_X9_100 sh_91 rfl (by decide) (by decide) (Nat.le_of_ble_eq_true rfl) (tX9_houses l hp0  h) (fun r19 μ19 hp19 h => ?_)
    refine qa_icmp_ge (tgt := 183) dX9_goAll_141 (by decide) (fun c20 => ?_) (fun c20 => ?_)
    · have h := h.1 c20
      refine qa_fgt (L' := [some (.ref 91), some (.int v1), none, none]) (⟨rfl, ⟨rfl, trivial⟩⟩) ?_
      exact hK0 v1 μ19 hp19  h
    · have h := h.2 c20
      refine qa_ald0 dX9_goAll_144 ?_
      refine qa_getR dX9_goAll_145 lf_X9_43 rfl sh_91 (by decide) (pp_91_25 hp19) (by decide) ?_
      refine qa_bipush (v := 8) dX9_goAll_148 (by decide) ?_
      refine qa_ild1 dX9_goAll_150 ?_
      refine qa_iconst (v := 1) dX9_goAll_151 (by decide) ?_
      refine qa_iadd dX9_goAll_152 ?_
      refine qa_imul dX9_goAll_153 ?_
      refine qa_ild2 dX9_goAll_154 ?_
      refine qa_iadd dX9_goAll_155 ?_
      refine qa_ald0 dX9_goAll_156 ?_
      refine qa_ild2 dX9_goAll_157 ?_
      refine qa_ild1 dX9_goAll_158 ?_
      refine qa_V2I dX9_goAll_159 lm_X9_261 sh_91 rfl (by decide) (by decide) (Nat.le_of_ble_eq_true rfl) (tX9_placeOf l hp19  h) (fun r21 μ21 hp21 h => ?_)
      refine qa_ald0 dX9_goAll_162 ?_
      refine qa_getR dX9_goAll_163 lf_X9_52 rfl sh_91 (by decide) (pp_91_28 hp21) (by decide) ?_
      refine qa_ild1 dX9_goAll_166 ?_
      refine qa_iald dX9_goAll_167 sh_104 (by decide) h.1 ?_
      have h := h.2
      refine qa_iadd dX9_goAll_168 ?_
      refine qa_ald0 dX9_goAll_169 ?_
      refine qa_V0I dX9_goAll_170 lm_X9_100 sh_91 rfl (by decide) (by decide) (Nat.le_of_ble_eq_true rfl) (tX9_houses l hp21  h) (fun r22 μ22 hp22 h => ?_)
      refine qa_S2I dX9_goAll_173 lm_X9_258  (by decide) (Nat.le_of_ble_eq_true rfl) (tX9_over l hp22  h) (fun r23 μ23 hp23 h => ?_)
      refine qa_iast dX9_goAll_176 sh_101 (by decide) h.1 ?_
      have h := h.2
      refine qa_nmM (fun μ24 em24 => ?_)
      have h := h μ24 em24
      have hp24 : qa_PP μ24.2.2 := by rw [em24]; exact hp23
      refine qa_inc2 dX9_goAll_177 (qa_io1 _) ?_
      refine qa_goto (tgt := 136) dX9_goAll_180 (by decide) ?_
      refine qa_fgt (L' := [some (.ref 91), some (.int v1), some (.int (v2 + (1 : Int32))), none]) (⟨rfl, ⟨rfl, ⟨rfl, trivial⟩⟩⟩) ?_
      exact ih v1 (v2 + (1 : Int32)) μ24 hp24  h
theorem tX9_goAll_36 (l : Launch)  {Q : qa_M → Prop}  : ∀ (n : Nat) (v1 : Int32) (μ0 : qa_M), qa_PP μ0.2.2 → wX9_goAll_36 n v1 μ0  Q → qa_G l yX9_goAll cX9_goAll 4 none 2 0 0 (qa_pV Q) 0 0 36 [some (.ref 91), some (.int v1), none, none] [] 113 μ0 := by
  intro n
  induction n with
  | zero =>
    intro v1 μ0 hp0  h
    rw [wX9_goAll_36] at h
    exact h.elim
  | succ n ih =>
    intro v1 μ0 hp0  h
    rw [wX9_goAll_36] at h
    refine qa_ild1 dX9_goAll_36 ?_
    refine qa_ald0 dX9_goAll_37 ?_
    refine qa_V0I dX9_goAll_38 lm_X9_96 sh_91 rfl (by decide) (by decide) (Nat.le_of_ble_eq_true rfl) (tX9_weeks l hp0  h) (fun r6 μ6 hp6 h => ?_)
    refine qa_icmp_ge (tgt := 189) dX9_goAll_41 (by decide) (fun c7 => ?_) (fun c7 => ?_)
    · have h := h.1 c7
      exact qa_vret rfl dX9_goAll_189 ⟨rfl, rfl⟩ ⟨rfl, hp6, rfl, h⟩
    · have h := h.2 c7
      refine qa_iconst (v := 0) dX9_goAll_44 (by decide) ?_
      refine qa_ist2 dX9_goAll_45 ?_
      refine qa_fgt (L' := [some (.ref 91), some (.int v1), some (.int (0 : Int32)), none]) (⟨rfl, ⟨rfl, ⟨rfl, trivial⟩⟩⟩) ?_
      refine tX9_goAll_46 l ?_ n v1 (0 : Int32) μ6 hp6  h
      · intro v1_14 μ13 hp13  h
        refine qa_ald0 dX9_goAll_105 ?_
        refine qa_getR dX9_goAll_106 lf_X9_49 rfl sh_91 (by decide) (pp_91_27 hp13) (by decide) ?_
        refine qa_ild1 dX9_goAll_109 ?_
        refine qa_ald0 dX9_goAll_110 ?_
        refine qa_ild1 dX9_goAll_111 ?_
        refine qa_iconst (v := 0) dX9_goAll_112 (by decide) ?_
        refine qa_V2I dX9_goAll_113 lm_X9_274 sh_91 rfl (by decide) (by decide) (Nat.le_of_ble_eq_true rfl) (tX9_forceOf l hp13  h) (fun r15 μ15 hp15 h => ?_)
        refine qa_iast dX9_goAll_116 sh_103 (by decide) h.1 ?_
        have h := h.2
        refine qa_nmM (fun μ16 em16 => ?_)
        have h := h μ16 em16
        have hp16 : qa_PP μ16.2.2 := by rw [em16]; exact hp15
        refine qa_ald0 dX9_goAll_117 ?_
        refine qa_getR dX9_goAll_118 lf_X9_52 rfl sh_91 (by decide) (pp_91_28 hp16) (by decide) ?_
        refine qa_ild1 dX9_goAll_121 ?_
        refine qa_ald0 dX9_goAll_122 ?_
        refine qa_ald0 dX9_goAll_123 ?_
        refine qa_getR dX9_goAll_124 lf_X9_49 rfl sh_91 (by decide) (pp_91_27 hp16) (by decide) ?_
        refine qa_ild1 dX9_goAll_127 ?_
        refine qa_iald dX9_goAll_128 sh_103 (by decide) h.1 ?_
        have h := h.2
        refine qa_ild1 dX9_goAll_129 ?_
        refine qa_V2I dX9_goAll_130 lm_X9_277 sh_91 rfl (by decide) (by decide) (Nat.le_of_ble_eq_true rfl) (tX9_turnBy l hp16  h) (fun r17 μ17 hp17 h => ?_)
        refine qa_iast dX9_goAll_133 sh_104 (by decide) h.1 ?_
        have h := h.2
        refine qa_nmM (fun μ18 em18 => ?_)
        have h := h μ18 em18
        have hp18 : qa_PP μ18.2.2 := by rw [em18]; exact hp17
        refine qa_iconst (v := 0) dX9_goAll_134 (by decide) ?_
        refine qa_ist2 dX9_goAll_135 ?_
        refine qa_fgt (L' := [some (.ref 91), some (.int v1_14), some (.int (0 : Int32)), none]) (⟨rfl, ⟨rfl, ⟨rfl, trivial⟩⟩⟩) ?_
        refine tX9_goAll_136 l ?_ n v1_14 (0 : Int32) μ18 hp18  h
        · intro v1_26 μ25 hp25  h
          refine qa_inc1 dX9_goAll_183 (qa_io1 _) ?_
          refine qa_goto (tgt := 36) dX9_goAll_186 (by decide) ?_
          refine qa_fgt (L' := [some (.ref 91), some (.int (v1_26 + (1 : Int32))), none, none]) (⟨rfl, ⟨rfl, trivial⟩⟩) ?_
          exact ih (v1_26 + (1 : Int32)) μ25 hp25  h
theorem tX9_goAll (l : Launch) {n : Nat}  {μ0 : qa_M} {Q : qa_M → Prop} (hp0 : qa_PP μ0.2.2)  (h : wX9_goAll n  μ0 Q) : qa_Met l yX9_goAll cX9_goAll 4 none 2 0 0 [.ref 91] 113 μ0 (qa_pV Q) := by
  refine qa_ofG (by decide) (Nat.le_of_ble_eq_true rfl) ?_
  unfold wX9_goAll at h
  change qa_G l yX9_goAll cX9_goAll 4 none 2 0 0 (qa_pV Q) 0 0 0 [some (.ref 91), none, none, none] [] 113 μ0
  refine qa_iconst (v := 0) dX9_goAll_0 (by decide) ?_
  refine qa_ist1 dX9_goAll_1 ?_
  refine qa_fgt (L' := [some (.ref 91), some (.int (0 : Int32)), none, none]) (⟨rfl, ⟨rfl, trivial⟩⟩) ?_
  refine tX9_goAll_2 l ?_ n (0 : Int32) μ0 hp0  h
  · intro  μ3 hp3  h
    refine qa_ald0 dX9_goAll_21 ?_
    refine qa_ald0 dX9_goAll_22 ?_
    refine qa_getI dX9_goAll_23 lf_X9_245 (Or.inl rfl) sh_91 (by decide) ?_
    refine qa_ald0 dX9_goAll_26 ?_
    refine qa_getI dX9_goAll_27 lf_X9_248 (Or.inl rfl) sh_91 (by decide) ?_
    refine qa_iconst (v := 0) dX9_goAll_30 (by decide) ?_
    refine qa_V3V dX9_goAll_31 lm_X9_270 sh_91 rfl (by decide) (by decide) (Nat.le_of_ble_eq_true rfl) (tX9_exchange l hp3  h) (fun μ5 hp5 h => ?_)
    refine qa_iconst (v := 0) dX9_goAll_34 (by decide) ?_
    refine qa_ist1 dX9_goAll_35 ?_
    refine qa_fgt (L' := [some (.ref 91), some (.int (0 : Int32)), none, none]) (⟨rfl, ⟨rfl, trivial⟩⟩) ?_
    refine tX9_goAll_36 l  n (0 : Int32) μ5 hp5  h
def wX9_isTown (n : Nat)  (μ0 : qa_M) (Q : Int32 → qa_M → Prop) : Prop := (((μ0.1 92 (9 : Int32).toNatClampNeg) ≤ 0 → Q (0 : Int32) μ0) ∧ (¬ (μ0.1 92 (9 : Int32).toNatClampNeg) ≤ 0 → Q (1 : Int32) μ0))
theorem tX9_isTown (l : Launch) {n : Nat}  {μ0 : qa_M} {Q : Int32 → qa_M → Prop} (hp0 : qa_PP μ0.2.2)  (h : wX9_isTown n  μ0 Q) : qa_Met l yX9_isTown cX9_isTown 1 (some .boolean) 0 0 0 [.ref 91] 113 μ0 (qa_pI Q) := by
  refine qa_ofG (by decide) (Nat.le_of_ble_eq_true rfl) ?_
  unfold wX9_isTown at h
  change qa_G l yX9_isTown cX9_isTown 1 (some .boolean) 0 0 0 (qa_pI Q) 0 0 0 [some (.ref 91)] [] 113 μ0
  refine qa_ald0 dX9_isTown_0 ?_
  refine qa_getR dX9_isTown_1 lf_X9_9 rfl sh_91 (by decide) (pp_91_1 hp0) (by decide) ?_
  refine qa_bipush (v := 9) dX9_isTown_4 (by decide) ?_
  refine qa_iald dX9_isTown_6 sh_92 (by decide) (by unfold vp_in; decide) ?_
  refine qa_if_le (tgt := 14) dX9_isTown_7 (by decide) (fun c1 => ?_) (fun c1 => ?_)
  · have h := h.1 c1
    refine qa_iconst (v := 0) dX9_isTown_14 (by decide) ?_
    exact qa_zret rfl rfl dX9_isTown_15 ⟨rfl, rfl⟩ ⟨rfl, hp0, _, rfl, h⟩
  · have h := h.2 c1
    refine qa_iconst (v := 1) dX9_isTown_10 (by decide) ?_
    refine qa_goto (tgt := 15) dX9_isTown_11 (by decide) ?_
    exact qa_zret rfl rfl dX9_isTown_15 ⟨rfl, rfl⟩ ⟨rfl, hp0, _, rfl, h⟩
def wX9_asksTown (n : Nat)  (μ0 : qa_M) (Q : Int32 → qa_M → Prop) : Prop := wX9_asItIs n  μ0 (fun μ1 => wX9_goAll n  μ1 (fun μ2 => wX9_isTown n  μ2 (fun r3 μ3 => (narrow .boolean (.int r3) = .int r3 ∧ Q r3 μ3))))
theorem tX9_asksTown (l : Launch) {n : Nat}  {μ0 : qa_M} {Q : Int32 → qa_M → Prop} (hp0 : qa_PP μ0.2.2)  (h : wX9_asksTown n  μ0 Q) : qa_Met l yX9_asksTown cX9_asksTown 1 (some .boolean) 3 0 0 [.ref 91] 113 μ0 (qa_pI Q) := by
  refine qa_ofG (by decide) (Nat.le_of_ble_eq_true rfl) ?_
  unfold wX9_asksTown at h
  change qa_G l yX9_asksTown cX9_asksTown 1 (some .boolean) 3 0 0 (qa_pI Q) 0 0 0 [some (.ref 91)] [] 113 μ0
  refine qa_ald0 dX9_asksTown_0 ?_
  refine qa_V0V dX9_asksTown_1 lm_X9_251 sh_91 rfl (by decide) (by decide) (Nat.le_of_ble_eq_true rfl) (tX9_asItIs l hp0  h) (fun μ1 hp1 h => ?_)
  refine qa_ald0 dX9_asksTown_4 ?_
  refine qa_V0V dX9_asksTown_5 lm_X9_280 sh_91 rfl (by decide) (by decide) (Nat.le_of_ble_eq_true rfl) (tX9_goAll l hp1  h) (fun μ2 hp2 h => ?_)
  refine qa_ald0 dX9_asksTown_8 ?_
  refine qa_V0I dX9_asksTown_9 lm_X9_92 sh_91 rfl (by decide) (by decide) (Nat.le_of_ble_eq_true rfl) (tX9_isTown l hp2  h) (fun r3 μ3 hp3 h => ?_)
  exact qa_zret rfl h.1 dX9_asksTown_12 ⟨rfl, rfl⟩ ⟨rfl, hp3, _, rfl, h.2⟩
def wX9_isAhead (n : Nat) (v1 : Int64) (μ0 : qa_M) (Q : Int32 → qa_M → Prop) : Prop := wX9_isTown n  μ0 (fun r1 μ1 => ((r1 = 0 → Q (0 : Int32) μ1) ∧ (¬ r1 = 0 → wX9_weeks n  μ1 (fun r3 μ3 => wX9_in n v1 (0 : Int64) (r3 - (1 : Int32)).toInt64 μ3 (fun r4 μ4 => ((r4 = 0 → Q (0 : Int32) μ4) ∧ (¬ r4 = 0 → Q (1 : Int32) μ4)))))))
theorem tX9_isAhead (l : Launch) {n : Nat} {v1 : Int64} {μ0 : qa_M} {Q : Int32 → qa_M → Prop} (hp0 : qa_PP μ0.2.2)  (h : wX9_isAhead n v1 μ0 Q) : qa_Met l yX9_isAhead cX9_isAhead 3 (some .boolean) 1 0 0 [.ref 91, .long v1] 113 μ0 (qa_pI Q) := by
  refine qa_ofG (by decide) (Nat.le_of_ble_eq_true rfl) ?_
  unfold wX9_isAhead at h
  change qa_G l yX9_isAhead cX9_isAhead 3 (some .boolean) 1 0 0 (qa_pI Q) 0 0 0 [some (.ref 91), some (.long v1), none] [] 113 μ0
  refine qa_ald0 dX9_isAhead_0 ?_
  refine qa_V0I dX9_isAhead_1 lm_X9_92 sh_91 rfl (by decide) (by decide) (Nat.le_of_ble_eq_true rfl) (tX9_isTown l hp0  h) (fun r1 μ1 hp1 h => ?_)
  refine qa_if_eq (tgt := 26) dX9_isAhead_4 (by decide) (fun c2 => ?_) (fun c2 => ?_)
  · have h := h.1 c2
    refine qa_iconst (v := 0) dX9_isAhead_26 (by decide) ?_
    exact qa_zret rfl rfl dX9_isAhead_27 ⟨rfl, rfl⟩ ⟨rfl, hp1, _, rfl, h⟩
  · have h := h.2 c2
    refine qa_lld1 dX9_isAhead_7 ?_
    refine qa_lconst (v := 0) dX9_isAhead_8 (by decide) ?_
    refine qa_ald0 dX9_isAhead_9 ?_
    refine qa_V0I dX9_isAhead_10 lm_X9_96 sh_91 rfl (by decide) (by decide) (Nat.le_of_ble_eq_true rfl) (tX9_weeks l hp1  h) (fun r3 μ3 hp3 h => ?_)
    refine qa_iconst (v := 1) dX9_isAhead_13 (by decide) ?_
    refine qa_isub dX9_isAhead_14 ?_
    refine qa_i2l dX9_isAhead_15 ?_
    refine qa_S3I dX9_isAhead_16 lm_X9_88  (by decide) (Nat.le_of_ble_eq_true rfl) (tX9_in l hp3  h) (fun r4 μ4 hp4 h => ?_)
    refine qa_if_eq (tgt := 26) dX9_isAhead_19 (by decide) (fun c5 => ?_) (fun c5 => ?_)
    · have h := h.1 c5
      refine qa_iconst (v := 0) dX9_isAhead_26 (by decide) ?_
      exact qa_zret rfl rfl dX9_isAhead_27 ⟨rfl, rfl⟩ ⟨rfl, hp4, _, rfl, h⟩
    · have h := h.2 c5
      refine qa_iconst (v := 1) dX9_isAhead_22 (by decide) ?_
      refine qa_goto (tgt := 27) dX9_isAhead_23 (by decide) ?_
      exact qa_zret rfl rfl dX9_isAhead_27 ⟨rfl, rfl⟩ ⟨rfl, hp4, _, rfl, h⟩
def wX9_asksAhead (n : Nat) (v1 : Int32) (μ0 : qa_M) (Q : Int32 → qa_M → Prop) : Prop := wX9_asksTown n  μ0 (fun r1 μ1 => wX9_isAhead n v1.toInt64 μ1 (fun r2 μ2 => (narrow .boolean (.int r2) = .int r2 ∧ Q r2 μ2)))
theorem tX9_asksAhead (l : Launch) {n : Nat} {v1 : Int32} {μ0 : qa_M} {Q : Int32 → qa_M → Prop} (hp0 : qa_PP μ0.2.2)  (h : wX9_asksAhead n v1 μ0 Q) : qa_Met l yX9_asksAhead cX9_asksAhead 2 (some .boolean) 4 0 0 [.ref 91, .int v1] 113 μ0 (qa_pI Q) := by
  refine qa_ofG (by decide) (Nat.le_of_ble_eq_true rfl) ?_
  unfold wX9_asksAhead at h
  change qa_G l yX9_asksAhead cX9_asksAhead 2 (some .boolean) 4 0 0 (qa_pI Q) 0 0 0 [some (.ref 91), some (.int v1)] [] 113 μ0
  refine qa_ald0 dX9_asksAhead_0 ?_
  refine qa_V0I dX9_asksAhead_1 lm_X9_283 sh_91 rfl (by decide) (by decide) (Nat.le_of_ble_eq_true rfl) (tX9_asksTown l hp0  h) (fun r1 μ1 hp1 h => ?_)
  refine qa_pop dX9_asksAhead_4 rfl ?_
  refine qa_ald0 dX9_asksAhead_5 ?_
  refine qa_ild1 dX9_asksAhead_6 ?_
  refine qa_i2l dX9_asksAhead_7 ?_
  refine qa_V1I dX9_asksAhead_8 lm_X9_289 sh_91 rfl (by decide) (by decide) (Nat.le_of_ble_eq_true rfl) (tX9_isAhead l hp1  h) (fun r2 μ2 hp2 h => ?_)
  exact qa_zret rfl h.1 dX9_asksAhead_11 ⟨rfl, rfl⟩ ⟨rfl, hp2, _, rfl, h.2⟩
def wX9_pushOf (n : Nat) (v1 : Int32) (v2 : Int32) (μ0 : qa_M) (Q : Int32 → qa_M → Prop) : Prop := vp_in (((8 : Int32) * v2) + v1) 160 ∧ Q (μ0.1 102 (((8 : Int32) * v2) + v1).toNatClampNeg) μ0
theorem tX9_pushOf (l : Launch) {n : Nat} {v1 : Int32} {v2 : Int32} {μ0 : qa_M} {Q : Int32 → qa_M → Prop} (hp0 : qa_PP μ0.2.2)  (h : wX9_pushOf n v1 v2 μ0 Q) : qa_Met l yX9_pushOf cX9_pushOf 3 (some .int) 0 0 0 [.ref 91, .int v1, .int v2] 113 μ0 (qa_pI Q) := by
  refine qa_ofG (by decide) (Nat.le_of_ble_eq_true rfl) ?_
  unfold wX9_pushOf at h
  change qa_G l yX9_pushOf cX9_pushOf 3 (some .int) 0 0 0 (qa_pI Q) 0 0 0 [some (.ref 91), some (.int v1), some (.int v2)] [] 113 μ0
  refine qa_ald0 dX9_pushOf_0 ?_
  refine qa_getR dX9_pushOf_1 lf_X9_46 rfl sh_91 (by decide) (pp_91_26 hp0) (by decide) ?_
  refine qa_bipush (v := 8) dX9_pushOf_4 (by decide) ?_
  refine qa_ild2 dX9_pushOf_6 ?_
  refine qa_imul dX9_pushOf_7 ?_
  refine qa_ild1 dX9_pushOf_8 ?_
  refine qa_iadd dX9_pushOf_9 ?_
  refine qa_iald dX9_pushOf_10 sh_102 (by decide) h.1 ?_
  have h := h.2
  exact qa_iret rfl dX9_pushOf_11 ⟨rfl, rfl⟩ ⟨rfl, hp0, _, rfl, h⟩
def wX9_all_15 : Nat → Int32 → Int32 → Int32 → qa_M → (Int32 → qa_M → Prop) → Prop
  | 0, _, _, _, _, _ => False
  | n + 1, v1, v2, v3, μ0, Q => wX9_houses n  μ0 (fun r3 μ3 => ((r3 ≤ v3 → Q v2 μ3) ∧ (¬ r3 ≤ v3 → wX9_pushOf n v3 v1 μ3 (fun r5 μ5 => ∀ x6, x6 = (v2 + r5) → wX9_all_15 n v1 x6 (v3 + (1 : Int32)) μ5 Q))))
def wX9_all (n : Nat) (v1 : Int32) (μ0 : qa_M) (Q : Int32 → qa_M → Prop) : Prop := wX9_asksAhead n v1 μ0 (fun r1 μ1 => ((¬ r1 = 0 → wX9_all_15 n v1 (0 : Int32) (0 : Int32) μ1  Q) ∧ (r1 = 0 → Q (-2 : Int32) μ1)))
theorem tX9_all_15 (l : Launch)  {Q : Int32 → qa_M → Prop}  : ∀ (n : Nat) (v1 : Int32) (v2 : Int32) (v3 : Int32) (μ0 : qa_M), qa_PP μ0.2.2 → wX9_all_15 n v1 v2 v3 μ0  Q → qa_G l yX9_all cX9_all 4 (some .int) 5 0 0 (qa_pI Q) 0 0 15 [some (.ref 91), some (.int v1), some (.int v2), some (.int v3)] [] 113 μ0 := by
  intro n
  induction n with
  | zero =>
    intro v1 v2 v3 μ0 hp0  h
    rw [wX9_all_15] at h
    exact h.elim
  | succ n ih =>
    intro v1 v2 v3 μ0 hp0  h
    rw [wX9_all_15] at h
    refine qa_ild3 dX9_all_15 ?_
    refine qa_ald0 dX9_all_16 ?_
    refine qa_V0I dX9_all_17 lm_X9_100 sh_91 rfl (by decide) (by decide) (Nat.le_of_ble_eq_true rfl) (tX9_houses l hp0  h) (fun r3 μ3 hp3 h => ?_)
    refine qa_icmp_ge (tgt := 38) dX9_all_20 (by decide) (fun c4 => ?_) (fun c4 => ?_)
    · have h := h.1 c4
      refine qa_ild2 dX9_all_38 ?_
      exact qa_iret rfl dX9_all_39 ⟨rfl, rfl⟩ ⟨rfl, hp3, _, rfl, h⟩
    · have h := h.2 c4
      refine qa_ild2 dX9_all_23 ?_
      refine qa_ald0 dX9_all_24 ?_
      refine qa_ild3 dX9_all_25 ?_
      refine qa_ild1 dX9_all_26 ?_
      refine qa_V2I dX9_all_27 lm_X9_301 sh_91 rfl (by decide) (by decide) (Nat.le_of_ble_eq_true rfl) (tX9_pushOf l hp3  h) (fun r5 μ5 hp5 h => ?_)
      refine qa_iadd dX9_all_30 ?_
      refine qa_nmI (fun x6 e6 => ?_)
      have h := h x6 e6
      refine qa_ist2 dX9_all_31 ?_
      refine qa_inc3 dX9_all_32 (qa_io1 _) ?_
      refine qa_goto (tgt := 15) dX9_all_35 (by decide) ?_
      refine qa_fgt (L' := [some (.ref 91), some (.int v1), some (.int x6), some (.int (v3 + (1 : Int32)))]) (⟨rfl, ⟨rfl, ⟨rfl, ⟨rfl, trivial⟩⟩⟩⟩) ?_
      exact ih v1 x6 (v3 + (1 : Int32)) μ5 hp5  h
theorem tX9_all (l : Launch) {n : Nat} {v1 : Int32} {μ0 : qa_M} {Q : Int32 → qa_M → Prop} (hp0 : qa_PP μ0.2.2)  (h : wX9_all n v1 μ0 Q) : qa_Met l yX9_all cX9_all 4 (some .int) 5 0 0 [.ref 91, .int v1] 113 μ0 (qa_pI Q) := by
  refine qa_ofG (by decide) (Nat.le_of_ble_eq_true rfl) ?_
  unfold wX9_all at h
  change qa_G l yX9_all cX9_all 4 (some .int) 5 0 0 (qa_pI Q) 0 0 0 [some (.ref 91), some (.int v1), none, none] [] 113 μ0
  refine qa_ald0 dX9_all_0 ?_
  refine qa_ild1 dX9_all_1 ?_
  refine qa_V1I dX9_all_2 lm_X9_298 sh_91 rfl (by decide) (by decide) (Nat.le_of_ble_eq_true rfl) (tX9_asksAhead l hp0  h) (fun r1 μ1 hp1 h => ?_)
  refine qa_if_ne (tgt := 11) dX9_all_5 (by decide) (fun c2 => ?_) (fun c2 => ?_)
  · have h := h.1 c2
    refine qa_iconst (v := 0) dX9_all_11 (by decide) ?_
    refine qa_ist2 dX9_all_12 ?_
    refine qa_iconst (v := 0) dX9_all_13 (by decide) ?_
    refine qa_ist3 dX9_all_14 ?_
    refine qa_fgt (L' := [some (.ref 91), some (.int v1), some (.int (0 : Int32)), some (.int (0 : Int32))]) (⟨rfl, ⟨rfl, ⟨rfl, ⟨rfl, trivial⟩⟩⟩⟩) ?_
    refine tX9_all_15 l  n v1 (0 : Int32) (0 : Int32) μ1 hp1  h
  · have h := h.2 c2
    refine qa_bipush (v := -2) dX9_all_8 (by decide) ?_
    exact qa_iret rfl dX9_all_10 ⟨rfl, rfl⟩ ⟨rfl, hp1, _, rfl, h⟩
def wX9_anew (n : Nat)  (μ0 : qa_M) (Q : Int32 → qa_M → Prop) : Prop := wX9_isTown n  μ0 (fun r1 μ1 => ((¬ r1 = 0 → ∀ x3, x3 = (μ1.1 92 (8 : Int32).toNatClampNeg) → ∀ μ4, μ4 = qa_uI μ1 92 (8 : Int32).toNatClampNeg (0 : Int32) → Q x3 μ4) ∧ (r1 = 0 → Q (-2 : Int32) μ1)))
theorem tX9_anew (l : Launch) {n : Nat}  {μ0 : qa_M} {Q : Int32 → qa_M → Prop} (hp0 : qa_PP μ0.2.2)  (h : wX9_anew n  μ0 Q) : qa_Met l yX9_anew cX9_anew 2 (some .int) 1 0 0 [.ref 91] 113 μ0 (qa_pI Q) := by
  refine qa_ofG (by decide) (Nat.le_of_ble_eq_true rfl) ?_
  unfold wX9_anew at h
  change qa_G l yX9_anew cX9_anew 2 (some .int) 1 0 0 (qa_pI Q) 0 0 0 [some (.ref 91), none] [] 113 μ0
  refine qa_ald0 dX9_anew_0 ?_
  refine qa_V0I dX9_anew_1 lm_X9_92 sh_91 rfl (by decide) (by decide) (Nat.le_of_ble_eq_true rfl) (tX9_isTown l hp0  h) (fun r1 μ1 hp1 h => ?_)
  refine qa_if_ne (tgt := 10) dX9_anew_4 (by decide) (fun c2 => ?_) (fun c2 => ?_)
  · have h := h.1 c2
    refine qa_ald0 dX9_anew_10 ?_
    refine qa_getR dX9_anew_11 lf_X9_9 rfl sh_91 (by decide) (pp_91_1 hp1) (by decide) ?_
    refine qa_bipush (v := 8) dX9_anew_14 (by decide) ?_
    refine qa_iald dX9_anew_16 sh_92 (by decide) (by unfold vp_in; decide) ?_
    refine qa_nmI (fun x3 e3 => ?_)
    have h := h x3 e3
    refine qa_ist1 dX9_anew_17 ?_
    refine qa_ald0 dX9_anew_18 ?_
    refine qa_getR dX9_anew_19 lf_X9_9 rfl sh_91 (by decide) (pp_91_1 hp1) (by decide) ?_
    refine qa_bipush (v := 8) dX9_anew_22 (by decide) ?_
    refine qa_iconst (v := 0) dX9_anew_24 (by decide) ?_
    refine qa_iast dX9_anew_25 sh_92 (by decide) (by unfold vp_in; decide) ?_
    refine qa_nmM (fun μ4 em4 => ?_)
    have h := h μ4 em4
    have hp4 : qa_PP μ4.2.2 := by rw [em4]; exact hp1
    refine qa_ild1 dX9_anew_26 ?_
    exact qa_iret rfl dX9_anew_27 ⟨rfl, rfl⟩ ⟨rfl, hp4, _, rfl, h⟩
  · have h := h.2 c2
    refine qa_bipush (v := -2) dX9_anew_7 (by decide) ?_
    exact qa_iret rfl dX9_anew_9 ⟨rfl, rfl⟩ ⟨rfl, hp1, _, rfl, h⟩
def wX9_isWeek (n : Nat) (v1 : Int64) (μ0 : qa_M) (Q : Int32 → qa_M → Prop) : Prop := wX9_isTown n  μ0 (fun r1 μ1 => ((r1 = 0 → Q (0 : Int32) μ1) ∧ (¬ r1 = 0 → wX9_weeks n  μ1 (fun r3 μ3 => wX9_in n v1 (0 : Int64) r3.toInt64 μ3 (fun r4 μ4 => ((r4 = 0 → Q (0 : Int32) μ4) ∧ (¬ r4 = 0 → Q (1 : Int32) μ4)))))))
theorem tX9_isWeek (l : Launch) {n : Nat} {v1 : Int64} {μ0 : qa_M} {Q : Int32 → qa_M → Prop} (hp0 : qa_PP μ0.2.2)  (h : wX9_isWeek n v1 μ0 Q) : qa_Met l yX9_isWeek cX9_isWeek 3 (some .boolean) 1 0 0 [.ref 91, .long v1] 113 μ0 (qa_pI Q) := by
  refine qa_ofG (by decide) (Nat.le_of_ble_eq_true rfl) ?_
  unfold wX9_isWeek at h
  change qa_G l yX9_isWeek cX9_isWeek 3 (some .boolean) 1 0 0 (qa_pI Q) 0 0 0 [some (.ref 91), some (.long v1), none] [] 113 μ0
  refine qa_ald0 dX9_isWeek_0 ?_
  refine qa_V0I dX9_isWeek_1 lm_X9_92 sh_91 rfl (by decide) (by decide) (Nat.le_of_ble_eq_true rfl) (tX9_isTown l hp0  h) (fun r1 μ1 hp1 h => ?_)
  refine qa_if_eq (tgt := 24) dX9_isWeek_4 (by decide) (fun c2 => ?_) (fun c2 => ?_)
  · have h := h.1 c2
    refine qa_iconst (v := 0) dX9_isWeek_24 (by decide) ?_
    exact qa_zret rfl rfl dX9_isWeek_25 ⟨rfl, rfl⟩ ⟨rfl, hp1, _, rfl, h⟩
  · have h := h.2 c2
    refine qa_lld1 dX9_isWeek_7 ?_
    refine qa_lconst (v := 0) dX9_isWeek_8 (by decide) ?_
    refine qa_ald0 dX9_isWeek_9 ?_
    refine qa_V0I dX9_isWeek_10 lm_X9_96 sh_91 rfl (by decide) (by decide) (Nat.le_of_ble_eq_true rfl) (tX9_weeks l hp1  h) (fun r3 μ3 hp3 h => ?_)
    refine qa_i2l dX9_isWeek_13 ?_
    refine qa_S3I dX9_isWeek_14 lm_X9_88  (by decide) (Nat.le_of_ble_eq_true rfl) (tX9_in l hp3  h) (fun r4 μ4 hp4 h => ?_)
    refine qa_if_eq (tgt := 24) dX9_isWeek_17 (by decide) (fun c5 => ?_) (fun c5 => ?_)
    · have h := h.1 c5
      refine qa_iconst (v := 0) dX9_isWeek_24 (by decide) ?_
      exact qa_zret rfl rfl dX9_isWeek_25 ⟨rfl, rfl⟩ ⟨rfl, hp4, _, rfl, h⟩
    · have h := h.2 c5
      refine qa_iconst (v := 1) dX9_isWeek_20 (by decide) ?_
      refine qa_goto (tgt := 25) dX9_isWeek_21 (by decide) ?_
      exact qa_zret rfl rfl dX9_isWeek_25 ⟨rfl, rfl⟩ ⟨rfl, hp4, _, rfl, h⟩
def wX9_asksWeek (n : Nat) (v1 : Int32) (μ0 : qa_M) (Q : Int32 → qa_M → Prop) : Prop := wX9_asksTown n  μ0 (fun r1 μ1 => wX9_isWeek n v1.toInt64 μ1 (fun r2 μ2 => (narrow .boolean (.int r2) = .int r2 ∧ Q r2 μ2)))
theorem tX9_asksWeek (l : Launch) {n : Nat} {v1 : Int32} {μ0 : qa_M} {Q : Int32 → qa_M → Prop} (hp0 : qa_PP μ0.2.2)  (h : wX9_asksWeek n v1 μ0 Q) : qa_Met l yX9_asksWeek cX9_asksWeek 2 (some .boolean) 4 0 0 [.ref 91, .int v1] 113 μ0 (qa_pI Q) := by
  refine qa_ofG (by decide) (Nat.le_of_ble_eq_true rfl) ?_
  unfold wX9_asksWeek at h
  change qa_G l yX9_asksWeek cX9_asksWeek 2 (some .boolean) 4 0 0 (qa_pI Q) 0 0 0 [some (.ref 91), some (.int v1)] [] 113 μ0
  refine qa_ald0 dX9_asksWeek_0 ?_
  refine qa_V0I dX9_asksWeek_1 lm_X9_283 sh_91 rfl (by decide) (by decide) (Nat.le_of_ble_eq_true rfl) (tX9_asksTown l hp0  h) (fun r1 μ1 hp1 h => ?_)
  refine qa_pop dX9_asksWeek_4 rfl ?_
  refine qa_ald0 dX9_asksWeek_5 ?_
  refine qa_ild1 dX9_asksWeek_6 ?_
  refine qa_i2l dX9_asksWeek_7 ?_
  refine qa_V1I dX9_asksWeek_8 lm_X9_286 sh_91 rfl (by decide) (by decide) (Nat.le_of_ble_eq_true rfl) (tX9_isWeek l hp1  h) (fun r2 μ2 hp2 h => ?_)
  exact qa_zret rfl h.1 dX9_asksWeek_11 ⟨rfl, rfl⟩ ⟨rfl, hp2, _, rfl, h.2⟩
def wX9_isHouse (n : Nat) (v1 : Int32) (μ0 : qa_M) (Q : Int32 → qa_M → Prop) : Prop := wX9_houses n  μ0 (fun r1 μ1 => wX9_in n v1.toInt64 (0 : Int64) (r1 - (1 : Int32)).toInt64 μ1 (fun r2 μ2 => (narrow .boolean (.int r2) = .int r2 ∧ Q r2 μ2)))
theorem tX9_isHouse (l : Launch) {n : Nat} {v1 : Int32} {μ0 : qa_M} {Q : Int32 → qa_M → Prop} (hp0 : qa_PP μ0.2.2)  (h : wX9_isHouse n v1 μ0 Q) : qa_Met l yX9_isHouse cX9_isHouse 2 (some .boolean) 1 0 0 [.ref 91, .int v1] 113 μ0 (qa_pI Q) := by
  refine qa_ofG (by decide) (Nat.le_of_ble_eq_true rfl) ?_
  unfold wX9_isHouse at h
  change qa_G l yX9_isHouse cX9_isHouse 2 (some .boolean) 1 0 0 (qa_pI Q) 0 0 0 [some (.ref 91), some (.int v1)] [] 113 μ0
  refine qa_ild1 dX9_isHouse_0 ?_
  refine qa_i2l dX9_isHouse_1 ?_
  refine qa_lconst (v := 0) dX9_isHouse_2 (by decide) ?_
  refine qa_ald0 dX9_isHouse_3 ?_
  refine qa_V0I dX9_isHouse_4 lm_X9_100 sh_91 rfl (by decide) (by decide) (Nat.le_of_ble_eq_true rfl) (tX9_houses l hp0  h) (fun r1 μ1 hp1 h => ?_)
  refine qa_iconst (v := 1) dX9_isHouse_7 (by decide) ?_
  refine qa_isub dX9_isHouse_8 ?_
  refine qa_i2l dX9_isHouse_9 ?_
  refine qa_S3I dX9_isHouse_10 lm_X9_88  (by decide) (Nat.le_of_ble_eq_true rfl) (tX9_in l hp1  h) (fun r2 μ2 hp2 h => ?_)
  exact qa_zret rfl h.1 dX9_isHouse_13 ⟨rfl, rfl⟩ ⟨rfl, hp2, _, rfl, h.2⟩
def wX9_apart (n : Nat) (v1 : Int32) (v2 : Int32) (v3 : Int32) (μ0 : qa_M) (Q : Int32 → qa_M → Prop) : Prop := wX9_asksWeek n v3 μ0 (fun r1 μ1 => ((r1 = 0 → Q (-2 : Int32) μ1) ∧ (¬ r1 = 0 → wX9_isHouse n v1 μ1 (fun r3 μ3 => ((r3 = 0 → Q (-2 : Int32) μ3) ∧ (¬ r3 = 0 → wX9_isHouse n v2 μ3 (fun r5 μ5 => ((r5 = 0 → Q (-2 : Int32) μ5) ∧ (¬ r5 = 0 → wX9_placeOf n v2 v3 μ5 (fun r7 μ7 => wX9_placeOf n v1 v3 μ7 (fun r8 μ8 => wX9_houses n  μ8 (fun r9 μ9 => wX9_over n (r7 - r8) r9 μ9 (fun r10 μ10 => Q r10 μ10)))))))))))))
theorem tX9_apart (l : Launch) {n : Nat} {v1 : Int32} {v2 : Int32} {v3 : Int32} {μ0 : qa_M} {Q : Int32 → qa_M → Prop} (hp0 : qa_PP μ0.2.2)  (h : wX9_apart n v1 v2 v3 μ0 Q) : qa_Met l yX9_apart cX9_apart 4 (some .int) 5 0 0 [.ref 91, .int v1, .int v2, .int v3] 113 μ0 (qa_pI Q) := by
  refine qa_ofG (by decide) (Nat.le_of_ble_eq_true rfl) ?_
  unfold wX9_apart at h
  change qa_G l yX9_apart cX9_apart 4 (some .int) 5 0 0 (qa_pI Q) 0 0 0 [some (.ref 91), some (.int v1), some (.int v2), some (.int v3)] [] 113 μ0
  refine qa_ald0 dX9_apart_0 ?_
  refine qa_ild3 dX9_apart_1 ?_
  refine qa_V1I dX9_apart_2 lm_X9_292 sh_91 rfl (by decide) (by decide) (Nat.le_of_ble_eq_true rfl) (tX9_asksWeek l hp0  h) (fun r1 μ1 hp1 h => ?_)
  refine qa_if_eq (tgt := 47) dX9_apart_5 (by decide) (fun c2 => ?_) (fun c2 => ?_)
  · have h := h.1 c2
    refine qa_bipush (v := -2) dX9_apart_47 (by decide) ?_
    exact qa_iret rfl dX9_apart_49 ⟨rfl, rfl⟩ ⟨rfl, hp1, _, rfl, h⟩
  · have h := h.2 c2
    refine qa_ald0 dX9_apart_8 ?_
    refine qa_ild1 dX9_apart_9 ?_
    refine qa_V1I dX9_apart_10 lm_X9_103 sh_91 rfl (by decide) (by decide) (Nat.le_of_ble_eq_true rfl) (tX9_isHouse l hp1  h) (fun r3 μ3 hp3 h => ?_)
    refine qa_if_eq (tgt := 47) dX9_apart_13 (by decide) (fun c4 => ?_) (fun c4 => ?_)
    · have h := h.1 c4
      refine qa_bipush (v := -2) dX9_apart_47 (by decide) ?_
      exact qa_iret rfl dX9_apart_49 ⟨rfl, rfl⟩ ⟨rfl, hp3, _, rfl, h⟩
    · have h := h.2 c4
      refine qa_ald0 dX9_apart_16 ?_
      refine qa_ild2 dX9_apart_17 ?_
      refine qa_V1I dX9_apart_18 lm_X9_103 sh_91 rfl (by decide) (by decide) (Nat.le_of_ble_eq_true rfl) (tX9_isHouse l hp3  h) (fun r5 μ5 hp5 h => ?_)
      refine qa_if_eq (tgt := 47) dX9_apart_21 (by decide) (fun c6 => ?_) (fun c6 => ?_)
      · have h := h.1 c6
        refine qa_bipush (v := -2) dX9_apart_47 (by decide) ?_
        exact qa_iret rfl dX9_apart_49 ⟨rfl, rfl⟩ ⟨rfl, hp5, _, rfl, h⟩
      · have h := h.2 c6
        refine qa_ald0 dX9_apart_24 ?_
        refine qa_ild2 dX9_apart_25 ?_
        refine qa_ild3 dX9_apart_26 ?_
        refine qa_V2I dX9_apart_27 lm_X9_261 sh_91 rfl (by decide) (by decide) (Nat.le_of_ble_eq_true rfl) (tX9_placeOf l hp5  h) (fun r7 μ7 hp7 h => ?_)
        refine qa_ald0 dX9_apart_30 ?_
        refine qa_ild1 dX9_apart_31 ?_
        refine qa_ild3 dX9_apart_32 ?_
        refine qa_V2I dX9_apart_33 lm_X9_261 sh_91 rfl (by decide) (by decide) (Nat.le_of_ble_eq_true rfl) (tX9_placeOf l hp7  h) (fun r8 μ8 hp8 h => ?_)
        refine qa_isub dX9_apart_36 ?_
        refine qa_ald0 dX9_apart_37 ?_
        refine qa_V0I dX9_apart_38 lm_X9_100 sh_91 rfl (by decide) (by decide) (Nat.le_of_ble_eq_true rfl) (tX9_houses l hp8  h) (fun r9 μ9 hp9 h => ?_)
        refine qa_S2I dX9_apart_41 lm_X9_258  (by decide) (Nat.le_of_ble_eq_true rfl) (tX9_over l hp9  h) (fun r10 μ10 hp10 h => ?_)
        refine qa_goto (tgt := 49) dX9_apart_44 (by decide) ?_
        exact qa_iret rfl dX9_apart_49 ⟨rfl, rfl⟩ ⟨rfl, hp10, _, rfl, h⟩
def wX9_areBeside (n : Nat) (v1 : Int32) (v2 : Int32) (v3 : Int32) (μ0 : qa_M) (Q : Int32 → qa_M → Prop) : Prop := wX9_placeOf n v2 v3 μ0 (fun r1 μ1 => wX9_placeOf n v1 v3 μ1 (fun r2 μ2 => wX9_houses n  μ2 (fun r3 μ3 => wX9_over n (r1 - r2) r3 μ3 (fun r4 μ4 => ((r4 = (1 : Int32) → Q (1 : Int32) μ4) ∧ (¬ r4 = (1 : Int32) → wX9_houses n  μ4 (fun r6 μ6 => ((¬ r4 = (r6 - (1 : Int32)) → Q (0 : Int32) μ6) ∧ (r4 = (r6 - (1 : Int32)) → Q (1 : Int32) μ6)))))))))
theorem tX9_areBeside (l : Launch) {n : Nat} {v1 : Int32} {v2 : Int32} {v3 : Int32} {μ0 : qa_M} {Q : Int32 → qa_M → Prop} (hp0 : qa_PP μ0.2.2)  (h : wX9_areBeside n v1 v2 v3 μ0 Q) : qa_Met l yX9_areBeside cX9_areBeside 5 (some .boolean) 1 0 0 [.ref 91, .int v1, .int v2, .int v3] 113 μ0 (qa_pI Q) := by
  refine qa_ofG (by decide) (Nat.le_of_ble_eq_true rfl) ?_
  unfold wX9_areBeside at h
  change qa_G l yX9_areBeside cX9_areBeside 5 (some .boolean) 1 0 0 (qa_pI Q) 0 0 0 [some (.ref 91), some (.int v1), some (.int v2), some (.int v3), none] [] 113 μ0
  refine qa_ald0 dX9_areBeside_0 ?_
  refine qa_ild2 dX9_areBeside_1 ?_
  refine qa_ild3 dX9_areBeside_2 ?_
  refine qa_V2I dX9_areBeside_3 lm_X9_261 sh_91 rfl (by decide) (by decide) (Nat.le_of_ble_eq_true rfl) (tX9_placeOf l hp0  h) (fun r1 μ1 hp1 h => ?_)
  refine qa_ald0 dX9_areBeside_6 ?_
  refine qa_ild1 dX9_areBeside_7 ?_
  refine qa_ild3 dX9_areBeside_8 ?_
  refine qa_V2I dX9_areBeside_9 lm_X9_261 sh_91 rfl (by decide) (by decide) (Nat.le_of_ble_eq_true rfl) (tX9_placeOf l hp1  h) (fun r2 μ2 hp2 h => ?_)
  refine qa_isub dX9_areBeside_12 ?_
  refine qa_ald0 dX9_areBeside_13 ?_
  refine qa_V0I dX9_areBeside_14 lm_X9_100 sh_91 rfl (by decide) (by decide) (Nat.le_of_ble_eq_true rfl) (tX9_houses l hp2  h) (fun r3 μ3 hp3 h => ?_)
  refine qa_S2I dX9_areBeside_17 lm_X9_258  (by decide) (Nat.le_of_ble_eq_true rfl) (tX9_over l hp3  h) (fun r4 μ4 hp4 h => ?_)
  refine qa_ist4 dX9_areBeside_20 ?_
  refine qa_ild4 dX9_areBeside_22 ?_
  refine qa_iconst (v := 1) dX9_areBeside_24 (by decide) ?_
  refine qa_icmp_eq (tgt := 39) dX9_areBeside_25 (by decide) (fun c5 => ?_) (fun c5 => ?_)
  · have h := h.1 c5
    refine qa_iconst (v := 1) dX9_areBeside_39 (by decide) ?_
    refine qa_goto (tgt := 44) dX9_areBeside_40 (by decide) ?_
    exact qa_zret rfl rfl dX9_areBeside_44 ⟨rfl, rfl⟩ ⟨rfl, hp4, _, rfl, h⟩
  · have h := h.2 c5
    refine qa_ild4 dX9_areBeside_28 ?_
    refine qa_ald0 dX9_areBeside_30 ?_
    refine qa_V0I dX9_areBeside_31 lm_X9_100 sh_91 rfl (by decide) (by decide) (Nat.le_of_ble_eq_true rfl) (tX9_houses l hp4  h) (fun r6 μ6 hp6 h => ?_)
    refine qa_iconst (v := 1) dX9_areBeside_34 (by decide) ?_
    refine qa_isub dX9_areBeside_35 ?_
    refine qa_icmp_ne (tgt := 43) dX9_areBeside_36 (by decide) (fun c7 => ?_) (fun c7 => ?_)
    · have h := h.1 c7
      refine qa_iconst (v := 0) dX9_areBeside_43 (by decide) ?_
      exact qa_zret rfl rfl dX9_areBeside_44 ⟨rfl, rfl⟩ ⟨rfl, hp6, _, rfl, h⟩
    · have h := h.2 c7
      refine qa_iconst (v := 1) dX9_areBeside_39 (by decide) ?_
      refine qa_goto (tgt := 44) dX9_areBeside_40 (by decide) ?_
      exact qa_zret rfl rfl dX9_areBeside_44 ⟨rfl, rfl⟩ ⟨rfl, hp6, _, rfl, h⟩
def wX9_areTwo (n : Nat) (v1 : Int32) (v2 : Int32) (μ0 : qa_M) (Q : Int32 → qa_M → Prop) : Prop := wX9_isHouse n v1 μ0 (fun r1 μ1 => ((r1 = 0 → Q (0 : Int32) μ1) ∧ (¬ r1 = 0 → wX9_isHouse n v2 μ1 (fun r3 μ3 => ((r3 = 0 → Q (0 : Int32) μ3) ∧ (¬ r3 = 0 → ((v1 = v2 → Q (0 : Int32) μ3) ∧ (¬ v1 = v2 → Q (1 : Int32) μ3))))))))
theorem tX9_areTwo (l : Launch) {n : Nat} {v1 : Int32} {v2 : Int32} {μ0 : qa_M} {Q : Int32 → qa_M → Prop} (hp0 : qa_PP μ0.2.2)  (h : wX9_areTwo n v1 v2 μ0 Q) : qa_Met l yX9_areTwo cX9_areTwo 3 (some .boolean) 2 0 0 [.ref 91, .int v1, .int v2] 113 μ0 (qa_pI Q) := by
  refine qa_ofG (by decide) (Nat.le_of_ble_eq_true rfl) ?_
  unfold wX9_areTwo at h
  change qa_G l yX9_areTwo cX9_areTwo 3 (some .boolean) 2 0 0 (qa_pI Q) 0 0 0 [some (.ref 91), some (.int v1), some (.int v2)] [] 113 μ0
  refine qa_ald0 dX9_areTwo_0 ?_
  refine qa_ild1 dX9_areTwo_1 ?_
  refine qa_V1I dX9_areTwo_2 lm_X9_103 sh_91 rfl (by decide) (by decide) (Nat.le_of_ble_eq_true rfl) (tX9_isHouse l hp0  h) (fun r1 μ1 hp1 h => ?_)
  refine qa_if_eq (tgt := 25) dX9_areTwo_5 (by decide) (fun c2 => ?_) (fun c2 => ?_)
  · have h := h.1 c2
    refine qa_iconst (v := 0) dX9_areTwo_25 (by decide) ?_
    exact qa_zret rfl rfl dX9_areTwo_26 ⟨rfl, rfl⟩ ⟨rfl, hp1, _, rfl, h⟩
  · have h := h.2 c2
    refine qa_ald0 dX9_areTwo_8 ?_
    refine qa_ild2 dX9_areTwo_9 ?_
    refine qa_V1I dX9_areTwo_10 lm_X9_103 sh_91 rfl (by decide) (by decide) (Nat.le_of_ble_eq_true rfl) (tX9_isHouse l hp1  h) (fun r3 μ3 hp3 h => ?_)
    refine qa_if_eq (tgt := 25) dX9_areTwo_13 (by decide) (fun c4 => ?_) (fun c4 => ?_)
    · have h := h.1 c4
      refine qa_iconst (v := 0) dX9_areTwo_25 (by decide) ?_
      exact qa_zret rfl rfl dX9_areTwo_26 ⟨rfl, rfl⟩ ⟨rfl, hp3, _, rfl, h⟩
    · have h := h.2 c4
      refine qa_ild1 dX9_areTwo_16 ?_
      refine qa_ild2 dX9_areTwo_17 ?_
      refine qa_icmp_eq (tgt := 25) dX9_areTwo_18 (by decide) (fun c5 => ?_) (fun c5 => ?_)
      · have h := h.1 c5
        refine qa_iconst (v := 0) dX9_areTwo_25 (by decide) ?_
        exact qa_zret rfl rfl dX9_areTwo_26 ⟨rfl, rfl⟩ ⟨rfl, hp3, _, rfl, h⟩
      · have h := h.2 c5
        refine qa_iconst (v := 1) dX9_areTwo_21 (by decide) ?_
        refine qa_goto (tgt := 26) dX9_areTwo_22 (by decide) ?_
        exact qa_zret rfl rfl dX9_areTwo_26 ⟨rfl, rfl⟩ ⟨rfl, hp3, _, rfl, h⟩
def wX9_isSlot (n : Nat) (v0 : Int32) (μ0 : qa_M) (Q : Int32 → qa_M → Prop) : Prop := wX9_in n v0.toInt64 (0 : Int64) (3 : Int64) μ0 (fun r1 μ1 => (narrow .boolean (.int r1) = .int r1 ∧ Q r1 μ1))
theorem tX9_isSlot (l : Launch) {n : Nat} {v0 : Int32} {μ0 : qa_M} {Q : Int32 → qa_M → Prop} (hp0 : qa_PP μ0.2.2)  (h : wX9_isSlot n v0 μ0 Q) : qa_Met l yX9_isSlot cX9_isSlot 1 (some .boolean) 1 0 0 [.int v0] 113 μ0 (qa_pI Q) := by
  refine qa_ofG (by decide) (Nat.le_of_ble_eq_true rfl) ?_
  unfold wX9_isSlot at h
  change qa_G l yX9_isSlot cX9_isSlot 1 (some .boolean) 1 0 0 (qa_pI Q) 0 0 0 [some (.int v0)] [] 113 μ0
  refine qa_ild0 dX9_isSlot_0 ?_
  refine qa_i2l dX9_isSlot_1 ?_
  refine qa_lconst (v := 0) dX9_isSlot_2 (by decide) ?_
  refine qa_ldc2 dX9_isSlot_3 lk_X9_353 ?_
  refine qa_S3I dX9_isSlot_6 lm_X9_88  (by decide) (Nat.le_of_ble_eq_true rfl) (tX9_in l hp0  h) (fun r1 μ1 hp1 h => ?_)
  exact qa_zret rfl h.1 dX9_isSlot_9 ⟨rfl, rfl⟩ ⟨rfl, hp1, _, rfl, h.2⟩
def wX9_numberAt (n : Nat) (v1 : Int32) (v2 : Int32) (μ0 : qa_M) (Q : Int64 → qa_M → Prop) : Prop := vp_in (((60 : Int32) * v1) + v2) 240 ∧ Q (μ0.2.1 112 (((60 : Int32) * v1) + v2).toNatClampNeg) μ0
theorem tX9_numberAt (l : Launch) {n : Nat} {v1 : Int32} {v2 : Int32} {μ0 : qa_M} {Q : Int64 → qa_M → Prop} (hp0 : qa_PP μ0.2.2)  (h : wX9_numberAt n v1 v2 μ0 Q) : qa_Met l yX9_numberAt cX9_numberAt 3 (some .long) 0 0 0 [.ref 91, .int v1, .int v2] 113 μ0 (qa_pJ Q) := by
  refine qa_ofG (by decide) (Nat.le_of_ble_eq_true rfl) ?_
  unfold wX9_numberAt at h
  change qa_G l yX9_numberAt cX9_numberAt 3 (some .long) 0 0 0 (qa_pJ Q) 0 0 0 [some (.ref 91), some (.int v1), some (.int v2)] [] 113 μ0
  refine qa_ald0 dX9_numberAt_0 ?_
  refine qa_getR dX9_numberAt_1 lf_X9_76 rfl sh_91 (by decide) (pp_91_43 hp0) (by decide) ?_
  refine qa_bipush (v := 60) dX9_numberAt_4 (by decide) ?_
  refine qa_ild1 dX9_numberAt_6 ?_
  refine qa_imul dX9_numberAt_7 ?_
  refine qa_ild2 dX9_numberAt_8 ?_
  refine qa_iadd dX9_numberAt_9 ?_
  refine qa_lald dX9_numberAt_10 sh_112 (by decide) h.1 ?_
  have h := h.2
  exact qa_lret rfl dX9_numberAt_11 ⟨rfl, rfl⟩ ⟨rfl, hp0, _, rfl, h⟩
def wX9_layLeans_46 : Nat → Int32 → Int32 → qa_M → (Int32 → qa_M → Prop) → (Int32 → qa_M → Prop) → Prop
  | 0, _, _, _, _, _ => False
  | n + 1, v1, v2, μ0, K0, Q => vp_in v1 4 ∧ (((μ0.1 110 v1.toNatClampNeg) ≤ v2 → K0 v1 μ0) ∧ (¬ (μ0.1 110 v1.toNatClampNeg) ≤ v2 → wX9_numberAt n v1 v2 μ0 (fun r8 μ8 => wX9_isAhead n r8 μ8 (fun r9 μ9 => ((r9 = 0 → Q (-2 : Int32) μ9) ∧ (¬ r9 = 0 → wX9_numberAt n v1 (v2 + (1 : Int32)) μ9 (fun r11 μ11 => wX9_in n r11 (-400 : Int64) (400 : Int64) μ11 (fun r12 μ12 => ((¬ r12 = 0 → wX9_layLeans_46 n v1 (v2 + (2 : Int32)) μ12 K0 Q) ∧ (r12 = 0 → Q (-2 : Int32) μ12))))))))))
def wX9_layLeans_177 (n : Nat) (v1 : Int32) (v3 : Int32) (s0 : Int32) (μ0 : qa_M) (K0 : Int32 → Int32 → Int32 → qa_M → Prop) (Q : Int32 → qa_M → Prop) : Prop := K0 v1 s0 (v3 + (2 : Int32)) μ0
def wX9_layLeans_176 (n : Nat) (v1 : Int32) (v3 : Int32) (μ0 : qa_M) (K0 : Int32 → Int32 → Int32 → qa_M → Prop) (Q : Int32 → qa_M → Prop) : Prop := wX9_layLeans_177 n v1 v3 (0 : Int32) μ0 K0 Q
def wX9_layLeans_133 : Nat → Int32 → Int32 → Int32 → qa_M → (Int32 → Int32 → qa_M → Prop) → (Int32 → qa_M → Prop) → Prop
  | 0, _, _, _, _, _, _ => False
  | n + 1, v1, v2, v3, μ0, K0, Q => vp_in v1 4 ∧ (((μ0.1 110 v1.toNatClampNeg) ≤ v3 → K0 v1 v2 μ0) ∧ (¬ (μ0.1 110 v1.toNatClampNeg) ≤ v3 → ((v2 = 0 → wX9_layLeans_176 n v1 v3 μ0 (fun v1 v2 v3 μk => wX9_layLeans_133 n v1 v2 v3 μk K0 Q) Q) ∧ (¬ v2 = 0 → wX9_numberAt n v1 v3 μ0 (fun r24 μ24 => vp_in r24.toInt32 20 ∧ wX9_numberAt n v1 (v3 + (1 : Int32)) μ24 (fun r25 μ25 => ((¬ (lg_cmp (μ24.1 104 r24.toInt32.toNatClampNeg).toInt64 r25) = 0 → wX9_layLeans_176 n v1 v3 μ25 (fun v1 v2 v3 μk => wX9_layLeans_133 n v1 v2 v3 μk K0 Q) Q) ∧ ((lg_cmp (μ24.1 104 r24.toInt32.toNatClampNeg).toInt64 r25) = 0 → wX9_layLeans_177 n v1 v3 (1 : Int32) μ25 (fun v1 v2 v3 μk => wX9_layLeans_133 n v1 v2 v3 μk K0 Q) Q))))))))
def wX9_layLeans_206 : Nat → Int32 → Int32 → qa_M → (Int32 → qa_M → Prop) → (Int32 → qa_M → Prop) → Prop
  | 0, _, _, _, _, _ => False
  | n + 1, v1, v3, μ0, K0, Q => wX9_weeks n  μ0 (fun r31 μ31 => ((r31 ≤ v3 → K0 v1 μ31) ∧ (¬ r31 ≤ v3 → vp_in v3 20 ∧ vp_in (((20 : Int32) * (μ31.1 91 35)) + v3) 5120 ∧ ∀ μ33, μ33 = qa_uI μ31 108 (((20 : Int32) * (μ31.1 91 35)) + v3).toNatClampNeg (μ31.1 104 v3.toNatClampNeg) → wX9_layLeans_206 n v1 (v3 + (1 : Int32)) μ33 K0 Q)))
def wX9_layLeans_250 (n : Nat) (v1 : Int32) (μ0 : qa_M) (K0 : Int32 → qa_M → Prop) (Q : Int32 → qa_M → Prop) : Prop := ∀ μ37, μ37 = qa_uI μ0 91 18 ((μ0.1 91 18) + (1 : Int32)) → K0 v1 μ37
def wX9_layLeans_112 : Nat → Int32 → qa_M → (Int32 → qa_M → Prop) → Prop
  | 0, _, _, _ => False
  | n + 1, v1, μ0, Q => wX9_houses n  μ0 (fun r19 μ19 => ((((1 : Int32) <<< (r19 &&& 31)) ≤ (μ0.1 91 18) → Q (0 : Int32) μ19) ∧ (¬ ((1 : Int32) <<< (r19 &&& 31)) ≤ (μ0.1 91 18) → wX9_goAll n  μ19 (fun μ21 => wX9_layLeans_133 n v1 (1 : Int32) (0 : Int32) μ21 (fun v1_28 v2_28 μ27 => ((¬ v2_28 = 0 → vp_in (μ27.1 91 35) 256 ∧ ∀ μ30, μ30 = qa_uI μ27 107 (μ27.1 91 35).toNatClampNeg (μ27.1 91 18) → wX9_layLeans_206 n v1_28 (0 : Int32) μ30 (fun v1_35 μ34 => ∀ μ36, μ36 = qa_uI μ34 91 35 ((μ34.1 91 35) + (1 : Int32)) → wX9_layLeans_250 n v1_35 μ36 (fun v1 μk => wX9_layLeans_112 n v1 μk Q) Q) Q) ∧ (v2_28 = 0 → wX9_layLeans_250 n v1_28 μ27 (fun v1 μk => wX9_layLeans_112 n v1 μk Q) Q))) Q))))
def wX9_layLeans (n : Nat) (v1 : Int32) (μ0 : qa_M) (Q : Int32 → qa_M → Prop) : Prop := wX9_isSlot n v1 μ0 (fun r1 μ1 => ((r1 = 0 → Q (-2 : Int32) μ1) ∧ (¬ r1 = 0 → wX9_isTown n  μ1 (fun r3 μ3 => ((¬ r3 = 0 → vp_in v1 4 ∧ ((¬ (μ3.1 110 v1.toNatClampNeg) = (-1 : Int32) → vp_in v1 4 ∧ ((((μ3.1 110 v1.toNatClampNeg) - (μ3.1 110 v1.toNatClampNeg) / (2 : Int32) * (2 : Int32)) = 0 → wX9_layLeans_46 n v1 (0 : Int32) μ3 (fun v1_15 μ14 => wX9_asItIs n  μ14 (fun μ16 => ∀ μ17, μ17 = qa_uI μ16 91 35 (0 : Int32) → ∀ μ18, μ18 = qa_uI μ17 91 18 (0 : Int32) → wX9_layLeans_112 n v1_15 μ18  Q)) Q) ∧ (¬ ((μ3.1 110 v1.toNatClampNeg) - (μ3.1 110 v1.toNatClampNeg) / (2 : Int32) * (2 : Int32)) = 0 → Q (-2 : Int32) μ3))) ∧ ((μ3.1 110 v1.toNatClampNeg) = (-1 : Int32) → Q (-6 : Int32) μ3))) ∧ (r3 = 0 → Q (-2 : Int32) μ3))))))
theorem tX9_layLeans_46 (l : Launch) {K0 : Int32 → qa_M → Prop} {Q : Int32 → qa_M → Prop} (hK0 : ∀ (v1 : Int32) (μ : qa_M), qa_PP μ.2.2 → K0 v1 μ → qa_G l yX9_layLeans cX9_layLeans 4 (some .int) 3 0 0 (qa_pI Q) 0 0 98 [some (.ref 91), some (.int v1), none, none] [] 113 μ) : ∀ (n : Nat) (v1 : Int32) (v2 : Int32) (μ0 : qa_M), qa_PP μ0.2.2 → wX9_layLeans_46 n v1 v2 μ0 K0 Q → qa_G l yX9_layLeans cX9_layLeans 4 (some .int) 3 0 0 (qa_pI Q) 0 0 46 [some (.ref 91), some (.int v1), some (.int v2), none] [] 113 μ0 := by
  intro n
  induction n with
  | zero =>
    intro v1 v2 μ0 hp0  h
    rw [wX9_layLeans_46] at h
    exact h.elim
  | succ n ih =>
    intro v1 v2 μ0 hp0  h
    rw [wX9_layLeans_46] at h
    refine qa_ild2 dX9_layLeans_46 ?_
    refine qa_ald0 dX9_layLeans_47 ?_
    refine qa_getR dX9_layLeans_48 lf_X9_70 rfl sh_91 (by decide) (pp_91_41 hp0) (by decide) ?_
    refine qa_ild1 dX9_layLeans_51 ?_
    refine qa_iald dX9_layLeans_52 sh_110 (by decide) h.1 ?_
    have h := h.2
    refine qa_icmp_ge (tgt := 98) dX9_layLeans_53 (by decide) (fun c7 => ?_) (fun c7 => ?_)
    · have h := h.1 c7
      refine qa_fgt (L' := [some (.ref 91), some (.int v1), none, none]) (⟨rfl, ⟨rfl, trivial⟩⟩) ?_
      exact hK0 v1 μ0 hp0  h
    · have h := h.2 c7
      refine qa_ald0 dX9_layLeans_56 ?_
      refine qa_ald0 dX9_layLeans_57 ?_
      refine qa_ild1 dX9_layLeans_58 ?_
      refine qa_ild2 dX9_layLeans_59 ?_
      refine qa_V2J dX9_layLeans_60 lm_X9_370 sh_91 rfl (by decide) (by decide) (Nat.le_of_ble_eq_true rfl) (tX9_numberAt l hp0  h) (fun r8 μ8 hp8 h => ?_)
      refine qa_V1I dX9_layLeans_63 lm_X9_289 sh_91 rfl (by decide) (by decide) (Nat.le_of_ble_eq_true rfl) (tX9_isAhead l hp8  h) (fun r9 μ9 hp9 h => ?_)
      refine qa_if_eq (tgt := 89) dX9_layLeans_66 (by decide) (fun c10 => ?_) (fun c10 => ?_)
      · have h := h.1 c10
        refine qa_bipush (v := -2) dX9_layLeans_89 (by decide) ?_
        exact qa_iret rfl dX9_layLeans_91 ⟨rfl, rfl⟩ ⟨rfl, hp9, _, rfl, h⟩
      · have h := h.2 c10
        refine qa_ald0 dX9_layLeans_69 ?_
        refine qa_ild1 dX9_layLeans_70 ?_
        refine qa_ild2 dX9_layLeans_71 ?_
        refine qa_iconst (v := 1) dX9_layLeans_72 (by decide) ?_
        refine qa_iadd dX9_layLeans_73 ?_
        refine qa_V2J dX9_layLeans_74 lm_X9_370 sh_91 rfl (by decide) (by decide) (Nat.le_of_ble_eq_true rfl) (tX9_numberAt l hp9  h) (fun r11 μ11 hp11 h => ?_)
        refine qa_ldc2 dX9_layLeans_77 lk_X9_345 ?_
        refine qa_ldc2 dX9_layLeans_80 lk_X9_347 ?_
        refine qa_S3I dX9_layLeans_83 lm_X9_88  (by decide) (Nat.le_of_ble_eq_true rfl) (tX9_in l hp11  h) (fun r12 μ12 hp12 h => ?_)
        refine qa_if_ne (tgt := 92) dX9_layLeans_86 (by decide) (fun c13 => ?_) (fun c13 => ?_)
        · have h := h.1 c13
          refine qa_inc2 dX9_layLeans_92 (qa_io2 _) ?_
          refine qa_goto (tgt := 46) dX9_layLeans_95 (by decide) ?_
          refine qa_fgt (L' := [some (.ref 91), some (.int v1), some (.int (v2 + (2 : Int32))), none]) (⟨rfl, ⟨rfl, ⟨rfl, trivial⟩⟩⟩) ?_
          exact ih v1 (v2 + (2 : Int32)) μ12 hp12  h
        · have h := h.2 c13
          refine qa_bipush (v := -2) dX9_layLeans_89 (by decide) ?_
          exact qa_iret rfl dX9_layLeans_91 ⟨rfl, rfl⟩ ⟨rfl, hp12, _, rfl, h⟩
theorem tX9_layLeans_177 (l : Launch) {K0 : Int32 → Int32 → Int32 → qa_M → Prop} {Q : Int32 → qa_M → Prop} (hK0 : ∀ (v1 : Int32) (v2 : Int32) (v3 : Int32) (μ : qa_M), qa_PP μ.2.2 → K0 v1 v2 v3 μ → qa_G l yX9_layLeans cX9_layLeans 4 (some .int) 3 0 0 (qa_pI Q) 0 0 133 [some (.ref 91), some (.int v1), some (.int v2), some (.int v3)] [] 113 μ) : ∀ (n : Nat) (v1 : Int32) (v3 : Int32) (s0 : Int32) (μ0 : qa_M), qa_PP μ0.2.2 → wX9_layLeans_177 n v1 v3 s0 μ0 K0 Q → qa_G l yX9_layLeans cX9_layLeans 4 (some .int) 3 0 0 (qa_pI Q) 0 0 177 [some (.ref 91), some (.int v1), none, some (.int v3)] [.int s0] 113 μ0 := by
  intro n
  intro v1 v3 s0 μ0 hp0  h
  unfold wX9_layLeans_177 at h
  refine qa_ist2 dX9_layLeans_177 ?_
  refine qa_inc3 dX9_layLeans_178 (qa_io2 _) ?_
  refine qa_goto (tgt := 133) dX9_layLeans_181 (by decide) ?_
  refine qa_fgt (L' := [some (.ref 91), some (.int v1), some (.int s0), some (.int (v3 + (2 : Int32)))]) (⟨rfl, ⟨rfl, ⟨rfl, ⟨rfl, trivial⟩⟩⟩⟩) ?_
  exact hK0 v1 s0 (v3 + (2 : Int32)) μ0 hp0  h
theorem tX9_layLeans_176 (l : Launch) {K0 : Int32 → Int32 → Int32 → qa_M → Prop} {Q : Int32 → qa_M → Prop} (hK0 : ∀ (v1 : Int32) (v2 : Int32) (v3 : Int32) (μ : qa_M), qa_PP μ.2.2 → K0 v1 v2 v3 μ → qa_G l yX9_layLeans cX9_layLeans 4 (some .int) 3 0 0 (qa_pI Q) 0 0 133 [some (.ref 91), some (.int v1), some (.int v2), some (.int v3)] [] 113 μ) : ∀ (n : Nat) (v1 : Int32) (v3 : Int32) (μ0 : qa_M), qa_PP μ0.2.2 → wX9_layLeans_176 n v1 v3 μ0 K0 Q → qa_G l yX9_layLeans cX9_layLeans 4 (some .int) 3 0 0 (qa_pI Q) 0 0 176 [some (.ref 91), some (.int v1), none, some (.int v3)] [] 113 μ0 := by
  intro n
  intro v1 v3 μ0 hp0  h
  unfold wX9_layLeans_176 at h
  refine qa_iconst (v := 0) dX9_layLeans_176 (by decide) ?_
  refine qa_fgt (L' := [some (.ref 91), some (.int v1), none, some (.int v3)]) (⟨rfl, ⟨rfl, ⟨rfl, trivial⟩⟩⟩) ?_
  refine tX9_layLeans_177 l hK0 n v1 v3 (0 : Int32) μ0 hp0  h
theorem tX9_layLeans_133 (l : Launch) {K0 : Int32 → Int32 → qa_M → Prop} {Q : Int32 → qa_M → Prop} (hK0 : ∀ (v1 : Int32) (v2 : Int32) (μ : qa_M), qa_PP μ.2.2 → K0 v1 v2 μ → qa_G l yX9_layLeans cX9_layLeans 4 (some .int) 3 0 0 (qa_pI Q) 0 0 184 [some (.ref 91), some (.int v1), some (.int v2), none] [] 113 μ) : ∀ (n : Nat) (v1 : Int32) (v2 : Int32) (v3 : Int32) (μ0 : qa_M), qa_PP μ0.2.2 → wX9_layLeans_133 n v1 v2 v3 μ0 K0 Q → qa_G l yX9_layLeans cX9_layLeans 4 (some .int) 3 0 0 (qa_pI Q) 0 0 133 [some (.ref 91), some (.int v1), some (.int v2), some (.int v3)] [] 113 μ0 := by
  intro n
  induction n with
  | zero =>
    intro v1 v2 v3 μ0 hp0  h
    rw [wX9_layLeans_133] at h
    exact h.elim
  | succ n ih =>
    intro v1 v2 v3 μ0 hp0  h
    rw [wX9_layLeans_133] at h
    refine qa_ild3 dX9_layLeans_133 ?_
    refine qa_ald0 dX9_layLeans_134 ?_
    refine qa_getR dX9_layLeans_135 lf_X9_70 rfl sh_91 (by decide) (pp_91_41 hp0) (by decide) ?_
    refine qa_ild1 dX9_layLeans_138 ?_
    refine qa_iald dX9_layLeans_139 sh_110 (by decide) h.1 ?_
    have h := h.2
    refine qa_icmp_ge (tgt := 184) dX9_layLeans_140 (by decide) (fun c22 => ?_) (fun c22 => ?_)
    · have h := h.1 c22
      refine qa_fgt (L' := [some (.ref 91), some (.int v1), some (.int v2), none]) (⟨rfl, ⟨rfl, ⟨rfl, trivial⟩⟩⟩) ?_
      exact hK0 v1 v2 μ0 hp0  h
    · have h := h.2 c22
      refine qa_ild2 dX9_layLeans_143 ?_
      refine qa_if_eq (tgt := 176) dX9_layLeans_144 (by decide) (fun c23 => ?_) (fun c23 => ?_)
      · have h := h.1 c23
        refine qa_fgt (L' := [some (.ref 91), some (.int v1), none, some (.int v3)]) (⟨rfl, ⟨rfl, ⟨rfl, trivial⟩⟩⟩) ?_
        refine tX9_layLeans_176 l ih n v1 v3 μ0 hp0  h
      · have h := h.2 c23
        refine qa_ald0 dX9_layLeans_147 ?_
        refine qa_getR dX9_layLeans_148 lf_X9_52 rfl sh_91 (by decide) (pp_91_28 hp0) (by decide) ?_
        refine qa_ald0 dX9_layLeans_151 ?_
        refine qa_ild1 dX9_layLeans_152 ?_
        refine qa_ild3 dX9_layLeans_153 ?_
        refine qa_V2J dX9_layLeans_154 lm_X9_370 sh_91 rfl (by decide) (by decide) (Nat.le_of_ble_eq_true rfl) (tX9_numberAt l hp0  h) (fun r24 μ24 hp24 h => ?_)
        refine qa_l2i dX9_layLeans_157 ?_
        refine qa_iald dX9_layLeans_158 sh_104 (by decide) h.1 ?_
        have h := h.2
        refine qa_i2l dX9_layLeans_159 ?_
        refine qa_ald0 dX9_layLeans_160 ?_
        refine qa_ild1 dX9_layLeans_161 ?_
        refine qa_ild3 dX9_layLeans_162 ?_
        refine qa_iconst (v := 1) dX9_layLeans_163 (by decide) ?_
        refine qa_iadd dX9_layLeans_164 ?_
        refine qa_V2J dX9_layLeans_165 lm_X9_370 sh_91 rfl (by decide) (by decide) (Nat.le_of_ble_eq_true rfl) (tX9_numberAt l hp24  h) (fun r25 μ25 hp25 h => ?_)
        refine qa_lcmp dX9_layLeans_168 ?_
        refine qa_if_ne (tgt := 176) dX9_layLeans_169 (by decide) (fun c26 => ?_) (fun c26 => ?_)
        · have h := h.1 c26
          refine qa_fgt (L' := [some (.ref 91), some (.int v1), none, some (.int v3)]) (⟨rfl, ⟨rfl, ⟨rfl, trivial⟩⟩⟩) ?_
          refine tX9_layLeans_176 l ih n v1 v3 μ25 hp25  h
        · have h := h.2 c26
          refine qa_iconst (v := 1) dX9_layLeans_172 (by decide) ?_
          refine qa_goto (tgt := 177) dX9_layLeans_173 (by decide) ?_
          refine qa_fgt (L' := [some (.ref 91), some (.int v1), none, some (.int v3)]) (⟨rfl, ⟨rfl, ⟨rfl, trivial⟩⟩⟩) ?_
          refine tX9_layLeans_177 l ih n v1 v3 (1 : Int32) μ25 hp25  h
theorem tX9_layLeans_206 (l : Launch) {K0 : Int32 → qa_M → Prop} {Q : Int32 → qa_M → Prop} (hK0 : ∀ (v1 : Int32) (μ : qa_M), qa_PP μ.2.2 → K0 v1 μ → qa_G l yX9_layLeans cX9_layLeans 4 (some .int) 3 0 0 (qa_pI Q) 0 0 240 [some (.ref 91), some (.int v1), none, none] [] 113 μ) : ∀ (n : Nat) (v1 : Int32) (v3 : Int32) (μ0 : qa_M), qa_PP μ0.2.2 → wX9_layLeans_206 n v1 v3 μ0 K0 Q → qa_G l yX9_layLeans cX9_layLeans 4 (some .int) 3 0 0 (qa_pI Q) 0 0 206 [some (.ref 91), some (.int v1), none, some (.int v3)] [] 113 μ0 := by
  intro n
  induction n with
  | zero =>
    intro v1 v3 μ0 hp0  h
    rw [wX9_layLeans_206] at h
    exact h.elim
  | succ n ih =>
    intro v1 v3 μ0 hp0  h
    rw [wX9_layLeans_206] at h
    refine qa_ild3 dX9_layLeans_206 ?_
    refine qa_ald0 dX9_layLeans_207 ?_
    refine qa_V0I dX9_layLeans_208 lm_X9_96 sh_91 rfl (by decide) (by decide) (Nat.le_of_ble_eq_true rfl) (tX9_weeks l hp0  h) (fun r31 μ31 hp31 h => ?_)
    refine qa_icmp_ge (tgt := 240) dX9_layLeans_211 (by decide) (fun c32 => ?_) (fun c32 => ?_)
    · have h := h.1 c32
      refine qa_fgt (L' := [some (.ref 91), some (.int v1), none, none]) (⟨rfl, ⟨rfl, trivial⟩⟩) ?_
      exact hK0 v1 μ31 hp31  h
    · have h := h.2 c32
      refine qa_ald0 dX9_layLeans_214 ?_
      refine qa_getR dX9_layLeans_215 lf_X9_64 rfl sh_91 (by decide) (pp_91_34 hp31) (by decide) ?_
      refine qa_bipush (v := 20) dX9_layLeans_218 (by decide) ?_
      refine qa_ald0 dX9_layLeans_220 ?_
      refine qa_getI dX9_layLeans_221 lf_X9_374 (Or.inl rfl) sh_91 (by decide) ?_
      refine qa_imul dX9_layLeans_224 ?_
      refine qa_ild3 dX9_layLeans_225 ?_
      refine qa_iadd dX9_layLeans_226 ?_
      refine qa_ald0 dX9_layLeans_227 ?_
      refine qa_getR dX9_layLeans_228 lf_X9_52 rfl sh_91 (by decide) (pp_91_28 hp31) (by decide) ?_
      refine qa_ild3 dX9_layLeans_231 ?_
      refine qa_iald dX9_layLeans_232 sh_104 (by decide) h.1 ?_
      have h := h.2
      refine qa_iast dX9_layLeans_233 sh_108 (by decide) h.1 ?_
      have h := h.2
      refine qa_nmM (fun μ33 em33 => ?_)
      have h := h μ33 em33
      have hp33 : qa_PP μ33.2.2 := by rw [em33]; exact hp31
      refine qa_inc3 dX9_layLeans_234 (qa_io1 _) ?_
      refine qa_goto (tgt := 206) dX9_layLeans_237 (by decide) ?_
      refine qa_fgt (L' := [some (.ref 91), some (.int v1), none, some (.int (v3 + (1 : Int32)))]) (⟨rfl, ⟨rfl, ⟨rfl, trivial⟩⟩⟩) ?_
      exact ih v1 (v3 + (1 : Int32)) μ33 hp33  h
theorem tX9_layLeans_250 (l : Launch) {K0 : Int32 → qa_M → Prop} {Q : Int32 → qa_M → Prop} (hK0 : ∀ (v1 : Int32) (μ : qa_M), qa_PP μ.2.2 → K0 v1 μ → qa_G l yX9_layLeans cX9_layLeans 4 (some .int) 3 0 0 (qa_pI Q) 0 0 112 [some (.ref 91), some (.int v1), none, none] [] 113 μ) : ∀ (n : Nat) (v1 : Int32) (μ0 : qa_M), qa_PP μ0.2.2 → wX9_layLeans_250 n v1 μ0 K0 Q → qa_G l yX9_layLeans cX9_layLeans 4 (some .int) 3 0 0 (qa_pI Q) 0 0 250 [some (.ref 91), some (.int v1), none, none] [] 113 μ0 := by
  intro n
  intro v1 μ0 hp0  h
  unfold wX9_layLeans_250 at h
  refine qa_ald0 dX9_layLeans_250 ?_
  refine qa_dup dX9_layLeans_251 rfl ?_
  refine qa_getI dX9_layLeans_252 lf_X9_236 (Or.inl rfl) sh_91 (by decide) ?_
  refine qa_iconst (v := 1) dX9_layLeans_255 (by decide) ?_
  refine qa_iadd dX9_layLeans_256 ?_
  refine qa_putI dX9_layLeans_257 lf_X9_236 rfl sh_91 (by decide) rfl ?_
  refine qa_nmM (fun μ37 em37 => ?_)
  have h := h μ37 em37
  have hp37 : qa_PP μ37.2.2 := by rw [em37]; exact hp0
  refine qa_goto (tgt := 112) dX9_layLeans_260 (by decide) ?_
  refine qa_fgt (L' := [some (.ref 91), some (.int v1), none, none]) (⟨rfl, ⟨rfl, trivial⟩⟩) ?_
  exact hK0 v1 μ37 hp37  h
theorem tX9_layLeans_112 (l : Launch)  {Q : Int32 → qa_M → Prop}  : ∀ (n : Nat) (v1 : Int32) (μ0 : qa_M), qa_PP μ0.2.2 → wX9_layLeans_112 n v1 μ0  Q → qa_G l yX9_layLeans cX9_layLeans 4 (some .int) 3 0 0 (qa_pI Q) 0 0 112 [some (.ref 91), some (.int v1), none, none] [] 113 μ0 := by
  intro n
  induction n with
  | zero =>
    intro v1 μ0 hp0  h
    rw [wX9_layLeans_112] at h
    exact h.elim
  | succ n ih =>
    intro v1 μ0 hp0  h
    rw [wX9_layLeans_112] at h
    refine qa_ald0 dX9_layLeans_112 ?_
    refine qa_getI dX9_layLeans_113 lf_X9_236 (Or.inl rfl) sh_91 (by decide) ?_
    refine qa_iconst (v := 1) dX9_layLeans_116 (by decide) ?_
    refine qa_ald0 dX9_layLeans_117 ?_
    refine qa_V0I dX9_layLeans_118 lm_X9_100 sh_91 rfl (by decide) (by decide) (Nat.le_of_ble_eq_true rfl) (tX9_houses l hp0  h) (fun r19 μ19 hp19 h => ?_)
    refine qa_ishl dX9_layLeans_121 ?_
    refine qa_icmp_ge (tgt := 263) dX9_layLeans_122 (by decide) (fun c20 => ?_) (fun c20 => ?_)
    · have h := h.1 c20
      refine qa_iconst (v := 0) dX9_layLeans_263 (by decide) ?_
      exact qa_iret rfl dX9_layLeans_264 ⟨rfl, rfl⟩ ⟨rfl, hp19, _, rfl, h⟩
    · have h := h.2 c20
      refine qa_ald0 dX9_layLeans_125 ?_
      refine qa_V0V dX9_layLeans_126 lm_X9_280 sh_91 rfl (by decide) (by decide) (Nat.le_of_ble_eq_true rfl) (tX9_goAll l hp19  h) (fun μ21 hp21 h => ?_)
      refine qa_iconst (v := 1) dX9_layLeans_129 (by decide) ?_
      refine qa_ist2 dX9_layLeans_130 ?_
      refine qa_iconst (v := 0) dX9_layLeans_131 (by decide) ?_
      refine qa_ist3 dX9_layLeans_132 ?_
      refine qa_fgt (L' := [some (.ref 91), some (.int v1), some (.int (1 : Int32)), some (.int (0 : Int32))]) (⟨rfl, ⟨rfl, ⟨rfl, ⟨rfl, trivial⟩⟩⟩⟩) ?_
      refine tX9_layLeans_133 l ?_ n v1 (1 : Int32) (0 : Int32) μ21 hp21  h
      · intro v1_28 v2_28 μ27 hp27  h
        refine qa_ild2 dX9_layLeans_184 ?_
        refine qa_if_ne (tgt := 191) dX9_layLeans_185 (by decide) (fun c29 => ?_) (fun c29 => ?_)
        · have h := h.1 c29
          refine qa_ald0 dX9_layLeans_191 ?_
          refine qa_getR dX9_layLeans_192 lf_X9_61 rfl sh_91 (by decide) (pp_91_33 hp27) (by decide) ?_
          refine qa_ald0 dX9_layLeans_195 ?_
          refine qa_getI dX9_layLeans_196 lf_X9_374 (Or.inl rfl) sh_91 (by decide) ?_
          refine qa_ald0 dX9_layLeans_199 ?_
          refine qa_getI dX9_layLeans_200 lf_X9_236 (Or.inl rfl) sh_91 (by decide) ?_
          refine qa_iast dX9_layLeans_203 sh_107 (by decide) h.1 ?_
          have h := h.2
          refine qa_nmM (fun μ30 em30 => ?_)
          have h := h μ30 em30
          have hp30 : qa_PP μ30.2.2 := by rw [em30]; exact hp27
          refine qa_iconst (v := 0) dX9_layLeans_204 (by decide) ?_
          refine qa_ist3 dX9_layLeans_205 ?_
          refine qa_fgt (L' := [some (.ref 91), some (.int v1_28), none, some (.int (0 : Int32))]) (⟨rfl, ⟨rfl, ⟨rfl, trivial⟩⟩⟩) ?_
          refine tX9_layLeans_206 l ?_ n v1_28 (0 : Int32) μ30 hp30  h
          · intro v1_35 μ34 hp34  h
            refine qa_ald0 dX9_layLeans_240 ?_
            refine qa_dup dX9_layLeans_241 rfl ?_
            refine qa_getI dX9_layLeans_242 lf_X9_374 (Or.inl rfl) sh_91 (by decide) ?_
            refine qa_iconst (v := 1) dX9_layLeans_245 (by decide) ?_
            refine qa_iadd dX9_layLeans_246 ?_
            refine qa_putI dX9_layLeans_247 lf_X9_374 rfl sh_91 (by decide) rfl ?_
            refine qa_nmM (fun μ36 em36 => ?_)
            have h := h μ36 em36
            have hp36 : qa_PP μ36.2.2 := by rw [em36]; exact hp34
            refine qa_fgt (L' := [some (.ref 91), some (.int v1_35), none, none]) (⟨rfl, ⟨rfl, trivial⟩⟩) ?_
            refine tX9_layLeans_250 l ih n v1_35 μ36 hp36  h
        · have h := h.2 c29
          refine qa_goto (tgt := 250) dX9_layLeans_188 (by decide) ?_
          refine qa_fgt (L' := [some (.ref 91), some (.int v1_28), none, none]) (⟨rfl, ⟨rfl, trivial⟩⟩) ?_
          refine tX9_layLeans_250 l ih n v1_28 μ27 hp27  h
theorem tX9_layLeans (l : Launch) {n : Nat} {v1 : Int32} {μ0 : qa_M} {Q : Int32 → qa_M → Prop} (hp0 : qa_PP μ0.2.2)  (h : wX9_layLeans n v1 μ0 Q) : qa_Met l yX9_layLeans cX9_layLeans 4 (some .int) 3 0 0 [.ref 91, .int v1] 113 μ0 (qa_pI Q) := by
  refine qa_ofG (by decide) (Nat.le_of_ble_eq_true rfl) ?_
  unfold wX9_layLeans at h
  change qa_G l yX9_layLeans cX9_layLeans 4 (some .int) 3 0 0 (qa_pI Q) 0 0 0 [some (.ref 91), some (.int v1), none, none] [] 113 μ0
  refine qa_ild1 dX9_layLeans_0 ?_
  refine qa_S1I dX9_layLeans_1 lm_X9_367  (by decide) (Nat.le_of_ble_eq_true rfl) (tX9_isSlot l hp0  h) (fun r1 μ1 hp1 h => ?_)
  refine qa_if_eq (tgt := 14) dX9_layLeans_4 (by decide) (fun c2 => ?_) (fun c2 => ?_)
  · have h := h.1 c2
    refine qa_bipush (v := -2) dX9_layLeans_14 (by decide) ?_
    exact qa_iret rfl dX9_layLeans_16 ⟨rfl, rfl⟩ ⟨rfl, hp1, _, rfl, h⟩
  · have h := h.2 c2
    refine qa_ald0 dX9_layLeans_7 ?_
    refine qa_V0I dX9_layLeans_8 lm_X9_92 sh_91 rfl (by decide) (by decide) (Nat.le_of_ble_eq_true rfl) (tX9_isTown l hp1  h) (fun r3 μ3 hp3 h => ?_)
    refine qa_if_ne (tgt := 17) dX9_layLeans_11 (by decide) (fun c4 => ?_) (fun c4 => ?_)
    · have h := h.1 c4
      refine qa_ald0 dX9_layLeans_17 ?_
      refine qa_getR dX9_layLeans_18 lf_X9_70 rfl sh_91 (by decide) (pp_91_41 hp3) (by decide) ?_
      refine qa_ild1 dX9_layLeans_21 ?_
      refine qa_iald dX9_layLeans_22 sh_110 (by decide) h.1 ?_
      have h := h.2
      refine qa_iconst (v := -1) dX9_layLeans_23 (by decide) ?_
      refine qa_icmp_ne (tgt := 30) dX9_layLeans_24 (by decide) (fun c5 => ?_) (fun c5 => ?_)
      · have h := h.1 c5
        refine qa_ald0 dX9_layLeans_30 ?_
        refine qa_getR dX9_layLeans_31 lf_X9_70 rfl sh_91 (by decide) (pp_91_41 hp3) (by decide) ?_
        refine qa_ild1 dX9_layLeans_34 ?_
        refine qa_iald dX9_layLeans_35 sh_110 (by decide) h.1 ?_
        have h := h.2
        refine qa_iconst (v := 2) dX9_layLeans_36 (by decide) ?_
        refine qa_irem dX9_layLeans_37 (by decide) ?_
        refine qa_if_eq (tgt := 44) dX9_layLeans_38 (by decide) (fun c6 => ?_) (fun c6 => ?_)
        · have h := h.1 c6
          refine qa_iconst (v := 0) dX9_layLeans_44 (by decide) ?_
          refine qa_ist2 dX9_layLeans_45 ?_
          refine qa_fgt (L' := [some (.ref 91), some (.int v1), some (.int (0 : Int32)), none]) (⟨rfl, ⟨rfl, ⟨rfl, trivial⟩⟩⟩) ?_
          refine tX9_layLeans_46 l ?_ n v1 (0 : Int32) μ3 hp3  h
          · intro v1_15 μ14 hp14  h
            refine qa_ald0 dX9_layLeans_98 ?_
            refine qa_V0V dX9_layLeans_99 lm_X9_251 sh_91 rfl (by decide) (by decide) (Nat.le_of_ble_eq_true rfl) (tX9_asItIs l hp14  h) (fun μ16 hp16 h => ?_)
            refine qa_ald0 dX9_layLeans_102 ?_
            refine qa_iconst (v := 0) dX9_layLeans_103 (by decide) ?_
            refine qa_putI dX9_layLeans_104 lf_X9_374 rfl sh_91 (by decide) rfl ?_
            refine qa_nmM (fun μ17 em17 => ?_)
            have h := h μ17 em17
            have hp17 : qa_PP μ17.2.2 := by rw [em17]; exact hp16
            refine qa_ald0 dX9_layLeans_107 ?_
            refine qa_iconst (v := 0) dX9_layLeans_108 (by decide) ?_
            refine qa_putI dX9_layLeans_109 lf_X9_236 rfl sh_91 (by decide) rfl ?_
            refine qa_nmM (fun μ18 em18 => ?_)
            have h := h μ18 em18
            have hp18 : qa_PP μ18.2.2 := by rw [em18]; exact hp17
            refine qa_fgt (L' := [some (.ref 91), some (.int v1_15), none, none]) (⟨rfl, ⟨rfl, trivial⟩⟩) ?_
            refine tX9_layLeans_112 l  n v1_15 μ18 hp18  h
        · have h := h.2 c6
          refine qa_bipush (v := -2) dX9_layLeans_41 (by decide) ?_
          exact qa_iret rfl dX9_layLeans_43 ⟨rfl, rfl⟩ ⟨rfl, hp3, _, rfl, h⟩
      · have h := h.2 c5
        refine qa_bipush (v := -6) dX9_layLeans_27 (by decide) ?_
        exact qa_iret rfl dX9_layLeans_29 ⟨rfl, rfl⟩ ⟨rfl, hp3, _, rfl, h⟩
    · have h := h.2 c4
      refine qa_bipush (v := -2) dX9_layLeans_14 (by decide) ?_
      exact qa_iret rfl dX9_layLeans_16 ⟨rfl, rfl⟩ ⟨rfl, hp3, _, rfl, h⟩
def wX9_askOf_83 (n : Nat) (v1 : Int32) (v2 : Int32) (v3 : Int32) (v4 : Int32) (v6 : Int32) (s0 : Int32) (s1 : Int32) (μ0 : qa_M) (K0 : Int32 → Int32 → Int32 → Int32 → Int32 → Int32 → qa_M → Prop) (Q : Int32 → qa_M → Prop) : Prop := ∀ x7, x7 = (s1 + s0) → K0 v1 v2 v3 v4 x7 (v6 + (1 : Int32)) μ0
def wX9_askOf_40 : Nat → Int32 → Int32 → Int32 → Int32 → Int32 → Int32 → qa_M → (Int32 → Int32 → Int32 → Int32 → Int32 → qa_M → Prop) → (Int32 → qa_M → Prop) → Prop
  | 0, _, _, _, _, _, _, _, _, _ => False
  | n + 1, v1, v2, v3, v4, v5, v6, μ0, K0, Q => (((μ0.1 91 35) ≤ v6 → K0 v1 v2 v3 v4 v5 μ0) ∧ (¬ (μ0.1 91 35) ≤ v6 → vp_in (((20 : Int32) * v4) + v2) 5120 ∧ vp_in (((20 : Int32) * v6) + v2) 5120 ∧ ((¬ (μ0.1 108 (((20 : Int32) * v4) + v2).toNatClampNeg) = (μ0.1 108 (((20 : Int32) * v6) + v2).toNatClampNeg) → wX9_askOf_83 n v1 v2 v3 v4 v6 (0 : Int32) v5 μ0 (fun v1 v2 v3 v4 v5 v6 μk => wX9_askOf_40 n v1 v2 v3 v4 v5 v6 μk K0 Q) Q) ∧ ((μ0.1 108 (((20 : Int32) * v4) + v2).toNatClampNeg) = (μ0.1 108 (((20 : Int32) * v6) + v2).toNatClampNeg) → wX9_askOf_83 n v1 v2 v3 v4 v6 (1 : Int32) v5 μ0 (fun v1 v2 v3 v4 v5 v6 μk => wX9_askOf_40 n v1 v2 v3 v4 v5 v6 μk K0 Q) Q))))
def wX9_askOf_25 : Nat → Int32 → Int32 → Int32 → Int32 → qa_M → (Int32 → Int32 → Int32 → qa_M → Prop) → (Int32 → qa_M → Prop) → Prop
  | 0, _, _, _, _, _, _, _ => False
  | n + 1, v1, v2, v3, v4, μ0, K0, Q => (((μ0.1 91 35) ≤ v4 → K0 v1 v2 v3 μ0) ∧ (¬ (μ0.1 91 35) ≤ v4 → wX9_askOf_40 n v1 v2 v3 v4 (0 : Int32) (0 : Int32) μ0 (fun v1_9 v2_9 v3_9 v4_9 v5_9 μ8 => wJ9_max_7cf53 n v3_9 v5_9 μ8 (fun r10 μ10 => wX9_askOf_25 n v1_9 v2_9 r10 (v4_9 + (1 : Int32)) μ10 K0 Q)) Q))
def wX9_askOf_12 : Nat → Int32 → Int32 → qa_M → (Int32 → qa_M → Prop) → Prop
  | 0, _, _, _, _ => False
  | n + 1, v1, v2, μ0, Q => wX9_weeks n  μ0 (fun r2 μ2 => ((r2 ≤ v2 → Q v1 μ2) ∧ (¬ r2 ≤ v2 → wX9_askOf_25 n v1 v2 (0 : Int32) (0 : Int32) μ2 (fun v1_12 v2_12 v3_12 μ11 => ((v3_12 < (μ11.1 91 36) → ∀ μ14, μ14 = qa_uI μ11 91 36 v3_12 → wX9_askOf_12 n v2_12 (v2_12 + (1 : Int32)) μ14 Q) ∧ (¬ v3_12 < (μ11.1 91 36) → wX9_askOf_12 n v1_12 (v2_12 + (1 : Int32)) μ11 Q))) Q)))
def wX9_askOf (n : Nat)  (μ0 : qa_M) (Q : Int32 → qa_M → Prop) : Prop := ∀ μ1, μ1 = qa_uI μ0 91 36 (μ0.1 91 35) → wX9_askOf_12 n (-1 : Int32) (0 : Int32) μ1  Q
theorem tX9_askOf_83 (l : Launch) {K0 : Int32 → Int32 → Int32 → Int32 → Int32 → Int32 → qa_M → Prop} {Q : Int32 → qa_M → Prop} (hK0 : ∀ (v1 : Int32) (v2 : Int32) (v3 : Int32) (v4 : Int32) (v5 : Int32) (v6 : Int32) (μ : qa_M), qa_PP μ.2.2 → K0 v1 v2 v3 v4 v5 v6 μ → qa_G l yX9_askOf cX9_askOf 7 (some .int) 1 0 0 (qa_pI Q) 0 0 40 [some (.ref 91), some (.int v1), some (.int v2), some (.int v3), some (.int v4), some (.int v5), some (.int v6)] [] 113 μ) : ∀ (n : Nat) (v1 : Int32) (v2 : Int32) (v3 : Int32) (v4 : Int32) (v6 : Int32) (s0 : Int32) (s1 : Int32) (μ0 : qa_M), qa_PP μ0.2.2 → wX9_askOf_83 n v1 v2 v3 v4 v6 s0 s1 μ0 K0 Q → qa_G l yX9_askOf cX9_askOf 7 (some .int) 1 0 0 (qa_pI Q) 0 0 83 [some (.ref 91), some (.int v1), some (.int v2), some (.int v3), some (.int v4), none, some (.int v6)] [.int s0, .int s1] 113 μ0 := by
  intro n
  intro v1 v2 v3 v4 v6 s0 s1 μ0 hp0  h
  unfold wX9_askOf_83 at h
  refine qa_iadd dX9_askOf_83 ?_
  refine qa_nmI (fun x7 e7 => ?_)
  have h := h x7 e7
  refine qa_ist5 dX9_askOf_84 ?_
  refine qa_inc6 dX9_askOf_86 (qa_io1 _) ?_
  refine qa_goto (tgt := 40) dX9_askOf_89 (by decide) ?_
  refine qa_fgt (L' := [some (.ref 91), some (.int v1), some (.int v2), some (.int v3), some (.int v4), some (.int x7), some (.int (v6 + (1 : Int32)))]) (⟨rfl, ⟨rfl, ⟨rfl, ⟨rfl, ⟨rfl, ⟨rfl, ⟨rfl, trivial⟩⟩⟩⟩⟩⟩⟩) ?_
  exact hK0 v1 v2 v3 v4 x7 (v6 + (1 : Int32)) μ0 hp0  h
theorem tX9_askOf_40 (l : Launch) {K0 : Int32 → Int32 → Int32 → Int32 → Int32 → qa_M → Prop} {Q : Int32 → qa_M → Prop} (hK0 : ∀ (v1 : Int32) (v2 : Int32) (v3 : Int32) (v4 : Int32) (v5 : Int32) (μ : qa_M), qa_PP μ.2.2 → K0 v1 v2 v3 v4 v5 μ → qa_G l yX9_askOf cX9_askOf 7 (some .int) 1 0 0 (qa_pI Q) 0 0 92 [some (.ref 91), some (.int v1), some (.int v2), some (.int v3), some (.int v4), some (.int v5), none] [] 113 μ) : ∀ (n : Nat) (v1 : Int32) (v2 : Int32) (v3 : Int32) (v4 : Int32) (v5 : Int32) (v6 : Int32) (μ0 : qa_M), qa_PP μ0.2.2 → wX9_askOf_40 n v1 v2 v3 v4 v5 v6 μ0 K0 Q → qa_G l yX9_askOf cX9_askOf 7 (some .int) 1 0 0 (qa_pI Q) 0 0 40 [some (.ref 91), some (.int v1), some (.int v2), some (.int v3), some (.int v4), some (.int v5), some (.int v6)] [] 113 μ0 := by
  intro n
  induction n with
  | zero =>
    intro v1 v2 v3 v4 v5 v6 μ0 hp0  h
    rw [wX9_askOf_40] at h
    exact h.elim
  | succ n ih =>
    intro v1 v2 v3 v4 v5 v6 μ0 hp0  h
    rw [wX9_askOf_40] at h
    refine qa_ild6 dX9_askOf_40 ?_
    refine qa_ald0 dX9_askOf_42 ?_
    refine qa_getI dX9_askOf_43 lf_X9_374 (Or.inl rfl) sh_91 (by decide) ?_
    refine qa_icmp_ge (tgt := 92) dX9_askOf_46 (by decide) (fun c5 => ?_) (fun c5 => ?_)
    · have h := h.1 c5
      refine qa_fgt (L' := [some (.ref 91), some (.int v1), some (.int v2), some (.int v3), some (.int v4), some (.int v5), none]) (⟨rfl, ⟨rfl, ⟨rfl, ⟨rfl, ⟨rfl, ⟨rfl, trivial⟩⟩⟩⟩⟩⟩) ?_
      exact hK0 v1 v2 v3 v4 v5 μ0 hp0  h
    · have h := h.2 c5
      refine qa_ild5 dX9_askOf_49 ?_
      refine qa_ald0 dX9_askOf_51 ?_
      refine qa_getR dX9_askOf_52 lf_X9_64 rfl sh_91 (by decide) (pp_91_34 hp0) (by decide) ?_
      refine qa_bipush (v := 20) dX9_askOf_55 (by decide) ?_
      refine qa_ild4 dX9_askOf_57 ?_
      refine qa_imul dX9_askOf_59 ?_
      refine qa_ild2 dX9_askOf_60 ?_
      refine qa_iadd dX9_askOf_61 ?_
      refine qa_iald dX9_askOf_62 sh_108 (by decide) h.1 ?_
      have h := h.2
      refine qa_ald0 dX9_askOf_63 ?_
      refine qa_getR dX9_askOf_64 lf_X9_64 rfl sh_91 (by decide) (pp_91_34 hp0) (by decide) ?_
      refine qa_bipush (v := 20) dX9_askOf_67 (by decide) ?_
      refine qa_ild6 dX9_askOf_69 ?_
      refine qa_imul dX9_askOf_71 ?_
      refine qa_ild2 dX9_askOf_72 ?_
      refine qa_iadd dX9_askOf_73 ?_
      refine qa_iald dX9_askOf_74 sh_108 (by decide) h.1 ?_
      have h := h.2
      refine qa_icmp_ne (tgt := 82) dX9_askOf_75 (by decide) (fun c6 => ?_) (fun c6 => ?_)
      · have h := h.1 c6
        refine qa_iconst (v := 0) dX9_askOf_82 (by decide) ?_
        refine qa_fgt (L' := [some (.ref 91), some (.int v1), some (.int v2), some (.int v3), some (.int v4), none, some (.int v6)]) (⟨rfl, ⟨rfl, ⟨rfl, ⟨rfl, ⟨rfl, ⟨rfl, trivial⟩⟩⟩⟩⟩⟩) ?_
        refine tX9_askOf_83 l ih n v1 v2 v3 v4 v6 (0 : Int32) v5 μ0 hp0  h
      · have h := h.2 c6
        refine qa_iconst (v := 1) dX9_askOf_78 (by decide) ?_
        refine qa_goto (tgt := 83) dX9_askOf_79 (by decide) ?_
        refine qa_fgt (L' := [some (.ref 91), some (.int v1), some (.int v2), some (.int v3), some (.int v4), none, some (.int v6)]) (⟨rfl, ⟨rfl, ⟨rfl, ⟨rfl, ⟨rfl, ⟨rfl, trivial⟩⟩⟩⟩⟩⟩) ?_
        refine tX9_askOf_83 l ih n v1 v2 v3 v4 v6 (1 : Int32) v5 μ0 hp0  h
theorem tX9_askOf_25 (l : Launch) {K0 : Int32 → Int32 → Int32 → qa_M → Prop} {Q : Int32 → qa_M → Prop} (hK0 : ∀ (v1 : Int32) (v2 : Int32) (v3 : Int32) (μ : qa_M), qa_PP μ.2.2 → K0 v1 v2 v3 μ → qa_G l yX9_askOf cX9_askOf 7 (some .int) 1 0 0 (qa_pI Q) 0 0 105 [some (.ref 91), some (.int v1), some (.int v2), some (.int v3), none, none, none] [] 113 μ) : ∀ (n : Nat) (v1 : Int32) (v2 : Int32) (v3 : Int32) (v4 : Int32) (μ0 : qa_M), qa_PP μ0.2.2 → wX9_askOf_25 n v1 v2 v3 v4 μ0 K0 Q → qa_G l yX9_askOf cX9_askOf 7 (some .int) 1 0 0 (qa_pI Q) 0 0 25 [some (.ref 91), some (.int v1), some (.int v2), some (.int v3), some (.int v4), none, none] [] 113 μ0 := by
  intro n
  induction n with
  | zero =>
    intro v1 v2 v3 v4 μ0 hp0  h
    rw [wX9_askOf_25] at h
    exact h.elim
  | succ n ih =>
    intro v1 v2 v3 v4 μ0 hp0  h
    rw [wX9_askOf_25] at h
    refine qa_ild4 dX9_askOf_25 ?_
    refine qa_ald0 dX9_askOf_27 ?_
    refine qa_getI dX9_askOf_28 lf_X9_374 (Or.inl rfl) sh_91 (by decide) ?_
    refine qa_icmp_ge (tgt := 105) dX9_askOf_31 (by decide) (fun c4 => ?_) (fun c4 => ?_)
    · have h := h.1 c4
      refine qa_fgt (L' := [some (.ref 91), some (.int v1), some (.int v2), some (.int v3), none, none, none]) (⟨rfl, ⟨rfl, ⟨rfl, ⟨rfl, trivial⟩⟩⟩⟩) ?_
      exact hK0 v1 v2 v3 μ0 hp0  h
    · have h := h.2 c4
      refine qa_iconst (v := 0) dX9_askOf_34 (by decide) ?_
      refine qa_ist5 dX9_askOf_35 ?_
      refine qa_iconst (v := 0) dX9_askOf_37 (by decide) ?_
      refine qa_ist6 dX9_askOf_38 ?_
      refine qa_fgt (L' := [some (.ref 91), some (.int v1), some (.int v2), some (.int v3), some (.int v4), some (.int (0 : Int32)), some (.int (0 : Int32))]) (⟨rfl, ⟨rfl, ⟨rfl, ⟨rfl, ⟨rfl, ⟨rfl, ⟨rfl, trivial⟩⟩⟩⟩⟩⟩⟩) ?_
      refine tX9_askOf_40 l ?_ n v1 v2 v3 v4 (0 : Int32) (0 : Int32) μ0 hp0  h
      · intro v1_9 v2_9 v3_9 v4_9 v5_9 μ8 hp8  h
        refine qa_ild3 dX9_askOf_92 ?_
        refine qa_ild5 dX9_askOf_93 ?_
        refine qa_S2I dX9_askOf_95 lm_X9_267  (by decide) (Nat.le_of_ble_eq_true rfl) (tJ9_max_7cf53 l hp8  h) (fun r10 μ10 hp10 h => ?_)
        refine qa_ist3 dX9_askOf_98 ?_
        refine qa_inc4 dX9_askOf_99 (qa_io1 _) ?_
        refine qa_goto (tgt := 25) dX9_askOf_102 (by decide) ?_
        refine qa_fgt (L' := [some (.ref 91), some (.int v1_9), some (.int v2_9), some (.int r10), some (.int (v4_9 + (1 : Int32))), none, none]) (⟨rfl, ⟨rfl, ⟨rfl, ⟨rfl, ⟨rfl, trivial⟩⟩⟩⟩⟩) ?_
        exact ih v1_9 v2_9 r10 (v4_9 + (1 : Int32)) μ10 hp10  h
theorem tX9_askOf_12 (l : Launch)  {Q : Int32 → qa_M → Prop}  : ∀ (n : Nat) (v1 : Int32) (v2 : Int32) (μ0 : qa_M), qa_PP μ0.2.2 → wX9_askOf_12 n v1 v2 μ0  Q → qa_G l yX9_askOf cX9_askOf 7 (some .int) 1 0 0 (qa_pI Q) 0 0 12 [some (.ref 91), some (.int v1), some (.int v2), none, none, none, none] [] 113 μ0 := by
  intro n
  induction n with
  | zero =>
    intro v1 v2 μ0 hp0  h
    rw [wX9_askOf_12] at h
    exact h.elim
  | succ n ih =>
    intro v1 v2 μ0 hp0  h
    rw [wX9_askOf_12] at h
    refine qa_ild2 dX9_askOf_12 ?_
    refine qa_ald0 dX9_askOf_13 ?_
    refine qa_V0I dX9_askOf_14 lm_X9_96 sh_91 rfl (by decide) (by decide) (Nat.le_of_ble_eq_true rfl) (tX9_weeks l hp0  h) (fun r2 μ2 hp2 h => ?_)
    refine qa_icmp_ge (tgt := 129) dX9_askOf_17 (by decide) (fun c3 => ?_) (fun c3 => ?_)
    · have h := h.1 c3
      refine qa_ild1 dX9_askOf_129 ?_
      exact qa_iret rfl dX9_askOf_130 ⟨rfl, rfl⟩ ⟨rfl, hp2, _, rfl, h⟩
    · have h := h.2 c3
      refine qa_iconst (v := 0) dX9_askOf_20 (by decide) ?_
      refine qa_ist3 dX9_askOf_21 ?_
      refine qa_iconst (v := 0) dX9_askOf_22 (by decide) ?_
      refine qa_ist4 dX9_askOf_23 ?_
      refine qa_fgt (L' := [some (.ref 91), some (.int v1), some (.int v2), some (.int (0 : Int32)), some (.int (0 : Int32)), none, none]) (⟨rfl, ⟨rfl, ⟨rfl, ⟨rfl, ⟨rfl, trivial⟩⟩⟩⟩⟩) ?_
      refine tX9_askOf_25 l ?_ n v1 v2 (0 : Int32) (0 : Int32) μ2 hp2  h
      · intro v1_12 v2_12 v3_12 μ11 hp11  h
        refine qa_ild3 dX9_askOf_105 ?_
        refine qa_ald0 dX9_askOf_106 ?_
        refine qa_getI dX9_askOf_107 lf_X9_380 (Or.inl rfl) sh_91 (by decide) ?_
        refine qa_icmp_lt (tgt := 116) dX9_askOf_110 (by decide) (fun c13 => ?_) (fun c13 => ?_)
        · have h := h.1 c13
          refine qa_ald0 dX9_askOf_116 ?_
          refine qa_ild3 dX9_askOf_117 ?_
          refine qa_putI dX9_askOf_118 lf_X9_380 rfl sh_91 (by decide) rfl ?_
          refine qa_nmM (fun μ14 em14 => ?_)
          have h := h μ14 em14
          have hp14 : qa_PP μ14.2.2 := by rw [em14]; exact hp11
          refine qa_ild2 dX9_askOf_121 ?_
          refine qa_ist1 dX9_askOf_122 ?_
          refine qa_inc2 dX9_askOf_123 (qa_io1 _) ?_
          refine qa_goto (tgt := 12) dX9_askOf_126 (by decide) ?_
          refine qa_fgt (L' := [some (.ref 91), some (.int v2_12), some (.int (v2_12 + (1 : Int32))), none, none, none, none]) (⟨rfl, ⟨rfl, ⟨rfl, trivial⟩⟩⟩) ?_
          exact ih v2_12 (v2_12 + (1 : Int32)) μ14 hp14  h
        · have h := h.2 c13
          refine qa_goto (tgt := 123) dX9_askOf_113 (by decide) ?_
          refine qa_inc2 dX9_askOf_123 (qa_io1 _) ?_
          refine qa_goto (tgt := 12) dX9_askOf_126 (by decide) ?_
          refine qa_fgt (L' := [some (.ref 91), some (.int v1_12), some (.int (v2_12 + (1 : Int32))), none, none, none, none]) (⟨rfl, ⟨rfl, ⟨rfl, trivial⟩⟩⟩) ?_
          exact ih v1_12 (v2_12 + (1 : Int32)) μ11 hp11  h
theorem tX9_askOf (l : Launch) {n : Nat}  {μ0 : qa_M} {Q : Int32 → qa_M → Prop} (hp0 : qa_PP μ0.2.2)  (h : wX9_askOf n  μ0 Q) : qa_Met l yX9_askOf cX9_askOf 7 (some .int) 1 0 0 [.ref 91] 113 μ0 (qa_pI Q) := by
  refine qa_ofG (by decide) (Nat.le_of_ble_eq_true rfl) ?_
  unfold wX9_askOf at h
  change qa_G l yX9_askOf cX9_askOf 7 (some .int) 1 0 0 (qa_pI Q) 0 0 0 [some (.ref 91), none, none, none, none, none, none] [] 113 μ0
  refine qa_ald0 dX9_askOf_0 ?_
  refine qa_ald0 dX9_askOf_1 ?_
  refine qa_getI dX9_askOf_2 lf_X9_374 (Or.inl rfl) sh_91 (by decide) ?_
  refine qa_putI dX9_askOf_5 lf_X9_380 rfl sh_91 (by decide) rfl ?_
  refine qa_nmM (fun μ1 em1 => ?_)
  have h := h μ1 em1
  have hp1 : qa_PP μ1.2.2 := by rw [em1]; exact hp0
  refine qa_iconst (v := -1) dX9_askOf_8 (by decide) ?_
  refine qa_ist1 dX9_askOf_9 ?_
  refine qa_iconst (v := 0) dX9_askOf_10 (by decide) ?_
  refine qa_ist2 dX9_askOf_11 ?_
  refine qa_fgt (L' := [some (.ref 91), some (.int (-1 : Int32)), some (.int (0 : Int32)), none, none, none, none]) (⟨rfl, ⟨rfl, ⟨rfl, trivial⟩⟩⟩) ?_
  refine tX9_askOf_12 l  n (-1 : Int32) (0 : Int32) μ1 hp1  h
def wX9_ask (n : Nat) (v1 : Int32) (μ0 : qa_M) (Q : Int32 → qa_M → Prop) : Prop := wX9_layLeans n v1 μ0 (fun r1 μ1 => ((0 ≤ r1 → wX9_askOf n  μ1 (fun r3 μ3 => Q r3 μ3)) ∧ (¬ 0 ≤ r1 → Q r1 μ1)))
theorem tX9_ask (l : Launch) {n : Nat} {v1 : Int32} {μ0 : qa_M} {Q : Int32 → qa_M → Prop} (hp0 : qa_PP μ0.2.2)  (h : wX9_ask n v1 μ0 Q) : qa_Met l yX9_ask cX9_ask 3 (some .int) 4 0 0 [.ref 91, .int v1] 113 μ0 (qa_pI Q) := by
  refine qa_ofG (by decide) (Nat.le_of_ble_eq_true rfl) ?_
  unfold wX9_ask at h
  change qa_G l yX9_ask cX9_ask 3 (some .int) 4 0 0 (qa_pI Q) 0 0 0 [some (.ref 91), some (.int v1), none] [] 113 μ0
  refine qa_ald0 dX9_ask_0 ?_
  refine qa_ild1 dX9_ask_1 ?_
  refine qa_V1I dX9_ask_2 lm_X9_377 sh_91 rfl (by decide) (by decide) (Nat.le_of_ble_eq_true rfl) (tX9_layLeans l hp0  h) (fun r1 μ1 hp1 h => ?_)
  refine qa_ist2 dX9_ask_5 ?_
  refine qa_ild2 dX9_ask_6 ?_
  refine qa_if_ge (tgt := 14) dX9_ask_7 (by decide) (fun c2 => ?_) (fun c2 => ?_)
  · have h := h.1 c2
    refine qa_ald0 dX9_ask_14 ?_
    refine qa_V0I dX9_ask_15 lm_X9_383 sh_91 rfl (by decide) (by decide) (Nat.le_of_ble_eq_true rfl) (tX9_askOf l hp1  h) (fun r3 μ3 hp3 h => ?_)
    exact qa_iret rfl dX9_ask_18 ⟨rfl, rfl⟩ ⟨rfl, hp3, _, rfl, h⟩
  · have h := h.2 c2
    refine qa_ild2 dX9_ask_10 ?_
    refine qa_goto (tgt := 18) dX9_ask_11 (by decide) ?_
    exact qa_iret rfl dX9_ask_18 ⟨rfl, rfl⟩ ⟨rfl, hp1, _, rfl, h⟩
def wX9_isPlace (n : Nat) (v1 : Int64) (μ0 : qa_M) (Q : Int32 → qa_M → Prop) : Prop := wX9_houses n  μ0 (fun r1 μ1 => wX9_in n v1 (0 : Int64) (r1 - (1 : Int32)).toInt64 μ1 (fun r2 μ2 => (narrow .boolean (.int r2) = .int r2 ∧ Q r2 μ2)))
theorem tX9_isPlace (l : Launch) {n : Nat} {v1 : Int64} {μ0 : qa_M} {Q : Int32 → qa_M → Prop} (hp0 : qa_PP μ0.2.2)  (h : wX9_isPlace n v1 μ0 Q) : qa_Met l yX9_isPlace cX9_isPlace 3 (some .boolean) 1 0 0 [.ref 91, .long v1] 113 μ0 (qa_pI Q) := by
  refine qa_ofG (by decide) (Nat.le_of_ble_eq_true rfl) ?_
  unfold wX9_isPlace at h
  change qa_G l yX9_isPlace cX9_isPlace 3 (some .boolean) 1 0 0 (qa_pI Q) 0 0 0 [some (.ref 91), some (.long v1), none] [] 113 μ0
  refine qa_lld1 dX9_isPlace_0 ?_
  refine qa_lconst (v := 0) dX9_isPlace_1 (by decide) ?_
  refine qa_ald0 dX9_isPlace_2 ?_
  refine qa_V0I dX9_isPlace_3 lm_X9_100 sh_91 rfl (by decide) (by decide) (Nat.le_of_ble_eq_true rfl) (tX9_houses l hp0  h) (fun r1 μ1 hp1 h => ?_)
  refine qa_iconst (v := 1) dX9_isPlace_6 (by decide) ?_
  refine qa_isub dX9_isPlace_7 ?_
  refine qa_i2l dX9_isPlace_8 ?_
  refine qa_S3I dX9_isPlace_9 lm_X9_88  (by decide) (Nat.le_of_ble_eq_true rfl) (tX9_in l hp1  h) (fun r2 μ2 hp2 h => ?_)
  exact qa_zret rfl h.1 dX9_isPlace_12 ⟨rfl, rfl⟩ ⟨rfl, hp2, _, rfl, h.2⟩
def wX9_askGate_46 : Nat → Int32 → Int32 → qa_M → (Int32 → qa_M → Prop) → Prop
  | 0, _, _, _, _ => False
  | n + 1, v1, v2, μ0, Q => vp_in v1 4 ∧ (((μ0.1 110 v1.toNatClampNeg) ≤ v2 → wX9_asItIs n  μ0 (fun μ8 => Q (0 : Int32) μ8)) ∧ (¬ (μ0.1 110 v1.toNatClampNeg) ≤ v2 → wX9_numberAt n v1 v2 μ0 (fun r9 μ9 => wX9_isWeek n r9 μ9 (fun r10 μ10 => ((r10 = 0 → Q (-2 : Int32) μ10) ∧ (¬ r10 = 0 → wX9_numberAt n v1 (v2 + (1 : Int32)) μ10 (fun r12 μ12 => wX9_isPlace n r12 μ12 (fun r13 μ13 => ((¬ r13 = 0 → wX9_askGate_46 n v1 (v2 + (2 : Int32)) μ13 Q) ∧ (r13 = 0 → Q (-2 : Int32) μ13))))))))))
def wX9_askGate (n : Nat) (v1 : Int32) (μ0 : qa_M) (Q : Int32 → qa_M → Prop) : Prop := wX9_isSlot n v1 μ0 (fun r1 μ1 => ((r1 = 0 → Q (-2 : Int32) μ1) ∧ (¬ r1 = 0 → wX9_isTown n  μ1 (fun r3 μ3 => ((¬ r3 = 0 → vp_in v1 4 ∧ ((¬ (μ3.1 110 v1.toNatClampNeg) = (-1 : Int32) → vp_in v1 4 ∧ ((((μ3.1 110 v1.toNatClampNeg) - (μ3.1 110 v1.toNatClampNeg) / (2 : Int32) * (2 : Int32)) = 0 → wX9_askGate_46 n v1 (0 : Int32) μ3  Q) ∧ (¬ ((μ3.1 110 v1.toNatClampNeg) - (μ3.1 110 v1.toNatClampNeg) / (2 : Int32) * (2 : Int32)) = 0 → Q (-2 : Int32) μ3))) ∧ ((μ3.1 110 v1.toNatClampNeg) = (-1 : Int32) → Q (-6 : Int32) μ3))) ∧ (r3 = 0 → Q (-2 : Int32) μ3))))))
theorem tX9_askGate_46 (l : Launch)  {Q : Int32 → qa_M → Prop}  : ∀ (n : Nat) (v1 : Int32) (v2 : Int32) (μ0 : qa_M), qa_PP μ0.2.2 → wX9_askGate_46 n v1 v2 μ0  Q → qa_G l yX9_askGate cX9_askGate 3 (some .int) 2 0 0 (qa_pI Q) 0 0 46 [some (.ref 91), some (.int v1), some (.int v2)] [] 113 μ0 := by
  intro n
  induction n with
  | zero =>
    intro v1 v2 μ0 hp0  h
    rw [wX9_askGate_46] at h
    exact h.elim
  | succ n ih =>
    intro v1 v2 μ0 hp0  h
    rw [wX9_askGate_46] at h
    refine qa_ild2 dX9_askGate_46 ?_
    refine qa_ald0 dX9_askGate_47 ?_
    refine qa_getR dX9_askGate_48 lf_X9_70 rfl sh_91 (by decide) (pp_91_41 hp0) (by decide) ?_
    refine qa_ild1 dX9_askGate_51 ?_
    refine qa_iald dX9_askGate_52 sh_110 (by decide) h.1 ?_
    have h := h.2
    refine qa_icmp_ge (tgt := 93) dX9_askGate_53 (by decide) (fun c7 => ?_) (fun c7 => ?_)
    · have h := h.1 c7
      refine qa_ald0 dX9_askGate_93 ?_
      refine qa_V0V dX9_askGate_94 lm_X9_251 sh_91 rfl (by decide) (by decide) (Nat.le_of_ble_eq_true rfl) (tX9_asItIs l hp0  h) (fun μ8 hp8 h => ?_)
      refine qa_iconst (v := 0) dX9_askGate_97 (by decide) ?_
      exact qa_iret rfl dX9_askGate_98 ⟨rfl, rfl⟩ ⟨rfl, hp8, _, rfl, h⟩
    · have h := h.2 c7
      refine qa_ald0 dX9_askGate_56 ?_
      refine qa_ald0 dX9_askGate_57 ?_
      refine qa_ild1 dX9_askGate_58 ?_
      refine qa_ild2 dX9_askGate_59 ?_
      refine qa_V2J dX9_askGate_60 lm_X9_370 sh_91 rfl (by decide) (by decide) (Nat.le_of_ble_eq_true rfl) (tX9_numberAt l hp0  h) (fun r9 μ9 hp9 h => ?_)
      refine qa_V1I dX9_askGate_63 lm_X9_286 sh_91 rfl (by decide) (by decide) (Nat.le_of_ble_eq_true rfl) (tX9_isWeek l hp9  h) (fun r10 μ10 hp10 h => ?_)
      refine qa_if_eq (tgt := 84) dX9_askGate_66 (by decide) (fun c11 => ?_) (fun c11 => ?_)
      · have h := h.1 c11
        refine qa_bipush (v := -2) dX9_askGate_84 (by decide) ?_
        exact qa_iret rfl dX9_askGate_86 ⟨rfl, rfl⟩ ⟨rfl, hp10, _, rfl, h⟩
      · have h := h.2 c11
        refine qa_ald0 dX9_askGate_69 ?_
        refine qa_ald0 dX9_askGate_70 ?_
        refine qa_ild1 dX9_askGate_71 ?_
        refine qa_ild2 dX9_askGate_72 ?_
        refine qa_iconst (v := 1) dX9_askGate_73 (by decide) ?_
        refine qa_iadd dX9_askGate_74 ?_
        refine qa_V2J dX9_askGate_75 lm_X9_370 sh_91 rfl (by decide) (by decide) (Nat.le_of_ble_eq_true rfl) (tX9_numberAt l hp10  h) (fun r12 μ12 hp12 h => ?_)
        refine qa_V1I dX9_askGate_78 lm_X9_254 sh_91 rfl (by decide) (by decide) (Nat.le_of_ble_eq_true rfl) (tX9_isPlace l hp12  h) (fun r13 μ13 hp13 h => ?_)
        refine qa_if_ne (tgt := 87) dX9_askGate_81 (by decide) (fun c14 => ?_) (fun c14 => ?_)
        · have h := h.1 c14
          refine qa_inc2 dX9_askGate_87 (qa_io2 _) ?_
          refine qa_goto (tgt := 46) dX9_askGate_90 (by decide) ?_
          refine qa_fgt (L' := [some (.ref 91), some (.int v1), some (.int (v2 + (2 : Int32)))]) (⟨rfl, ⟨rfl, ⟨rfl, trivial⟩⟩⟩) ?_
          exact ih v1 (v2 + (2 : Int32)) μ13 hp13  h
        · have h := h.2 c14
          refine qa_bipush (v := -2) dX9_askGate_84 (by decide) ?_
          exact qa_iret rfl dX9_askGate_86 ⟨rfl, rfl⟩ ⟨rfl, hp13, _, rfl, h⟩
theorem tX9_askGate (l : Launch) {n : Nat} {v1 : Int32} {μ0 : qa_M} {Q : Int32 → qa_M → Prop} (hp0 : qa_PP μ0.2.2)  (h : wX9_askGate n v1 μ0 Q) : qa_Met l yX9_askGate cX9_askGate 3 (some .int) 2 0 0 [.ref 91, .int v1] 113 μ0 (qa_pI Q) := by
  refine qa_ofG (by decide) (Nat.le_of_ble_eq_true rfl) ?_
  unfold wX9_askGate at h
  change qa_G l yX9_askGate cX9_askGate 3 (some .int) 2 0 0 (qa_pI Q) 0 0 0 [some (.ref 91), some (.int v1), none] [] 113 μ0
  refine qa_ild1 dX9_askGate_0 ?_
  refine qa_S1I dX9_askGate_1 lm_X9_367  (by decide) (Nat.le_of_ble_eq_true rfl) (tX9_isSlot l hp0  h) (fun r1 μ1 hp1 h => ?_)
  refine qa_if_eq (tgt := 14) dX9_askGate_4 (by decide) (fun c2 => ?_) (fun c2 => ?_)
  · have h := h.1 c2
    refine qa_bipush (v := -2) dX9_askGate_14 (by decide) ?_
    exact qa_iret rfl dX9_askGate_16 ⟨rfl, rfl⟩ ⟨rfl, hp1, _, rfl, h⟩
  · have h := h.2 c2
    refine qa_ald0 dX9_askGate_7 ?_
    refine qa_V0I dX9_askGate_8 lm_X9_92 sh_91 rfl (by decide) (by decide) (Nat.le_of_ble_eq_true rfl) (tX9_isTown l hp1  h) (fun r3 μ3 hp3 h => ?_)
    refine qa_if_ne (tgt := 17) dX9_askGate_11 (by decide) (fun c4 => ?_) (fun c4 => ?_)
    · have h := h.1 c4
      refine qa_ald0 dX9_askGate_17 ?_
      refine qa_getR dX9_askGate_18 lf_X9_70 rfl sh_91 (by decide) (pp_91_41 hp3) (by decide) ?_
      refine qa_ild1 dX9_askGate_21 ?_
      refine qa_iald dX9_askGate_22 sh_110 (by decide) h.1 ?_
      have h := h.2
      refine qa_iconst (v := -1) dX9_askGate_23 (by decide) ?_
      refine qa_icmp_ne (tgt := 30) dX9_askGate_24 (by decide) (fun c5 => ?_) (fun c5 => ?_)
      · have h := h.1 c5
        refine qa_ald0 dX9_askGate_30 ?_
        refine qa_getR dX9_askGate_31 lf_X9_70 rfl sh_91 (by decide) (pp_91_41 hp3) (by decide) ?_
        refine qa_ild1 dX9_askGate_34 ?_
        refine qa_iald dX9_askGate_35 sh_110 (by decide) h.1 ?_
        have h := h.2
        refine qa_iconst (v := 2) dX9_askGate_36 (by decide) ?_
        refine qa_irem dX9_askGate_37 (by decide) ?_
        refine qa_if_eq (tgt := 44) dX9_askGate_38 (by decide) (fun c6 => ?_) (fun c6 => ?_)
        · have h := h.1 c6
          refine qa_iconst (v := 0) dX9_askGate_44 (by decide) ?_
          refine qa_ist2 dX9_askGate_45 ?_
          refine qa_fgt (L' := [some (.ref 91), some (.int v1), some (.int (0 : Int32))]) (⟨rfl, ⟨rfl, ⟨rfl, trivial⟩⟩⟩) ?_
          refine tX9_askGate_46 l  n v1 (0 : Int32) μ3 hp3  h
        · have h := h.2 c6
          refine qa_bipush (v := -2) dX9_askGate_41 (by decide) ?_
          exact qa_iret rfl dX9_askGate_43 ⟨rfl, rfl⟩ ⟨rfl, hp3, _, rfl, h⟩
      · have h := h.2 c5
        refine qa_bipush (v := -6) dX9_askGate_27 (by decide) ?_
        exact qa_iret rfl dX9_askGate_29 ⟨rfl, rfl⟩ ⟨rfl, hp3, _, rfl, h⟩
    · have h := h.2 c4
      refine qa_bipush (v := -2) dX9_askGate_14 (by decide) ?_
      exact qa_iret rfl dX9_askGate_16 ⟨rfl, rfl⟩ ⟨rfl, hp3, _, rfl, h⟩
def wX9_asksHouse (n : Nat) (v1 : Int32) (μ0 : qa_M) (Q : Int32 → qa_M → Prop) : Prop := wX9_asksTown n  μ0 (fun r1 μ1 => wX9_isHouse n v1 μ1 (fun r2 μ2 => (narrow .boolean (.int r2) = .int r2 ∧ Q r2 μ2)))
theorem tX9_asksHouse (l : Launch) {n : Nat} {v1 : Int32} {μ0 : qa_M} {Q : Int32 → qa_M → Prop} (hp0 : qa_PP μ0.2.2)  (h : wX9_asksHouse n v1 μ0 Q) : qa_Met l yX9_asksHouse cX9_asksHouse 2 (some .boolean) 4 0 0 [.ref 91, .int v1] 113 μ0 (qa_pI Q) := by
  refine qa_ofG (by decide) (Nat.le_of_ble_eq_true rfl) ?_
  unfold wX9_asksHouse at h
  change qa_G l yX9_asksHouse cX9_asksHouse 2 (some .boolean) 4 0 0 (qa_pI Q) 0 0 0 [some (.ref 91), some (.int v1)] [] 113 μ0
  refine qa_ald0 dX9_asksHouse_0 ?_
  refine qa_V0I dX9_asksHouse_1 lm_X9_283 sh_91 rfl (by decide) (by decide) (Nat.le_of_ble_eq_true rfl) (tX9_asksTown l hp0  h) (fun r1 μ1 hp1 h => ?_)
  refine qa_pop dX9_asksHouse_4 rfl ?_
  refine qa_ald0 dX9_asksHouse_5 ?_
  refine qa_ild1 dX9_asksHouse_6 ?_
  refine qa_V1I dX9_asksHouse_7 lm_X9_103 sh_91 rfl (by decide) (by decide) (Nat.le_of_ble_eq_true rfl) (tX9_isHouse l hp1  h) (fun r2 μ2 hp2 h => ?_)
  exact qa_zret rfl h.1 dX9_asksHouse_10 ⟨rfl, rfl⟩ ⟨rfl, hp2, _, rfl, h.2⟩
def wX9_sunTo_5 : Nat → Int32 → Int32 → Int32 → Int32 → qa_M → (Int32 → qa_M → Prop) → Prop
  | 0, _, _, _, _, _, _ => False
  | n + 1, v1, v2, v3, v4, μ0, Q => ((v2 < v4 → Q v3 μ0) ∧ (¬ v2 < v4 → wX9_placeOf n v1 v4 μ0 (fun r2 μ2 => vp_in r2 8 ∧ ∀ x3, x3 = (v3 + (μ2.1 98 r2.toNatClampNeg)) → wX9_sunTo_5 n v1 v2 x3 (v4 + (1 : Int32)) μ2 Q)))
def wX9_sunTo (n : Nat) (v1 : Int32) (v2 : Int32) (μ0 : qa_M) (Q : Int32 → qa_M → Prop) : Prop := wX9_sunTo_5 n v1 v2 (0 : Int32) (0 : Int32) μ0  Q
theorem tX9_sunTo_5 (l : Launch)  {Q : Int32 → qa_M → Prop}  : ∀ (n : Nat) (v1 : Int32) (v2 : Int32) (v3 : Int32) (v4 : Int32) (μ0 : qa_M), qa_PP μ0.2.2 → wX9_sunTo_5 n v1 v2 v3 v4 μ0  Q → qa_G l yX9_sunTo cX9_sunTo 5 (some .int) 1 0 0 (qa_pI Q) 0 0 5 [some (.ref 91), some (.int v1), some (.int v2), some (.int v3), some (.int v4)] [] 113 μ0 := by
  intro n
  induction n with
  | zero =>
    intro v1 v2 v3 v4 μ0 hp0  h
    rw [wX9_sunTo_5] at h
    exact h.elim
  | succ n ih =>
    intro v1 v2 v3 v4 μ0 hp0  h
    rw [wX9_sunTo_5] at h
    refine qa_ild4 dX9_sunTo_5 ?_
    refine qa_ild2 dX9_sunTo_7 ?_
    refine qa_icmp_gt (tgt := 32) dX9_sunTo_8 (by decide) (fun c1 => ?_) (fun c1 => ?_)
    · have h := h.1 c1
      refine qa_ild3 dX9_sunTo_32 ?_
      exact qa_iret rfl dX9_sunTo_33 ⟨rfl, rfl⟩ ⟨rfl, hp0, _, rfl, h⟩
    · have h := h.2 c1
      refine qa_ild3 dX9_sunTo_11 ?_
      refine qa_ald0 dX9_sunTo_12 ?_
      refine qa_getR dX9_sunTo_13 lf_X9_34 rfl sh_91 (by decide) (pp_91_15 hp0) (by decide) ?_
      refine qa_ald0 dX9_sunTo_16 ?_
      refine qa_ild1 dX9_sunTo_17 ?_
      refine qa_ild4 dX9_sunTo_18 ?_
      refine qa_V2I dX9_sunTo_20 lm_X9_261 sh_91 rfl (by decide) (by decide) (Nat.le_of_ble_eq_true rfl) (tX9_placeOf l hp0  h) (fun r2 μ2 hp2 h => ?_)
      refine qa_iald dX9_sunTo_23 sh_98 (by decide) h.1 ?_
      have h := h.2
      refine qa_iadd dX9_sunTo_24 ?_
      refine qa_nmI (fun x3 e3 => ?_)
      have h := h x3 e3
      refine qa_ist3 dX9_sunTo_25 ?_
      refine qa_inc4 dX9_sunTo_26 (qa_io1 _) ?_
      refine qa_goto (tgt := 5) dX9_sunTo_29 (by decide) ?_
      refine qa_fgt (L' := [some (.ref 91), some (.int v1), some (.int v2), some (.int x3), some (.int (v4 + (1 : Int32)))]) (⟨rfl, ⟨rfl, ⟨rfl, ⟨rfl, ⟨rfl, trivial⟩⟩⟩⟩⟩) ?_
      exact ih v1 v2 x3 (v4 + (1 : Int32)) μ2 hp2  h
theorem tX9_sunTo (l : Launch) {n : Nat} {v1 : Int32} {v2 : Int32} {μ0 : qa_M} {Q : Int32 → qa_M → Prop} (hp0 : qa_PP μ0.2.2)  (h : wX9_sunTo n v1 v2 μ0 Q) : qa_Met l yX9_sunTo cX9_sunTo 5 (some .int) 1 0 0 [.ref 91, .int v1, .int v2] 113 μ0 (qa_pI Q) := by
  refine qa_ofG (by decide) (Nat.le_of_ble_eq_true rfl) ?_
  unfold wX9_sunTo at h
  change qa_G l yX9_sunTo cX9_sunTo 5 (some .int) 1 0 0 (qa_pI Q) 0 0 0 [some (.ref 91), some (.int v1), some (.int v2), none, none] [] 113 μ0
  refine qa_iconst (v := 0) dX9_sunTo_0 (by decide) ?_
  refine qa_ist3 dX9_sunTo_1 ?_
  refine qa_iconst (v := 0) dX9_sunTo_2 (by decide) ?_
  refine qa_ist4 dX9_sunTo_3 ?_
  refine qa_fgt (L' := [some (.ref 91), some (.int v1), some (.int v2), some (.int (0 : Int32)), some (.int (0 : Int32))]) (⟨rfl, ⟨rfl, ⟨rfl, ⟨rfl, ⟨rfl, trivial⟩⟩⟩⟩⟩) ?_
  refine tX9_sunTo_5 l  n v1 v2 (0 : Int32) (0 : Int32) μ0 hp0  h
def wX9_sunAll (n : Nat) (v1 : Int32) (μ0 : qa_M) (Q : Int32 → qa_M → Prop) : Prop := wX9_weeks n  μ0 (fun r1 μ1 => wX9_sunTo n v1 r1 μ1 (fun r2 μ2 => Q r2 μ2))
theorem tX9_sunAll (l : Launch) {n : Nat} {v1 : Int32} {μ0 : qa_M} {Q : Int32 → qa_M → Prop} (hp0 : qa_PP μ0.2.2)  (h : wX9_sunAll n v1 μ0 Q) : qa_Met l yX9_sunAll cX9_sunAll 2 (some .int) 2 0 0 [.ref 91, .int v1] 113 μ0 (qa_pI Q) := by
  refine qa_ofG (by decide) (Nat.le_of_ble_eq_true rfl) ?_
  unfold wX9_sunAll at h
  change qa_G l yX9_sunAll cX9_sunAll 2 (some .int) 2 0 0 (qa_pI Q) 0 0 0 [some (.ref 91), some (.int v1)] [] 113 μ0
  refine qa_ald0 dX9_sunAll_0 ?_
  refine qa_ild1 dX9_sunAll_1 ?_
  refine qa_ald0 dX9_sunAll_2 ?_
  refine qa_V0I dX9_sunAll_3 lm_X9_96 sh_91 rfl (by decide) (by decide) (Nat.le_of_ble_eq_true rfl) (tX9_weeks l hp0  h) (fun r1 μ1 hp1 h => ?_)
  refine qa_V2I dX9_sunAll_6 lm_X9_310 sh_91 rfl (by decide) (by decide) (Nat.le_of_ble_eq_true rfl) (tX9_sunTo l hp1  h) (fun r2 μ2 hp2 h => ?_)
  exact qa_iret rfl dX9_sunAll_9 ⟨rfl, rfl⟩ ⟨rfl, hp2, _, rfl, h⟩
def wX9_asksTrades_11 : Nat → Int32 → qa_M → (qa_M → Prop) → (Int32 → qa_M → Prop) → Prop
  | 0, _, _, _, _ => False
  | n + 1, v1, μ0, K0, Q => wX9_houses n  μ0 (fun r3 μ3 => ((r3 ≤ v1 → K0  μ3) ∧ (¬ r3 ≤ v1 → wX9_sunAll n v1 μ3 (fun r5 μ5 => vp_in v1 8 ∧ ∀ μ6, μ6 = qa_uI μ5 106 v1.toNatClampNeg r5 → wX9_asksTrades_11 n (v1 + (1 : Int32)) μ6 K0 Q))))
def wX9_asksTrades_134 (n : Nat) (v1 : Int32) (v2 : Int32) (s0 : Int32) (μ0 : qa_M) (K0 : Int32 → Int32 → qa_M → Prop) (Q : Int32 → qa_M → Prop) : Prop := ∀ μ24, μ24 = qa_uI μ0 91 32 s0 → ∀ μ25, μ25 = qa_uI μ24 91 31 ((μ24.1 91 31) + (1 : Int32)) → K0 v1 (v2 + (1 : Int32)) μ25
def wX9_asksTrades_60 : Nat → Int32 → Int32 → qa_M → (Int32 → qa_M → Prop) → (Int32 → qa_M → Prop) → Prop
  | 0, _, _, _, _, _ => False
  | n + 1, v1, v2, μ0, K0, Q => wX9_houses n  μ0 (fun r14 μ14 => ((r14 ≤ v2 → K0 v1 μ14) ∧ (¬ r14 ≤ v2 → ∀ μ16, μ16 = qa_uI μ14 91 23 v1 → ∀ μ17, μ17 = qa_uI μ16 91 24 v2 → wX9_goAll n  μ17 (fun μ18 => wX9_sunAll n v1 μ18 (fun r19 μ19 => vp_in v1 8 ∧ ((r19 ≤ (μ19.1 106 v1.toNatClampNeg) → wX9_asksTrades_60 n v1 (v2 + (1 : Int32)) μ19 K0 Q) ∧ (¬ r19 ≤ (μ19.1 106 v1.toNatClampNeg) → wX9_sunAll n v2 μ19 (fun r21 μ21 => vp_in v2 8 ∧ (((μ21.1 106 v2.toNatClampNeg) < r21 → ((¬ (μ21.1 91 31) = 0 → wX9_asksTrades_134 n v1 v2 (μ21.1 91 32) μ21 (fun v1 v2 μk => wX9_asksTrades_60 n v1 v2 μk K0 Q) Q) ∧ ((μ21.1 91 31) = 0 → wX9_asksTrades_134 n v1 v2 (((10 : Int32) * v1) + v2) μ21 (fun v1 v2 μk => wX9_asksTrades_60 n v1 v2 μk K0 Q) Q))) ∧ (¬ (μ21.1 106 v2.toNatClampNeg) < r21 → wX9_asksTrades_60 n v1 (v2 + (1 : Int32)) μ21 K0 Q))))))))))
def wX9_asksTrades_48 : Nat → Int32 → qa_M → (Int32 → qa_M → Prop) → Prop
  | 0, _, _, _ => False
  | n + 1, v1, μ0, Q => wX9_houses n  μ0 (fun r11 μ11 => ((r11 ≤ v1 → Q (1 : Int32) μ11) ∧ (¬ r11 ≤ v1 → ∀ x13, x13 = (v1 + (1 : Int32)) → wX9_asksTrades_60 n v1 x13 μ11 (fun v1_27 μ26 => wX9_asksTrades_48 n (v1_27 + (1 : Int32)) μ26 Q) Q)))
def wX9_asksTrades (n : Nat)  (μ0 : qa_M) (Q : Int32 → qa_M → Prop) : Prop := wX9_asksTown n  μ0 (fun r1 μ1 => ((¬ r1 = 0 → wX9_asksTrades_11 n (0 : Int32) μ1 (fun  μ7 => ∀ μ9, μ9 = qa_uI μ7 91 31 (0 : Int32) → ∀ μ10, μ10 = qa_uI μ9 91 32 (-1 : Int32) → wX9_asksTrades_48 n (0 : Int32) μ10  Q) Q) ∧ (r1 = 0 → Q (0 : Int32) μ1)))
theorem tX9_asksTrades_11 (l : Launch) {K0 : qa_M → Prop} {Q : Int32 → qa_M → Prop} (hK0 : ∀  (μ : qa_M), qa_PP μ.2.2 → K0  μ → qa_G l yX9_asksTrades cX9_asksTrades 3 (some .boolean) 4 0 0 (qa_pI Q) 0 0 36 [some (.ref 91), none, none] [] 113 μ) : ∀ (n : Nat) (v1 : Int32) (μ0 : qa_M), qa_PP μ0.2.2 → wX9_asksTrades_11 n v1 μ0 K0 Q → qa_G l yX9_asksTrades cX9_asksTrades 3 (some .boolean) 4 0 0 (qa_pI Q) 0 0 11 [some (.ref 91), some (.int v1), none] [] 113 μ0 := by
  intro n
  induction n with
  | zero =>
    intro v1 μ0 hp0  h
    rw [wX9_asksTrades_11] at h
    exact h.elim
  | succ n ih =>
    intro v1 μ0 hp0  h
    rw [wX9_asksTrades_11] at h
    refine qa_ild1 dX9_asksTrades_11 ?_
    refine qa_ald0 dX9_asksTrades_12 ?_
    refine qa_V0I dX9_asksTrades_13 lm_X9_100 sh_91 rfl (by decide) (by decide) (Nat.le_of_ble_eq_true rfl) (tX9_houses l hp0  h) (fun r3 μ3 hp3 h => ?_)
    refine qa_icmp_ge (tgt := 36) dX9_asksTrades_16 (by decide) (fun c4 => ?_) (fun c4 => ?_)
    · have h := h.1 c4
      refine qa_fgt (L' := [some (.ref 91), none, none]) (⟨rfl, trivial⟩) ?_
      exact hK0  μ3 hp3  h
    · have h := h.2 c4
      refine qa_ald0 dX9_asksTrades_19 ?_
      refine qa_getR dX9_asksTrades_20 lf_X9_58 rfl sh_91 (by decide) (pp_91_30 hp3) (by decide) ?_
      refine qa_ild1 dX9_asksTrades_23 ?_
      refine qa_ald0 dX9_asksTrades_24 ?_
      refine qa_ild1 dX9_asksTrades_25 ?_
      refine qa_V1I dX9_asksTrades_26 lm_X9_313 sh_91 rfl (by decide) (by decide) (Nat.le_of_ble_eq_true rfl) (tX9_sunAll l hp3  h) (fun r5 μ5 hp5 h => ?_)
      refine qa_iast dX9_asksTrades_29 sh_106 (by decide) h.1 ?_
      have h := h.2
      refine qa_nmM (fun μ6 em6 => ?_)
      have h := h μ6 em6
      have hp6 : qa_PP μ6.2.2 := by rw [em6]; exact hp5
      refine qa_inc1 dX9_asksTrades_30 (qa_io1 _) ?_
      refine qa_goto (tgt := 11) dX9_asksTrades_33 (by decide) ?_
      refine qa_fgt (L' := [some (.ref 91), some (.int (v1 + (1 : Int32))), none]) (⟨rfl, ⟨rfl, trivial⟩⟩) ?_
      exact ih (v1 + (1 : Int32)) μ6 hp6  h
theorem tX9_asksTrades_134 (l : Launch) {K0 : Int32 → Int32 → qa_M → Prop} {Q : Int32 → qa_M → Prop} (hK0 : ∀ (v1 : Int32) (v2 : Int32) (μ : qa_M), qa_PP μ.2.2 → K0 v1 v2 μ → qa_G l yX9_asksTrades cX9_asksTrades 3 (some .boolean) 4 0 0 (qa_pI Q) 0 0 60 [some (.ref 91), some (.int v1), some (.int v2)] [] 113 μ) : ∀ (n : Nat) (v1 : Int32) (v2 : Int32) (s0 : Int32) (μ0 : qa_M), qa_PP μ0.2.2 → wX9_asksTrades_134 n v1 v2 s0 μ0 K0 Q → qa_G l yX9_asksTrades cX9_asksTrades 3 (some .boolean) 4 0 0 (qa_pI Q) 0 0 134 [some (.ref 91), some (.int v1), some (.int v2)] [.int s0, .ref 91] 113 μ0 := by
  intro n
  intro v1 v2 s0 μ0 hp0  h
  unfold wX9_asksTrades_134 at h
  refine qa_putI dX9_asksTrades_134 lf_X9_361 rfl sh_91 (by decide) rfl ?_
  refine qa_nmM (fun μ24 em24 => ?_)
  have h := h μ24 em24
  have hp24 : qa_PP μ24.2.2 := by rw [em24]; exact hp0
  refine qa_ald0 dX9_asksTrades_137 ?_
  refine qa_dup dX9_asksTrades_138 rfl ?_
  refine qa_getI dX9_asksTrades_139 lf_X9_358 (Or.inl rfl) sh_91 (by decide) ?_
  refine qa_iconst (v := 1) dX9_asksTrades_142 (by decide) ?_
  refine qa_iadd dX9_asksTrades_143 ?_
  refine qa_putI dX9_asksTrades_144 lf_X9_358 rfl sh_91 (by decide) rfl ?_
  refine qa_nmM (fun μ25 em25 => ?_)
  have h := h μ25 em25
  have hp25 : qa_PP μ25.2.2 := by rw [em25]; exact hp24
  refine qa_inc2 dX9_asksTrades_147 (qa_io1 _) ?_
  refine qa_goto (tgt := 60) dX9_asksTrades_150 (by decide) ?_
  refine qa_fgt (L' := [some (.ref 91), some (.int v1), some (.int (v2 + (1 : Int32)))]) (⟨rfl, ⟨rfl, ⟨rfl, trivial⟩⟩⟩) ?_
  exact hK0 v1 (v2 + (1 : Int32)) μ25 hp25  h
theorem tX9_asksTrades_60 (l : Launch) {K0 : Int32 → qa_M → Prop} {Q : Int32 → qa_M → Prop} (hK0 : ∀ (v1 : Int32) (μ : qa_M), qa_PP μ.2.2 → K0 v1 μ → qa_G l yX9_asksTrades cX9_asksTrades 3 (some .boolean) 4 0 0 (qa_pI Q) 0 0 153 [some (.ref 91), some (.int v1), none] [] 113 μ) : ∀ (n : Nat) (v1 : Int32) (v2 : Int32) (μ0 : qa_M), qa_PP μ0.2.2 → wX9_asksTrades_60 n v1 v2 μ0 K0 Q → qa_G l yX9_asksTrades cX9_asksTrades 3 (some .boolean) 4 0 0 (qa_pI Q) 0 0 60 [some (.ref 91), some (.int v1), some (.int v2)] [] 113 μ0 := by
  intro n
  induction n with
  | zero =>
    intro v1 v2 μ0 hp0  h
    rw [wX9_asksTrades_60] at h
    exact h.elim
  | succ n ih =>
    intro v1 v2 μ0 hp0  h
    rw [wX9_asksTrades_60] at h
    refine qa_ild2 dX9_asksTrades_60 ?_
    refine qa_ald0 dX9_asksTrades_61 ?_
    refine qa_V0I dX9_asksTrades_62 lm_X9_100 sh_91 rfl (by decide) (by decide) (Nat.le_of_ble_eq_true rfl) (tX9_houses l hp0  h) (fun r14 μ14 hp14 h => ?_)
    refine qa_icmp_ge (tgt := 153) dX9_asksTrades_65 (by decide) (fun c15 => ?_) (fun c15 => ?_)
    · have h := h.1 c15
      refine qa_fgt (L' := [some (.ref 91), some (.int v1), none]) (⟨rfl, ⟨rfl, trivial⟩⟩) ?_
      exact hK0 v1 μ14 hp14  h
    · have h := h.2 c15
      refine qa_ald0 dX9_asksTrades_68 ?_
      refine qa_ild1 dX9_asksTrades_69 ?_
      refine qa_putI dX9_asksTrades_70 lf_X9_245 rfl sh_91 (by decide) rfl ?_
      refine qa_nmM (fun μ16 em16 => ?_)
      have h := h μ16 em16
      have hp16 : qa_PP μ16.2.2 := by rw [em16]; exact hp14
      refine qa_ald0 dX9_asksTrades_73 ?_
      refine qa_ild2 dX9_asksTrades_74 ?_
      refine qa_putI dX9_asksTrades_75 lf_X9_248 rfl sh_91 (by decide) rfl ?_
      refine qa_nmM (fun μ17 em17 => ?_)
      have h := h μ17 em17
      have hp17 : qa_PP μ17.2.2 := by rw [em17]; exact hp16
      refine qa_ald0 dX9_asksTrades_78 ?_
      refine qa_V0V dX9_asksTrades_79 lm_X9_280 sh_91 rfl (by decide) (by decide) (Nat.le_of_ble_eq_true rfl) (tX9_goAll l hp17  h) (fun μ18 hp18 h => ?_)
      refine qa_ald0 dX9_asksTrades_82 ?_
      refine qa_ild1 dX9_asksTrades_83 ?_
      refine qa_V1I dX9_asksTrades_84 lm_X9_313 sh_91 rfl (by decide) (by decide) (Nat.le_of_ble_eq_true rfl) (tX9_sunAll l hp18  h) (fun r19 μ19 hp19 h => ?_)
      refine qa_ald0 dX9_asksTrades_87 ?_
      refine qa_getR dX9_asksTrades_88 lf_X9_58 rfl sh_91 (by decide) (pp_91_30 hp19) (by decide) ?_
      refine qa_ild1 dX9_asksTrades_91 ?_
      refine qa_iald dX9_asksTrades_92 sh_106 (by decide) h.1 ?_
      have h := h.2
      refine qa_icmp_le (tgt := 147) dX9_asksTrades_93 (by decide) (fun c20 => ?_) (fun c20 => ?_)
      · have h := h.1 c20
        refine qa_inc2 dX9_asksTrades_147 (qa_io1 _) ?_
        refine qa_goto (tgt := 60) dX9_asksTrades_150 (by decide) ?_
        refine qa_fgt (L' := [some (.ref 91), some (.int v1), some (.int (v2 + (1 : Int32)))]) (⟨rfl, ⟨rfl, ⟨rfl, trivial⟩⟩⟩) ?_
        exact ih v1 (v2 + (1 : Int32)) μ19 hp19  h
      · have h := h.2 c20
        refine qa_ald0 dX9_asksTrades_96 ?_
        refine qa_ild2 dX9_asksTrades_97 ?_
        refine qa_V1I dX9_asksTrades_98 lm_X9_313 sh_91 rfl (by decide) (by decide) (Nat.le_of_ble_eq_true rfl) (tX9_sunAll l hp19  h) (fun r21 μ21 hp21 h => ?_)
        refine qa_ald0 dX9_asksTrades_101 ?_
        refine qa_getR dX9_asksTrades_102 lf_X9_58 rfl sh_91 (by decide) (pp_91_30 hp21) (by decide) ?_
        refine qa_ild2 dX9_asksTrades_105 ?_
        refine qa_iald dX9_asksTrades_106 sh_106 (by decide) h.1 ?_
        have h := h.2
        refine qa_icmp_gt (tgt := 113) dX9_asksTrades_107 (by decide) (fun c22 => ?_) (fun c22 => ?_)
        · have h := h.1 c22
          refine qa_ald0 dX9_asksTrades_113 ?_
          refine qa_ald0 dX9_asksTrades_114 ?_
          refine qa_getI dX9_asksTrades_115 lf_X9_358 (Or.inl rfl) sh_91 (by decide) ?_
          refine qa_if_ne (tgt := 130) dX9_asksTrades_118 (by decide) (fun c23 => ?_) (fun c23 => ?_)
          · have h := h.1 c23
            refine qa_ald0 dX9_asksTrades_130 ?_
            refine qa_getI dX9_asksTrades_131 lf_X9_361 (Or.inl rfl) sh_91 (by decide) ?_
            refine qa_fgt (L' := [some (.ref 91), some (.int v1), some (.int v2)]) (⟨rfl, ⟨rfl, ⟨rfl, trivial⟩⟩⟩) ?_
            refine tX9_asksTrades_134 l ih n v1 v2 (μ21.1 91 32) μ21 hp21  h
          · have h := h.2 c23
            refine qa_bipush (v := 10) dX9_asksTrades_121 (by decide) ?_
            refine qa_ild1 dX9_asksTrades_123 ?_
            refine qa_imul dX9_asksTrades_124 ?_
            refine qa_ild2 dX9_asksTrades_125 ?_
            refine qa_iadd dX9_asksTrades_126 ?_
            refine qa_goto (tgt := 134) dX9_asksTrades_127 (by decide) ?_
            refine qa_fgt (L' := [some (.ref 91), some (.int v1), some (.int v2)]) (⟨rfl, ⟨rfl, ⟨rfl, trivial⟩⟩⟩) ?_
            refine tX9_asksTrades_134 l ih n v1 v2 (((10 : Int32) * v1) + v2) μ21 hp21  h
        · have h := h.2 c22
          refine qa_goto (tgt := 147) dX9_asksTrades_110 (by decide) ?_
          refine qa_inc2 dX9_asksTrades_147 (qa_io1 _) ?_
          refine qa_goto (tgt := 60) dX9_asksTrades_150 (by decide) ?_
          refine qa_fgt (L' := [some (.ref 91), some (.int v1), some (.int (v2 + (1 : Int32)))]) (⟨rfl, ⟨rfl, ⟨rfl, trivial⟩⟩⟩) ?_
          exact ih v1 (v2 + (1 : Int32)) μ21 hp21  h
theorem tX9_asksTrades_48 (l : Launch)  {Q : Int32 → qa_M → Prop}  : ∀ (n : Nat) (v1 : Int32) (μ0 : qa_M), qa_PP μ0.2.2 → wX9_asksTrades_48 n v1 μ0  Q → qa_G l yX9_asksTrades cX9_asksTrades 3 (some .boolean) 4 0 0 (qa_pI Q) 0 0 48 [some (.ref 91), some (.int v1), none] [] 113 μ0 := by
  intro n
  induction n with
  | zero =>
    intro v1 μ0 hp0  h
    rw [wX9_asksTrades_48] at h
    exact h.elim
  | succ n ih =>
    intro v1 μ0 hp0  h
    rw [wX9_asksTrades_48] at h
    refine qa_ild1 dX9_asksTrades_48 ?_
    refine qa_ald0 dX9_asksTrades_49 ?_
    refine qa_V0I dX9_asksTrades_50 lm_X9_100 sh_91 rfl (by decide) (by decide) (Nat.le_of_ble_eq_true rfl) (tX9_houses l hp0  h) (fun r11 μ11 hp11 h => ?_)
    refine qa_icmp_ge (tgt := 159) dX9_asksTrades_53 (by decide) (fun c12 => ?_) (fun c12 => ?_)
    · have h := h.1 c12
      refine qa_iconst (v := 1) dX9_asksTrades_159 (by decide) ?_
      exact qa_zret rfl rfl dX9_asksTrades_160 ⟨rfl, rfl⟩ ⟨rfl, hp11, _, rfl, h⟩
    · have h := h.2 c12
      refine qa_ild1 dX9_asksTrades_56 ?_
      refine qa_iconst (v := 1) dX9_asksTrades_57 (by decide) ?_
      refine qa_iadd dX9_asksTrades_58 ?_
      refine qa_nmI (fun x13 e13 => ?_)
      have h := h x13 e13
      refine qa_ist2 dX9_asksTrades_59 ?_
      refine qa_fgt (L' := [some (.ref 91), some (.int v1), some (.int x13)]) (⟨rfl, ⟨rfl, ⟨rfl, trivial⟩⟩⟩) ?_
      refine tX9_asksTrades_60 l ?_ n v1 x13 μ11 hp11  h
      · intro v1_27 μ26 hp26  h
        refine qa_inc1 dX9_asksTrades_153 (qa_io1 _) ?_
        refine qa_goto (tgt := 48) dX9_asksTrades_156 (by decide) ?_
        refine qa_fgt (L' := [some (.ref 91), some (.int (v1_27 + (1 : Int32))), none]) (⟨rfl, ⟨rfl, trivial⟩⟩) ?_
        exact ih (v1_27 + (1 : Int32)) μ26 hp26  h
theorem tX9_asksTrades (l : Launch) {n : Nat}  {μ0 : qa_M} {Q : Int32 → qa_M → Prop} (hp0 : qa_PP μ0.2.2)  (h : wX9_asksTrades n  μ0 Q) : qa_Met l yX9_asksTrades cX9_asksTrades 3 (some .boolean) 4 0 0 [.ref 91] 113 μ0 (qa_pI Q) := by
  refine qa_ofG (by decide) (Nat.le_of_ble_eq_true rfl) ?_
  unfold wX9_asksTrades at h
  change qa_G l yX9_asksTrades cX9_asksTrades 3 (some .boolean) 4 0 0 (qa_pI Q) 0 0 0 [some (.ref 91), none, none] [] 113 μ0
  refine qa_ald0 dX9_asksTrades_0 ?_
  refine qa_V0I dX9_asksTrades_1 lm_X9_283 sh_91 rfl (by decide) (by decide) (Nat.le_of_ble_eq_true rfl) (tX9_asksTown l hp0  h) (fun r1 μ1 hp1 h => ?_)
  refine qa_if_ne (tgt := 9) dX9_asksTrades_4 (by decide) (fun c2 => ?_) (fun c2 => ?_)
  · have h := h.1 c2
    refine qa_iconst (v := 0) dX9_asksTrades_9 (by decide) ?_
    refine qa_ist1 dX9_asksTrades_10 ?_
    refine qa_fgt (L' := [some (.ref 91), some (.int (0 : Int32)), none]) (⟨rfl, ⟨rfl, trivial⟩⟩) ?_
    refine tX9_asksTrades_11 l ?_ n (0 : Int32) μ1 hp1  h
    · intro  μ7 hp7  h
      refine qa_ald0 dX9_asksTrades_36 ?_
      refine qa_iconst (v := 0) dX9_asksTrades_37 (by decide) ?_
      refine qa_putI dX9_asksTrades_38 lf_X9_358 rfl sh_91 (by decide) rfl ?_
      refine qa_nmM (fun μ9 em9 => ?_)
      have h := h μ9 em9
      have hp9 : qa_PP μ9.2.2 := by rw [em9]; exact hp7
      refine qa_ald0 dX9_asksTrades_41 ?_
      refine qa_iconst (v := -1) dX9_asksTrades_42 (by decide) ?_
      refine qa_putI dX9_asksTrades_43 lf_X9_361 rfl sh_91 (by decide) rfl ?_
      refine qa_nmM (fun μ10 em10 => ?_)
      have h := h μ10 em10
      have hp10 : qa_PP μ10.2.2 := by rw [em10]; exact hp9
      refine qa_iconst (v := 0) dX9_asksTrades_46 (by decide) ?_
      refine qa_ist1 dX9_asksTrades_47 ?_
      refine qa_fgt (L' := [some (.ref 91), some (.int (0 : Int32)), none]) (⟨rfl, ⟨rfl, trivial⟩⟩) ?_
      refine tX9_asksTrades_48 l  n (0 : Int32) μ10 hp10  h
  · have h := h.2 c2
    refine qa_iconst (v := 0) dX9_asksTrades_7 (by decide) ?_
    exact qa_zret rfl rfl dX9_asksTrades_8 ⟨rfl, rfl⟩ ⟨rfl, hp1, _, rfl, h⟩
def wX9_at (n : Nat) (v1 : Int32) (v2 : Int32) (μ0 : qa_M) (Q : Int32 → qa_M → Prop) : Prop := wX9_asksWeek n v2 μ0 (fun r1 μ1 => ((r1 = 0 → Q (-2 : Int32) μ1) ∧ (¬ r1 = 0 → wX9_isHouse n v1 μ1 (fun r3 μ3 => ((r3 = 0 → Q (-2 : Int32) μ3) ∧ (¬ r3 = 0 → wX9_placeOf n v1 v2 μ3 (fun r5 μ5 => Q r5 μ5)))))))
theorem tX9_at (l : Launch) {n : Nat} {v1 : Int32} {v2 : Int32} {μ0 : qa_M} {Q : Int32 → qa_M → Prop} (hp0 : qa_PP μ0.2.2)  (h : wX9_at n v1 v2 μ0 Q) : qa_Met l yX9_at cX9_at 3 (some .int) 5 0 0 [.ref 91, .int v1, .int v2] 113 μ0 (qa_pI Q) := by
  refine qa_ofG (by decide) (Nat.le_of_ble_eq_true rfl) ?_
  unfold wX9_at at h
  change qa_G l yX9_at cX9_at 3 (some .int) 5 0 0 (qa_pI Q) 0 0 0 [some (.ref 91), some (.int v1), some (.int v2)] [] 113 μ0
  refine qa_ald0 dX9_at_0 ?_
  refine qa_ild2 dX9_at_1 ?_
  refine qa_V1I dX9_at_2 lm_X9_292 sh_91 rfl (by decide) (by decide) (Nat.le_of_ble_eq_true rfl) (tX9_asksWeek l hp0  h) (fun r1 μ1 hp1 h => ?_)
  refine qa_if_eq (tgt := 25) dX9_at_5 (by decide) (fun c2 => ?_) (fun c2 => ?_)
  · have h := h.1 c2
    refine qa_bipush (v := -2) dX9_at_25 (by decide) ?_
    exact qa_iret rfl dX9_at_27 ⟨rfl, rfl⟩ ⟨rfl, hp1, _, rfl, h⟩
  · have h := h.2 c2
    refine qa_ald0 dX9_at_8 ?_
    refine qa_ild1 dX9_at_9 ?_
    refine qa_V1I dX9_at_10 lm_X9_103 sh_91 rfl (by decide) (by decide) (Nat.le_of_ble_eq_true rfl) (tX9_isHouse l hp1  h) (fun r3 μ3 hp3 h => ?_)
    refine qa_if_eq (tgt := 25) dX9_at_13 (by decide) (fun c4 => ?_) (fun c4 => ?_)
    · have h := h.1 c4
      refine qa_bipush (v := -2) dX9_at_25 (by decide) ?_
      exact qa_iret rfl dX9_at_27 ⟨rfl, rfl⟩ ⟨rfl, hp3, _, rfl, h⟩
    · have h := h.2 c4
      refine qa_ald0 dX9_at_16 ?_
      refine qa_ild1 dX9_at_17 ?_
      refine qa_ild2 dX9_at_18 ?_
      refine qa_V2I dX9_at_19 lm_X9_261 sh_91 rfl (by decide) (by decide) (Nat.le_of_ble_eq_true rfl) (tX9_placeOf l hp3  h) (fun r5 μ5 hp5 h => ?_)
      refine qa_goto (tgt := 27) dX9_at_22 (by decide) ?_
      exact qa_iret rfl dX9_at_27 ⟨rfl, rfl⟩ ⟨rfl, hp5, _, rfl, h⟩
def wX9_back_29 : Nat → Int32 → Int32 → qa_M → (Int32 → qa_M → Prop) → Prop
  | 0, _, _, _, _ => False
  | n + 1, v1, v2, μ0, Q => (((114 : Int32) ≤ v2 → Q (0 : Int32) μ0) ∧ (¬ (114 : Int32) ≤ v2 → vp_in (((114 : Int32) * v1) + v2) 342 ∧ vp_in v2 114 ∧ ∀ μ5, μ5 = qa_uI μ0 92 v2.toNatClampNeg (μ0.1 93 (((114 : Int32) * v1) + v2).toNatClampNeg) → wX9_back_29 n v1 (v2 + (1 : Int32)) μ5 Q))
def wX9_back (n : Nat) (v1 : Int32) (μ0 : qa_M) (Q : Int32 → qa_M → Prop) : Prop := wX9_in n v1.toInt64 (0 : Int64) (2 : Int64) μ0 (fun r1 μ1 => ((¬ r1 = 0 → vp_in v1 3 ∧ ((¬ (μ1.1 94 v1.toNatClampNeg) = 0 → wX9_back_29 n v1 (0 : Int32) μ1  Q) ∧ ((μ1.1 94 v1.toNatClampNeg) = 0 → Q (-6 : Int32) μ1))) ∧ (r1 = 0 → Q (-2 : Int32) μ1)))
theorem tX9_back_29 (l : Launch)  {Q : Int32 → qa_M → Prop}  : ∀ (n : Nat) (v1 : Int32) (v2 : Int32) (μ0 : qa_M), qa_PP μ0.2.2 → wX9_back_29 n v1 v2 μ0  Q → qa_G l yX9_back cX9_back 3 (some .int) 1 0 0 (qa_pI Q) 0 0 29 [some (.ref 91), some (.int v1), some (.int v2)] [] 113 μ0 := by
  intro n
  induction n with
  | zero =>
    intro v1 v2 μ0 hp0  h
    rw [wX9_back_29] at h
    exact h.elim
  | succ n ih =>
    intro v1 v2 μ0 hp0  h
    rw [wX9_back_29] at h
    refine qa_ild2 dX9_back_29 ?_
    refine qa_bipush (v := 114) dX9_back_30 (by decide) ?_
    refine qa_icmp_ge (tgt := 58) dX9_back_32 (by decide) (fun c4 => ?_) (fun c4 => ?_)
    · have h := h.1 c4
      refine qa_iconst (v := 0) dX9_back_58 (by decide) ?_
      exact qa_iret rfl dX9_back_59 ⟨rfl, rfl⟩ ⟨rfl, hp0, _, rfl, h⟩
    · have h := h.2 c4
      refine qa_ald0 dX9_back_35 ?_
      refine qa_getR dX9_back_36 lf_X9_9 rfl sh_91 (by decide) (pp_91_1 hp0) (by decide) ?_
      refine qa_ild2 dX9_back_39 ?_
      refine qa_ald0 dX9_back_40 ?_
      refine qa_getR dX9_back_41 lf_X9_13 rfl sh_91 (by decide) (pp_91_2 hp0) (by decide) ?_
      refine qa_bipush (v := 114) dX9_back_44 (by decide) ?_
      refine qa_ild1 dX9_back_46 ?_
      refine qa_imul dX9_back_47 ?_
      refine qa_ild2 dX9_back_48 ?_
      refine qa_iadd dX9_back_49 ?_
      refine qa_iald dX9_back_50 sh_93 (by decide) h.1 ?_
      have h := h.2
      refine qa_iast dX9_back_51 sh_92 (by decide) h.1 ?_
      have h := h.2
      refine qa_nmM (fun μ5 em5 => ?_)
      have h := h μ5 em5
      have hp5 : qa_PP μ5.2.2 := by rw [em5]; exact hp0
      refine qa_inc2 dX9_back_52 (qa_io1 _) ?_
      refine qa_goto (tgt := 29) dX9_back_55 (by decide) ?_
      refine qa_fgt (L' := [some (.ref 91), some (.int v1), some (.int (v2 + (1 : Int32)))]) (⟨rfl, ⟨rfl, ⟨rfl, trivial⟩⟩⟩) ?_
      exact ih v1 (v2 + (1 : Int32)) μ5 hp5  h
theorem tX9_back (l : Launch) {n : Nat} {v1 : Int32} {μ0 : qa_M} {Q : Int32 → qa_M → Prop} (hp0 : qa_PP μ0.2.2)  (h : wX9_back n v1 μ0 Q) : qa_Met l yX9_back cX9_back 3 (some .int) 1 0 0 [.ref 91, .int v1] 113 μ0 (qa_pI Q) := by
  refine qa_ofG (by decide) (Nat.le_of_ble_eq_true rfl) ?_
  unfold wX9_back at h
  change qa_G l yX9_back cX9_back 3 (some .int) 1 0 0 (qa_pI Q) 0 0 0 [some (.ref 91), some (.int v1), none] [] 113 μ0
  refine qa_ild1 dX9_back_0 ?_
  refine qa_i2l dX9_back_1 ?_
  refine qa_lconst (v := 0) dX9_back_2 (by decide) ?_
  refine qa_ldc2 dX9_back_3 lk_X9_86 ?_
  refine qa_S3I dX9_back_6 lm_X9_88  (by decide) (Nat.le_of_ble_eq_true rfl) (tX9_in l hp0  h) (fun r1 μ1 hp1 h => ?_)
  refine qa_if_ne (tgt := 15) dX9_back_9 (by decide) (fun c2 => ?_) (fun c2 => ?_)
  · have h := h.1 c2
    refine qa_ald0 dX9_back_15 ?_
    refine qa_getR dX9_back_16 lf_X9_16 rfl sh_91 (by decide) (pp_91_3 hp1) (by decide) ?_
    refine qa_ild1 dX9_back_19 ?_
    refine qa_zald dX9_back_20 sh_94 (by decide) h.1 ?_
    have h := h.2
    refine qa_if_ne (tgt := 27) dX9_back_21 (by decide) (fun c3 => ?_) (fun c3 => ?_)
    · have h := h.1 c3
      refine qa_iconst (v := 0) dX9_back_27 (by decide) ?_
      refine qa_ist2 dX9_back_28 ?_
      refine qa_fgt (L' := [some (.ref 91), some (.int v1), some (.int (0 : Int32))]) (⟨rfl, ⟨rfl, ⟨rfl, trivial⟩⟩⟩) ?_
      refine tX9_back_29 l  n v1 (0 : Int32) μ1 hp1  h
    · have h := h.2 c3
      refine qa_bipush (v := -6) dX9_back_24 (by decide) ?_
      exact qa_iret rfl dX9_back_26 ⟨rfl, rfl⟩ ⟨rfl, hp1, _, rfl, h⟩
  · have h := h.2 c2
    refine qa_bipush (v := -2) dX9_back_12 (by decide) ?_
    exact qa_iret rfl dX9_back_14 ⟨rfl, rfl⟩ ⟨rfl, hp1, _, rfl, h⟩
def wX9_backs_37 (n : Nat) (v2 : Int32) (s0 : Int32) (s1 : Int32) (μ0 : qa_M) (K0 : Int32 → Int32 → qa_M → Prop) (Q : Int32 → qa_M → Prop) : Prop := ∀ x6, x6 = (s1 + s0) → K0 x6 (v2 + (1 : Int32)) μ0
def wX9_backs_14 : Nat → Int32 → Int32 → qa_M → (Int32 → qa_M → Prop) → Prop
  | 0, _, _, _, _ => False
  | n + 1, v1, v2, μ0, Q => wX9_weeks n  μ0 (fun r3 μ3 => ((r3 ≤ v2 → Q v1 μ3) ∧ (¬ r3 ≤ v2 → vp_in v2 20 ∧ ((0 ≤ (μ3.1 104 v2.toNatClampNeg) → wX9_backs_37 n v2 (0 : Int32) v1 μ3 (fun v1 v2 μk => wX9_backs_14 n v1 v2 μk Q) Q) ∧ (¬ 0 ≤ (μ3.1 104 v2.toNatClampNeg) → wX9_backs_37 n v2 (1 : Int32) v1 μ3 (fun v1 v2 μk => wX9_backs_14 n v1 v2 μk Q) Q)))))
def wX9_backs (n : Nat)  (μ0 : qa_M) (Q : Int32 → qa_M → Prop) : Prop := wX9_asksTown n  μ0 (fun r1 μ1 => ((¬ r1 = 0 → wX9_backs_14 n (0 : Int32) (0 : Int32) μ1  Q) ∧ (r1 = 0 → Q (-2 : Int32) μ1)))
theorem tX9_backs_37 (l : Launch) {K0 : Int32 → Int32 → qa_M → Prop} {Q : Int32 → qa_M → Prop} (hK0 : ∀ (v1 : Int32) (v2 : Int32) (μ : qa_M), qa_PP μ.2.2 → K0 v1 v2 μ → qa_G l yX9_backs cX9_backs 3 (some .int) 4 0 0 (qa_pI Q) 0 0 14 [some (.ref 91), some (.int v1), some (.int v2)] [] 113 μ) : ∀ (n : Nat) (v2 : Int32) (s0 : Int32) (s1 : Int32) (μ0 : qa_M), qa_PP μ0.2.2 → wX9_backs_37 n v2 s0 s1 μ0 K0 Q → qa_G l yX9_backs cX9_backs 3 (some .int) 4 0 0 (qa_pI Q) 0 0 37 [some (.ref 91), none, some (.int v2)] [.int s0, .int s1] 113 μ0 := by
  intro n
  intro v2 s0 s1 μ0 hp0  h
  unfold wX9_backs_37 at h
  refine qa_iadd dX9_backs_37 ?_
  refine qa_nmI (fun x6 e6 => ?_)
  have h := h x6 e6
  refine qa_ist1 dX9_backs_38 ?_
  refine qa_inc2 dX9_backs_39 (qa_io1 _) ?_
  refine qa_goto (tgt := 14) dX9_backs_42 (by decide) ?_
  refine qa_fgt (L' := [some (.ref 91), some (.int x6), some (.int (v2 + (1 : Int32)))]) (⟨rfl, ⟨rfl, ⟨rfl, trivial⟩⟩⟩) ?_
  exact hK0 x6 (v2 + (1 : Int32)) μ0 hp0  h
theorem tX9_backs_14 (l : Launch)  {Q : Int32 → qa_M → Prop}  : ∀ (n : Nat) (v1 : Int32) (v2 : Int32) (μ0 : qa_M), qa_PP μ0.2.2 → wX9_backs_14 n v1 v2 μ0  Q → qa_G l yX9_backs cX9_backs 3 (some .int) 4 0 0 (qa_pI Q) 0 0 14 [some (.ref 91), some (.int v1), some (.int v2)] [] 113 μ0 := by
  intro n
  induction n with
  | zero =>
    intro v1 v2 μ0 hp0  h
    rw [wX9_backs_14] at h
    exact h.elim
  | succ n ih =>
    intro v1 v2 μ0 hp0  h
    rw [wX9_backs_14] at h
    refine qa_ild2 dX9_backs_14 ?_
    refine qa_ald0 dX9_backs_15 ?_
    refine qa_V0I dX9_backs_16 lm_X9_96 sh_91 rfl (by decide) (by decide) (Nat.le_of_ble_eq_true rfl) (tX9_weeks l hp0  h) (fun r3 μ3 hp3 h => ?_)
    refine qa_icmp_ge (tgt := 45) dX9_backs_19 (by decide) (fun c4 => ?_) (fun c4 => ?_)
    · have h := h.1 c4
      refine qa_ild1 dX9_backs_45 ?_
      exact qa_iret rfl dX9_backs_46 ⟨rfl, rfl⟩ ⟨rfl, hp3, _, rfl, h⟩
    · have h := h.2 c4
      refine qa_ild1 dX9_backs_22 ?_
      refine qa_ald0 dX9_backs_23 ?_
      refine qa_getR dX9_backs_24 lf_X9_52 rfl sh_91 (by decide) (pp_91_28 hp3) (by decide) ?_
      refine qa_ild2 dX9_backs_27 ?_
      refine qa_iald dX9_backs_28 sh_104 (by decide) h.1 ?_
      have h := h.2
      refine qa_if_ge (tgt := 36) dX9_backs_29 (by decide) (fun c5 => ?_) (fun c5 => ?_)
      · have h := h.1 c5
        refine qa_iconst (v := 0) dX9_backs_36 (by decide) ?_
        refine qa_fgt (L' := [some (.ref 91), none, some (.int v2)]) (⟨rfl, ⟨rfl, trivial⟩⟩) ?_
        refine tX9_backs_37 l ih n v2 (0 : Int32) v1 μ3 hp3  h
      · have h := h.2 c5
        refine qa_iconst (v := 1) dX9_backs_32 (by decide) ?_
        refine qa_goto (tgt := 37) dX9_backs_33 (by decide) ?_
        refine qa_fgt (L' := [some (.ref 91), none, some (.int v2)]) (⟨rfl, ⟨rfl, trivial⟩⟩) ?_
        refine tX9_backs_37 l ih n v2 (1 : Int32) v1 μ3 hp3  h
theorem tX9_backs (l : Launch) {n : Nat}  {μ0 : qa_M} {Q : Int32 → qa_M → Prop} (hp0 : qa_PP μ0.2.2)  (h : wX9_backs n  μ0 Q) : qa_Met l yX9_backs cX9_backs 3 (some .int) 4 0 0 [.ref 91] 113 μ0 (qa_pI Q) := by
  refine qa_ofG (by decide) (Nat.le_of_ble_eq_true rfl) ?_
  unfold wX9_backs at h
  change qa_G l yX9_backs cX9_backs 3 (some .int) 4 0 0 (qa_pI Q) 0 0 0 [some (.ref 91), none, none] [] 113 μ0
  refine qa_ald0 dX9_backs_0 ?_
  refine qa_V0I dX9_backs_1 lm_X9_283 sh_91 rfl (by decide) (by decide) (Nat.le_of_ble_eq_true rfl) (tX9_asksTown l hp0  h) (fun r1 μ1 hp1 h => ?_)
  refine qa_if_ne (tgt := 10) dX9_backs_4 (by decide) (fun c2 => ?_) (fun c2 => ?_)
  · have h := h.1 c2
    refine qa_iconst (v := 0) dX9_backs_10 (by decide) ?_
    refine qa_ist1 dX9_backs_11 ?_
    refine qa_iconst (v := 0) dX9_backs_12 (by decide) ?_
    refine qa_ist2 dX9_backs_13 ?_
    refine qa_fgt (L' := [some (.ref 91), some (.int (0 : Int32)), some (.int (0 : Int32))]) (⟨rfl, ⟨rfl, ⟨rfl, trivial⟩⟩⟩) ?_
    refine tX9_backs_14 l  n (0 : Int32) (0 : Int32) μ1 hp1  h
  · have h := h.2 c2
    refine qa_bipush (v := -2) dX9_backs_7 (by decide) ?_
    exact qa_iret rfl dX9_backs_9 ⟨rfl, rfl⟩ ⟨rfl, hp1, _, rfl, h⟩
def wX9_beside_19 : Nat → Int32 → Int32 → Int32 → qa_M → (Int32 → qa_M → Prop) → Prop
  | 0, _, _, _, _, _ => False
  | n + 1, v1, v2, v3, μ0, Q => wX9_weeks n  μ0 (fun r4 μ4 => ((r4 < v3 → Q (-1 : Int32) μ4) ∧ (¬ r4 < v3 → wX9_areBeside n v1 v2 v3 μ4 (fun r6 μ6 => ((r6 = 0 → wX9_beside_19 n v1 v2 (v3 + (1 : Int32)) μ6 Q) ∧ (¬ r6 = 0 → Q v3 μ6))))))
def wX9_beside (n : Nat) (v1 : Int32) (v2 : Int32) (μ0 : qa_M) (Q : Int32 → qa_M → Prop) : Prop := wX9_asksTown n  μ0 (fun r1 μ1 => wX9_areTwo n v1 v2 μ1 (fun r2 μ2 => ((¬ r2 = 0 → wX9_beside_19 n v1 v2 (0 : Int32) μ2  Q) ∧ (r2 = 0 → Q (-2 : Int32) μ2))))
theorem tX9_beside_19 (l : Launch)  {Q : Int32 → qa_M → Prop}  : ∀ (n : Nat) (v1 : Int32) (v2 : Int32) (v3 : Int32) (μ0 : qa_M), qa_PP μ0.2.2 → wX9_beside_19 n v1 v2 v3 μ0  Q → qa_G l yX9_beside cX9_beside 4 (some .int) 4 0 0 (qa_pI Q) 0 0 19 [some (.ref 91), some (.int v1), some (.int v2), some (.int v3)] [] 113 μ0 := by
  intro n
  induction n with
  | zero =>
    intro v1 v2 v3 μ0 hp0  h
    rw [wX9_beside_19] at h
    exact h.elim
  | succ n ih =>
    intro v1 v2 v3 μ0 hp0  h
    rw [wX9_beside_19] at h
    refine qa_ild3 dX9_beside_19 ?_
    refine qa_ald0 dX9_beside_20 ?_
    refine qa_V0I dX9_beside_21 lm_X9_96 sh_91 rfl (by decide) (by decide) (Nat.le_of_ble_eq_true rfl) (tX9_weeks l hp0  h) (fun r4 μ4 hp4 h => ?_)
    refine qa_icmp_gt (tgt := 45) dX9_beside_24 (by decide) (fun c5 => ?_) (fun c5 => ?_)
    · have h := h.1 c5
      refine qa_iconst (v := -1) dX9_beside_45 (by decide) ?_
      exact qa_iret rfl dX9_beside_46 ⟨rfl, rfl⟩ ⟨rfl, hp4, _, rfl, h⟩
    · have h := h.2 c5
      refine qa_ald0 dX9_beside_27 ?_
      refine qa_ild1 dX9_beside_28 ?_
      refine qa_ild2 dX9_beside_29 ?_
      refine qa_ild3 dX9_beside_30 ?_
      refine qa_V3I dX9_beside_31 lm_X9_332 sh_91 rfl (by decide) (by decide) (Nat.le_of_ble_eq_true rfl) (tX9_areBeside l hp4  h) (fun r6 μ6 hp6 h => ?_)
      refine qa_if_eq (tgt := 39) dX9_beside_34 (by decide) (fun c7 => ?_) (fun c7 => ?_)
      · have h := h.1 c7
        refine qa_inc3 dX9_beside_39 (qa_io1 _) ?_
        refine qa_goto (tgt := 19) dX9_beside_42 (by decide) ?_
        refine qa_fgt (L' := [some (.ref 91), some (.int v1), some (.int v2), some (.int (v3 + (1 : Int32)))]) (⟨rfl, ⟨rfl, ⟨rfl, ⟨rfl, trivial⟩⟩⟩⟩) ?_
        exact ih v1 v2 (v3 + (1 : Int32)) μ6 hp6  h
      · have h := h.2 c7
        refine qa_ild3 dX9_beside_37 ?_
        exact qa_iret rfl dX9_beside_38 ⟨rfl, rfl⟩ ⟨rfl, hp6, _, rfl, h⟩
theorem tX9_beside (l : Launch) {n : Nat} {v1 : Int32} {v2 : Int32} {μ0 : qa_M} {Q : Int32 → qa_M → Prop} (hp0 : qa_PP μ0.2.2)  (h : wX9_beside n v1 v2 μ0 Q) : qa_Met l yX9_beside cX9_beside 4 (some .int) 4 0 0 [.ref 91, .int v1, .int v2] 113 μ0 (qa_pI Q) := by
  refine qa_ofG (by decide) (Nat.le_of_ble_eq_true rfl) ?_
  unfold wX9_beside at h
  change qa_G l yX9_beside cX9_beside 4 (some .int) 4 0 0 (qa_pI Q) 0 0 0 [some (.ref 91), some (.int v1), some (.int v2), none] [] 113 μ0
  refine qa_ald0 dX9_beside_0 ?_
  refine qa_V0I dX9_beside_1 lm_X9_283 sh_91 rfl (by decide) (by decide) (Nat.le_of_ble_eq_true rfl) (tX9_asksTown l hp0  h) (fun r1 μ1 hp1 h => ?_)
  refine qa_pop dX9_beside_4 rfl ?_
  refine qa_ald0 dX9_beside_5 ?_
  refine qa_ild1 dX9_beside_6 ?_
  refine qa_ild2 dX9_beside_7 ?_
  refine qa_V2I dX9_beside_8 lm_X9_328 sh_91 rfl (by decide) (by decide) (Nat.le_of_ble_eq_true rfl) (tX9_areTwo l hp1  h) (fun r2 μ2 hp2 h => ?_)
  refine qa_if_ne (tgt := 17) dX9_beside_11 (by decide) (fun c3 => ?_) (fun c3 => ?_)
  · have h := h.1 c3
    refine qa_iconst (v := 0) dX9_beside_17 (by decide) ?_
    refine qa_ist3 dX9_beside_18 ?_
    refine qa_fgt (L' := [some (.ref 91), some (.int v1), some (.int v2), some (.int (0 : Int32))]) (⟨rfl, ⟨rfl, ⟨rfl, ⟨rfl, trivial⟩⟩⟩⟩) ?_
    refine tX9_beside_19 l  n v1 v2 (0 : Int32) μ2 hp2  h
  · have h := h.2 c3
    refine qa_bipush (v := -2) dX9_beside_14 (by decide) ?_
    exact qa_iret rfl dX9_beside_16 ⟨rfl, rfl⟩ ⟨rfl, hp2, _, rfl, h⟩
def wX9_best_53 (n : Nat) (v1 : Int32) (v3 : Int32) (s0 : Int32) (μ0 : qa_M) (K0 : Int32 → Int32 → Int32 → qa_M → Prop) (Q : Int32 → qa_M → Prop) : Prop := K0 v1 s0 (v3 + (1 : Int32)) μ0
def wX9_best_15 : Nat → Int32 → Int32 → Int32 → qa_M → (Int32 → qa_M → Prop) → Prop
  | 0, _, _, _, _, _ => False
  | n + 1, v1, v2, v3, μ0, Q => wX9_weeks n  μ0 (fun r3 μ3 => ((r3 < v3 → Q v2 μ3) ∧ (¬ r3 < v3 → wX9_placeOf n v1 v3 μ3 (fun r5 μ5 => vp_in r5 8 ∧ wX9_placeOf n v1 v2 μ5 (fun r6 μ6 => vp_in r6 8 ∧ (((μ5.1 98 r5.toNatClampNeg) ≤ (μ6.1 98 r6.toNatClampNeg) → wX9_best_53 n v1 v3 v2 μ6 (fun v1 v2 v3 μk => wX9_best_15 n v1 v2 v3 μk Q) Q) ∧ (¬ (μ5.1 98 r5.toNatClampNeg) ≤ (μ6.1 98 r6.toNatClampNeg) → wX9_best_53 n v1 v3 v3 μ6 (fun v1 v2 v3 μk => wX9_best_15 n v1 v2 v3 μk Q) Q)))))))
def wX9_best (n : Nat) (v1 : Int32) (μ0 : qa_M) (Q : Int32 → qa_M → Prop) : Prop := wX9_asksHouse n v1 μ0 (fun r1 μ1 => ((¬ r1 = 0 → wX9_best_15 n v1 (0 : Int32) (1 : Int32) μ1  Q) ∧ (r1 = 0 → Q (-2 : Int32) μ1)))
theorem tX9_best_53 (l : Launch) {K0 : Int32 → Int32 → Int32 → qa_M → Prop} {Q : Int32 → qa_M → Prop} (hK0 : ∀ (v1 : Int32) (v2 : Int32) (v3 : Int32) (μ : qa_M), qa_PP μ.2.2 → K0 v1 v2 v3 μ → qa_G l yX9_best cX9_best 4 (some .int) 5 0 0 (qa_pI Q) 0 0 15 [some (.ref 91), some (.int v1), some (.int v2), some (.int v3)] [] 113 μ) : ∀ (n : Nat) (v1 : Int32) (v3 : Int32) (s0 : Int32) (μ0 : qa_M), qa_PP μ0.2.2 → wX9_best_53 n v1 v3 s0 μ0 K0 Q → qa_G l yX9_best cX9_best 4 (some .int) 5 0 0 (qa_pI Q) 0 0 53 [some (.ref 91), some (.int v1), none, some (.int v3)] [.int s0] 113 μ0 := by
  intro n
  intro v1 v3 s0 μ0 hp0  h
  unfold wX9_best_53 at h
  refine qa_ist2 dX9_best_53 ?_
  refine qa_inc3 dX9_best_54 (qa_io1 _) ?_
  refine qa_goto (tgt := 15) dX9_best_57 (by decide) ?_
  refine qa_fgt (L' := [some (.ref 91), some (.int v1), some (.int s0), some (.int (v3 + (1 : Int32)))]) (⟨rfl, ⟨rfl, ⟨rfl, ⟨rfl, trivial⟩⟩⟩⟩) ?_
  exact hK0 v1 s0 (v3 + (1 : Int32)) μ0 hp0  h
theorem tX9_best_15 (l : Launch)  {Q : Int32 → qa_M → Prop}  : ∀ (n : Nat) (v1 : Int32) (v2 : Int32) (v3 : Int32) (μ0 : qa_M), qa_PP μ0.2.2 → wX9_best_15 n v1 v2 v3 μ0  Q → qa_G l yX9_best cX9_best 4 (some .int) 5 0 0 (qa_pI Q) 0 0 15 [some (.ref 91), some (.int v1), some (.int v2), some (.int v3)] [] 113 μ0 := by
  intro n
  induction n with
  | zero =>
    intro v1 v2 v3 μ0 hp0  h
    rw [wX9_best_15] at h
    exact h.elim
  | succ n ih =>
    intro v1 v2 v3 μ0 hp0  h
    rw [wX9_best_15] at h
    refine qa_ild3 dX9_best_15 ?_
    refine qa_ald0 dX9_best_16 ?_
    refine qa_V0I dX9_best_17 lm_X9_96 sh_91 rfl (by decide) (by decide) (Nat.le_of_ble_eq_true rfl) (tX9_weeks l hp0  h) (fun r3 μ3 hp3 h => ?_)
    refine qa_icmp_gt (tgt := 60) dX9_best_20 (by decide) (fun c4 => ?_) (fun c4 => ?_)
    · have h := h.1 c4
      refine qa_ild2 dX9_best_60 ?_
      exact qa_iret rfl dX9_best_61 ⟨rfl, rfl⟩ ⟨rfl, hp3, _, rfl, h⟩
    · have h := h.2 c4
      refine qa_ald0 dX9_best_23 ?_
      refine qa_getR dX9_best_24 lf_X9_34 rfl sh_91 (by decide) (pp_91_15 hp3) (by decide) ?_
      refine qa_ald0 dX9_best_27 ?_
      refine qa_ild1 dX9_best_28 ?_
      refine qa_ild3 dX9_best_29 ?_
      refine qa_V2I dX9_best_30 lm_X9_261 sh_91 rfl (by decide) (by decide) (Nat.le_of_ble_eq_true rfl) (tX9_placeOf l hp3  h) (fun r5 μ5 hp5 h => ?_)
      refine qa_iald dX9_best_33 sh_98 (by decide) h.1 ?_
      have h := h.2
      refine qa_ald0 dX9_best_34 ?_
      refine qa_getR dX9_best_35 lf_X9_34 rfl sh_91 (by decide) (pp_91_15 hp5) (by decide) ?_
      refine qa_ald0 dX9_best_38 ?_
      refine qa_ild1 dX9_best_39 ?_
      refine qa_ild2 dX9_best_40 ?_
      refine qa_V2I dX9_best_41 lm_X9_261 sh_91 rfl (by decide) (by decide) (Nat.le_of_ble_eq_true rfl) (tX9_placeOf l hp5  h) (fun r6 μ6 hp6 h => ?_)
      refine qa_iald dX9_best_44 sh_98 (by decide) h.1 ?_
      have h := h.2
      refine qa_icmp_le (tgt := 52) dX9_best_45 (by decide) (fun c7 => ?_) (fun c7 => ?_)
      · have h := h.1 c7
        refine qa_ild2 dX9_best_52 ?_
        refine qa_fgt (L' := [some (.ref 91), some (.int v1), none, some (.int v3)]) (⟨rfl, ⟨rfl, ⟨rfl, trivial⟩⟩⟩) ?_
        refine tX9_best_53 l ih n v1 v3 v2 μ6 hp6  h
      · have h := h.2 c7
        refine qa_ild3 dX9_best_48 ?_
        refine qa_goto (tgt := 53) dX9_best_49 (by decide) ?_
        refine qa_fgt (L' := [some (.ref 91), some (.int v1), none, some (.int v3)]) (⟨rfl, ⟨rfl, ⟨rfl, trivial⟩⟩⟩) ?_
        refine tX9_best_53 l ih n v1 v3 v3 μ6 hp6  h
theorem tX9_best (l : Launch) {n : Nat} {v1 : Int32} {μ0 : qa_M} {Q : Int32 → qa_M → Prop} (hp0 : qa_PP μ0.2.2)  (h : wX9_best n v1 μ0 Q) : qa_Met l yX9_best cX9_best 4 (some .int) 5 0 0 [.ref 91, .int v1] 113 μ0 (qa_pI Q) := by
  refine qa_ofG (by decide) (Nat.le_of_ble_eq_true rfl) ?_
  unfold wX9_best at h
  change qa_G l yX9_best cX9_best 4 (some .int) 5 0 0 (qa_pI Q) 0 0 0 [some (.ref 91), some (.int v1), none, none] [] 113 μ0
  refine qa_ald0 dX9_best_0 ?_
  refine qa_ild1 dX9_best_1 ?_
  refine qa_V1I dX9_best_2 lm_X9_307 sh_91 rfl (by decide) (by decide) (Nat.le_of_ble_eq_true rfl) (tX9_asksHouse l hp0  h) (fun r1 μ1 hp1 h => ?_)
  refine qa_if_ne (tgt := 11) dX9_best_5 (by decide) (fun c2 => ?_) (fun c2 => ?_)
  · have h := h.1 c2
    refine qa_iconst (v := 0) dX9_best_11 (by decide) ?_
    refine qa_ist2 dX9_best_12 ?_
    refine qa_iconst (v := 1) dX9_best_13 (by decide) ?_
    refine qa_ist3 dX9_best_14 ?_
    refine qa_fgt (L' := [some (.ref 91), some (.int v1), some (.int (0 : Int32)), some (.int (1 : Int32))]) (⟨rfl, ⟨rfl, ⟨rfl, ⟨rfl, trivial⟩⟩⟩⟩) ?_
    refine tX9_best_15 l  n v1 (0 : Int32) (1 : Int32) μ1 hp1  h
  · have h := h.2 c2
    refine qa_bipush (v := -2) dX9_best_8 (by decide) ?_
    exact qa_iret rfl dX9_best_10 ⟨rfl, rfl⟩ ⟨rfl, hp1, _, rfl, h⟩
def wX9_bits_4 : Nat → Int32 → Int32 → Int32 → qa_M → (Int32 → qa_M → Prop) → Prop
  | 0, _, _, _, _, _ => False
  | n + 1, v0, v1, v2, μ0, Q => (((20 : Int32) ≤ v2 → Q v1 μ0) ∧ (¬ (20 : Int32) ≤ v2 → ∀ x2, x2 = (v1 + ((v0 >>> (v2 &&& 31)) &&& (1 : Int32))) → wX9_bits_4 n v0 x2 (v2 + (1 : Int32)) μ0 Q))
def wX9_bits (n : Nat) (v0 : Int32) (μ0 : qa_M) (Q : Int32 → qa_M → Prop) : Prop := wX9_bits_4 n v0 (0 : Int32) (0 : Int32) μ0  Q
theorem tX9_bits_4 (l : Launch)  {Q : Int32 → qa_M → Prop}  : ∀ (n : Nat) (v0 : Int32) (v1 : Int32) (v2 : Int32) (μ0 : qa_M), qa_PP μ0.2.2 → wX9_bits_4 n v0 v1 v2 μ0  Q → qa_G l yX9_bits cX9_bits 3 (some .int) 0 0 0 (qa_pI Q) 0 0 4 [some (.int v0), some (.int v1), some (.int v2)] [] 113 μ0 := by
  intro n
  induction n with
  | zero =>
    intro v0 v1 v2 μ0 hp0  h
    rw [wX9_bits_4] at h
    exact h.elim
  | succ n ih =>
    intro v0 v1 v2 μ0 hp0  h
    rw [wX9_bits_4] at h
    refine qa_ild2 dX9_bits_4 ?_
    refine qa_bipush (v := 20) dX9_bits_5 (by decide) ?_
    refine qa_icmp_ge (tgt := 24) dX9_bits_7 (by decide) (fun c1 => ?_) (fun c1 => ?_)
    · have h := h.1 c1
      refine qa_ild1 dX9_bits_24 ?_
      exact qa_iret rfl dX9_bits_25 ⟨rfl, rfl⟩ ⟨rfl, hp0, _, rfl, h⟩
    · have h := h.2 c1
      refine qa_ild1 dX9_bits_10 ?_
      refine qa_ild0 dX9_bits_11 ?_
      refine qa_ild2 dX9_bits_12 ?_
      refine qa_ishr dX9_bits_13 ?_
      refine qa_iconst (v := 1) dX9_bits_14 (by decide) ?_
      refine qa_iand dX9_bits_15 ?_
      refine qa_iadd dX9_bits_16 ?_
      refine qa_nmI (fun x2 e2 => ?_)
      have h := h x2 e2
      refine qa_ist1 dX9_bits_17 ?_
      refine qa_inc2 dX9_bits_18 (qa_io1 _) ?_
      refine qa_goto (tgt := 4) dX9_bits_21 (by decide) ?_
      refine qa_fgt (L' := [some (.int v0), some (.int x2), some (.int (v2 + (1 : Int32)))]) (⟨rfl, ⟨rfl, ⟨rfl, trivial⟩⟩⟩) ?_
      exact ih v0 x2 (v2 + (1 : Int32)) μ0 hp0  h
theorem tX9_bits (l : Launch) {n : Nat} {v0 : Int32} {μ0 : qa_M} {Q : Int32 → qa_M → Prop} (hp0 : qa_PP μ0.2.2)  (h : wX9_bits n v0 μ0 Q) : qa_Met l yX9_bits cX9_bits 3 (some .int) 0 0 0 [.int v0] 113 μ0 (qa_pI Q) := by
  refine qa_ofG (by decide) (Nat.le_of_ble_eq_true rfl) ?_
  unfold wX9_bits at h
  change qa_G l yX9_bits cX9_bits 3 (some .int) 0 0 0 (qa_pI Q) 0 0 0 [some (.int v0), none, none] [] 113 μ0
  refine qa_iconst (v := 0) dX9_bits_0 (by decide) ?_
  refine qa_ist1 dX9_bits_1 ?_
  refine qa_iconst (v := 0) dX9_bits_2 (by decide) ?_
  refine qa_ist2 dX9_bits_3 ?_
  refine qa_fgt (L' := [some (.int v0), some (.int (0 : Int32)), some (.int (0 : Int32))]) (⟨rfl, ⟨rfl, ⟨rfl, trivial⟩⟩⟩) ?_
  refine tX9_bits_4 l  n v0 (0 : Int32) (0 : Int32) μ0 hp0  h
def wX9_brownOf_30 (n : Nat) (v2 : Int32) (μ0 : qa_M) (K0 : Int32 → Int32 → qa_M → Prop) (Q : Int32 → qa_M → Prop) : Prop := K0 v2 (v2 + (1 : Int32)) μ0
def wX9_brownOf_4 : Nat → Int32 → Int32 → qa_M → (Int32 → qa_M → Prop) → Prop
  | 0, _, _, _, _ => False
  | n + 1, v1, v2, μ0, Q => wX9_houses n  μ0 (fun r1 μ1 => ((r1 ≤ v2 → Q v1 μ1) ∧ (¬ r1 ≤ v2 → ((v1 = (-1 : Int32) → wX9_brownOf_30 n v2 μ1 (fun v1 v2 μk => wX9_brownOf_4 n v1 v2 μk Q) Q) ∧ (¬ v1 = (-1 : Int32) → wX9_sunAll n v2 μ1 (fun r4 μ4 => wX9_sunAll n v1 μ4 (fun r5 μ5 => ((r4 ≤ r5 → wX9_brownOf_4 n v1 (v2 + (1 : Int32)) μ5 Q) ∧ (¬ r4 ≤ r5 → wX9_brownOf_30 n v2 μ5 (fun v1 v2 μk => wX9_brownOf_4 n v1 v2 μk Q) Q)))))))))
def wX9_brownOf (n : Nat)  (μ0 : qa_M) (Q : Int32 → qa_M → Prop) : Prop := wX9_brownOf_4 n (-1 : Int32) (0 : Int32) μ0  Q
theorem tX9_brownOf_30 (l : Launch) {K0 : Int32 → Int32 → qa_M → Prop} {Q : Int32 → qa_M → Prop} (hK0 : ∀ (v1 : Int32) (v2 : Int32) (μ : qa_M), qa_PP μ.2.2 → K0 v1 v2 μ → qa_G l yX9_brownOf cX9_brownOf 3 (some .int) 3 0 0 (qa_pI Q) 0 0 4 [some (.ref 91), some (.int v1), some (.int v2)] [] 113 μ) : ∀ (n : Nat) (v2 : Int32) (μ0 : qa_M), qa_PP μ0.2.2 → wX9_brownOf_30 n v2 μ0 K0 Q → qa_G l yX9_brownOf cX9_brownOf 3 (some .int) 3 0 0 (qa_pI Q) 0 0 30 [some (.ref 91), none, some (.int v2)] [] 113 μ0 := by
  intro n
  intro v2 μ0 hp0  h
  unfold wX9_brownOf_30 at h
  refine qa_ild2 dX9_brownOf_30 ?_
  refine qa_ist1 dX9_brownOf_31 ?_
  refine qa_inc2 dX9_brownOf_32 (qa_io1 _) ?_
  refine qa_goto (tgt := 4) dX9_brownOf_35 (by decide) ?_
  refine qa_fgt (L' := [some (.ref 91), some (.int v2), some (.int (v2 + (1 : Int32)))]) (⟨rfl, ⟨rfl, ⟨rfl, trivial⟩⟩⟩) ?_
  exact hK0 v2 (v2 + (1 : Int32)) μ0 hp0  h
theorem tX9_brownOf_4 (l : Launch)  {Q : Int32 → qa_M → Prop}  : ∀ (n : Nat) (v1 : Int32) (v2 : Int32) (μ0 : qa_M), qa_PP μ0.2.2 → wX9_brownOf_4 n v1 v2 μ0  Q → qa_G l yX9_brownOf cX9_brownOf 3 (some .int) 3 0 0 (qa_pI Q) 0 0 4 [some (.ref 91), some (.int v1), some (.int v2)] [] 113 μ0 := by
  intro n
  induction n with
  | zero =>
    intro v1 v2 μ0 hp0  h
    rw [wX9_brownOf_4] at h
    exact h.elim
  | succ n ih =>
    intro v1 v2 μ0 hp0  h
    rw [wX9_brownOf_4] at h
    refine qa_ild2 dX9_brownOf_4 ?_
    refine qa_ald0 dX9_brownOf_5 ?_
    refine qa_V0I dX9_brownOf_6 lm_X9_100 sh_91 rfl (by decide) (by decide) (Nat.le_of_ble_eq_true rfl) (tX9_houses l hp0  h) (fun r1 μ1 hp1 h => ?_)
    refine qa_icmp_ge (tgt := 38) dX9_brownOf_9 (by decide) (fun c2 => ?_) (fun c2 => ?_)
    · have h := h.1 c2
      refine qa_ild1 dX9_brownOf_38 ?_
      exact qa_iret rfl dX9_brownOf_39 ⟨rfl, rfl⟩ ⟨rfl, hp1, _, rfl, h⟩
    · have h := h.2 c2
      refine qa_ild1 dX9_brownOf_12 ?_
      refine qa_iconst (v := -1) dX9_brownOf_13 (by decide) ?_
      refine qa_icmp_eq (tgt := 30) dX9_brownOf_14 (by decide) (fun c3 => ?_) (fun c3 => ?_)
      · have h := h.1 c3
        refine qa_fgt (L' := [some (.ref 91), none, some (.int v2)]) (⟨rfl, ⟨rfl, trivial⟩⟩) ?_
        refine tX9_brownOf_30 l ih n v2 μ1 hp1  h
      · have h := h.2 c3
        refine qa_ald0 dX9_brownOf_17 ?_
        refine qa_ild2 dX9_brownOf_18 ?_
        refine qa_V1I dX9_brownOf_19 lm_X9_313 sh_91 rfl (by decide) (by decide) (Nat.le_of_ble_eq_true rfl) (tX9_sunAll l hp1  h) (fun r4 μ4 hp4 h => ?_)
        refine qa_ald0 dX9_brownOf_22 ?_
        refine qa_ild1 dX9_brownOf_23 ?_
        refine qa_V1I dX9_brownOf_24 lm_X9_313 sh_91 rfl (by decide) (by decide) (Nat.le_of_ble_eq_true rfl) (tX9_sunAll l hp4  h) (fun r5 μ5 hp5 h => ?_)
        refine qa_icmp_le (tgt := 32) dX9_brownOf_27 (by decide) (fun c6 => ?_) (fun c6 => ?_)
        · have h := h.1 c6
          refine qa_inc2 dX9_brownOf_32 (qa_io1 _) ?_
          refine qa_goto (tgt := 4) dX9_brownOf_35 (by decide) ?_
          refine qa_fgt (L' := [some (.ref 91), some (.int v1), some (.int (v2 + (1 : Int32)))]) (⟨rfl, ⟨rfl, ⟨rfl, trivial⟩⟩⟩) ?_
          exact ih v1 (v2 + (1 : Int32)) μ5 hp5  h
        · have h := h.2 c6
          refine qa_fgt (L' := [some (.ref 91), none, some (.int v2)]) (⟨rfl, ⟨rfl, trivial⟩⟩) ?_
          refine tX9_brownOf_30 l ih n v2 μ5 hp5  h
theorem tX9_brownOf (l : Launch) {n : Nat}  {μ0 : qa_M} {Q : Int32 → qa_M → Prop} (hp0 : qa_PP μ0.2.2)  (h : wX9_brownOf n  μ0 Q) : qa_Met l yX9_brownOf cX9_brownOf 3 (some .int) 3 0 0 [.ref 91] 113 μ0 (qa_pI Q) := by
  refine qa_ofG (by decide) (Nat.le_of_ble_eq_true rfl) ?_
  unfold wX9_brownOf at h
  change qa_G l yX9_brownOf cX9_brownOf 3 (some .int) 3 0 0 (qa_pI Q) 0 0 0 [some (.ref 91), none, none] [] 113 μ0
  refine qa_iconst (v := -1) dX9_brownOf_0 (by decide) ?_
  refine qa_ist1 dX9_brownOf_1 ?_
  refine qa_iconst (v := 0) dX9_brownOf_2 (by decide) ?_
  refine qa_ist2 dX9_brownOf_3 ?_
  refine qa_fgt (L' := [some (.ref 91), some (.int (-1 : Int32)), some (.int (0 : Int32))]) (⟨rfl, ⟨rfl, ⟨rfl, trivial⟩⟩⟩) ?_
  refine tX9_brownOf_4 l  n (-1 : Int32) (0 : Int32) μ0 hp0  h
def wX9_brown (n : Nat)  (μ0 : qa_M) (Q : Int32 → qa_M → Prop) : Prop := wX9_asksTown n  μ0 (fun r1 μ1 => ((r1 = 0 → Q (-2 : Int32) μ1) ∧ (¬ r1 = 0 → wX9_brownOf n  μ1 (fun r3 μ3 => Q r3 μ3))))
theorem tX9_brown (l : Launch) {n : Nat}  {μ0 : qa_M} {Q : Int32 → qa_M → Prop} (hp0 : qa_PP μ0.2.2)  (h : wX9_brown n  μ0 Q) : qa_Met l yX9_brown cX9_brown 1 (some .int) 4 0 0 [.ref 91] 113 μ0 (qa_pI Q) := by
  refine qa_ofG (by decide) (Nat.le_of_ble_eq_true rfl) ?_
  unfold wX9_brown at h
  change qa_G l yX9_brown cX9_brown 1 (some .int) 4 0 0 (qa_pI Q) 0 0 0 [some (.ref 91)] [] 113 μ0
  refine qa_ald0 dX9_brown_0 ?_
  refine qa_V0I dX9_brown_1 lm_X9_283 sh_91 rfl (by decide) (by decide) (Nat.le_of_ble_eq_true rfl) (tX9_asksTown l hp0  h) (fun r1 μ1 hp1 h => ?_)
  refine qa_if_eq (tgt := 14) dX9_brown_4 (by decide) (fun c2 => ?_) (fun c2 => ?_)
  · have h := h.1 c2
    refine qa_bipush (v := -2) dX9_brown_14 (by decide) ?_
    exact qa_iret rfl dX9_brown_16 ⟨rfl, rfl⟩ ⟨rfl, hp1, _, rfl, h⟩
  · have h := h.2 c2
    refine qa_ald0 dX9_brown_7 ?_
    refine qa_V0I dX9_brown_8 lm_X9_316 sh_91 rfl (by decide) (by decide) (Nat.le_of_ble_eq_true rfl) (tX9_brownOf l hp1  h) (fun r3 μ3 hp3 h => ?_)
    refine qa_goto (tgt := 16) dX9_brown_11 (by decide) ?_
    exact qa_iret rfl dX9_brown_16 ⟨rfl, rfl⟩ ⟨rfl, hp3, _, rfl, h⟩
def wX9_paleOf_30 (n : Nat) (v2 : Int32) (μ0 : qa_M) (K0 : Int32 → Int32 → qa_M → Prop) (Q : Int32 → qa_M → Prop) : Prop := K0 v2 (v2 + (1 : Int32)) μ0
def wX9_paleOf_4 : Nat → Int32 → Int32 → qa_M → (Int32 → qa_M → Prop) → Prop
  | 0, _, _, _, _ => False
  | n + 1, v1, v2, μ0, Q => wX9_houses n  μ0 (fun r1 μ1 => ((r1 ≤ v2 → Q v1 μ1) ∧ (¬ r1 ≤ v2 → ((v1 = (-1 : Int32) → wX9_paleOf_30 n v2 μ1 (fun v1 v2 μk => wX9_paleOf_4 n v1 v2 μk Q) Q) ∧ (¬ v1 = (-1 : Int32) → wX9_sunAll n v2 μ1 (fun r4 μ4 => wX9_sunAll n v1 μ4 (fun r5 μ5 => ((r5 ≤ r4 → wX9_paleOf_4 n v1 (v2 + (1 : Int32)) μ5 Q) ∧ (¬ r5 ≤ r4 → wX9_paleOf_30 n v2 μ5 (fun v1 v2 μk => wX9_paleOf_4 n v1 v2 μk Q) Q)))))))))
def wX9_paleOf (n : Nat)  (μ0 : qa_M) (Q : Int32 → qa_M → Prop) : Prop := wX9_paleOf_4 n (-1 : Int32) (0 : Int32) μ0  Q
theorem tX9_paleOf_30 (l : Launch) {K0 : Int32 → Int32 → qa_M → Prop} {Q : Int32 → qa_M → Prop} (hK0 : ∀ (v1 : Int32) (v2 : Int32) (μ : qa_M), qa_PP μ.2.2 → K0 v1 v2 μ → qa_G l yX9_paleOf cX9_paleOf 3 (some .int) 3 0 0 (qa_pI Q) 0 0 4 [some (.ref 91), some (.int v1), some (.int v2)] [] 113 μ) : ∀ (n : Nat) (v2 : Int32) (μ0 : qa_M), qa_PP μ0.2.2 → wX9_paleOf_30 n v2 μ0 K0 Q → qa_G l yX9_paleOf cX9_paleOf 3 (some .int) 3 0 0 (qa_pI Q) 0 0 30 [some (.ref 91), none, some (.int v2)] [] 113 μ0 := by
  intro n
  intro v2 μ0 hp0  h
  unfold wX9_paleOf_30 at h
  refine qa_ild2 dX9_paleOf_30 ?_
  refine qa_ist1 dX9_paleOf_31 ?_
  refine qa_inc2 dX9_paleOf_32 (qa_io1 _) ?_
  refine qa_goto (tgt := 4) dX9_paleOf_35 (by decide) ?_
  refine qa_fgt (L' := [some (.ref 91), some (.int v2), some (.int (v2 + (1 : Int32)))]) (⟨rfl, ⟨rfl, ⟨rfl, trivial⟩⟩⟩) ?_
  exact hK0 v2 (v2 + (1 : Int32)) μ0 hp0  h
theorem tX9_paleOf_4 (l : Launch)  {Q : Int32 → qa_M → Prop}  : ∀ (n : Nat) (v1 : Int32) (v2 : Int32) (μ0 : qa_M), qa_PP μ0.2.2 → wX9_paleOf_4 n v1 v2 μ0  Q → qa_G l yX9_paleOf cX9_paleOf 3 (some .int) 3 0 0 (qa_pI Q) 0 0 4 [some (.ref 91), some (.int v1), some (.int v2)] [] 113 μ0 := by
  intro n
  induction n with
  | zero =>
    intro v1 v2 μ0 hp0  h
    rw [wX9_paleOf_4] at h
    exact h.elim
  | succ n ih =>
    intro v1 v2 μ0 hp0  h
    rw [wX9_paleOf_4] at h
    refine qa_ild2 dX9_paleOf_4 ?_
    refine qa_ald0 dX9_paleOf_5 ?_
    refine qa_V0I dX9_paleOf_6 lm_X9_100 sh_91 rfl (by decide) (by decide) (Nat.le_of_ble_eq_true rfl) (tX9_houses l hp0  h) (fun r1 μ1 hp1 h => ?_)
    refine qa_icmp_ge (tgt := 38) dX9_paleOf_9 (by decide) (fun c2 => ?_) (fun c2 => ?_)
    · have h := h.1 c2
      refine qa_ild1 dX9_paleOf_38 ?_
      exact qa_iret rfl dX9_paleOf_39 ⟨rfl, rfl⟩ ⟨rfl, hp1, _, rfl, h⟩
    · have h := h.2 c2
      refine qa_ild1 dX9_paleOf_12 ?_
      refine qa_iconst (v := -1) dX9_paleOf_13 (by decide) ?_
      refine qa_icmp_eq (tgt := 30) dX9_paleOf_14 (by decide) (fun c3 => ?_) (fun c3 => ?_)
      · have h := h.1 c3
        refine qa_fgt (L' := [some (.ref 91), none, some (.int v2)]) (⟨rfl, ⟨rfl, trivial⟩⟩) ?_
        refine tX9_paleOf_30 l ih n v2 μ1 hp1  h
      · have h := h.2 c3
        refine qa_ald0 dX9_paleOf_17 ?_
        refine qa_ild2 dX9_paleOf_18 ?_
        refine qa_V1I dX9_paleOf_19 lm_X9_313 sh_91 rfl (by decide) (by decide) (Nat.le_of_ble_eq_true rfl) (tX9_sunAll l hp1  h) (fun r4 μ4 hp4 h => ?_)
        refine qa_ald0 dX9_paleOf_22 ?_
        refine qa_ild1 dX9_paleOf_23 ?_
        refine qa_V1I dX9_paleOf_24 lm_X9_313 sh_91 rfl (by decide) (by decide) (Nat.le_of_ble_eq_true rfl) (tX9_sunAll l hp4  h) (fun r5 μ5 hp5 h => ?_)
        refine qa_icmp_ge (tgt := 32) dX9_paleOf_27 (by decide) (fun c6 => ?_) (fun c6 => ?_)
        · have h := h.1 c6
          refine qa_inc2 dX9_paleOf_32 (qa_io1 _) ?_
          refine qa_goto (tgt := 4) dX9_paleOf_35 (by decide) ?_
          refine qa_fgt (L' := [some (.ref 91), some (.int v1), some (.int (v2 + (1 : Int32)))]) (⟨rfl, ⟨rfl, ⟨rfl, trivial⟩⟩⟩) ?_
          exact ih v1 (v2 + (1 : Int32)) μ5 hp5  h
        · have h := h.2 c6
          refine qa_fgt (L' := [some (.ref 91), none, some (.int v2)]) (⟨rfl, ⟨rfl, trivial⟩⟩) ?_
          refine tX9_paleOf_30 l ih n v2 μ5 hp5  h
theorem tX9_paleOf (l : Launch) {n : Nat}  {μ0 : qa_M} {Q : Int32 → qa_M → Prop} (hp0 : qa_PP μ0.2.2)  (h : wX9_paleOf n  μ0 Q) : qa_Met l yX9_paleOf cX9_paleOf 3 (some .int) 3 0 0 [.ref 91] 113 μ0 (qa_pI Q) := by
  refine qa_ofG (by decide) (Nat.le_of_ble_eq_true rfl) ?_
  unfold wX9_paleOf at h
  change qa_G l yX9_paleOf cX9_paleOf 3 (some .int) 3 0 0 (qa_pI Q) 0 0 0 [some (.ref 91), none, none] [] 113 μ0
  refine qa_iconst (v := -1) dX9_paleOf_0 (by decide) ?_
  refine qa_ist1 dX9_paleOf_1 ?_
  refine qa_iconst (v := 0) dX9_paleOf_2 (by decide) ?_
  refine qa_ist2 dX9_paleOf_3 ?_
  refine qa_fgt (L' := [some (.ref 91), some (.int (-1 : Int32)), some (.int (0 : Int32))]) (⟨rfl, ⟨rfl, ⟨rfl, trivial⟩⟩⟩) ?_
  refine tX9_paleOf_4 l  n (-1 : Int32) (0 : Int32) μ0 hp0  h
