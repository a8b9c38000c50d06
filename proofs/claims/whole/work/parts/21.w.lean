def wX2_readLetter (n : Nat)  (μ0 : qa_M) (Q : qa_M → Prop) : Prop := wX2_startLine n (μ0.1 (μ0.2.2 2 2) 8) (8 : Int32) μ0 (fun μ1 => wX2_takeNumber n (0 : Int32) ((μ1.1 (μ1.2.2 2 2) 5) - (1 : Int32)) μ1 (fun r2 μ2 => wX2_takeNumberOf n 14 (0 : Int32) (7 : Int32) μ2 (fun r3 μ3 => wX2_takeNumberOf n 12 (0 : Int32) (19 : Int32) μ3 (fun r4 μ4 => ((¬ (μ4.1 2 7) = 0 → Q μ4) ∧ ((μ4.1 2 7) = 0 → vp_in (μ4.1 (μ4.2.2 2 2) 8) 8 ∧ ∀ μ6, μ6 = qa_uI μ4 ((μ4.2.2 2 2) + 4) (μ4.1 (μ4.2.2 2 2) 8).toNatClampNeg r2 → vp_in (μ6.1 (μ6.2.2 2 2) 8) 8 ∧ ∀ μ7, μ7 = qa_uI μ6 ((μ6.2.2 2 2) + 5) (μ6.1 (μ6.2.2 2 2) 8).toNatClampNeg r3 → vp_in (μ7.1 (μ7.2.2 2 2) 8) 8 ∧ ∀ μ8, μ8 = qa_uI μ7 ((μ7.2.2 2 2) + 6) (μ7.1 (μ7.2.2 2 2) 8).toNatClampNeg r4 → ∀ μ9, μ9 = qa_uI μ8 (μ8.2.2 2 2) 8 ((μ8.1 (μ8.2.2 2 2) 8) + (1 : Int32)) → Q μ9))))))
theorem tX2_readLetter (l : Launch) {n : Nat}  {μ0 : qa_M} {Q : qa_M → Prop} (hp0 : qa_PP μ0.2.2)  (h : wX2_readLetter n  μ0 Q) : qa_Met l yX2_readLetter cX2_readLetter 4 none 8 0 0 [.ref 2] 113 μ0 (qa_pV Q) := by
  refine qa_ofG (by decide) (Nat.le_of_ble_eq_true rfl) ?_
  unfold wX2_readLetter at h
  change qa_G l yX2_readLetter cX2_readLetter 4 none 8 0 0 (qa_pV Q) 0 0 0 [some (.ref 2), none, none, none] [] 113 μ0
  refine qa_ald0 dX2_readLetter_0 ?_
  refine qa_ald0 dX2_readLetter_1 ?_
  refine qa_getR dX2_readLetter_2 lf_X2_24 rfl sh_2 (by decide) rfl (qa_tw0 hp0.2.2) ?_
  refine qa_getI dX2_readLetter_5 lf_X2_152 (Or.inl rfl) (st_0 hp0.2.2) (tle_0 hp0.2.2) ?_
  refine qa_bipush (v := 8) dX2_readLetter_8 (by decide) ?_
  refine qa_V2V dX2_readLetter_10 lm_X2_113 sh_2 rfl (by decide) (by decide) (Nat.le_of_ble_eq_true rfl) (tX2_startLine l hp0  h) (fun μ1 hp1 h => ?_)
  refine qa_ald0 dX2_readLetter_13 ?_
  refine qa_iconst (v := 0) dX2_readLetter_14 (by decide) ?_
  refine qa_ald0 dX2_readLetter_15 ?_
  refine qa_getR dX2_readLetter_16 lf_X2_24 rfl sh_2 (by decide) rfl (qa_tw0 hp1.2.2) ?_
  refine qa_getI dX2_readLetter_19 lf_X2_110 (Or.inl rfl) (st_0 hp1.2.2) (tle_0 hp1.2.2) ?_
  refine qa_iconst (v := 1) dX2_readLetter_22 (by decide) ?_
  refine qa_isub dX2_readLetter_23 ?_
  refine qa_V2I dX2_readLetter_24 lm_X2_130 sh_2 rfl (by decide) (by decide) (Nat.le_of_ble_eq_true rfl) (tX2_takeNumber l hp1  h) (fun r2 μ2 hp2 h => ?_)
  refine qa_ist1 dX2_readLetter_27 ?_
  refine qa_ald0 dX2_readLetter_28 ?_
  refine qa_ldcS (i := 14) (tx := "to") dX2_readLetter_29 (by decide) ?_
  refine qa_iconst (v := 0) dX2_readLetter_31 (by decide) ?_
  refine qa_bipush (v := 7) dX2_readLetter_32 (by decide) ?_
  refine qa_V3I dX2_readLetter_34 lm_X2_92 sh_2 rfl (by decide) (by decide) (Nat.le_of_ble_eq_true rfl) (tX2_takeNumberOf l hp2 (by decide) h) (fun r3 μ3 hp3 h => ?_)
  refine qa_ist2 dX2_readLetter_37 ?_
  refine qa_ald0 dX2_readLetter_38 ?_
  refine qa_ldcS (i := 12) (tx := "at") dX2_readLetter_39 (by decide) ?_
  refine qa_iconst (v := 0) dX2_readLetter_41 (by decide) ?_
  refine qa_bipush (v := 19) dX2_readLetter_42 (by decide) ?_
  refine qa_V3I dX2_readLetter_44 lm_X2_92 sh_2 rfl (by decide) (by decide) (Nat.le_of_ble_eq_true rfl) (tX2_takeNumberOf l hp3 (by decide) h) (fun r4 μ4 hp4 h => ?_)
  refine qa_ist3 dX2_readLetter_47 ?_
  refine qa_ald0 dX2_readLetter_48 ?_
  refine qa_getI dX2_readLetter_49 lf_X2_15 (Or.inl rfl) sh_2 (by decide) ?_
  refine qa_if_ne (tgt := 116) dX2_readLetter_52 (by decide) (fun c5 => ?_) (fun c5 => ?_)
  · have h := h.1 c5
    exact qa_vret rfl dX2_readLetter_116 ⟨rfl, rfl⟩ ⟨rfl, hp4, rfl, h⟩
  · have h := h.2 c5
    refine qa_ald0 dX2_readLetter_55 ?_
    refine qa_getR dX2_readLetter_56 lf_X2_24 rfl sh_2 (by decide) rfl (qa_tw0 hp4.2.2) ?_
    refine qa_getR dX2_readLetter_59 lf_X2_157 rfl (st_0 hp4.2.2) (tle_0 hp4.2.2) (pt_14 hp4 hp4.2.2) (Nat.succ_pos _) ?_
    refine qa_ald0 dX2_readLetter_62 ?_
    refine qa_getR dX2_readLetter_63 lf_X2_24 rfl sh_2 (by decide) rfl (qa_tw0 hp4.2.2) ?_
    refine qa_getI dX2_readLetter_66 lf_X2_152 (Or.inl rfl) (st_0 hp4.2.2) (tle_0 hp4.2.2) ?_
    refine qa_ild1 dX2_readLetter_69 ?_
    refine qa_iast dX2_readLetter_70 (st_4 hp4.2.2) (tle_4 hp4.2.2) h.1 ?_
    have h := h.2
    refine qa_nmM (fun μ6 em6 => ?_)
    have h := h μ6 em6
    have hp6 : qa_PP μ6.2.2 := by rw [em6]; exact hp4
    refine qa_ald0 dX2_readLetter_71 ?_
    refine qa_getR dX2_readLetter_72 lf_X2_24 rfl sh_2 (by decide) rfl (qa_tw0 hp6.2.2) ?_
    refine qa_getR dX2_readLetter_75 lf_X2_160 rfl (st_0 hp6.2.2) (tle_0 hp6.2.2) (pt_15 hp6 hp6.2.2) (Nat.succ_pos _) ?_
    refine qa_ald0 dX2_readLetter_78 ?_
    refine qa_getR dX2_readLetter_79 lf_X2_24 rfl sh_2 (by decide) rfl (qa_tw0 hp6.2.2) ?_
    refine qa_getI dX2_readLetter_82 lf_X2_152 (Or.inl rfl) (st_0 hp6.2.2) (tle_0 hp6.2.2) ?_
    refine qa_ild2 dX2_readLetter_85 ?_
    refine qa_iast dX2_readLetter_86 (st_5 hp6.2.2) (tle_5 hp6.2.2) h.1 ?_
    have h := h.2
    refine qa_nmM (fun μ7 em7 => ?_)
    have h := h μ7 em7
    have hp7 : qa_PP μ7.2.2 := by rw [em7]; exact hp6
    refine qa_ald0 dX2_readLetter_87 ?_
    refine qa_getR dX2_readLetter_88 lf_X2_24 rfl sh_2 (by decide) rfl (qa_tw0 hp7.2.2) ?_
    refine qa_getR dX2_readLetter_91 lf_X2_163 rfl (st_0 hp7.2.2) (tle_0 hp7.2.2) (pt_16 hp7 hp7.2.2) (Nat.succ_pos _) ?_
    refine qa_ald0 dX2_readLetter_94 ?_
    refine qa_getR dX2_readLetter_95 lf_X2_24 rfl sh_2 (by decide) rfl (qa_tw0 hp7.2.2) ?_
    refine qa_getI dX2_readLetter_98 lf_X2_152 (Or.inl rfl) (st_0 hp7.2.2) (tle_0 hp7.2.2) ?_
    refine qa_ild3 dX2_readLetter_101 ?_
    refine qa_iast dX2_readLetter_102 (st_6 hp7.2.2) (tle_6 hp7.2.2) h.1 ?_
    have h := h.2
    refine qa_nmM (fun μ8 em8 => ?_)
    have h := h μ8 em8
    have hp8 : qa_PP μ8.2.2 := by rw [em8]; exact hp7
    refine qa_ald0 dX2_readLetter_103 ?_
    refine qa_getR dX2_readLetter_104 lf_X2_24 rfl sh_2 (by decide) rfl (qa_tw0 hp8.2.2) ?_
    refine qa_dup dX2_readLetter_107 rfl ?_
    refine qa_getI dX2_readLetter_108 lf_X2_152 (Or.inl rfl) (st_0 hp8.2.2) (tle_0 hp8.2.2) ?_
    refine qa_iconst (v := 1) dX2_readLetter_111 (by decide) ?_
    refine qa_iadd dX2_readLetter_112 ?_
    refine qa_putI dX2_readLetter_113 lf_X2_152 rfl (st_0 hp8.2.2) (tle_0 hp8.2.2) rfl ?_
    refine qa_nmM (fun μ9 em9 => ?_)
    have h := h μ9 em9
    have hp9 : qa_PP μ9.2.2 := by rw [em9]; exact hp8
    exact qa_vret rfl dX2_readLetter_116 ⟨rfl, rfl⟩ ⟨rfl, hp9, rfl, h⟩
def wX2_takeSemicolon (n : Nat)  (μ0 : qa_M) (Q : qa_M → Prop) : Prop := (((μ0.1 2 7) = 0 → ((¬ (μ0.1 2 3) = (3 : Int32) → wX2_fail n (1 : Int32) μ0 (fun μ3 => Q μ3)) ∧ ((μ0.1 2 3) = (3 : Int32) → wX2_step n  μ0 (fun μ4 => Q μ4)))) ∧ (¬ (μ0.1 2 7) = 0 → Q μ0))
theorem tX2_takeSemicolon (l : Launch) {n : Nat}  {μ0 : qa_M} {Q : qa_M → Prop} (hp0 : qa_PP μ0.2.2)  (h : wX2_takeSemicolon n  μ0 Q) : qa_Met l yX2_takeSemicolon cX2_takeSemicolon 1 none 2 0 0 [.ref 2] 113 μ0 (qa_pV Q) := by
  refine qa_ofG (by decide) (Nat.le_of_ble_eq_true rfl) ?_
  unfold wX2_takeSemicolon at h
  change qa_G l yX2_takeSemicolon cX2_takeSemicolon 1 none 2 0 0 (qa_pV Q) 0 0 0 [some (.ref 2)] [] 113 μ0
  refine qa_ald0 dX2_takeSemicolon_0 ?_
  refine qa_getI dX2_takeSemicolon_1 lf_X2_15 (Or.inl rfl) sh_2 (by decide) ?_
  refine qa_if_eq (tgt := 8) dX2_takeSemicolon_4 (by decide) (fun c1 => ?_) (fun c1 => ?_)
  · have h := h.1 c1
    refine qa_ald0 dX2_takeSemicolon_8 ?_
    refine qa_getI dX2_takeSemicolon_9 lf_X2_41 (Or.inl rfl) sh_2 (by decide) ?_
    refine qa_iconst (v := 3) dX2_takeSemicolon_12 (by decide) ?_
    refine qa_icmp_ne (tgt := 23) dX2_takeSemicolon_13 (by decide) (fun c2 => ?_) (fun c2 => ?_)
    · have h := h.1 c2
      refine qa_ald0 dX2_takeSemicolon_23 ?_
      refine qa_iconst (v := 1) dX2_takeSemicolon_24 (by decide) ?_
      refine qa_V1V dX2_takeSemicolon_25 lm_X2_77 sh_2 rfl (by decide) (by decide) (Nat.le_of_ble_eq_true rfl) (tX2_fail l hp0  h) (fun μ3 hp3 h => ?_)
      exact qa_vret rfl dX2_takeSemicolon_28 ⟨rfl, rfl⟩ ⟨rfl, hp3, rfl, h⟩
    · have h := h.2 c2
      refine qa_ald0 dX2_takeSemicolon_16 ?_
      refine qa_V0V dX2_takeSemicolon_17 lm_X2_38 sh_2 rfl (by decide) (by decide) (Nat.le_of_ble_eq_true rfl) (tX2_step l hp0  h) (fun μ4 hp4 h => ?_)
      refine qa_goto (tgt := 28) dX2_takeSemicolon_20 (by decide) ?_
      exact qa_vret rfl dX2_takeSemicolon_28 ⟨rfl, rfl⟩ ⟨rfl, hp4, rfl, h⟩
  · have h := h.2 c1
    exact qa_vret rfl dX2_takeSemicolon_7 ⟨rfl, rfl⟩ ⟨rfl, hp0, rfl, h⟩
def wX2_readLine_86 (n : Nat)  (μ0 : qa_M)  (Q : qa_M → Prop) : Prop := wX2_takeSemicolon n  μ0 (fun μ11 => ((¬ (μ11.1 2 7) = 0 → Q μ11) ∧ ((μ11.1 2 7) = 0 → ∀ μ13, μ13 = qa_uI μ11 (μ11.2.2 2 2) 0 ((μ11.1 (μ11.2.2 2 2) 0) + (1 : Int32)) → Q μ13)))
def wX2_readLine (n : Nat)  (μ0 : qa_M) (Q : qa_M → Prop) : Prop := ((¬ (μ0.1 (μ0.2.2 2 2) 0) = 0 → wX2_isWord n 5 μ0 (fun r2 μ2 => ((r2 = 0 → wX2_isWord n 8 μ2 (fun r4 μ4 => ((r4 = 0 → wX2_isWord n 11 μ4 (fun r6 μ6 => ((r6 = 0 → wX2_isWord n 13 μ6 (fun r8 μ8 => ((r8 = 0 → wX2_fail n (1 : Int32) μ8 (fun μ10 => wX2_readLine_86 n  μ10  Q)) ∧ (¬ r8 = 0 → wX2_readLetter n  μ8 (fun μ14 => wX2_readLine_86 n  μ14  Q))))) ∧ (¬ r6 = 0 → wX2_readSnow n  μ6 (fun μ15 => wX2_readLine_86 n  μ15  Q))))) ∧ (¬ r4 = 0 → wX2_readPlace n  μ4 (fun μ16 => wX2_readLine_86 n  μ16  Q))))) ∧ (¬ r2 = 0 → wX2_readHouse n  μ2 (fun μ17 => wX2_readLine_86 n  μ17  Q))))) ∧ ((μ0.1 (μ0.2.2 2 2) 0) = 0 → wX2_readTown n  μ0 (fun μ18 => wX2_readLine_86 n  μ18  Q)))
theorem tX2_readLine_86 (l : Launch)  {Q : qa_M → Prop}  : ∀ (n : Nat)  (μ0 : qa_M), qa_PP μ0.2.2 → wX2_readLine_86 n  μ0  Q → qa_G l yX2_readLine cX2_readLine 1 none 9 0 0 (qa_pV Q) 0 0 86 [some (.ref 2)] [] 113 μ0 := by
  intro n
  intro  μ0 hp0  h
  unfold wX2_readLine_86 at h
  refine qa_ald0 dX2_readLine_86 ?_
  refine qa_V0V dX2_readLine_87 lm_X2_81 sh_2 rfl (by decide) (by decide) (Nat.le_of_ble_eq_true rfl) (tX2_takeSemicolon l hp0  h) (fun μ11 hp11 h => ?_)
  refine qa_ald0 dX2_readLine_90 ?_
  refine qa_getI dX2_readLine_91 lf_X2_15 (Or.inl rfl) sh_2 (by decide) ?_
  refine qa_if_ne (tgt := 110) dX2_readLine_94 (by decide) (fun c12 => ?_) (fun c12 => ?_)
  · have h := h.1 c12
    exact qa_vret rfl dX2_readLine_110 ⟨rfl, rfl⟩ ⟨rfl, hp11, rfl, h⟩
  · have h := h.2 c12
    refine qa_ald0 dX2_readLine_97 ?_
    refine qa_getR dX2_readLine_98 lf_X2_24 rfl sh_2 (by decide) rfl (qa_tw0 hp11.2.2) ?_
    refine qa_dup dX2_readLine_101 rfl ?_
    refine qa_getI dX2_readLine_102 lf_X2_47 (Or.inl rfl) (st_0 hp11.2.2) (tle_0 hp11.2.2) ?_
    refine qa_iconst (v := 1) dX2_readLine_105 (by decide) ?_
    refine qa_iadd dX2_readLine_106 ?_
    refine qa_putI dX2_readLine_107 lf_X2_47 rfl (st_0 hp11.2.2) (tle_0 hp11.2.2) rfl ?_
    refine qa_nmM (fun μ13 em13 => ?_)
    have h := h μ13 em13
    have hp13 : qa_PP μ13.2.2 := by rw [em13]; exact hp11
    exact qa_vret rfl dX2_readLine_110 ⟨rfl, rfl⟩ ⟨rfl, hp13, rfl, h⟩
theorem tX2_readLine (l : Launch) {n : Nat}  {μ0 : qa_M} {Q : qa_M → Prop} (hp0 : qa_PP μ0.2.2)  (h : wX2_readLine n  μ0 Q) : qa_Met l yX2_readLine cX2_readLine 1 none 9 0 0 [.ref 2] 113 μ0 (qa_pV Q) := by
  refine qa_ofG (by decide) (Nat.le_of_ble_eq_true rfl) ?_
  unfold wX2_readLine at h
  change qa_G l yX2_readLine cX2_readLine 1 none 9 0 0 (qa_pV Q) 0 0 0 [some (.ref 2)] [] 113 μ0
  refine qa_ald0 dX2_readLine_0 ?_
  refine qa_getR dX2_readLine_1 lf_X2_24 rfl sh_2 (by decide) rfl (qa_tw0 hp0.2.2) ?_
  refine qa_getI dX2_readLine_4 lf_X2_47 (Or.inl rfl) (st_0 hp0.2.2) (tle_0 hp0.2.2) ?_
  refine qa_if_ne (tgt := 17) dX2_readLine_7 (by decide) (fun c1 => ?_) (fun c1 => ?_)
  · have h := h.1 c1
    refine qa_ald0 dX2_readLine_17 ?_
    refine qa_ldcS (i := 5) (tx := "house") dX2_readLine_18 (by decide) ?_
    refine qa_V1I dX2_readLine_20 lm_X2_55 sh_2 rfl (by decide) (by decide) (Nat.le_of_ble_eq_true rfl) (tX2_isWord l hp0 (by decide) h) (fun r2 μ2 hp2 h => ?_)
    refine qa_if_eq (tgt := 33) dX2_readLine_23 (by decide) (fun c3 => ?_) (fun c3 => ?_)
    · have h := h.1 c3
      refine qa_ald0 dX2_readLine_33 ?_
      refine qa_ldcS (i := 8) (tx := "place") dX2_readLine_34 (by decide) ?_
      refine qa_V1I dX2_readLine_36 lm_X2_55 sh_2 rfl (by decide) (by decide) (Nat.le_of_ble_eq_true rfl) (tX2_isWord l hp2 (by decide) h) (fun r4 μ4 hp4 h => ?_)
      refine qa_if_eq (tgt := 49) dX2_readLine_39 (by decide) (fun c5 => ?_) (fun c5 => ?_)
      · have h := h.1 c5
        refine qa_ald0 dX2_readLine_49 ?_
        refine qa_ldcS (i := 11) (tx := "snow") dX2_readLine_50 (by decide) ?_
        refine qa_V1I dX2_readLine_52 lm_X2_55 sh_2 rfl (by decide) (by decide) (Nat.le_of_ble_eq_true rfl) (tX2_isWord l hp4 (by decide) h) (fun r6 μ6 hp6 h => ?_)
        refine qa_if_eq (tgt := 65) dX2_readLine_55 (by decide) (fun c7 => ?_) (fun c7 => ?_)
        · have h := h.1 c7
          refine qa_ald0 dX2_readLine_65 ?_
          refine qa_ldcS (i := 13) (tx := "letter") dX2_readLine_66 (by decide) ?_
          refine qa_V1I dX2_readLine_68 lm_X2_55 sh_2 rfl (by decide) (by decide) (Nat.le_of_ble_eq_true rfl) (tX2_isWord l hp6 (by decide) h) (fun r8 μ8 hp8 h => ?_)
          refine qa_if_eq (tgt := 81) dX2_readLine_71 (by decide) (fun c9 => ?_) (fun c9 => ?_)
          · have h := h.1 c9
            refine qa_ald0 dX2_readLine_81 ?_
            refine qa_iconst (v := 1) dX2_readLine_82 (by decide) ?_
            refine qa_V1V dX2_readLine_83 lm_X2_77 sh_2 rfl (by decide) (by decide) (Nat.le_of_ble_eq_true rfl) (tX2_fail l hp8  h) (fun μ10 hp10 h => ?_)
            refine qa_fgt (L' := [some (.ref 2)]) (⟨rfl, trivial⟩) ?_
            refine tX2_readLine_86 l  n  μ10 hp10  h
          · have h := h.2 c9
            refine qa_ald0 dX2_readLine_74 ?_
            refine qa_V0V dX2_readLine_75 lm_X2_74 sh_2 rfl (by decide) (by decide) (Nat.le_of_ble_eq_true rfl) (tX2_readLetter l hp8  h) (fun μ14 hp14 h => ?_)
            refine qa_goto (tgt := 86) dX2_readLine_78 (by decide) ?_
            refine qa_fgt (L' := [some (.ref 2)]) (⟨rfl, trivial⟩) ?_
            refine tX2_readLine_86 l  n  μ14 hp14  h
        · have h := h.2 c7
          refine qa_ald0 dX2_readLine_58 ?_
          refine qa_V0V dX2_readLine_59 lm_X2_69 sh_2 rfl (by decide) (by decide) (Nat.le_of_ble_eq_true rfl) (tX2_readSnow l hp6  h) (fun μ15 hp15 h => ?_)
          refine qa_goto (tgt := 86) dX2_readLine_62 (by decide) ?_
          refine qa_fgt (L' := [some (.ref 2)]) (⟨rfl, trivial⟩) ?_
          refine tX2_readLine_86 l  n  μ15 hp15  h
      · have h := h.2 c5
        refine qa_ald0 dX2_readLine_42 ?_
        refine qa_V0V dX2_readLine_43 lm_X2_64 sh_2 rfl (by decide) (by decide) (Nat.le_of_ble_eq_true rfl) (tX2_readPlace l hp4  h) (fun μ16 hp16 h => ?_)
        refine qa_goto (tgt := 86) dX2_readLine_46 (by decide) ?_
        refine qa_fgt (L' := [some (.ref 2)]) (⟨rfl, trivial⟩) ?_
        refine tX2_readLine_86 l  n  μ16 hp16  h
    · have h := h.2 c3
      refine qa_ald0 dX2_readLine_26 ?_
      refine qa_V0V dX2_readLine_27 lm_X2_59 sh_2 rfl (by decide) (by decide) (Nat.le_of_ble_eq_true rfl) (tX2_readHouse l hp2  h) (fun μ17 hp17 h => ?_)
      refine qa_goto (tgt := 86) dX2_readLine_30 (by decide) ?_
      refine qa_fgt (L' := [some (.ref 2)]) (⟨rfl, trivial⟩) ?_
      refine tX2_readLine_86 l  n  μ17 hp17  h
  · have h := h.2 c1
    refine qa_ald0 dX2_readLine_10 ?_
    refine qa_V0V dX2_readLine_11 lm_X2_50 sh_2 rfl (by decide) (by decide) (Nat.le_of_ble_eq_true rfl) (tX2_readTown l hp0  h) (fun μ18 hp18 h => ?_)
    refine qa_goto (tgt := 86) dX2_readLine_14 (by decide) ?_
    refine qa_fgt (L' := [some (.ref 2)]) (⟨rfl, trivial⟩) ?_
    refine tX2_readLine_86 l  n  μ18 hp18  h
def wX2_read_28 : Nat → Int32 → qa_M → (qa_M → Prop) → Prop
  | 0, _, _, _ => False
  | n + 1, v1, μ0, Q => (((μ0.1 2 1) < v1 → Q μ0) ∧ (¬ (μ0.1 2 1) < v1 → (((μ0.1 2 3) = 0 → Q μ0) ∧ (¬ (μ0.1 2 3) = 0 → ((¬ (μ0.1 2 7) = 0 → Q μ0) ∧ ((μ0.1 2 7) = 0 → wX2_readLine n  μ0 (fun μ9 => wX2_read_28 n (v1 + (1 : Int32)) μ9 Q)))))))
def wX2_read (n : Nat)  (μ0 : qa_M) (Q : qa_M → Prop) : Prop := wX6_clear n (μ0.2.2 2 2) μ0 (fun μ1 => ∀ μ2, μ2 = qa_uI μ1 2 7 (0 : Int32) → ∀ μ3, μ3 = qa_uI μ2 2 8 (-1 : Int32) → ∀ μ4, μ4 = qa_uI μ3 2 5 (0 : Int32) → wX2_step n  μ4 (fun μ5 => wX2_read_28 n (0 : Int32) μ5  Q))
theorem tX2_read_28 (l : Launch)  {Q : qa_M → Prop}  : ∀ (n : Nat) (v1 : Int32) (μ0 : qa_M), qa_PP μ0.2.2 → wX2_read_28 n v1 μ0  Q → qa_G l yX2_read cX2_read 2 none 10 0 0 (qa_pV Q) 0 0 28 [some (.ref 2), some (.int v1)] [] 113 μ0 := by
  intro n
  induction n with
  | zero =>
    intro v1 μ0 hp0  h
    rw [wX2_read_28] at h
    exact h.elim
  | succ n ih =>
    intro v1 μ0 hp0  h
    rw [wX2_read_28] at h
    refine qa_ild1 dX2_read_28 ?_
    refine qa_ald0 dX2_read_29 ?_
    refine qa_getI dX2_read_30 lf_X2_9 (Or.inl rfl) sh_2 (by decide) ?_
    refine qa_icmp_gt (tgt := 60) dX2_read_33 (by decide) (fun c6 => ?_) (fun c6 => ?_)
    · have h := h.1 c6
      exact qa_vret rfl dX2_read_60 ⟨rfl, rfl⟩ ⟨rfl, hp0, rfl, h⟩
    · have h := h.2 c6
      refine qa_ald0 dX2_read_36 ?_
      refine qa_getI dX2_read_37 lf_X2_41 (Or.inl rfl) sh_2 (by decide) ?_
      refine qa_if_eq (tgt := 60) dX2_read_40 (by decide) (fun c7 => ?_) (fun c7 => ?_)
      · have h := h.1 c7
        exact qa_vret rfl dX2_read_60 ⟨rfl, rfl⟩ ⟨rfl, hp0, rfl, h⟩
      · have h := h.2 c7
        refine qa_ald0 dX2_read_43 ?_
        refine qa_getI dX2_read_44 lf_X2_15 (Or.inl rfl) sh_2 (by decide) ?_
        refine qa_if_ne (tgt := 60) dX2_read_47 (by decide) (fun c8 => ?_) (fun c8 => ?_)
        · have h := h.1 c8
          exact qa_vret rfl dX2_read_60 ⟨rfl, rfl⟩ ⟨rfl, hp0, rfl, h⟩
        · have h := h.2 c8
          refine qa_ald0 dX2_read_50 ?_
          refine qa_V0V dX2_read_51 lm_X2_44 sh_2 rfl (by decide) (by decide) (Nat.le_of_ble_eq_true rfl) (tX2_readLine l hp0  h) (fun μ9 hp9 h => ?_)
          refine qa_inc1 dX2_read_54 (qa_io1 _) ?_
          refine qa_goto (tgt := 28) dX2_read_57 (by decide) ?_
          refine qa_fgt (L' := [some (.ref 2), some (.int (v1 + (1 : Int32)))]) (⟨rfl, ⟨rfl, trivial⟩⟩) ?_
          exact ih (v1 + (1 : Int32)) μ9 hp9  h
theorem tX2_read (l : Launch) {n : Nat}  {μ0 : qa_M} {Q : qa_M → Prop} (hp0 : qa_PP μ0.2.2)  (h : wX2_read n  μ0 Q) : qa_Met l yX2_read cX2_read 2 none 10 0 0 [.ref 2] 113 μ0 (qa_pV Q) := by
  refine qa_ofG (by decide) (Nat.le_of_ble_eq_true rfl) ?_
  unfold wX2_read at h
  change qa_G l yX2_read cX2_read 2 none 10 0 0 (qa_pV Q) 0 0 0 [some (.ref 2), none] [] 113 μ0
  refine qa_ald0 dX2_read_0 ?_
  refine qa_getR dX2_read_1 lf_X2_24 rfl sh_2 (by decide) rfl (qa_tw0 hp0.2.2) ?_
  refine qa_V0V dX2_read_4 lm_X2_32 (st_0 hp0.2.2) rfl (tle_0 hp0.2.2) (by decide) (Nat.le_of_ble_eq_true rfl) (tX6_clear l hp0 hp0.2.2 h) (fun μ1 hp1 h => ?_)
  refine qa_ald0 dX2_read_7 ?_
  refine qa_iconst (v := 0) dX2_read_8 (by decide) ?_
  refine qa_putI dX2_read_9 lf_X2_15 rfl sh_2 (by decide) rfl ?_
  refine qa_nmM (fun μ2 em2 => ?_)
  have h := h μ2 em2
  have hp2 : qa_PP μ2.2.2 := by rw [em2]; exact hp1
  refine qa_ald0 dX2_read_12 ?_
  refine qa_iconst (v := -1) dX2_read_13 (by decide) ?_
  refine qa_putI dX2_read_14 lf_X2_18 rfl sh_2 (by decide) rfl ?_
  refine qa_nmM (fun μ3 em3 => ?_)
  have h := h μ3 em3
  have hp3 : qa_PP μ3.2.2 := by rw [em3]; exact hp2
  refine qa_ald0 dX2_read_17 ?_
  refine qa_iconst (v := 0) dX2_read_18 (by decide) ?_
  refine qa_putI dX2_read_19 lf_X2_35 rfl sh_2 (by decide) rfl ?_
  refine qa_nmM (fun μ4 em4 => ?_)
  have h := h μ4 em4
  have hp4 : qa_PP μ4.2.2 := by rw [em4]; exact hp3
  refine qa_ald0 dX2_read_22 ?_
  refine qa_V0V dX2_read_23 lm_X2_38 sh_2 rfl (by decide) (by decide) (Nat.le_of_ble_eq_true rfl) (tX2_step l hp4  h) (fun μ5 hp5 h => ?_)
  refine qa_iconst (v := 0) dX2_read_26 (by decide) ?_
  refine qa_ist1 dX2_read_27 ?_
  refine qa_fgt (L' := [some (.ref 2), some (.int (0 : Int32))]) (⟨rfl, ⟨rfl, trivial⟩⟩) ?_
  refine tX2_read_28 l  n (0 : Int32) μ5 hp5  h
def wX3_begin (n : Nat) (v0 : Nat) (v1 : Int32) (v2 : Int32) (μ0 : qa_M) (Q : qa_M → Prop) : Prop := ∀ μ1, μ1 = qa_uI μ0 v0 1 v1 → ∀ μ2, μ2 = qa_uI μ1 v0 2 v2 → wJ7_fill_d0a16 n (v0 + 1) 60 (0 : Int64) μ2 (fun μ3 => Q μ3)
theorem tX3_begin (l : Launch) {n : Nat} {v0 : Nat} {v1 : Int32} {v2 : Int32} {μ0 : qa_M} {Q : qa_M → Prop} (hp0 : qa_PP μ0.2.2) (k0 : qa_rw v0) (h : wX3_begin n v0 v1 v2 μ0 Q) : qa_Met l yX3_begin cX3_begin 3 none 1 0 0 [.ref v0, .int v1, .int v2] 113 μ0 (qa_pV Q) := by
  refine qa_ofG (by decide) (Nat.le_of_ble_eq_true rfl) ?_
  unfold wX3_begin at h
  change qa_G l yX3_begin cX3_begin 3 none 1 0 0 (qa_pV Q) 0 0 0 [some (.ref v0), some (.int v1), some (.int v2)] [] 113 μ0
  refine qa_ald0 dX3_begin_0 ?_
  refine qa_ild1 dX3_begin_1 ?_
  refine qa_putI dX3_begin_2 lf_X3_19 rfl (sr_0 k0) (rle_0 k0) rfl ?_
  refine qa_nmM (fun μ1 em1 => ?_)
  have h := h μ1 em1
  have hp1 : qa_PP μ1.2.2 := by rw [em1]; exact hp0
  refine qa_ald0 dX3_begin_5 ?_
  refine qa_ild2 dX3_begin_6 ?_
  refine qa_putI dX3_begin_7 lf_X3_15 rfl (sr_0 k0) (rle_0 k0) rfl ?_
  refine qa_nmM (fun μ2 em2 => ?_)
  have h := h μ2 em2
  have hp2 : qa_PP μ2.2.2 := by rw [em2]; exact hp1
  refine qa_ald0 dX3_begin_10 ?_
  refine qa_getR dX3_begin_11 lf_X3_9 rfl (sr_0 k0) (rle_0 k0) (pr_0 hp2 k0) (Nat.succ_pos _) ?_
  refine qa_lconst (v := 0) dX3_begin_14 (by decide) ?_
  refine qa_S2V dX3_begin_15 lm_X3_22  (by decide) (Nat.le_of_ble_eq_true rfl) (tJ7_fill_d0a16 l hp2 (sr_1 k0) (rle_1 k0) h) (fun μ3 hp3 h => ?_)
  exact qa_vret rfl dX3_begin_18 ⟨rfl, rfl⟩ ⟨rfl, hp3, rfl, h⟩
def wX7_spot (n : Nat) (v0 : Nat) (v1 : Int32) (v2 : Int32) (μ0 : qa_M) (Q : Int32 → qa_M → Prop) : Prop := vp_in ((v2 * (8 : Int32)) + v1) 168 ∧ Q (μ0.1 (v0 + 1) ((v2 * (8 : Int32)) + v1).toNatClampNeg) μ0
theorem tX7_spot (l : Launch) {n : Nat} {v0 : Nat} {v1 : Int32} {v2 : Int32} {μ0 : qa_M} {Q : Int32 → qa_M → Prop} (hp0 : qa_PP μ0.2.2) (k0 : qa_yr v0) (h : wX7_spot n v0 v1 v2 μ0 Q) : qa_Met l yX7_spot cX7_spot 3 (some .int) 0 0 0 [.ref v0, .int v1, .int v2] 113 μ0 (qa_pI Q) := by
  refine qa_ofG (by decide) (Nat.le_of_ble_eq_true rfl) ?_
  unfold wX7_spot at h
  change qa_G l yX7_spot cX7_spot 3 (some .int) 0 0 0 (qa_pI Q) 0 0 0 [some (.ref v0), some (.int v1), some (.int v2)] [] 113 μ0
  refine qa_ald0 dX7_spot_0 ?_
  refine qa_getR dX7_spot_1 lf_X7_9 rfl (sy_0 k0) (yle_0 k0) (py_0 hp0 k0) (Nat.succ_pos _) ?_
  refine qa_ild2 dX7_spot_4 ?_
  refine qa_bipush (v := 8) dX7_spot_5 (by decide) ?_
  refine qa_imul dX7_spot_7 ?_
  refine qa_ild1 dX7_spot_8 ?_
  refine qa_iadd dX7_spot_9 ?_
  refine qa_iald dX7_spot_10 (sy_1 k0) (yle_1 k0) h.1 ?_
  have h := h.2
  exact qa_iret rfl dX7_spot_11 ⟨rfl, rfl⟩ ⟨rfl, hp0, _, rfl, h⟩
def wX3_fitsPlaces_2 : Nat → Nat → Nat → Int32 → Int32 → qa_M → (Int32 → qa_M → Prop) → Prop
  | 0, _, _, _, _, _, _ => False
  | n + 1, v0, v1, v2, v3, μ0, Q => (((μ0.1 v0 2) ≤ (v3 + (1 : Int32)) → Q (1 : Int32) μ0) ∧ (¬ (μ0.1 v0 2) ≤ (v3 + (1 : Int32)) → vp_in v3 60 ∧ wX7_spot n v1 v2 (μ0.2.1 (v0 + 1) v3.toNatClampNeg).toInt32 μ0 (fun r2 μ2 => vp_in (v3 + (1 : Int32)) 60 ∧ (((lg_cmp r2.toInt64 (μ2.2.1 (v0 + 1) (v3 + (1 : Int32)).toNatClampNeg)) = 0 → wX3_fitsPlaces_2 n v0 v1 v2 (v3 + (2 : Int32)) μ2 Q) ∧ (¬ (lg_cmp r2.toInt64 (μ2.2.1 (v0 + 1) (v3 + (1 : Int32)).toNatClampNeg)) = 0 → Q (0 : Int32) μ2)))))
def wX3_fitsPlaces (n : Nat) (v0 : Nat) (v1 : Nat) (v2 : Int32) (μ0 : qa_M) (Q : Int32 → qa_M → Prop) : Prop := wX3_fitsPlaces_2 n v0 v1 v2 (0 : Int32) μ0  Q
theorem tX3_fitsPlaces_2 (l : Launch)  {Q : Int32 → qa_M → Prop}  : ∀ (n : Nat) (v0 : Nat) (v1 : Nat) (v2 : Int32) (v3 : Int32) (μ0 : qa_M), qa_PP μ0.2.2 → qa_rw v0 → qa_yr v1 → wX3_fitsPlaces_2 n v0 v1 v2 v3 μ0  Q → qa_G l yX3_fitsPlaces cX3_fitsPlaces 4 (some .boolean) 1 0 0 (qa_pI Q) 0 0 2 [some (.ref v0), some (.ref v1), some (.int v2), some (.int v3)] [] 113 μ0 := by
  intro n
  induction n with
  | zero =>
    intro v0 v1 v2 v3 μ0 hp0 k0 k1 h
    rw [wX3_fitsPlaces_2] at h
    exact h.elim
  | succ n ih =>
    intro v0 v1 v2 v3 μ0 hp0 k0 k1 h
    rw [wX3_fitsPlaces_2] at h
    refine qa_ild3 dX3_fitsPlaces_2 ?_
    refine qa_iconst (v := 1) dX3_fitsPlaces_3 (by decide) ?_
    refine qa_iadd dX3_fitsPlaces_4 ?_
    refine qa_ald0 dX3_fitsPlaces_5 ?_
    refine qa_getI dX3_fitsPlaces_6 lf_X3_15 (Or.inl rfl) (sr_0 k0) (rle_0 k0) ?_
    refine qa_icmp_ge (tgt := 45) dX3_fitsPlaces_9 (by decide) (fun c1 => ?_) (fun c1 => ?_)
    · have h := h.1 c1
      refine qa_iconst (v := 1) dX3_fitsPlaces_45 (by decide) ?_
      exact qa_zret rfl rfl dX3_fitsPlaces_46 ⟨rfl, rfl⟩ ⟨rfl, hp0, _, rfl, h⟩
    · have h := h.2 c1
      refine qa_ald1 dX3_fitsPlaces_12 ?_
      refine qa_ild2 dX3_fitsPlaces_13 ?_
      refine qa_ald0 dX3_fitsPlaces_14 ?_
      refine qa_getR dX3_fitsPlaces_15 lf_X3_9 rfl (sr_0 k0) (rle_0 k0) (pr_0 hp0 k0) (Nat.succ_pos _) ?_
      refine qa_ild3 dX3_fitsPlaces_18 ?_
      refine qa_lald dX3_fitsPlaces_19 (sr_1 k0) (rle_1 k0) h.1 ?_
      have h := h.2
      refine qa_l2i dX3_fitsPlaces_20 ?_
      refine qa_V2I dX3_fitsPlaces_21 lm_X3_34 (sy_0 k1) rfl (yle_0 k1) (by decide) (Nat.le_of_ble_eq_true rfl) (tX7_spot l hp0 k1 h) (fun r2 μ2 hp2 h => ?_)
      refine qa_i2l dX3_fitsPlaces_24 ?_
      refine qa_ald0 dX3_fitsPlaces_25 ?_
      refine qa_getR dX3_fitsPlaces_26 lf_X3_9 rfl (sr_0 k0) (rle_0 k0) (pr_0 hp2 k0) (Nat.succ_pos _) ?_
      refine qa_ild3 dX3_fitsPlaces_29 ?_
      refine qa_iconst (v := 1) dX3_fitsPlaces_30 (by decide) ?_
      refine qa_iadd dX3_fitsPlaces_31 ?_
      refine qa_lald dX3_fitsPlaces_32 (sr_1 k0) (rle_1 k0) h.1 ?_
      have h := h.2
      refine qa_lcmp dX3_fitsPlaces_33 ?_
      refine qa_if_eq (tgt := 39) dX3_fitsPlaces_34 (by decide) (fun c3 => ?_) (fun c3 => ?_)
      · have h := h.1 c3
        refine qa_inc3 dX3_fitsPlaces_39 (qa_io2 _) ?_
        refine qa_goto (tgt := 2) dX3_fitsPlaces_42 (by decide) ?_
        refine qa_fgt (L' := [some (.ref v0), some (.ref v1), some (.int v2), some (.int (v3 + (2 : Int32)))]) (⟨rfl, ⟨rfl, ⟨rfl, ⟨rfl, trivial⟩⟩⟩⟩) ?_
        exact ih v0 v1 v2 (v3 + (2 : Int32)) μ2 hp2 k0 k1 h
      · have h := h.2 c3
        refine qa_iconst (v := 0) dX3_fitsPlaces_37 (by decide) ?_
        exact qa_zret rfl rfl dX3_fitsPlaces_38 ⟨rfl, rfl⟩ ⟨rfl, hp2, _, rfl, h⟩
theorem tX3_fitsPlaces (l : Launch) {n : Nat} {v0 : Nat} {v1 : Nat} {v2 : Int32} {μ0 : qa_M} {Q : Int32 → qa_M → Prop} (hp0 : qa_PP μ0.2.2) (k0 : qa_rw v0) (k1 : qa_yr v1) (h : wX3_fitsPlaces n v0 v1 v2 μ0 Q) : qa_Met l yX3_fitsPlaces cX3_fitsPlaces 4 (some .boolean) 1 0 0 [.ref v0, .ref v1, .int v2] 113 μ0 (qa_pI Q) := by
  refine qa_ofG (by decide) (Nat.le_of_ble_eq_true rfl) ?_
  unfold wX3_fitsPlaces at h
  change qa_G l yX3_fitsPlaces cX3_fitsPlaces 4 (some .boolean) 1 0 0 (qa_pI Q) 0 0 0 [some (.ref v0), some (.ref v1), some (.int v2), none] [] 113 μ0
  refine qa_iconst (v := 0) dX3_fitsPlaces_0 (by decide) ?_
  refine qa_ist3 dX3_fitsPlaces_1 ?_
  refine qa_fgt (L' := [some (.ref v0), some (.ref v1), some (.int v2), some (.int (0 : Int32))]) (⟨rfl, ⟨rfl, ⟨rfl, ⟨rfl, trivial⟩⟩⟩⟩) ?_
  refine tX3_fitsPlaces_2 l  n v0 v1 v2 (0 : Int32) μ0 hp0 k0 k1 h
def wX3_fitsTurns_2 : Nat → Nat → Nat → Int32 → qa_M → (Int32 → qa_M → Prop) → Prop
  | 0, _, _, _, _, _ => False
  | n + 1, v0, v1, v2, μ0, Q => (((μ0.1 v0 2) ≤ (v2 + (1 : Int32)) → Q (1 : Int32) μ0) ∧ (¬ (μ0.1 v0 2) ≤ (v2 + (1 : Int32)) → vp_in v2 60 ∧ vp_in (μ0.2.1 (v0 + 1) v2.toNatClampNeg).toInt32 20 ∧ vp_in (v2 + (1 : Int32)) 60 ∧ (((lg_cmp (μ0.1 (v1 + 4) (μ0.2.1 (v0 + 1) v2.toNatClampNeg).toInt32.toNatClampNeg).toInt64 (μ0.2.1 (v0 + 1) (v2 + (1 : Int32)).toNatClampNeg)) = 0 → wX3_fitsTurns_2 n v0 v1 (v2 + (2 : Int32)) μ0 Q) ∧ (¬ (lg_cmp (μ0.1 (v1 + 4) (μ0.2.1 (v0 + 1) v2.toNatClampNeg).toInt32.toNatClampNeg).toInt64 (μ0.2.1 (v0 + 1) (v2 + (1 : Int32)).toNatClampNeg)) = 0 → Q (0 : Int32) μ0))))
def wX3_fitsTurns (n : Nat) (v0 : Nat) (v1 : Nat) (μ0 : qa_M) (Q : Int32 → qa_M → Prop) : Prop := wX3_fitsTurns_2 n v0 v1 (0 : Int32) μ0  Q
theorem tX3_fitsTurns_2 (l : Launch)  {Q : Int32 → qa_M → Prop}  : ∀ (n : Nat) (v0 : Nat) (v1 : Nat) (v2 : Int32) (μ0 : qa_M), qa_PP μ0.2.2 → qa_rw v0 → qa_yr v1 → wX3_fitsTurns_2 n v0 v1 v2 μ0  Q → qa_G l yX3_fitsTurns cX3_fitsTurns 3 (some .boolean) 0 0 0 (qa_pI Q) 0 0 2 [some (.ref v0), some (.ref v1), some (.int v2)] [] 113 μ0 := by
  intro n
  induction n with
  | zero =>
    intro v0 v1 v2 μ0 hp0 k0 k1 h
    rw [wX3_fitsTurns_2] at h
    exact h.elim
  | succ n ih =>
    intro v0 v1 v2 μ0 hp0 k0 k1 h
    rw [wX3_fitsTurns_2] at h
    refine qa_ild2 dX3_fitsTurns_2 ?_
    refine qa_iconst (v := 1) dX3_fitsTurns_3 (by decide) ?_
    refine qa_iadd dX3_fitsTurns_4 ?_
    refine qa_ald0 dX3_fitsTurns_5 ?_
    refine qa_getI dX3_fitsTurns_6 lf_X3_15 (Or.inl rfl) (sr_0 k0) (rle_0 k0) ?_
    refine qa_icmp_ge (tgt := 45) dX3_fitsTurns_9 (by decide) (fun c1 => ?_) (fun c1 => ?_)
    · have h := h.1 c1
      refine qa_iconst (v := 1) dX3_fitsTurns_45 (by decide) ?_
      exact qa_zret rfl rfl dX3_fitsTurns_46 ⟨rfl, rfl⟩ ⟨rfl, hp0, _, rfl, h⟩
    · have h := h.2 c1
      refine qa_ald1 dX3_fitsTurns_12 ?_
      refine qa_getR dX3_fitsTurns_13 lf_X3_28 rfl (sy_0 k1) (yle_0 k1) (py_3 hp0 k1) (Nat.succ_pos _) ?_
      refine qa_ald0 dX3_fitsTurns_16 ?_
      refine qa_getR dX3_fitsTurns_17 lf_X3_9 rfl (sr_0 k0) (rle_0 k0) (pr_0 hp0 k0) (Nat.succ_pos _) ?_
      refine qa_ild2 dX3_fitsTurns_20 ?_
      refine qa_lald dX3_fitsTurns_21 (sr_1 k0) (rle_1 k0) h.1 ?_
      have h := h.2
      refine qa_l2i dX3_fitsTurns_22 ?_
      refine qa_iald dX3_fitsTurns_23 (sy_4 k1) (yle_4 k1) h.1 ?_
      have h := h.2
      refine qa_i2l dX3_fitsTurns_24 ?_
      refine qa_ald0 dX3_fitsTurns_25 ?_
      refine qa_getR dX3_fitsTurns_26 lf_X3_9 rfl (sr_0 k0) (rle_0 k0) (pr_0 hp0 k0) (Nat.succ_pos _) ?_
      refine qa_ild2 dX3_fitsTurns_29 ?_
      refine qa_iconst (v := 1) dX3_fitsTurns_30 (by decide) ?_
      refine qa_iadd dX3_fitsTurns_31 ?_
      refine qa_lald dX3_fitsTurns_32 (sr_1 k0) (rle_1 k0) h.1 ?_
      have h := h.2
      refine qa_lcmp dX3_fitsTurns_33 ?_
      refine qa_if_eq (tgt := 39) dX3_fitsTurns_34 (by decide) (fun c2 => ?_) (fun c2 => ?_)
      · have h := h.1 c2
        refine qa_inc2 dX3_fitsTurns_39 (qa_io2 _) ?_
        refine qa_goto (tgt := 2) dX3_fitsTurns_42 (by decide) ?_
        refine qa_fgt (L' := [some (.ref v0), some (.ref v1), some (.int (v2 + (2 : Int32)))]) (⟨rfl, ⟨rfl, ⟨rfl, trivial⟩⟩⟩) ?_
        exact ih v0 v1 (v2 + (2 : Int32)) μ0 hp0 k0 k1 h
      · have h := h.2 c2
        refine qa_iconst (v := 0) dX3_fitsTurns_37 (by decide) ?_
        exact qa_zret rfl rfl dX3_fitsTurns_38 ⟨rfl, rfl⟩ ⟨rfl, hp0, _, rfl, h⟩
theorem tX3_fitsTurns (l : Launch) {n : Nat} {v0 : Nat} {v1 : Nat} {μ0 : qa_M} {Q : Int32 → qa_M → Prop} (hp0 : qa_PP μ0.2.2) (k0 : qa_rw v0) (k1 : qa_yr v1) (h : wX3_fitsTurns n v0 v1 μ0 Q) : qa_Met l yX3_fitsTurns cX3_fitsTurns 3 (some .boolean) 0 0 0 [.ref v0, .ref v1] 113 μ0 (qa_pI Q) := by
  refine qa_ofG (by decide) (Nat.le_of_ble_eq_true rfl) ?_
  unfold wX3_fitsTurns at h
  change qa_G l yX3_fitsTurns cX3_fitsTurns 3 (some .boolean) 0 0 0 (qa_pI Q) 0 0 0 [some (.ref v0), some (.ref v1), none] [] 113 μ0
  refine qa_iconst (v := 0) dX3_fitsTurns_0 (by decide) ?_
  refine qa_ist2 dX3_fitsTurns_1 ?_
  refine qa_fgt (L' := [some (.ref v0), some (.ref v1), some (.int (0 : Int32))]) (⟨rfl, ⟨rfl, ⟨rfl, trivial⟩⟩⟩) ?_
  refine tX3_fitsTurns_2 l  n v0 v1 (0 : Int32) μ0 hp0 k0 k1 h
def wX3_hasPairs_55 (n : Nat) (v0 : Nat) (v1 : Int32) (v2 : Int32) (v3 : Int32) (v4 : Int32) (s0 : Int32) (μ0 : qa_M) (K0 : Nat → Int32 → Int32 → Int32 → Int32 → qa_M → Prop) (Q : Int32 → qa_M → Prop) : Prop := ((s0 = 0 → Q (0 : Int32) μ0) ∧ (¬ s0 = 0 → vp_in (v4 + (1 : Int32)) 60 ∧ (((lg_cmp (μ0.2.1 (v0 + 1) (v4 + (1 : Int32)).toNatClampNeg) v2.toInt64) < 0 → Q (0 : Int32) μ0) ∧ (¬ (lg_cmp (μ0.2.1 (v0 + 1) (v4 + (1 : Int32)).toNatClampNeg) v2.toInt64) < 0 → vp_in (v4 + (1 : Int32)) 60 ∧ (((lg_cmp (μ0.2.1 (v0 + 1) (v4 + (1 : Int32)).toNatClampNeg) v3.toInt64) ≤ 0 → K0 v0 v1 v2 v3 (v4 + (2 : Int32)) μ0) ∧ (¬ (lg_cmp (μ0.2.1 (v0 + 1) (v4 + (1 : Int32)).toNatClampNeg) v3.toInt64) ≤ 0 → Q (0 : Int32) μ0))))))
def wX3_hasPairs_54 (n : Nat) (v0 : Nat) (v1 : Int32) (v2 : Int32) (v3 : Int32) (v4 : Int32) (μ0 : qa_M) (K0 : Nat → Int32 → Int32 → Int32 → Int32 → qa_M → Prop) (Q : Int32 → qa_M → Prop) : Prop := wX3_hasPairs_55 n v0 v1 v2 v3 v4 (0 : Int32) μ0 K0 Q
def wX3_hasPairs_14 : Nat → Nat → Int32 → Int32 → Int32 → Int32 → qa_M → (Int32 → qa_M → Prop) → Prop
  | 0, _, _, _, _, _, _, _ => False
  | n + 1, v0, v1, v2, v3, v4, μ0, Q => (((μ0.1 v0 2) ≤ (v4 + (1 : Int32)) → Q (1 : Int32) μ0) ∧ (¬ (μ0.1 v0 2) ≤ (v4 + (1 : Int32)) → vp_in v4 60 ∧ (((lg_cmp (μ0.2.1 (v0 + 1) v4.toNatClampNeg) (0 : Int64)) < 0 → wX3_hasPairs_54 n v0 v1 v2 v3 v4 μ0 (fun v0 v1 v2 v3 v4 μk => wX3_hasPairs_14 n v0 v1 v2 v3 v4 μk Q) Q) ∧ (¬ (lg_cmp (μ0.2.1 (v0 + 1) v4.toNatClampNeg) (0 : Int64)) < 0 → vp_in v4 60 ∧ ((0 < (lg_cmp (μ0.2.1 (v0 + 1) v4.toNatClampNeg) v1.toInt64) → wX3_hasPairs_54 n v0 v1 v2 v3 v4 μ0 (fun v0 v1 v2 v3 v4 μk => wX3_hasPairs_14 n v0 v1 v2 v3 v4 μk Q) Q) ∧ (¬ 0 < (lg_cmp (μ0.2.1 (v0 + 1) v4.toNatClampNeg) v1.toInt64) → wX3_hasPairs_55 n v0 v1 v2 v3 v4 (1 : Int32) μ0 (fun v0 v1 v2 v3 v4 μk => wX3_hasPairs_14 n v0 v1 v2 v3 v4 μk Q) Q))))))
def wX3_hasPairs (n : Nat) (v0 : Nat) (v1 : Int32) (v2 : Int32) (v3 : Int32) (μ0 : qa_M) (Q : Int32 → qa_M → Prop) : Prop := ((((μ0.1 v0 2) - (μ0.1 v0 2) / (2 : Int32) * (2 : Int32)) = 0 → wX3_hasPairs_14 n v0 v1 v2 v3 (0 : Int32) μ0  Q) ∧ (¬ ((μ0.1 v0 2) - (μ0.1 v0 2) / (2 : Int32) * (2 : Int32)) = 0 → Q (0 : Int32) μ0))
theorem tX3_hasPairs_55 (l : Launch) {K0 : Nat → Int32 → Int32 → Int32 → Int32 → qa_M → Prop} {Q : Int32 → qa_M → Prop} (hK0 : ∀ (v0 : Nat) (v1 : Int32) (v2 : Int32) (v3 : Int32) (v4 : Int32) (μ : qa_M), qa_PP μ.2.2 → qa_rw v0 → K0 v0 v1 v2 v3 v4 μ → qa_G l yX3_hasPairs cX3_hasPairs 6 (some .boolean) 0 0 0 (qa_pI Q) 0 0 14 [some (.ref v0), some (.int v1), some (.int v2), some (.int v3), some (.int v4), none] [] 113 μ) : ∀ (n : Nat) (v0 : Nat) (v1 : Int32) (v2 : Int32) (v3 : Int32) (v4 : Int32) (s0 : Int32) (μ0 : qa_M), qa_PP μ0.2.2 → qa_rw v0 → wX3_hasPairs_55 n v0 v1 v2 v3 v4 s0 μ0 K0 Q → qa_G l yX3_hasPairs cX3_hasPairs 6 (some .boolean) 0 0 0 (qa_pI Q) 0 0 55 [some (.ref v0), some (.int v1), some (.int v2), some (.int v3), some (.int v4), none] [.int s0] 113 μ0 := by
  intro n
  intro v0 v1 v2 v3 v4 s0 μ0 hp0 k0 h
  unfold wX3_hasPairs_55 at h
  refine qa_ist5 dX3_hasPairs_55 ?_
  refine qa_ild5 dX3_hasPairs_57 ?_
  refine qa_if_eq (tgt := 92) dX3_hasPairs_59 (by decide) (fun c4 => ?_) (fun c4 => ?_)
  · have h := h.1 c4
    refine qa_iconst (v := 0) dX3_hasPairs_92 (by decide) ?_
    exact qa_zret rfl rfl dX3_hasPairs_93 ⟨rfl, rfl⟩ ⟨rfl, hp0, _, rfl, h⟩
  · have h := h.2 c4
    refine qa_ald0 dX3_hasPairs_62 ?_
    refine qa_getR dX3_hasPairs_63 lf_X3_9 rfl (sr_0 k0) (rle_0 k0) (pr_0 hp0 k0) (Nat.succ_pos _) ?_
    refine qa_ild4 dX3_hasPairs_66 ?_
    refine qa_iconst (v := 1) dX3_hasPairs_68 (by decide) ?_
    refine qa_iadd dX3_hasPairs_69 ?_
    refine qa_lald dX3_hasPairs_70 (sr_1 k0) (rle_1 k0) h.1 ?_
    have h := h.2
    refine qa_ild2 dX3_hasPairs_71 ?_
    refine qa_i2l dX3_hasPairs_72 ?_
    refine qa_lcmp dX3_hasPairs_73 ?_
    refine qa_if_lt (tgt := 92) dX3_hasPairs_74 (by decide) (fun c5 => ?_) (fun c5 => ?_)
    · have h := h.1 c5
      refine qa_iconst (v := 0) dX3_hasPairs_92 (by decide) ?_
      exact qa_zret rfl rfl dX3_hasPairs_93 ⟨rfl, rfl⟩ ⟨rfl, hp0, _, rfl, h⟩
    · have h := h.2 c5
      refine qa_ald0 dX3_hasPairs_77 ?_
      refine qa_getR dX3_hasPairs_78 lf_X3_9 rfl (sr_0 k0) (rle_0 k0) (pr_0 hp0 k0) (Nat.succ_pos _) ?_
      refine qa_ild4 dX3_hasPairs_81 ?_
      refine qa_iconst (v := 1) dX3_hasPairs_83 (by decide) ?_
      refine qa_iadd dX3_hasPairs_84 ?_
      refine qa_lald dX3_hasPairs_85 (sr_1 k0) (rle_1 k0) h.1 ?_
      have h := h.2
      refine qa_ild3 dX3_hasPairs_86 ?_
      refine qa_i2l dX3_hasPairs_87 ?_
      refine qa_lcmp dX3_hasPairs_88 ?_
      refine qa_if_le (tgt := 94) dX3_hasPairs_89 (by decide) (fun c6 => ?_) (fun c6 => ?_)
      · have h := h.1 c6
        refine qa_inc4 dX3_hasPairs_94 (qa_io2 _) ?_
        refine qa_goto (tgt := 14) dX3_hasPairs_97 (by decide) ?_
        refine qa_fgt (L' := [some (.ref v0), some (.int v1), some (.int v2), some (.int v3), some (.int (v4 + (2 : Int32))), none]) (⟨rfl, ⟨rfl, ⟨rfl, ⟨rfl, ⟨rfl, trivial⟩⟩⟩⟩⟩) ?_
        exact hK0 v0 v1 v2 v3 (v4 + (2 : Int32)) μ0 hp0 k0 h
      · have h := h.2 c6
        refine qa_iconst (v := 0) dX3_hasPairs_92 (by decide) ?_
        exact qa_zret rfl rfl dX3_hasPairs_93 ⟨rfl, rfl⟩ ⟨rfl, hp0, _, rfl, h⟩
theorem tX3_hasPairs_54 (l : Launch) {K0 : Nat → Int32 → Int32 → Int32 → Int32 → qa_M → Prop} {Q : Int32 → qa_M → Prop} (hK0 : ∀ (v0 : Nat) (v1 : Int32) (v2 : Int32) (v3 : Int32) (v4 : Int32) (μ : qa_M), qa_PP μ.2.2 → qa_rw v0 → K0 v0 v1 v2 v3 v4 μ → qa_G l yX3_hasPairs cX3_hasPairs 6 (some .boolean) 0 0 0 (qa_pI Q) 0 0 14 [some (.ref v0), some (.int v1), some (.int v2), some (.int v3), some (.int v4), none] [] 113 μ) : ∀ (n : Nat) (v0 : Nat) (v1 : Int32) (v2 : Int32) (v3 : Int32) (v4 : Int32) (μ0 : qa_M), qa_PP μ0.2.2 → qa_rw v0 → wX3_hasPairs_54 n v0 v1 v2 v3 v4 μ0 K0 Q → qa_G l yX3_hasPairs cX3_hasPairs 6 (some .boolean) 0 0 0 (qa_pI Q) 0 0 54 [some (.ref v0), some (.int v1), some (.int v2), some (.int v3), some (.int v4), none] [] 113 μ0 := by
  intro n
  intro v0 v1 v2 v3 v4 μ0 hp0 k0 h
  unfold wX3_hasPairs_54 at h
  refine qa_iconst (v := 0) dX3_hasPairs_54 (by decide) ?_
  refine qa_fgt (L' := [some (.ref v0), some (.int v1), some (.int v2), some (.int v3), some (.int v4), none]) (⟨rfl, ⟨rfl, ⟨rfl, ⟨rfl, ⟨rfl, trivial⟩⟩⟩⟩⟩) ?_
  refine tX3_hasPairs_55 l hK0 n v0 v1 v2 v3 v4 (0 : Int32) μ0 hp0 k0 h
theorem tX3_hasPairs_14 (l : Launch)  {Q : Int32 → qa_M → Prop}  : ∀ (n : Nat) (v0 : Nat) (v1 : Int32) (v2 : Int32) (v3 : Int32) (v4 : Int32) (μ0 : qa_M), qa_PP μ0.2.2 → qa_rw v0 → wX3_hasPairs_14 n v0 v1 v2 v3 v4 μ0  Q → qa_G l yX3_hasPairs cX3_hasPairs 6 (some .boolean) 0 0 0 (qa_pI Q) 0 0 14 [some (.ref v0), some (.int v1), some (.int v2), some (.int v3), some (.int v4), none] [] 113 μ0 := by
  intro n
  induction n with
  | zero =>
    intro v0 v1 v2 v3 v4 μ0 hp0 k0 h
    rw [wX3_hasPairs_14] at h
    exact h.elim
  | succ n ih =>
    intro v0 v1 v2 v3 v4 μ0 hp0 k0 h
    rw [wX3_hasPairs_14] at h
    refine qa_ild4 dX3_hasPairs_14 ?_
    refine qa_iconst (v := 1) dX3_hasPairs_16 (by decide) ?_
    refine qa_iadd dX3_hasPairs_17 ?_
    refine qa_ald0 dX3_hasPairs_18 ?_
    refine qa_getI dX3_hasPairs_19 lf_X3_15 (Or.inl rfl) (sr_0 k0) (rle_0 k0) ?_
    refine qa_icmp_ge (tgt := 100) dX3_hasPairs_22 (by decide) (fun c2 => ?_) (fun c2 => ?_)
    · have h := h.1 c2
      refine qa_iconst (v := 1) dX3_hasPairs_100 (by decide) ?_
      exact qa_zret rfl rfl dX3_hasPairs_101 ⟨rfl, rfl⟩ ⟨rfl, hp0, _, rfl, h⟩
    · have h := h.2 c2
      refine qa_ald0 dX3_hasPairs_25 ?_
      refine qa_getR dX3_hasPairs_26 lf_X3_9 rfl (sr_0 k0) (rle_0 k0) (pr_0 hp0 k0) (Nat.succ_pos _) ?_
      refine qa_ild4 dX3_hasPairs_29 ?_
      refine qa_lald dX3_hasPairs_31 (sr_1 k0) (rle_1 k0) h.1 ?_
      have h := h.2
      refine qa_lconst (v := 0) dX3_hasPairs_32 (by decide) ?_
      refine qa_lcmp dX3_hasPairs_33 ?_
      refine qa_if_lt (tgt := 54) dX3_hasPairs_34 (by decide) (fun c3 => ?_) (fun c3 => ?_)
      · have h := h.1 c3
        refine qa_fgt (L' := [some (.ref v0), some (.int v1), some (.int v2), some (.int v3), some (.int v4), none]) (⟨rfl, ⟨rfl, ⟨rfl, ⟨rfl, ⟨rfl, trivial⟩⟩⟩⟩⟩) ?_
        refine tX3_hasPairs_54 l ih n v0 v1 v2 v3 v4 μ0 hp0 k0 h
      · have h := h.2 c3
        refine qa_ald0 dX3_hasPairs_37 ?_
        refine qa_getR dX3_hasPairs_38 lf_X3_9 rfl (sr_0 k0) (rle_0 k0) (pr_0 hp0 k0) (Nat.succ_pos _) ?_
        refine qa_ild4 dX3_hasPairs_41 ?_
        refine qa_lald dX3_hasPairs_43 (sr_1 k0) (rle_1 k0) h.1 ?_
        have h := h.2
        refine qa_ild1 dX3_hasPairs_44 ?_
        refine qa_i2l dX3_hasPairs_45 ?_
        refine qa_lcmp dX3_hasPairs_46 ?_
        refine qa_if_gt (tgt := 54) dX3_hasPairs_47 (by decide) (fun c7 => ?_) (fun c7 => ?_)
        · have h := h.1 c7
          refine qa_fgt (L' := [some (.ref v0), some (.int v1), some (.int v2), some (.int v3), some (.int v4), none]) (⟨rfl, ⟨rfl, ⟨rfl, ⟨rfl, ⟨rfl, trivial⟩⟩⟩⟩⟩) ?_
          refine tX3_hasPairs_54 l ih n v0 v1 v2 v3 v4 μ0 hp0 k0 h
        · have h := h.2 c7
          refine qa_iconst (v := 1) dX3_hasPairs_50 (by decide) ?_
          refine qa_goto (tgt := 55) dX3_hasPairs_51 (by decide) ?_
          refine qa_fgt (L' := [some (.ref v0), some (.int v1), some (.int v2), some (.int v3), some (.int v4), none]) (⟨rfl, ⟨rfl, ⟨rfl, ⟨rfl, ⟨rfl, trivial⟩⟩⟩⟩⟩) ?_
          refine tX3_hasPairs_55 l ih n v0 v1 v2 v3 v4 (1 : Int32) μ0 hp0 k0 h
theorem tX3_hasPairs (l : Launch) {n : Nat} {v0 : Nat} {v1 : Int32} {v2 : Int32} {v3 : Int32} {μ0 : qa_M} {Q : Int32 → qa_M → Prop} (hp0 : qa_PP μ0.2.2) (k0 : qa_rw v0) (h : wX3_hasPairs n v0 v1 v2 v3 μ0 Q) : qa_Met l yX3_hasPairs cX3_hasPairs 6 (some .boolean) 0 0 0 [.ref v0, .int v1, .int v2, .int v3] 113 μ0 (qa_pI Q) := by
  refine qa_ofG (by decide) (Nat.le_of_ble_eq_true rfl) ?_
  unfold wX3_hasPairs at h
  change qa_G l yX3_hasPairs cX3_hasPairs 6 (some .boolean) 0 0 0 (qa_pI Q) 0 0 0 [some (.ref v0), some (.int v1), some (.int v2), some (.int v3), none, none] [] 113 μ0
  refine qa_ald0 dX3_hasPairs_0 ?_
  refine qa_getI dX3_hasPairs_1 lf_X3_15 (Or.inl rfl) (sr_0 k0) (rle_0 k0) ?_
  refine qa_iconst (v := 2) dX3_hasPairs_4 (by decide) ?_
  refine qa_irem dX3_hasPairs_5 (by decide) ?_
  refine qa_if_eq (tgt := 11) dX3_hasPairs_6 (by decide) (fun c1 => ?_) (fun c1 => ?_)
  · have h := h.1 c1
    refine qa_iconst (v := 0) dX3_hasPairs_11 (by decide) ?_
    refine qa_ist4 dX3_hasPairs_12 ?_
    refine qa_fgt (L' := [some (.ref v0), some (.int v1), some (.int v2), some (.int v3), some (.int (0 : Int32)), none]) (⟨rfl, ⟨rfl, ⟨rfl, ⟨rfl, ⟨rfl, trivial⟩⟩⟩⟩⟩) ?_
    refine tX3_hasPairs_14 l  n v0 v1 v2 v3 (0 : Int32) μ0 hp0 k0 h
  · have h := h.2 c1
    refine qa_iconst (v := 0) dX3_hasPairs_9 (by decide) ?_
    exact qa_zret rfl rfl dX3_hasPairs_10 ⟨rfl, rfl⟩ ⟨rfl, hp0, _, rfl, h⟩
def wX3_isThere (n : Nat) (v0 : Nat) (μ0 : qa_M) (Q : Int32 → qa_M → Prop) : Prop := (((μ0.1 v0 2) = (-1 : Int32) → Q (0 : Int32) μ0) ∧ (¬ (μ0.1 v0 2) = (-1 : Int32) → Q (1 : Int32) μ0))
theorem tX3_isThere (l : Launch) {n : Nat} {v0 : Nat} {μ0 : qa_M} {Q : Int32 → qa_M → Prop} (hp0 : qa_PP μ0.2.2) (k0 : qa_rw v0) (h : wX3_isThere n v0 μ0 Q) : qa_Met l yX3_isThere cX3_isThere 1 (some .boolean) 0 0 0 [.ref v0] 113 μ0 (qa_pI Q) := by
  refine qa_ofG (by decide) (Nat.le_of_ble_eq_true rfl) ?_
  unfold wX3_isThere at h
  change qa_G l yX3_isThere cX3_isThere 1 (some .boolean) 0 0 0 (qa_pI Q) 0 0 0 [some (.ref v0)] [] 113 μ0
  refine qa_ald0 dX3_isThere_0 ?_
  refine qa_getI dX3_isThere_1 lf_X3_15 (Or.inl rfl) (sr_0 k0) (rle_0 k0) ?_
  refine qa_iconst (v := -1) dX3_isThere_4 (by decide) ?_
  refine qa_icmp_eq (tgt := 12) dX3_isThere_5 (by decide) (fun c1 => ?_) (fun c1 => ?_)
  · have h := h.1 c1
    refine qa_iconst (v := 0) dX3_isThere_12 (by decide) ?_
    exact qa_zret rfl rfl dX3_isThere_13 ⟨rfl, rfl⟩ ⟨rfl, hp0, _, rfl, h⟩
  · have h := h.2 c1
    refine qa_iconst (v := 1) dX3_isThere_8 (by decide) ?_
    refine qa_goto (tgt := 13) dX3_isThere_9 (by decide) ?_
    exact qa_zret rfl rfl dX3_isThere_13 ⟨rfl, rfl⟩ ⟨rfl, hp0, _, rfl, h⟩
def wX3_spans (n : Nat) (v0 : Nat) (v1 : Int32) (v2 : Int32) (μ0 : qa_M) (Q : Int32 → qa_M → Prop) : Prop := ((v1 < 0 → Q (0 : Int32) μ0) ∧ (¬ v1 < 0 → ((v2 < 0 → Q (0 : Int32) μ0) ∧ (¬ v2 < 0 → (((μ0.1 v0 2) < v1 → Q (0 : Int32) μ0) ∧ (¬ (μ0.1 v0 2) < v1 → ((((μ0.1 v0 2) - v1) < v2 → Q (0 : Int32) μ0) ∧ (¬ ((μ0.1 v0 2) - v1) < v2 → Q (1 : Int32) μ0))))))))
theorem tX3_spans (l : Launch) {n : Nat} {v0 : Nat} {v1 : Int32} {v2 : Int32} {μ0 : qa_M} {Q : Int32 → qa_M → Prop} (hp0 : qa_PP μ0.2.2) (k0 : qa_rw v0) (h : wX3_spans n v0 v1 v2 μ0 Q) : qa_Met l yX3_spans cX3_spans 3 (some .boolean) 0 0 0 [.ref v0, .int v1, .int v2] 113 μ0 (qa_pI Q) := by
  refine qa_ofG (by decide) (Nat.le_of_ble_eq_true rfl) ?_
  unfold wX3_spans at h
  change qa_G l yX3_spans cX3_spans 3 (some .boolean) 0 0 0 (qa_pI Q) 0 0 0 [some (.ref v0), some (.int v1), some (.int v2)] [] 113 μ0
  refine qa_ild1 dX3_spans_0 ?_
  refine qa_if_lt (tgt := 30) dX3_spans_1 (by decide) (fun c1 => ?_) (fun c1 => ?_)
  · have h := h.1 c1
    refine qa_iconst (v := 0) dX3_spans_30 (by decide) ?_
    exact qa_zret rfl rfl dX3_spans_31 ⟨rfl, rfl⟩ ⟨rfl, hp0, _, rfl, h⟩
  · have h := h.2 c1
    refine qa_ild2 dX3_spans_4 ?_
    refine qa_if_lt (tgt := 30) dX3_spans_5 (by decide) (fun c2 => ?_) (fun c2 => ?_)
    · have h := h.1 c2
      refine qa_iconst (v := 0) dX3_spans_30 (by decide) ?_
      exact qa_zret rfl rfl dX3_spans_31 ⟨rfl, rfl⟩ ⟨rfl, hp0, _, rfl, h⟩
    · have h := h.2 c2
      refine qa_ild1 dX3_spans_8 ?_
      refine qa_ald0 dX3_spans_9 ?_
      refine qa_getI dX3_spans_10 lf_X3_15 (Or.inl rfl) (sr_0 k0) (rle_0 k0) ?_
      refine qa_icmp_gt (tgt := 30) dX3_spans_13 (by decide) (fun c3 => ?_) (fun c3 => ?_)
      · have h := h.1 c3
        refine qa_iconst (v := 0) dX3_spans_30 (by decide) ?_
        exact qa_zret rfl rfl dX3_spans_31 ⟨rfl, rfl⟩ ⟨rfl, hp0, _, rfl, h⟩
      · have h := h.2 c3
        refine qa_ild2 dX3_spans_16 ?_
        refine qa_ald0 dX3_spans_17 ?_
        refine qa_getI dX3_spans_18 lf_X3_15 (Or.inl rfl) (sr_0 k0) (rle_0 k0) ?_
        refine qa_ild1 dX3_spans_21 ?_
        refine qa_isub dX3_spans_22 ?_
        refine qa_icmp_gt (tgt := 30) dX3_spans_23 (by decide) (fun c4 => ?_) (fun c4 => ?_)
        · have h := h.1 c4
          refine qa_iconst (v := 0) dX3_spans_30 (by decide) ?_
          exact qa_zret rfl rfl dX3_spans_31 ⟨rfl, rfl⟩ ⟨rfl, hp0, _, rfl, h⟩
        · have h := h.2 c4
          refine qa_iconst (v := 1) dX3_spans_26 (by decide) ?_
          refine qa_goto (tgt := 31) dX3_spans_27 (by decide) ?_
          exact qa_zret rfl rfl dX3_spans_31 ⟨rfl, rfl⟩ ⟨rfl, hp0, _, rfl, h⟩
def wX4_add_14 : Nat → Int32 → Nat → Int32 → Int32 → qa_M → (Int32 → qa_M → Prop) → (qa_M → Prop) → Prop
  | 0, _, _, _, _, _, _, _ => False
  | n + 1, v1, v2, v3, v4, μ0, K0, Q => ((v3 ≤ v4 → K0 v1 μ0) ∧ (¬ v3 ≤ v4 → vp_in v4 20 ∧ vp_in (((μ0.1 42 0) * (20 : Int32)) + v4) 5120 ∧ ∀ μ3, μ3 = qa_uI μ0 43 (((μ0.1 42 0) * (20 : Int32)) + v4).toNatClampNeg (μ0.1 (v2 + 4) v4.toNatClampNeg).toInt16.toInt32.toInt16.toInt32 → wX4_add_14 n v1 v2 v3 (v4 + (1 : Int32)) μ3 K0 Q))
def wX4_add (n : Nat) (v1 : Int32) (v2 : Nat) (v3 : Int32) (μ0 : qa_M) (Q : qa_M → Prop) : Prop := (((μ0.1 42 0) < (256 : Int32) → wX4_add_14 n v1 v2 v3 (0 : Int32) μ0 (fun v1_5 μ4 => ∀ μ6, μ6 = qa_uI μ4 42 1 ((μ4.1 42 1) &&& v1_5) → ∀ μ7, μ7 = qa_uI μ6 42 2 ((μ6.1 42 2) ||| v1_5) → ∀ μ8, μ8 = qa_uI μ7 42 0 ((μ7.1 42 0) + (1 : Int32)) → Q μ8) Q) ∧ (¬ (μ0.1 42 0) < (256 : Int32) → Q μ0))
theorem tX4_add_14 (l : Launch) {K0 : Int32 → qa_M → Prop} {Q : qa_M → Prop} (hK0 : ∀ (v1 : Int32) (μ : qa_M), qa_PP μ.2.2 → K0 v1 μ → qa_G l yX4_add cX4_add 5 none 0 0 0 (qa_pV Q) 0 0 49 [some (.ref 42), some (.int v1), none, none, none] [] 113 μ) : ∀ (n : Nat) (v1 : Int32) (v2 : Nat) (v3 : Int32) (v4 : Int32) (μ0 : qa_M), qa_PP μ0.2.2 → qa_yr v2 → wX4_add_14 n v1 v2 v3 v4 μ0 K0 Q → qa_G l yX4_add cX4_add 5 none 0 0 0 (qa_pV Q) 0 0 14 [some (.ref 42), some (.int v1), some (.ref v2), some (.int v3), some (.int v4)] [] 113 μ0 := by
  intro n
  induction n with
  | zero =>
    intro v1 v2 v3 v4 μ0 hp0 k2 h
    rw [wX4_add_14] at h
    exact h.elim
  | succ n ih =>
    intro v1 v2 v3 v4 μ0 hp0 k2 h
    rw [wX4_add_14] at h
    refine qa_ild4 dX4_add_14 ?_
    refine qa_ild3 dX4_add_16 ?_
    refine qa_icmp_ge (tgt := 49) dX4_add_17 (by decide) (fun c2 => ?_) (fun c2 => ?_)
    · have h := h.1 c2
      refine qa_fgt (L' := [some (.ref 42), some (.int v1), none, none, none]) (⟨rfl, ⟨rfl, trivial⟩⟩) ?_
      exact hK0 v1 μ0 hp0  h
    · have h := h.2 c2
      refine qa_ald0 dX4_add_20 ?_
      refine qa_getR dX4_add_21 lf_X4_9 rfl sh_42 (by decide) (pp_42_3 hp0) (by decide) ?_
      refine qa_ald0 dX4_add_24 ?_
      refine qa_getI dX4_add_25 lf_X4_15 (Or.inl rfl) sh_42 (by decide) ?_
      refine qa_bipush (v := 20) dX4_add_28 (by decide) ?_
      refine qa_imul dX4_add_30 ?_
      refine qa_ild4 dX4_add_31 ?_
      refine qa_iadd dX4_add_33 ?_
      refine qa_ald2 dX4_add_34 ?_
      refine qa_getR dX4_add_35 lf_X4_25 rfl (sy_0 k2) (yle_0 k2) (py_3 hp0 k2) (Nat.succ_pos _) ?_
      refine qa_ild4 dX4_add_38 ?_
      refine qa_iald dX4_add_40 (sy_4 k2) (yle_4 k2) h.1 ?_
      have h := h.2
      refine qa_i2s dX4_add_41 ?_
      refine qa_sast dX4_add_42 sh_43 (by decide) h.1 ?_
      have h := h.2
      refine qa_nmM (fun μ3 em3 => ?_)
      have h := h μ3 em3
      have hp3 : qa_PP μ3.2.2 := by rw [em3]; exact hp0
      refine qa_inc4 dX4_add_43 (qa_io1 _) ?_
      refine qa_goto (tgt := 14) dX4_add_46 (by decide) ?_
      refine qa_fgt (L' := [some (.ref 42), some (.int v1), some (.ref v2), some (.int v3), some (.int (v4 + (1 : Int32)))]) (⟨rfl, ⟨rfl, ⟨rfl, ⟨rfl, ⟨rfl, trivial⟩⟩⟩⟩⟩) ?_
      exact ih v1 v2 v3 (v4 + (1 : Int32)) μ3 hp3 k2 h
theorem tX4_add (l : Launch) {n : Nat} {v1 : Int32} {v2 : Nat} {v3 : Int32} {μ0 : qa_M} {Q : qa_M → Prop} (hp0 : qa_PP μ0.2.2) (k2 : qa_yr v2) (h : wX4_add n v1 v2 v3 μ0 Q) : qa_Met l yX4_add cX4_add 5 none 0 0 0 [.ref 42, .int v1, .ref v2, .int v3] 113 μ0 (qa_pV Q) := by
  refine qa_ofG (by decide) (Nat.le_of_ble_eq_true rfl) ?_
  unfold wX4_add at h
  change qa_G l yX4_add cX4_add 5 none 0 0 0 (qa_pV Q) 0 0 0 [some (.ref 42), some (.int v1), some (.ref v2), some (.int v3), none] [] 113 μ0
  refine qa_ald0 dX4_add_0 ?_
  refine qa_getI dX4_add_1 lf_X4_15 (Or.inl rfl) sh_42 (by decide) ?_
  refine qa_sipush (v := 256) dX4_add_4 (by decide) ?_
  refine qa_icmp_lt (tgt := 11) dX4_add_7 (by decide) (fun c1 => ?_) (fun c1 => ?_)
  · have h := h.1 c1
    refine qa_iconst (v := 0) dX4_add_11 (by decide) ?_
    refine qa_ist4 dX4_add_12 ?_
    refine qa_fgt (L' := [some (.ref 42), some (.int v1), some (.ref v2), some (.int v3), some (.int (0 : Int32))]) (⟨rfl, ⟨rfl, ⟨rfl, ⟨rfl, ⟨rfl, trivial⟩⟩⟩⟩⟩) ?_
    refine tX4_add_14 l ?_ n v1 v2 v3 (0 : Int32) μ0 hp0 k2 h
    · intro v1_5 μ4 hp4  h
      refine qa_ald0 dX4_add_49 ?_
      refine qa_dup dX4_add_50 rfl ?_
      refine qa_getI dX4_add_51 lf_X4_19 (Or.inl rfl) sh_42 (by decide) ?_
      refine qa_ild1 dX4_add_54 ?_
      refine qa_iand dX4_add_55 ?_
      refine qa_putI dX4_add_56 lf_X4_19 rfl sh_42 (by decide) rfl ?_
      refine qa_nmM (fun μ6 em6 => ?_)
      have h := h μ6 em6
      have hp6 : qa_PP μ6.2.2 := by rw [em6]; exact hp4
      refine qa_ald0 dX4_add_59 ?_
      refine qa_dup dX4_add_60 rfl ?_
      refine qa_getI dX4_add_61 lf_X4_22 (Or.inl rfl) sh_42 (by decide) ?_
      refine qa_ild1 dX4_add_64 ?_
      refine qa_ior dX4_add_65 ?_
      refine qa_putI dX4_add_66 lf_X4_22 rfl sh_42 (by decide) rfl ?_
      refine qa_nmM (fun μ7 em7 => ?_)
      have h := h μ7 em7
      have hp7 : qa_PP μ7.2.2 := by rw [em7]; exact hp6
      refine qa_ald0 dX4_add_69 ?_
      refine qa_dup dX4_add_70 rfl ?_
      refine qa_getI dX4_add_71 lf_X4_15 (Or.inl rfl) sh_42 (by decide) ?_
      refine qa_iconst (v := 1) dX4_add_74 (by decide) ?_
      refine qa_iadd dX4_add_75 ?_
      refine qa_putI dX4_add_76 lf_X4_15 rfl sh_42 (by decide) rfl ?_
      refine qa_nmM (fun μ8 em8 => ?_)
      have h := h μ8 em8
      have hp8 : qa_PP μ8.2.2 := by rw [em8]; exact hp7
      exact qa_vret rfl dX4_add_79 ⟨rfl, rfl⟩ ⟨rfl, hp8, rfl, h⟩
  · have h := h.2 c1
    exact qa_vret rfl dX4_add_10 ⟨rfl, rfl⟩ ⟨rfl, hp0, rfl, h⟩
def wX4_begin (n : Nat) (v1 : Int32) (μ0 : qa_M) (Q : qa_M → Prop) : Prop := ∀ μ1, μ1 = qa_uI μ0 42 0 (0 : Int32) → ∀ μ2, μ2 = qa_uI μ1 42 1 v1 → ∀ μ3, μ3 = qa_uI μ2 42 2 (0 : Int32) → Q μ3
theorem tX4_begin (l : Launch) {n : Nat} {v1 : Int32} {μ0 : qa_M} {Q : qa_M → Prop} (hp0 : qa_PP μ0.2.2)  (h : wX4_begin n v1 μ0 Q) : qa_Met l yX4_begin cX4_begin 2 none 0 0 0 [.ref 42, .int v1] 113 μ0 (qa_pV Q) := by
  refine qa_ofG (by decide) (Nat.le_of_ble_eq_true rfl) ?_
  unfold wX4_begin at h
  change qa_G l yX4_begin cX4_begin 2 none 0 0 0 (qa_pV Q) 0 0 0 [some (.ref 42), some (.int v1)] [] 113 μ0
  refine qa_ald0 dX4_begin_0 ?_
  refine qa_iconst (v := 0) dX4_begin_1 (by decide) ?_
  refine qa_putI dX4_begin_2 lf_X4_15 rfl sh_42 (by decide) rfl ?_
  refine qa_nmM (fun μ1 em1 => ?_)
  have h := h μ1 em1
  have hp1 : qa_PP μ1.2.2 := by rw [em1]; exact hp0
  refine qa_ald0 dX4_begin_5 ?_
  refine qa_ild1 dX4_begin_6 ?_
  refine qa_putI dX4_begin_7 lf_X4_19 rfl sh_42 (by decide) rfl ?_
  refine qa_nmM (fun μ2 em2 => ?_)
  have h := h μ2 em2
  have hp2 : qa_PP μ2.2.2 := by rw [em2]; exact hp1
  refine qa_ald0 dX4_begin_10 ?_
  refine qa_iconst (v := 0) dX4_begin_11 (by decide) ?_
  refine qa_putI dX4_begin_12 lf_X4_22 rfl sh_42 (by decide) rfl ?_
  refine qa_nmM (fun μ3 em3 => ?_)
  have h := h μ3 em3
  have hp3 : qa_PP μ3.2.2 := by rw [em3]; exact hp2
  exact qa_vret rfl dX4_begin_15 ⟨rfl, rfl⟩ ⟨rfl, hp3, rfl, h⟩
def wX5_clear (n : Nat)  (μ0 : qa_M) (Q : qa_M → Prop) : Prop := wJ7_fill_53178 n 45 801 (0 : Int32) μ0 (fun μ1 => Q μ1)
theorem tX5_clear (l : Launch) {n : Nat}  {μ0 : qa_M} {Q : qa_M → Prop} (hp0 : qa_PP μ0.2.2)  (h : wX5_clear n  μ0 Q) : qa_Met l yX5_clear cX5_clear 1 none 1 0 0 [.ref 44] 113 μ0 (qa_pV Q) := by
  refine qa_ofG (by decide) (Nat.le_of_ble_eq_true rfl) ?_
  unfold wX5_clear at h
  change qa_G l yX5_clear cX5_clear 1 none 1 0 0 (qa_pV Q) 0 0 0 [some (.ref 44)] [] 113 μ0
  refine qa_ald0 dX5_clear_0 ?_
  refine qa_getR dX5_clear_1 lf_X5_9 rfl sh_44 (by decide) (pp_44_0 hp0) (by decide) ?_
  refine qa_iconst (v := 0) dX5_clear_4 (by decide) ?_
  refine qa_S2V dX5_clear_5 lm_X5_15  (by decide) (Nat.le_of_ble_eq_true rfl) (tJ7_fill_53178 l hp0 sh_45 (by decide) h) (fun μ1 hp1 h => ?_)
  exact qa_vret rfl dX5_clear_8 ⟨rfl, rfl⟩ ⟨rfl, hp1, rfl, h⟩
def wX5_add (n : Nat) (v1 : Int32) (μ0 : qa_M) (Q : Int32 → qa_M → Prop) : Prop := ((v1 < (-400 : Int32) → Q (0 : Int32) μ0) ∧ (¬ v1 < (-400 : Int32) → ((v1 ≤ (400 : Int32) → vp_in (v1 + (400 : Int32)) 801 ∧ vp_in (v1 + (400 : Int32)) 801 ∧ ∀ μ3, μ3 = qa_uI μ0 45 (v1 + (400 : Int32)).toNatClampNeg ((μ0.1 45 (v1 + (400 : Int32)).toNatClampNeg) + (1 : Int32)) → vp_in (v1 + (400 : Int32)) 801 ∧ Q (μ3.1 45 (v1 + (400 : Int32)).toNatClampNeg) μ3) ∧ (¬ v1 ≤ (400 : Int32) → Q (0 : Int32) μ0))))
theorem tX5_add (l : Launch) {n : Nat} {v1 : Int32} {μ0 : qa_M} {Q : Int32 → qa_M → Prop} (hp0 : qa_PP μ0.2.2)  (h : wX5_add n v1 μ0 Q) : qa_Met l yX5_add cX5_add 2 (some .int) 0 0 0 [.ref 44, .int v1] 113 μ0 (qa_pI Q) := by
  refine qa_ofG (by decide) (Nat.le_of_ble_eq_true rfl) ?_
  unfold wX5_add at h
  change qa_G l yX5_add cX5_add 2 (some .int) 0 0 0 (qa_pI Q) 0 0 0 [some (.ref 44), some (.int v1)] [] 113 μ0
  refine qa_ild1 dX5_add_0 ?_
  refine qa_sipush (v := -400) dX5_add_1 (by decide) ?_
  refine qa_icmp_lt (tgt := 14) dX5_add_4 (by decide) (fun c1 => ?_) (fun c1 => ?_)
  · have h := h.1 c1
    refine qa_iconst (v := 0) dX5_add_14 (by decide) ?_
    exact qa_iret rfl dX5_add_15 ⟨rfl, rfl⟩ ⟨rfl, hp0, _, rfl, h⟩
  · have h := h.2 c1
    refine qa_ild1 dX5_add_7 ?_
    refine qa_sipush (v := 400) dX5_add_8 (by decide) ?_
    refine qa_icmp_le (tgt := 16) dX5_add_11 (by decide) (fun c2 => ?_) (fun c2 => ?_)
    · have h := h.1 c2
      refine qa_ald0 dX5_add_16 ?_
      refine qa_getR dX5_add_17 lf_X5_9 rfl sh_44 (by decide) (pp_44_0 hp0) (by decide) ?_
      refine qa_ild1 dX5_add_20 ?_
      refine qa_sipush (v := 400) dX5_add_21 (by decide) ?_
      refine qa_iadd dX5_add_24 ?_
      refine qa_dup2 dX5_add_25 rfl rfl ?_
      refine qa_iald dX5_add_26 sh_45 (by decide) h.1 ?_
      have h := h.2
      refine qa_iconst (v := 1) dX5_add_27 (by decide) ?_
      refine qa_iadd dX5_add_28 ?_
      refine qa_iast dX5_add_29 sh_45 (by decide) h.1 ?_
      have h := h.2
      refine qa_nmM (fun μ3 em3 => ?_)
      have h := h μ3 em3
      have hp3 : qa_PP μ3.2.2 := by rw [em3]; exact hp0
      refine qa_ald0 dX5_add_30 ?_
      refine qa_getR dX5_add_31 lf_X5_9 rfl sh_44 (by decide) (pp_44_0 hp3) (by decide) ?_
      refine qa_ild1 dX5_add_34 ?_
      refine qa_sipush (v := 400) dX5_add_35 (by decide) ?_
      refine qa_iadd dX5_add_38 ?_
      refine qa_iald dX5_add_39 sh_45 (by decide) h.1 ?_
      have h := h.2
      exact qa_iret rfl dX5_add_40 ⟨rfl, rfl⟩ ⟨rfl, hp3, _, rfl, h⟩
    · have h := h.2 c2
      refine qa_iconst (v := 0) dX5_add_14 (by decide) ?_
      exact qa_iret rfl dX5_add_15 ⟨rfl, rfl⟩ ⟨rfl, hp0, _, rfl, h⟩
def wX4_worst_9 : Nat → Int32 → Int32 → Int32 → qa_M → (Int32 → qa_M → Prop) → Prop
  | 0, _, _, _, _, _ => False
  | n + 1, v1, v3, v4, μ0, Q => (((μ0.1 42 0) ≤ v4 → Q v3 μ0) ∧ (¬ (μ0.1 42 0) ≤ v4 → vp_in ((v4 * (20 : Int32)) + v1) 5120 ∧ wX5_add n (μ0.1 43 ((v4 * (20 : Int32)) + v1).toNatClampNeg) μ0 (fun r3 μ3 => wJ9_max_7cf53 n v3 r3 μ3 (fun r4 μ4 => wX4_worst_9 n v1 r4 (v4 + (1 : Int32)) μ4 Q))))
def wX4_worst (n : Nat) (v1 : Int32) (μ0 : qa_M) (Q : Int32 → qa_M → Prop) : Prop := wX5_clear n  μ0 (fun μ1 => wX4_worst_9 n v1 (0 : Int32) (0 : Int32) μ1  Q)
theorem tX4_worst_9 (l : Launch)  {Q : Int32 → qa_M → Prop}  : ∀ (n : Nat) (v1 : Int32) (v3 : Int32) (v4 : Int32) (μ0 : qa_M), qa_PP μ0.2.2 → wX4_worst_9 n v1 v3 v4 μ0  Q → qa_G l yX4_worst cX4_worst 5 (some .int) 2 0 0 (qa_pI Q) 0 0 9 [some (.ref 42), some (.int v1), some (.ref 44), some (.int v3), some (.int v4)] [] 113 μ0 := by
  intro n
  induction n with
  | zero =>
    intro v1 v3 v4 μ0 hp0  h
    rw [wX4_worst_9] at h
    exact h.elim
  | succ n ih =>
    intro v1 v3 v4 μ0 hp0  h
    rw [wX4_worst_9] at h
    refine qa_ild4 dX4_worst_9 ?_
    refine qa_ald0 dX4_worst_11 ?_
    refine qa_getI dX4_worst_12 lf_X4_15 (Or.inl rfl) sh_42 (by decide) ?_
    refine qa_icmp_ge (tgt := 45) dX4_worst_15 (by decide) (fun c2 => ?_) (fun c2 => ?_)
    · have h := h.1 c2
      refine qa_ild3 dX4_worst_45 ?_
      exact qa_iret rfl dX4_worst_46 ⟨rfl, rfl⟩ ⟨rfl, hp0, _, rfl, h⟩
    · have h := h.2 c2
      refine qa_ild3 dX4_worst_18 ?_
      refine qa_ald2 dX4_worst_19 ?_
      refine qa_ald0 dX4_worst_20 ?_
      refine qa_getR dX4_worst_21 lf_X4_9 rfl sh_42 (by decide) (pp_42_3 hp0) (by decide) ?_
      refine qa_ild4 dX4_worst_24 ?_
      refine qa_bipush (v := 20) dX4_worst_26 (by decide) ?_
      refine qa_imul dX4_worst_28 ?_
      refine qa_ild1 dX4_worst_29 ?_
      refine qa_iadd dX4_worst_30 ?_
      refine qa_sald dX4_worst_31 sh_43 (by decide) h.1 ?_
      have h := h.2
      refine qa_V1I dX4_worst_32 lm_X4_35 sh_44 rfl (by decide) (by decide) (Nat.le_of_ble_eq_true rfl) (tX5_add l hp0  h) (fun r3 μ3 hp3 h => ?_)
      refine qa_S2I dX4_worst_35 lm_X4_39  (by decide) (Nat.le_of_ble_eq_true rfl) (tJ9_max_7cf53 l hp3  h) (fun r4 μ4 hp4 h => ?_)
      refine qa_ist3 dX4_worst_38 ?_
      refine qa_inc4 dX4_worst_39 (qa_io1 _) ?_
      refine qa_goto (tgt := 9) dX4_worst_42 (by decide) ?_
      refine qa_fgt (L' := [some (.ref 42), some (.int v1), some (.ref 44), some (.int r4), some (.int (v4 + (1 : Int32)))]) (⟨rfl, ⟨rfl, ⟨rfl, ⟨rfl, ⟨rfl, trivial⟩⟩⟩⟩⟩) ?_
      exact ih v1 r4 (v4 + (1 : Int32)) μ4 hp4  h
theorem tX4_worst (l : Launch) {n : Nat} {v1 : Int32} {μ0 : qa_M} {Q : Int32 → qa_M → Prop} (hp0 : qa_PP μ0.2.2)  (h : wX4_worst n v1 μ0 Q) : qa_Met l yX4_worst cX4_worst 5 (some .int) 2 0 0 [.ref 42, .int v1, .ref 44] 113 μ0 (qa_pI Q) := by
  refine qa_ofG (by decide) (Nat.le_of_ble_eq_true rfl) ?_
  unfold wX4_worst at h
  change qa_G l yX4_worst cX4_worst 5 (some .int) 2 0 0 (qa_pI Q) 0 0 0 [some (.ref 42), some (.int v1), some (.ref 44), none, none] [] 113 μ0
  refine qa_ald2 dX4_worst_0 ?_
  refine qa_V0V dX4_worst_1 lm_X4_30 sh_44 rfl (by decide) (by decide) (Nat.le_of_ble_eq_true rfl) (tX5_clear l hp0  h) (fun μ1 hp1 h => ?_)
  refine qa_iconst (v := 0) dX4_worst_4 (by decide) ?_
  refine qa_ist3 dX4_worst_5 ?_
  refine qa_iconst (v := 0) dX4_worst_6 (by decide) ?_
  refine qa_ist4 dX4_worst_7 ?_
  refine qa_fgt (L' := [some (.ref 42), some (.int v1), some (.ref 44), some (.int (0 : Int32)), some (.int (0 : Int32))]) (⟨rfl, ⟨rfl, ⟨rfl, ⟨rfl, ⟨rfl, trivial⟩⟩⟩⟩⟩) ?_
  refine tX4_worst_9 l  n v1 (0 : Int32) (0 : Int32) μ1 hp1  h
def wX6_copyFrom (n : Nat) (v0 : Nat) (v1 : Nat) (μ0 : qa_M) (Q : qa_M → Prop) : Prop := ∀ μ1, μ1 = qa_uI μ0 v0 0 (μ0.1 v1 0) → ∀ μ2, μ2 = qa_uI μ1 v0 1 (μ1.1 v1 1) → ∀ μ3, μ3 = qa_uI μ2 v0 2 (μ2.1 v1 2) → ∀ μ4, μ4 = qa_uI μ3 v0 3 (μ3.1 v1 3) → ∀ μ5, μ5 = qa_uI μ4 v0 4 (μ4.1 v1 4) → ∀ μ6, μ6 = qa_uI μ5 v0 5 (μ5.1 v1 5) → ∀ μ7, μ7 = qa_uI μ6 v0 6 (μ6.1 v1 6) → ∀ μ8, μ8 = qa_uI μ7 v0 7 (μ7.1 v1 7) → ∀ μ9, μ9 = qa_uI μ8 v0 8 (μ8.1 v1 8) → ∀ μ10, μ10 = qa_uI μ9 v0 9 (μ9.1 v1 9) → ∀ μ11, μ11 = qa_uI μ10 v0 10 (μ10.1 v1 10) → ∀ μ12, μ12 = qa_cpI μ11 (v1 + 1) (v0 + 1) (0 : Int32).toNatClampNeg (0 : Int32).toNatClampNeg (8 : Int32).toNatClampNeg → ∀ μ13, μ13 = qa_cpI μ12 (v1 + 2) (v0 + 2) (0 : Int32).toNatClampNeg (0 : Int32).toNatClampNeg (8 : Int32).toNatClampNeg → ∀ μ14, μ14 = qa_cpI μ13 (v1 + 3) (v0 + 3) (0 : Int32).toNatClampNeg (0 : Int32).toNatClampNeg (8 : Int32).toNatClampNeg → ∀ μ15, μ15 = qa_cpI μ14 (v1 + 4) (v0 + 4) (0 : Int32).toNatClampNeg (0 : Int32).toNatClampNeg (8 : Int32).toNatClampNeg → ∀ μ16, μ16 = qa_cpI μ15 (v1 + 5) (v0 + 5) (0 : Int32).toNatClampNeg (0 : Int32).toNatClampNeg (8 : Int32).toNatClampNeg → ∀ μ17, μ17 = qa_cpI μ16 (v1 + 6) (v0 + 6) (0 : Int32).toNatClampNeg (0 : Int32).toNatClampNeg (8 : Int32).toNatClampNeg → wX0_repeat n v0 v1 μ17 (fun μ18 => Q μ18)
theorem tX6_copyFrom (l : Launch) {n : Nat} {v0 : Nat} {v1 : Nat} {μ0 : qa_M} {Q : qa_M → Prop} (hp0 : qa_PP μ0.2.2) (k0 : qa_tw v0) (k1 : qa_tw v1) (h : wX6_copyFrom n v0 v1 μ0 Q) : qa_Met l yX6_copyFrom cX6_copyFrom 2 none 3 0 0 [.ref v0, .ref v1] 113 μ0 (qa_pV Q) := by
  refine qa_ofG (by decide) (Nat.le_of_ble_eq_true rfl) ?_
  unfold wX6_copyFrom at h
  change qa_G l yX6_copyFrom cX6_copyFrom 2 none 3 0 0 (qa_pV Q) 0 0 0 [some (.ref v0), some (.ref v1)] [] 113 μ0
  refine qa_ald0 dX6_copyFrom_0 ?_
  refine qa_ald1 dX6_copyFrom_1 ?_
  refine qa_getI dX6_copyFrom_2 lf_X6_37 (Or.inl rfl) (st_0 k1) (tle_0 k1) ?_
  refine qa_putI dX6_copyFrom_5 lf_X6_37 rfl (st_0 k0) (tle_0 k0) rfl ?_
  refine qa_nmM (fun μ1 em1 => ?_)
  have h := h μ1 em1
  have hp1 : qa_PP μ1.2.2 := by rw [em1]; exact hp0
  refine qa_ald0 dX6_copyFrom_8 ?_
  refine qa_ald1 dX6_copyFrom_9 ?_
  refine qa_getI dX6_copyFrom_10 lf_X6_41 (Or.inl rfl) (st_0 k1) (tle_0 k1) ?_
  refine qa_putI dX6_copyFrom_13 lf_X6_41 rfl (st_0 k0) (tle_0 k0) rfl ?_
  refine qa_nmM (fun μ2 em2 => ?_)
  have h := h μ2 em2
  have hp2 : qa_PP μ2.2.2 := by rw [em2]; exact hp1
  refine qa_ald0 dX6_copyFrom_16 ?_
  refine qa_ald1 dX6_copyFrom_17 ?_
  refine qa_getI dX6_copyFrom_18 lf_X6_44 (Or.inl rfl) (st_0 k1) (tle_0 k1) ?_
  refine qa_putI dX6_copyFrom_21 lf_X6_44 rfl (st_0 k0) (tle_0 k0) rfl ?_
  refine qa_nmM (fun μ3 em3 => ?_)
  have h := h μ3 em3
  have hp3 : qa_PP μ3.2.2 := by rw [em3]; exact hp2
  refine qa_ald0 dX6_copyFrom_24 ?_
  refine qa_ald1 dX6_copyFrom_25 ?_
  refine qa_getI dX6_copyFrom_26 lf_X6_47 (Or.inl rfl) (st_0 k1) (tle_0 k1) ?_
  refine qa_putI dX6_copyFrom_29 lf_X6_47 rfl (st_0 k0) (tle_0 k0) rfl ?_
  refine qa_nmM (fun μ4 em4 => ?_)
  have h := h μ4 em4
  have hp4 : qa_PP μ4.2.2 := by rw [em4]; exact hp3
  refine qa_ald0 dX6_copyFrom_32 ?_
  refine qa_ald1 dX6_copyFrom_33 ?_
  refine qa_getI dX6_copyFrom_34 lf_X6_50 (Or.inl rfl) (st_0 k1) (tle_0 k1) ?_
  refine qa_putI dX6_copyFrom_37 lf_X6_50 rfl (st_0 k0) (tle_0 k0) rfl ?_
  refine qa_nmM (fun μ5 em5 => ?_)
  have h := h μ5 em5
  have hp5 : qa_PP μ5.2.2 := by rw [em5]; exact hp4
  refine qa_ald0 dX6_copyFrom_40 ?_
  refine qa_ald1 dX6_copyFrom_41 ?_
  refine qa_getI dX6_copyFrom_42 lf_X6_53 (Or.inl rfl) (st_0 k1) (tle_0 k1) ?_
  refine qa_putI dX6_copyFrom_45 lf_X6_53 rfl (st_0 k0) (tle_0 k0) rfl ?_
  refine qa_nmM (fun μ6 em6 => ?_)
  have h := h μ6 em6
  have hp6 : qa_PP μ6.2.2 := by rw [em6]; exact hp5
  refine qa_ald0 dX6_copyFrom_48 ?_
  refine qa_ald1 dX6_copyFrom_49 ?_
  refine qa_getI dX6_copyFrom_50 lf_X6_56 (Or.inl rfl) (st_0 k1) (tle_0 k1) ?_
  refine qa_putI dX6_copyFrom_53 lf_X6_56 rfl (st_0 k0) (tle_0 k0) rfl ?_
  refine qa_nmM (fun μ7 em7 => ?_)
  have h := h μ7 em7
  have hp7 : qa_PP μ7.2.2 := by rw [em7]; exact hp6
  refine qa_ald0 dX6_copyFrom_56 ?_
  refine qa_ald1 dX6_copyFrom_57 ?_
  refine qa_getI dX6_copyFrom_58 lf_X6_59 (Or.inl rfl) (st_0 k1) (tle_0 k1) ?_
  refine qa_putI dX6_copyFrom_61 lf_X6_59 rfl (st_0 k0) (tle_0 k0) rfl ?_
  refine qa_nmM (fun μ8 em8 => ?_)
  have h := h μ8 em8
  have hp8 : qa_PP μ8.2.2 := by rw [em8]; exact hp7
  refine qa_ald0 dX6_copyFrom_64 ?_
  refine qa_ald1 dX6_copyFrom_65 ?_
  refine qa_getI dX6_copyFrom_66 lf_X6_62 (Or.inl rfl) (st_0 k1) (tle_0 k1) ?_
  refine qa_putI dX6_copyFrom_69 lf_X6_62 rfl (st_0 k0) (tle_0 k0) rfl ?_
  refine qa_nmM (fun μ9 em9 => ?_)
  have h := h μ9 em9
  have hp9 : qa_PP μ9.2.2 := by rw [em9]; exact hp8
  refine qa_ald0 dX6_copyFrom_72 ?_
  refine qa_ald1 dX6_copyFrom_73 ?_
  refine qa_getI dX6_copyFrom_74 lf_X6_65 (Or.inl rfl) (st_0 k1) (tle_0 k1) ?_
  refine qa_putI dX6_copyFrom_77 lf_X6_65 rfl (st_0 k0) (tle_0 k0) rfl ?_
  refine qa_nmM (fun μ10 em10 => ?_)
  have h := h μ10 em10
  have hp10 : qa_PP μ10.2.2 := by rw [em10]; exact hp9
  refine qa_ald0 dX6_copyFrom_80 ?_
  refine qa_ald1 dX6_copyFrom_81 ?_
  refine qa_getI dX6_copyFrom_82 lf_X6_68 (Or.inl rfl) (st_0 k1) (tle_0 k1) ?_
  refine qa_putI dX6_copyFrom_85 lf_X6_68 rfl (st_0 k0) (tle_0 k0) rfl ?_
  refine qa_nmM (fun μ11 em11 => ?_)
  have h := h μ11 em11
  have hp11 : qa_PP μ11.2.2 := by rw [em11]; exact hp10
  refine qa_ald1 dX6_copyFrom_88 ?_
  refine qa_getR dX6_copyFrom_89 lf_X6_9 rfl (st_0 k1) (tle_0 k1) (pt_11 hp11 k1) (Nat.succ_pos _) ?_
  refine qa_iconst (v := 0) dX6_copyFrom_92 (by decide) ?_
  refine qa_ald0 dX6_copyFrom_93 ?_
  refine qa_getR dX6_copyFrom_94 lf_X6_9 rfl (st_0 k0) (tle_0 k0) (pt_11 hp11 k0) (Nat.succ_pos _) ?_
  refine qa_iconst (v := 0) dX6_copyFrom_97 (by decide) ?_
  refine qa_bipush (v := 8) dX6_copyFrom_98 (by decide) ?_
  refine qa_copyI dX6_copyFrom_100 lac_X6_81 lac_n lac_s lac_i (st_1 k1) (st_1 k0) (tle_1 k1) (tle_1 k0) (by decide) (by decide) (by decide) (by decide) (by decide) (by decide) ?_
  refine qa_nmM (fun μ12 em12 => ?_)
  have h := h μ12 em12
  have hp12 : qa_PP μ12.2.2 := by rw [em12]; exact hp11
  refine qa_ald1 dX6_copyFrom_103 ?_
  refine qa_getR dX6_copyFrom_104 lf_X6_15 rfl (st_0 k1) (tle_0 k1) (pt_12 hp12 k1) (Nat.succ_pos _) ?_
  refine qa_iconst (v := 0) dX6_copyFrom_107 (by decide) ?_
  refine qa_ald0 dX6_copyFrom_108 ?_
  refine qa_getR dX6_copyFrom_109 lf_X6_15 rfl (st_0 k0) (tle_0 k0) (pt_12 hp12 k0) (Nat.succ_pos _) ?_
  refine qa_iconst (v := 0) dX6_copyFrom_112 (by decide) ?_
  refine qa_bipush (v := 8) dX6_copyFrom_113 (by decide) ?_
  refine qa_copyI dX6_copyFrom_115 lac_X6_81 lac_n lac_s lac_i (st_2 k1) (st_2 k0) (tle_2 k1) (tle_2 k0) (by decide) (by decide) (by decide) (by decide) (by decide) (by decide) ?_
  refine qa_nmM (fun μ13 em13 => ?_)
  have h := h μ13 em13
  have hp13 : qa_PP μ13.2.2 := by rw [em13]; exact hp12
  refine qa_ald1 dX6_copyFrom_118 ?_
  refine qa_getR dX6_copyFrom_119 lf_X6_18 rfl (st_0 k1) (tle_0 k1) (pt_13 hp13 k1) (Nat.succ_pos _) ?_
  refine qa_iconst (v := 0) dX6_copyFrom_122 (by decide) ?_
  refine qa_ald0 dX6_copyFrom_123 ?_
  refine qa_getR dX6_copyFrom_124 lf_X6_18 rfl (st_0 k0) (tle_0 k0) (pt_13 hp13 k0) (Nat.succ_pos _) ?_
  refine qa_iconst (v := 0) dX6_copyFrom_127 (by decide) ?_
  refine qa_bipush (v := 8) dX6_copyFrom_128 (by decide) ?_
  refine qa_copyI dX6_copyFrom_130 lac_X6_81 lac_n lac_s lac_i (st_3 k1) (st_3 k0) (tle_3 k1) (tle_3 k0) (by decide) (by decide) (by decide) (by decide) (by decide) (by decide) ?_
  refine qa_nmM (fun μ14 em14 => ?_)
  have h := h μ14 em14
  have hp14 : qa_PP μ14.2.2 := by rw [em14]; exact hp13
  refine qa_ald1 dX6_copyFrom_133 ?_
  refine qa_getR dX6_copyFrom_134 lf_X6_21 rfl (st_0 k1) (tle_0 k1) (pt_14 hp14 k1) (Nat.succ_pos _) ?_
  refine qa_iconst (v := 0) dX6_copyFrom_137 (by decide) ?_
  refine qa_ald0 dX6_copyFrom_138 ?_
  refine qa_getR dX6_copyFrom_139 lf_X6_21 rfl (st_0 k0) (tle_0 k0) (pt_14 hp14 k0) (Nat.succ_pos _) ?_
  refine qa_iconst (v := 0) dX6_copyFrom_142 (by decide) ?_
  refine qa_bipush (v := 8) dX6_copyFrom_143 (by decide) ?_
  refine qa_copyI dX6_copyFrom_145 lac_X6_81 lac_n lac_s lac_i (st_4 k1) (st_4 k0) (tle_4 k1) (tle_4 k0) (by decide) (by decide) (by decide) (by decide) (by decide) (by decide) ?_
  refine qa_nmM (fun μ15 em15 => ?_)
  have h := h μ15 em15
  have hp15 : qa_PP μ15.2.2 := by rw [em15]; exact hp14
  refine qa_ald1 dX6_copyFrom_148 ?_
  refine qa_getR dX6_copyFrom_149 lf_X6_24 rfl (st_0 k1) (tle_0 k1) (pt_15 hp15 k1) (Nat.succ_pos _) ?_
  refine qa_iconst (v := 0) dX6_copyFrom_152 (by decide) ?_
  refine qa_ald0 dX6_copyFrom_153 ?_
  refine qa_getR dX6_copyFrom_154 lf_X6_24 rfl (st_0 k0) (tle_0 k0) (pt_15 hp15 k0) (Nat.succ_pos _) ?_
  refine qa_iconst (v := 0) dX6_copyFrom_157 (by decide) ?_
  refine qa_bipush (v := 8) dX6_copyFrom_158 (by decide) ?_
  refine qa_copyI dX6_copyFrom_160 lac_X6_81 lac_n lac_s lac_i (st_5 k1) (st_5 k0) (tle_5 k1) (tle_5 k0) (by decide) (by decide) (by decide) (by decide) (by decide) (by decide) ?_
  refine qa_nmM (fun μ16 em16 => ?_)
  have h := h μ16 em16
  have hp16 : qa_PP μ16.2.2 := by rw [em16]; exact hp15
  refine qa_ald1 dX6_copyFrom_163 ?_
  refine qa_getR dX6_copyFrom_164 lf_X6_27 rfl (st_0 k1) (tle_0 k1) (pt_16 hp16 k1) (Nat.succ_pos _) ?_
  refine qa_iconst (v := 0) dX6_copyFrom_167 (by decide) ?_
  refine qa_ald0 dX6_copyFrom_168 ?_
  refine qa_getR dX6_copyFrom_169 lf_X6_27 rfl (st_0 k0) (tle_0 k0) (pt_16 hp16 k0) (Nat.succ_pos _) ?_
  refine qa_iconst (v := 0) dX6_copyFrom_172 (by decide) ?_
  refine qa_bipush (v := 8) dX6_copyFrom_173 (by decide) ?_
  refine qa_copyI dX6_copyFrom_175 lac_X6_81 lac_n lac_s lac_i (st_6 k1) (st_6 k0) (tle_6 k1) (tle_6 k0) (by decide) (by decide) (by decide) (by decide) (by decide) (by decide) ?_
  refine qa_nmM (fun μ17 em17 => ?_)
  have h := h μ17 em17
  have hp17 : qa_PP μ17.2.2 := by rw [em17]; exact hp16
  refine qa_ald0 dX6_copyFrom_178 ?_
  refine qa_getR dX6_copyFrom_179 lf_X6_33 rfl (st_0 k0) (tle_0 k0) (pt_17 hp17 k0) (Nat.succ_pos _) ?_
  refine qa_ald1 dX6_copyFrom_182 ?_
  refine qa_getR dX6_copyFrom_183 lf_X6_33 rfl (st_0 k1) (tle_0 k1) (pt_17 hp17 k1) (Nat.succ_pos _) ?_
  refine qa_V1V dX6_copyFrom_186 lm_X6_87 (st_7 k0) rfl (tle_7 k0) (by decide) (Nat.le_of_ble_eq_true rfl) (tX0_repeat l hp17 k0 k1 h) (fun μ18 hp18 h => ?_)
  exact qa_vret rfl dX6_copyFrom_189 ⟨rfl, rfl⟩ ⟨rfl, hp18, rfl, h⟩
def wX8_round (n : Nat) (v0 : Int32) (v1 : Int32) (μ0 : qa_M) (Q : Int32 → qa_M → Prop) : Prop := (((1 : Int32) ≤ v1 → wJ9_floorMod_7cf53 n v0 v1 μ0 (fun r2 μ2 => Q r2 μ2)) ∧ (¬ (1 : Int32) ≤ v1 → Q (0 : Int32) μ0))
theorem tX8_round (l : Launch) {n : Nat} {v0 : Int32} {v1 : Int32} {μ0 : qa_M} {Q : Int32 → qa_M → Prop} (hp0 : qa_PP μ0.2.2)  (h : wX8_round n v0 v1 μ0 Q) : qa_Met l yX8_round cX8_round 2 (some .int) 1 0 0 [.int v0, .int v1] 113 μ0 (qa_pI Q) := by
  refine qa_ofG (by decide) (Nat.le_of_ble_eq_true rfl) ?_
  unfold wX8_round at h
  change qa_G l yX8_round cX8_round 2 (some .int) 1 0 0 (qa_pI Q) 0 0 0 [some (.int v0), some (.int v1)] [] 113 μ0
  refine qa_ild1 dX8_round_0 ?_
  refine qa_iconst (v := 1) dX8_round_1 (by decide) ?_
  refine qa_icmp_ge (tgt := 9) dX8_round_2 (by decide) (fun c1 => ?_) (fun c1 => ?_)
  · have h := h.1 c1
    refine qa_ild0 dX8_round_9 ?_
    refine qa_ild1 dX8_round_10 ?_
    refine qa_S2I dX8_round_11 lm_X8_455  (by decide) (Nat.le_of_ble_eq_true rfl) (tJ9_floorMod_7cf53 l hp0  h) (fun r2 μ2 hp2 h => ?_)
    exact qa_iret rfl dX8_round_14 ⟨rfl, rfl⟩ ⟨rfl, hp2, _, rfl, h⟩
  · have h := h.2 c1
    refine qa_iconst (v := 0) dX8_round_5 (by decide) ?_
    refine qa_goto (tgt := 14) dX8_round_6 (by decide) ?_
    exact qa_iret rfl dX8_round_14 ⟨rfl, rfl⟩ ⟨rfl, hp0, _, rfl, h⟩
def wX7_carryAll_2 : Nat → Nat → Int32 → Int32 → Int32 → qa_M → (qa_M → Prop) → Prop
  | 0, _, _, _, _, _, _ => False
  | n + 1, v0, v1, v2, v3, μ0, Q => ((v1 ≤ v3 → Q μ0) ∧ (¬ v1 ≤ v3 → wX7_spot n v0 v3 v2 μ0 (fun r2 μ2 => vp_in v2 20 ∧ wX8_round n (r2 + (μ2.1 (v0 + 4) v2.toNatClampNeg)) v1 μ2 (fun r3 μ3 => vp_in (((v2 + (1 : Int32)) * (8 : Int32)) + v3) 168 ∧ ∀ μ4, μ4 = qa_uI μ3 (v0 + 1) (((v2 + (1 : Int32)) * (8 : Int32)) + v3).toNatClampNeg r3 → wX7_carryAll_2 n v0 v1 v2 (v3 + (1 : Int32)) μ4 Q))))
def wX7_carryAll (n : Nat) (v0 : Nat) (v1 : Int32) (v2 : Int32) (μ0 : qa_M) (Q : qa_M → Prop) : Prop := wX7_carryAll_2 n v0 v1 v2 (0 : Int32) μ0  Q
theorem tX7_carryAll_2 (l : Launch)  {Q : qa_M → Prop}  : ∀ (n : Nat) (v0 : Nat) (v1 : Int32) (v2 : Int32) (v3 : Int32) (μ0 : qa_M), qa_PP μ0.2.2 → qa_yr v0 → wX7_carryAll_2 n v0 v1 v2 v3 μ0  Q → qa_G l yX7_carryAll cX7_carryAll 4 none 2 0 0 (qa_pV Q) 0 0 2 [some (.ref v0), some (.int v1), some (.int v2), some (.int v3)] [] 113 μ0 := by
  intro n
  induction n with
  | zero =>
    intro v0 v1 v2 v3 μ0 hp0 k0 h
    rw [wX7_carryAll_2] at h
    exact h.elim
  | succ n ih =>
    intro v0 v1 v2 v3 μ0 hp0 k0 h
    rw [wX7_carryAll_2] at h
    refine qa_ild3 dX7_carryAll_2 ?_
    refine qa_ild1 dX7_carryAll_3 ?_
    refine qa_icmp_ge (tgt := 43) dX7_carryAll_4 (by decide) (fun c1 => ?_) (fun c1 => ?_)
    · have h := h.1 c1
      exact qa_vret rfl dX7_carryAll_43 ⟨rfl, rfl⟩ ⟨rfl, hp0, rfl, h⟩
    · have h := h.2 c1
      refine qa_ald0 dX7_carryAll_7 ?_
      refine qa_getR dX7_carryAll_8 lf_X7_9 rfl (sy_0 k0) (yle_0 k0) (py_0 hp0 k0) (Nat.succ_pos _) ?_
      refine qa_ild2 dX7_carryAll_11 ?_
      refine qa_iconst (v := 1) dX7_carryAll_12 (by decide) ?_
      refine qa_iadd dX7_carryAll_13 ?_
      refine qa_bipush (v := 8) dX7_carryAll_14 (by decide) ?_
      refine qa_imul dX7_carryAll_16 ?_
      refine qa_ild3 dX7_carryAll_17 ?_
      refine qa_iadd dX7_carryAll_18 ?_
      refine qa_ald0 dX7_carryAll_19 ?_
      refine qa_ild3 dX7_carryAll_20 ?_
      refine qa_ild2 dX7_carryAll_21 ?_
      refine qa_V2I dX7_carryAll_22 lm_X7_24 (sy_0 k0) rfl (yle_0 k0) (by decide) (Nat.le_of_ble_eq_true rfl) (tX7_spot l hp0 k0 h) (fun r2 μ2 hp2 h => ?_)
      refine qa_ald0 dX7_carryAll_25 ?_
      refine qa_getR dX7_carryAll_26 lf_X7_21 rfl (sy_0 k0) (yle_0 k0) (py_3 hp2 k0) (Nat.succ_pos _) ?_
      refine qa_ild2 dX7_carryAll_29 ?_
      refine qa_iald dX7_carryAll_30 (sy_4 k0) (yle_4 k0) h.1 ?_
      have h := h.2
      refine qa_iadd dX7_carryAll_31 ?_
      refine qa_ild1 dX7_carryAll_32 ?_
      refine qa_N2I dX7_carryAll_33 lm_X7_121  (by decide) (Nat.le_of_ble_eq_true rfl) (tX8_round l hp2  h) (fun r3 μ3 hp3 h => ?_)
      refine qa_iast dX7_carryAll_36 (sy_1 k0) (yle_1 k0) h.1 ?_
      have h := h.2
      refine qa_nmM (fun μ4 em4 => ?_)
      have h := h μ4 em4
      have hp4 : qa_PP μ4.2.2 := by rw [em4]; exact hp3
      refine qa_inc3 dX7_carryAll_37 (qa_io1 _) ?_
      refine qa_goto (tgt := 2) dX7_carryAll_40 (by decide) ?_
      refine qa_fgt (L' := [some (.ref v0), some (.int v1), some (.int v2), some (.int (v3 + (1 : Int32)))]) (⟨rfl, ⟨rfl, ⟨rfl, ⟨rfl, trivial⟩⟩⟩⟩) ?_
      exact ih v0 v1 v2 (v3 + (1 : Int32)) μ4 hp4 k0 h
theorem tX7_carryAll (l : Launch) {n : Nat} {v0 : Nat} {v1 : Int32} {v2 : Int32} {μ0 : qa_M} {Q : qa_M → Prop} (hp0 : qa_PP μ0.2.2) (k0 : qa_yr v0) (h : wX7_carryAll n v0 v1 v2 μ0 Q) : qa_Met l yX7_carryAll cX7_carryAll 4 none 2 0 0 [.ref v0, .int v1, .int v2] 113 μ0 (qa_pV Q) := by
  refine qa_ofG (by decide) (Nat.le_of_ble_eq_true rfl) ?_
  unfold wX7_carryAll at h
  change qa_G l yX7_carryAll cX7_carryAll 4 none 2 0 0 (qa_pV Q) 0 0 0 [some (.ref v0), some (.int v1), some (.int v2), none] [] 113 μ0
  refine qa_iconst (v := 0) dX7_carryAll_0 (by decide) ?_
  refine qa_ist3 dX7_carryAll_1 ?_
  refine qa_fgt (L' := [some (.ref v0), some (.int v1), some (.int v2), some (.int (0 : Int32))]) (⟨rfl, ⟨rfl, ⟨rfl, ⟨rfl, trivial⟩⟩⟩⟩) ?_
  refine tX7_carryAll_2 l  n v0 v1 v2 (0 : Int32) μ0 hp0 k0 h
def wX7_effort (n : Nat) (v0 : Nat) (v1 : Int32) (v2 : Int32) (μ0 : qa_M) (Q : Int32 → qa_M → Prop) : Prop := vp_in ((v2 * (8 : Int32)) + v1) 160 ∧ Q (μ0.1 (v0 + 2) ((v2 * (8 : Int32)) + v1).toNatClampNeg) μ0
theorem tX7_effort (l : Launch) {n : Nat} {v0 : Nat} {v1 : Int32} {v2 : Int32} {μ0 : qa_M} {Q : Int32 → qa_M → Prop} (hp0 : qa_PP μ0.2.2) (k0 : qa_yr v0) (h : wX7_effort n v0 v1 v2 μ0 Q) : qa_Met l yX7_effort cX7_effort 3 (some .int) 0 0 0 [.ref v0, .int v1, .int v2] 113 μ0 (qa_pI Q) := by
  refine qa_ofG (by decide) (Nat.le_of_ble_eq_true rfl) ?_
  unfold wX7_effort at h
  change qa_G l yX7_effort cX7_effort 3 (some .int) 0 0 0 (qa_pI Q) 0 0 0 [some (.ref v0), some (.int v1), some (.int v2)] [] 113 μ0
  refine qa_ald0 dX7_effort_0 ?_
  refine qa_getR dX7_effort_1 lf_X7_15 rfl (sy_0 k0) (yle_0 k0) (py_1 hp0 k0) (Nat.succ_pos _) ?_
  refine qa_ild2 dX7_effort_4 ?_
  refine qa_bipush (v := 8) dX7_effort_5 (by decide) ?_
  refine qa_imul dX7_effort_7 ?_
  refine qa_ild1 dX7_effort_8 ?_
  refine qa_iadd dX7_effort_9 ?_
  refine qa_iald dX7_effort_10 (sy_2 k0) (yle_2 k0) h.1 ?_
  have h := h.2
  exact qa_iret rfl dX7_effort_11 ⟨rfl, rfl⟩ ⟨rfl, hp0, _, rfl, h⟩
def wX7_exchange (n : Nat) (v0 : Nat) (v1 : Int32) (v2 : Int32) (v3 : Int32) (μ0 : qa_M) (Q : qa_M → Prop) : Prop := wX7_spot n v0 v1 v3 μ0 (fun r1 μ1 => wX7_spot n v0 v2 v3 μ1 (fun r2 μ2 => vp_in ((v3 * (8 : Int32)) + v1) 168 ∧ ∀ μ3, μ3 = qa_uI μ2 (v0 + 1) ((v3 * (8 : Int32)) + v1).toNatClampNeg r2 → vp_in ((v3 * (8 : Int32)) + v2) 168 ∧ ∀ μ4, μ4 = qa_uI μ3 (v0 + 1) ((v3 * (8 : Int32)) + v2).toNatClampNeg r1 → Q μ4))
theorem tX7_exchange (l : Launch) {n : Nat} {v0 : Nat} {v1 : Int32} {v2 : Int32} {v3 : Int32} {μ0 : qa_M} {Q : qa_M → Prop} (hp0 : qa_PP μ0.2.2) (k0 : qa_yr v0) (h : wX7_exchange n v0 v1 v2 v3 μ0 Q) : qa_Met l yX7_exchange cX7_exchange 5 none 1 0 0 [.ref v0, .int v1, .int v2, .int v3] 113 μ0 (qa_pV Q) := by
  refine qa_ofG (by decide) (Nat.le_of_ble_eq_true rfl) ?_
  unfold wX7_exchange at h
  change qa_G l yX7_exchange cX7_exchange 5 none 1 0 0 (qa_pV Q) 0 0 0 [some (.ref v0), some (.int v1), some (.int v2), some (.int v3), none] [] 113 μ0
  refine qa_ald0 dX7_exchange_0 ?_
  refine qa_ild1 dX7_exchange_1 ?_
  refine qa_ild3 dX7_exchange_2 ?_
  refine qa_V2I dX7_exchange_3 lm_X7_24 (sy_0 k0) rfl (yle_0 k0) (by decide) (Nat.le_of_ble_eq_true rfl) (tX7_spot l hp0 k0 h) (fun r1 μ1 hp1 h => ?_)
  refine qa_ist4 dX7_exchange_6 ?_
  refine qa_ald0 dX7_exchange_8 ?_
  refine qa_getR dX7_exchange_9 lf_X7_9 rfl (sy_0 k0) (yle_0 k0) (py_0 hp1 k0) (Nat.succ_pos _) ?_
  refine qa_ild3 dX7_exchange_12 ?_
  refine qa_bipush (v := 8) dX7_exchange_13 (by decide) ?_
  refine qa_imul dX7_exchange_15 ?_
  refine qa_ild1 dX7_exchange_16 ?_
  refine qa_iadd dX7_exchange_17 ?_
  refine qa_ald0 dX7_exchange_18 ?_
  refine qa_ild2 dX7_exchange_19 ?_
  refine qa_ild3 dX7_exchange_20 ?_
  refine qa_V2I dX7_exchange_21 lm_X7_24 (sy_0 k0) rfl (yle_0 k0) (by decide) (Nat.le_of_ble_eq_true rfl) (tX7_spot l hp1 k0 h) (fun r2 μ2 hp2 h => ?_)
  refine qa_iast dX7_exchange_24 (sy_1 k0) (yle_1 k0) h.1 ?_
  have h := h.2
  refine qa_nmM (fun μ3 em3 => ?_)
  have h := h μ3 em3
  have hp3 : qa_PP μ3.2.2 := by rw [em3]; exact hp2
  refine qa_ald0 dX7_exchange_25 ?_
  refine qa_getR dX7_exchange_26 lf_X7_9 rfl (sy_0 k0) (yle_0 k0) (py_0 hp3 k0) (Nat.succ_pos _) ?_
  refine qa_ild3 dX7_exchange_29 ?_
  refine qa_bipush (v := 8) dX7_exchange_30 (by decide) ?_
  refine qa_imul dX7_exchange_32 ?_
  refine qa_ild2 dX7_exchange_33 ?_
  refine qa_iadd dX7_exchange_34 ?_
  refine qa_ild4 dX7_exchange_35 ?_
  refine qa_iast dX7_exchange_37 (sy_1 k0) (yle_1 k0) h.1 ?_
  have h := h.2
  refine qa_nmM (fun μ4 em4 => ?_)
  have h := h μ4 em4
  have hp4 : qa_PP μ4.2.2 := by rw [em4]; exact hp3
  exact qa_vret rfl dX7_exchange_38 ⟨rfl, rfl⟩ ⟨rfl, hp4, rfl, h⟩
def wX8_bitOf (n : Nat) (v0 : Int32) (v1 : Int32) (μ0 : qa_M) (Q : Int32 → qa_M → Prop) : Prop := Q ((v0 >>> (v1 &&& 31)) &&& (1 : Int32)) μ0
theorem tX8_bitOf (l : Launch) {n : Nat} {v0 : Int32} {v1 : Int32} {μ0 : qa_M} {Q : Int32 → qa_M → Prop} (hp0 : qa_PP μ0.2.2)  (h : wX8_bitOf n v0 v1 μ0 Q) : qa_Met l yX8_bitOf cX8_bitOf 2 (some .int) 0 0 0 [.int v0, .int v1] 113 μ0 (qa_pI Q) := by
  refine qa_ofG (by decide) (Nat.le_of_ble_eq_true rfl) ?_
  unfold wX8_bitOf at h
  change qa_G l yX8_bitOf cX8_bitOf 2 (some .int) 0 0 0 (qa_pI Q) 0 0 0 [some (.int v0), some (.int v1)] [] 113 μ0
  refine qa_ild0 dX8_bitOf_0 ?_
  refine qa_ild1 dX8_bitOf_1 ?_
  refine qa_ishr dX8_bitOf_2 ?_
  refine qa_iconst (v := 1) dX8_bitOf_3 (by decide) ?_
  refine qa_iand dX8_bitOf_4 ?_
  exact qa_iret rfl dX8_bitOf_5 ⟨rfl, rfl⟩ ⟨rfl, hp0, _, rfl, h⟩
def wX7_exchangeAll_14 : Nat → Nat → Nat → Int32 → Int32 → qa_M → (qa_M → Prop) → Prop
  | 0, _, _, _, _, _, _ => False
  | n + 1, v0, v1, v2, v3, μ0, Q => (((μ0.1 (v1 + 7) 0) ≤ v3 → Q μ0) ∧ (¬ (μ0.1 (v1 + 7) 0) ≤ v3 → vp_in v3 30 ∧ ((¬ (μ0.1 (v1 + 10) v3.toNatClampNeg) = v2 → wX7_exchangeAll_14 n v0 v1 v2 (v3 + (1 : Int32)) μ0 Q) ∧ ((μ0.1 (v1 + 10) v3.toNatClampNeg) = v2 → vp_in v3 30 ∧ (((μ0.1 (v1 + 9) v3.toNatClampNeg) = (-1 : Int32) → wX7_exchangeAll_14 n v0 v1 v2 (v3 + (1 : Int32)) μ0 Q) ∧ (¬ (μ0.1 (v1 + 9) v3.toNatClampNeg) = (-1 : Int32) → vp_in v3 30 ∧ vp_in v3 30 ∧ wX7_exchange n v0 (μ0.1 (v1 + 8) v3.toNatClampNeg) (μ0.1 (v1 + 9) v3.toNatClampNeg) v2 μ0 (fun μ6 => wX7_exchangeAll_14 n v0 v1 v2 (v3 + (1 : Int32)) μ6 Q)))))))
def wX7_exchangeAll (n : Nat) (v0 : Nat) (v1 : Nat) (v2 : Int32) (μ0 : qa_M) (Q : qa_M → Prop) : Prop := wX8_bitOf n (μ0.1 (v1 + 7) 5) v2 μ0 (fun r1 μ1 => ((¬ r1 = 0 → wX7_exchangeAll_14 n v0 v1 v2 (0 : Int32) μ1  Q) ∧ (r1 = 0 → Q μ1)))
theorem tX7_exchangeAll_14 (l : Launch)  {Q : qa_M → Prop}  : ∀ (n : Nat) (v0 : Nat) (v1 : Nat) (v2 : Int32) (v3 : Int32) (μ0 : qa_M), qa_PP μ0.2.2 → qa_yr v0 → qa_tw v1 → wX7_exchangeAll_14 n v0 v1 v2 v3 μ0  Q → qa_G l yX7_exchangeAll cX7_exchangeAll 4 none 2 0 0 (qa_pV Q) 0 0 14 [some (.ref v0), some (.ref (v1 + 7)), some (.int v2), some (.int v3)] [] 113 μ0 := by
  intro n
  induction n with
  | zero =>
    intro v0 v1 v2 v3 μ0 hp0 k0 k1 h
    rw [wX7_exchangeAll_14] at h
    exact h.elim
  | succ n ih =>
    intro v0 v1 v2 v3 μ0 hp0 k0 k1 h
    rw [wX7_exchangeAll_14] at h
    refine qa_ild3 dX7_exchangeAll_14 ?_
    refine qa_ald1 dX7_exchangeAll_15 ?_
    refine qa_getI dX7_exchangeAll_16 lf_X7_83 (Or.inl rfl) (st_7 k1) (tle_7 k1) ?_
    refine qa_icmp_ge (tgt := 65) dX7_exchangeAll_19 (by decide) (fun c3 => ?_) (fun c3 => ?_)
    · have h := h.1 c3
      exact qa_vret rfl dX7_exchangeAll_65 ⟨rfl, rfl⟩ ⟨rfl, hp0, rfl, h⟩
    · have h := h.2 c3
      refine qa_ald1 dX7_exchangeAll_22 ?_
      refine qa_getR dX7_exchangeAll_23 lf_X7_86 rfl (st_7 k1) (tle_7 k1) (pa_3 hp0 k1) (Nat.succ_pos _) ?_
      refine qa_ild3 dX7_exchangeAll_26 ?_
      refine qa_iald dX7_exchangeAll_27 (st_10 k1) (tle_10 k1) h.1 ?_
      have h := h.2
      refine qa_ild2 dX7_exchangeAll_28 ?_
      refine qa_icmp_ne (tgt := 59) dX7_exchangeAll_29 (by decide) (fun c4 => ?_) (fun c4 => ?_)
      · have h := h.1 c4
        refine qa_inc3 dX7_exchangeAll_59 (qa_io1 _) ?_
        refine qa_goto (tgt := 14) dX7_exchangeAll_62 (by decide) ?_
        refine qa_fgt (L' := [some (.ref v0), some (.ref (v1 + 7)), some (.int v2), some (.int (v3 + (1 : Int32)))]) (⟨rfl, ⟨rfl, ⟨rfl, ⟨rfl, trivial⟩⟩⟩⟩) ?_
        exact ih v0 v1 v2 (v3 + (1 : Int32)) μ0 hp0 k0 k1 h
      · have h := h.2 c4
        refine qa_ald1 dX7_exchangeAll_32 ?_
        refine qa_getR dX7_exchangeAll_33 lf_X7_89 rfl (st_7 k1) (tle_7 k1) (pa_2 hp0 k1) (Nat.succ_pos _) ?_
        refine qa_ild3 dX7_exchangeAll_36 ?_
        refine qa_iald dX7_exchangeAll_37 (st_9 k1) (tle_9 k1) h.1 ?_
        have h := h.2
        refine qa_iconst (v := -1) dX7_exchangeAll_38 (by decide) ?_
        refine qa_icmp_eq (tgt := 59) dX7_exchangeAll_39 (by decide) (fun c5 => ?_) (fun c5 => ?_)
        · have h := h.1 c5
          refine qa_inc3 dX7_exchangeAll_59 (qa_io1 _) ?_
          refine qa_goto (tgt := 14) dX7_exchangeAll_62 (by decide) ?_
          refine qa_fgt (L' := [some (.ref v0), some (.ref (v1 + 7)), some (.int v2), some (.int (v3 + (1 : Int32)))]) (⟨rfl, ⟨rfl, ⟨rfl, ⟨rfl, trivial⟩⟩⟩⟩) ?_
          exact ih v0 v1 v2 (v3 + (1 : Int32)) μ0 hp0 k0 k1 h
        · have h := h.2 c5
          refine qa_ald0 dX7_exchangeAll_42 ?_
          refine qa_ald1 dX7_exchangeAll_43 ?_
          refine qa_getR dX7_exchangeAll_44 lf_X7_92 rfl (st_7 k1) (tle_7 k1) (pa_1 hp0 k1) (Nat.succ_pos _) ?_
          refine qa_ild3 dX7_exchangeAll_47 ?_
          refine qa_iald dX7_exchangeAll_48 (st_8 k1) (tle_8 k1) h.1 ?_
          have h := h.2
          refine qa_ald1 dX7_exchangeAll_49 ?_
          refine qa_getR dX7_exchangeAll_50 lf_X7_89 rfl (st_7 k1) (tle_7 k1) (pa_2 hp0 k1) (Nat.succ_pos _) ?_
          refine qa_ild3 dX7_exchangeAll_53 ?_
          refine qa_iald dX7_exchangeAll_54 (st_9 k1) (tle_9 k1) h.1 ?_
          have h := h.2
          refine qa_ild2 dX7_exchangeAll_55 ?_
          refine qa_V3V dX7_exchangeAll_56 lm_X7_42 (sy_0 k0) rfl (yle_0 k0) (by decide) (Nat.le_of_ble_eq_true rfl) (tX7_exchange l hp0 k0 h) (fun μ6 hp6 h => ?_)
          refine qa_inc3 dX7_exchangeAll_59 (qa_io1 _) ?_
          refine qa_goto (tgt := 14) dX7_exchangeAll_62 (by decide) ?_
          refine qa_fgt (L' := [some (.ref v0), some (.ref (v1 + 7)), some (.int v2), some (.int (v3 + (1 : Int32)))]) (⟨rfl, ⟨rfl, ⟨rfl, ⟨rfl, trivial⟩⟩⟩⟩) ?_
          exact ih v0 v1 v2 (v3 + (1 : Int32)) μ6 hp6 k0 k1 h
theorem tX7_exchangeAll (l : Launch) {n : Nat} {v0 : Nat} {v1 : Nat} {v2 : Int32} {μ0 : qa_M} {Q : qa_M → Prop} (hp0 : qa_PP μ0.2.2) (k0 : qa_yr v0) (k1 : qa_tw v1) (h : wX7_exchangeAll n v0 v1 v2 μ0 Q) : qa_Met l yX7_exchangeAll cX7_exchangeAll 4 none 2 0 0 [.ref v0, .ref (v1 + 7), .int v2] 113 μ0 (qa_pV Q) := by
  refine qa_ofG (by decide) (Nat.le_of_ble_eq_true rfl) ?_
  unfold wX7_exchangeAll at h
  change qa_G l yX7_exchangeAll cX7_exchangeAll 4 none 2 0 0 (qa_pV Q) 0 0 0 [some (.ref v0), some (.ref (v1 + 7)), some (.int v2), none] [] 113 μ0
  refine qa_ald1 dX7_exchangeAll_0 ?_
  refine qa_getI dX7_exchangeAll_1 lf_X7_75 (Or.inl rfl) (st_7 k1) (tle_7 k1) ?_
  refine qa_ild2 dX7_exchangeAll_4 ?_
  refine qa_N2I dX7_exchangeAll_5 lm_X7_80  (by decide) (Nat.le_of_ble_eq_true rfl) (tX8_bitOf l hp0  h) (fun r1 μ1 hp1 h => ?_)
  refine qa_if_ne (tgt := 12) dX7_exchangeAll_8 (by decide) (fun c2 => ?_) (fun c2 => ?_)
  · have h := h.1 c2
    refine qa_iconst (v := 0) dX7_exchangeAll_12 (by decide) ?_
    refine qa_ist3 dX7_exchangeAll_13 ?_
    refine qa_fgt (L' := [some (.ref v0), some (.ref (v1 + 7)), some (.int v2), some (.int (0 : Int32))]) (⟨rfl, ⟨rfl, ⟨rfl, ⟨rfl, trivial⟩⟩⟩⟩) ?_
    refine tX7_exchangeAll_14 l  n v0 v1 v2 (0 : Int32) μ1 hp1 k0 k1 h
  · have h := h.2 c2
    exact qa_vret rfl dX7_exchangeAll_11 ⟨rfl, rfl⟩ ⟨rfl, hp1, rfl, h⟩
def wX8_signed (n : Nat) (v0 : Int32) (v1 : Int32) (v2 : Int32) (μ0 : qa_M) (Q : Int32 → qa_M → Prop) : Prop := wX8_bitOf n v1 v2 μ0 (fun r1 μ1 => ((¬ r1 = (1 : Int32) → Q v0 μ1) ∧ (r1 = (1 : Int32) → Q (-v0) μ1)))
theorem tX8_signed (l : Launch) {n : Nat} {v0 : Int32} {v1 : Int32} {v2 : Int32} {μ0 : qa_M} {Q : Int32 → qa_M → Prop} (hp0 : qa_PP μ0.2.2)  (h : wX8_signed n v0 v1 v2 μ0 Q) : qa_Met l yX8_signed cX8_signed 3 (some .int) 1 0 0 [.int v0, .int v1, .int v2] 113 μ0 (qa_pI Q) := by
  refine qa_ofG (by decide) (Nat.le_of_ble_eq_true rfl) ?_
  unfold wX8_signed at h
  change qa_G l yX8_signed cX8_signed 3 (some .int) 1 0 0 (qa_pI Q) 0 0 0 [some (.int v0), some (.int v1), some (.int v2)] [] 113 μ0
  refine qa_ild1 dX8_signed_0 ?_
  refine qa_ild2 dX8_signed_1 ?_
  refine qa_S2I dX8_signed_2 lm_X8_113  (by decide) (Nat.le_of_ble_eq_true rfl) (tX8_bitOf l hp0  h) (fun r1 μ1 hp1 h => ?_)
  refine qa_iconst (v := 1) dX8_signed_5 (by decide) ?_
  refine qa_icmp_ne (tgt := 14) dX8_signed_6 (by decide) (fun c2 => ?_) (fun c2 => ?_)
  · have h := h.1 c2
    refine qa_ild0 dX8_signed_14 ?_
    exact qa_iret rfl dX8_signed_15 ⟨rfl, rfl⟩ ⟨rfl, hp1, _, rfl, h⟩
  · have h := h.2 c2
    refine qa_ild0 dX8_signed_9 ?_
    refine qa_ineg dX8_signed_10 ?_
    refine qa_goto (tgt := 15) dX8_signed_11 (by decide) ?_
    exact qa_iret rfl dX8_signed_15 ⟨rfl, rfl⟩ ⟨rfl, hp1, _, rfl, h⟩
def wX7_pushAll_125 (n : Nat) (v0 : Nat) (v1 : Nat) (v3 : Int32) (v4 : Int32) (v5 : Int32) (v6 : Int32) (v7 : Int32) (s0 : Int32) (μ0 : qa_M) (K0 : Nat → Nat → Int32 → Int32 → Int32 → Int32 → Int32 → qa_M → Prop) (Q : qa_M → Prop) : Prop := vp_in ((v3 * (8 : Int32)) + v7) 160 ∧ ∀ μ10, μ10 = qa_uI μ0 (v0 + 2) ((v3 * (8 : Int32)) + v7).toNatClampNeg s0 → wX8_signed n s0 (μ10.1 31 2) v7 μ10 (fun r11 μ11 => ∀ x12, x12 = (v6 + r11) → K0 v0 v1 v3 v4 v5 x12 (v7 + (1 : Int32)) μ11)
def wX7_pushAll_95 (n : Nat) (v0 : Nat) (v1 : Nat) (v3 : Int32) (v4 : Int32) (v5 : Int32) (v6 : Int32) (v7 : Int32) (v8 : Int32) (s0 : Int32) (μ0 : qa_M) (K0 : Nat → Nat → Int32 → Int32 → Int32 → Int32 → Int32 → qa_M → Prop) (Q : qa_M → Prop) : Prop := ((s0 = 0 → wX7_pushAll_125 n v0 v1 v3 v4 v5 v6 v7 (0 : Int32) μ0 K0 Q) ∧ (¬ s0 = 0 → vp_in v7 8 ∧ vp_in v8 8 ∧ wJ9_max_7cf53 n (0 : Int32) ((μ0.1 (v1 + 1) v7.toNatClampNeg) - (μ0.1 (v1 + 3) v8.toNatClampNeg)) μ0 (fun r13 μ13 => wX7_pushAll_125 n v0 v1 v3 v4 v5 v6 v7 r13 μ13 K0 Q)))
def wX7_pushAll_94 (n : Nat) (v0 : Nat) (v1 : Nat) (v3 : Int32) (v4 : Int32) (v5 : Int32) (v6 : Int32) (v7 : Int32) (v8 : Int32) (μ0 : qa_M) (K0 : Nat → Nat → Int32 → Int32 → Int32 → Int32 → Int32 → qa_M → Prop) (Q : qa_M → Prop) : Prop := wX7_pushAll_95 n v0 v1 v3 v4 v5 v6 v7 v8 (0 : Int32) μ0 K0 Q
def wX7_pushAll_90 (n : Nat) (v0 : Nat) (v1 : Nat) (v3 : Int32) (v4 : Int32) (v5 : Int32) (v6 : Int32) (v7 : Int32) (v8 : Int32) (μ0 : qa_M) (K0 : Nat → Nat → Int32 → Int32 → Int32 → Int32 → Int32 → qa_M → Prop) (Q : qa_M → Prop) : Prop := wX7_pushAll_95 n v0 v1 v3 v4 v5 v6 v7 v8 (1 : Int32) μ0 K0 Q
def wX7_pushAll_41 : Nat → Nat → Nat → Int32 → Int32 → Int32 → Int32 → Int32 → qa_M → (qa_M → Prop) → Prop
  | 0, _, _, _, _, _, _, _, _, _ => False
  | n + 1, v0, v1, v3, v4, v5, v6, v7, μ0, Q => (((μ0.1 v1 5) ≤ v7 → vp_in v3 20 ∧ ∀ μ5, μ5 = qa_uI μ0 (v0 + 3) v3.toNatClampNeg v6 → Q μ5) ∧ (¬ (μ0.1 v1 5) ≤ v7 → wX7_spot n v0 v7 v3 μ0 (fun r6 μ6 => wX8_bitOf n v4 v7 μ6 (fun r7 μ7 => ((¬ r7 = 0 → wX7_pushAll_94 n v0 v1 v3 v4 v5 v6 v7 r6 μ7 (fun v0 v1 v3 v4 v5 v6 v7 μk => wX7_pushAll_41 n v0 v1 v3 v4 v5 v6 v7 μk Q) Q) ∧ (r7 = 0 → ((v5 = 0 → wX7_pushAll_90 n v0 v1 v3 v4 v5 v6 v7 r6 μ7 (fun v0 v1 v3 v4 v5 v6 v7 μk => wX7_pushAll_41 n v0 v1 v3 v4 v5 v6 v7 μk Q) Q) ∧ (¬ v5 = 0 → ((r6 = 0 → wX7_pushAll_90 n v0 v1 v3 v4 v5 v6 v7 r6 μ7 (fun v0 v1 v3 v4 v5 v6 v7 μk => wX7_pushAll_41 n v0 v1 v3 v4 v5 v6 v7 μk Q) Q) ∧ (¬ r6 = 0 → ((¬ r6 = ((μ7.1 v1 5) - (1 : Int32)) → wX7_pushAll_94 n v0 v1 v3 v4 v5 v6 v7 r6 μ7 (fun v0 v1 v3 v4 v5 v6 v7 μk => wX7_pushAll_41 n v0 v1 v3 v4 v5 v6 v7 μk Q) Q) ∧ (r6 = ((μ7.1 v1 5) - (1 : Int32)) → wX7_pushAll_90 n v0 v1 v3 v4 v5 v6 v7 r6 μ7 (fun v0 v1 v3 v4 v5 v6 v7 μk => wX7_pushAll_41 n v0 v1 v3 v4 v5 v6 v7 μk Q) Q))))))))))))
def wX7_pushAll_33 (n : Nat) (v0 : Nat) (v1 : Nat) (v3 : Int32) (v4 : Int32) (s0 : Int32) (μ0 : qa_M)  (Q : qa_M → Prop) : Prop := wX7_pushAll_41 n v0 v1 v3 v4 s0 (0 : Int32) (0 : Int32) μ0  Q
def wX7_pushAll (n : Nat) (v0 : Nat) (v1 : Nat) (v3 : Int32) (μ0 : qa_M) (Q : qa_M → Prop) : Prop := vp_in v3 20 ∧ ∀ x1, x1 = ((μ0.1 31 4) ||| (μ0.1 (v1 + 11) v3.toNatClampNeg)) → wX8_bitOf n (μ0.1 31 3) v3 μ0 (fun r2 μ2 => ((¬ r2 = (1 : Int32) → wX7_pushAll_33 n v0 v1 v3 x1 (0 : Int32) μ2  Q) ∧ (r2 = (1 : Int32) → wX7_pushAll_33 n v0 v1 v3 x1 (1 : Int32) μ2  Q)))
theorem tX7_pushAll_125 (l : Launch) {K0 : Nat → Nat → Int32 → Int32 → Int32 → Int32 → Int32 → qa_M → Prop} {Q : qa_M → Prop} (hK0 : ∀ (v0 : Nat) (v1 : Nat) (v3 : Int32) (v4 : Int32) (v5 : Int32) (v6 : Int32) (v7 : Int32) (μ : qa_M), qa_PP μ.2.2 → qa_yr v0 → qa_tw v1 → K0 v0 v1 v3 v4 v5 v6 v7 μ → qa_G l yX7_pushAll cX7_pushAll 11 none 2 0 0 (qa_pV Q) 0 0 41 [some (.ref v0), some (.ref v1), some (.ref 31), some (.int v3), some (.int v4), some (.int v5), some (.int v6), some (.int v7), none, none, none] [] 113 μ) : ∀ (n : Nat) (v0 : Nat) (v1 : Nat) (v3 : Int32) (v4 : Int32) (v5 : Int32) (v6 : Int32) (v7 : Int32) (s0 : Int32) (μ0 : qa_M), qa_PP μ0.2.2 → qa_yr v0 → qa_tw v1 → wX7_pushAll_125 n v0 v1 v3 v4 v5 v6 v7 s0 μ0 K0 Q → qa_G l yX7_pushAll cX7_pushAll 11 none 2 0 0 (qa_pV Q) 0 0 125 [some (.ref v0), some (.ref v1), some (.ref 31), some (.int v3), some (.int v4), some (.int v5), some (.int v6), some (.int v7), none, none, none] [.int s0] 113 μ0 := by
  intro n
  intro v0 v1 v3 v4 v5 v6 v7 s0 μ0 hp0 k0 k1 h
  unfold wX7_pushAll_125 at h
  refine qa_ist10 dX7_pushAll_125 ?_
  refine qa_ald0 dX7_pushAll_127 ?_
  refine qa_getR dX7_pushAll_128 lf_X7_15 rfl (sy_0 k0) (yle_0 k0) (py_1 hp0 k0) (Nat.succ_pos _) ?_
  refine qa_ild3 dX7_pushAll_131 ?_
  refine qa_bipush (v := 8) dX7_pushAll_132 (by decide) ?_
  refine qa_imul dX7_pushAll_134 ?_
  refine qa_ild7 dX7_pushAll_135 ?_
  refine qa_iadd dX7_pushAll_137 ?_
  refine qa_ild10 dX7_pushAll_138 ?_
  refine qa_iast dX7_pushAll_140 (sy_2 k0) (yle_2 k0) h.1 ?_
  have h := h.2
  refine qa_nmM (fun μ10 em10 => ?_)
  have h := h μ10 em10
  have hp10 : qa_PP μ10.2.2 := by rw [em10]; exact hp0
  refine qa_ild6 dX7_pushAll_141 ?_
  refine qa_ild10 dX7_pushAll_143 ?_
  refine qa_ald2 dX7_pushAll_145 ?_
  refine qa_getI dX7_pushAll_146 lf_X7_114 (Or.inl rfl) sh_31 (by decide) ?_
  refine qa_ild7 dX7_pushAll_149 ?_
  refine qa_N3I dX7_pushAll_151 lm_X7_117  (by decide) (Nat.le_of_ble_eq_true rfl) (tX8_signed l hp10  h) (fun r11 μ11 hp11 h => ?_)
  refine qa_iadd dX7_pushAll_154 ?_
  refine qa_nmI (fun x12 e12 => ?_)
  have h := h x12 e12
  refine qa_ist6 dX7_pushAll_155 ?_
  refine qa_inc7 dX7_pushAll_157 (qa_io1 _) ?_
  refine qa_goto (tgt := 41) dX7_pushAll_160 (by decide) ?_
  refine qa_fgt (L' := [some (.ref v0), some (.ref v1), some (.ref 31), some (.int v3), some (.int v4), some (.int v5), some (.int x12), some (.int (v7 + (1 : Int32))), none, none, none]) (⟨rfl, ⟨rfl, ⟨rfl, ⟨rfl, ⟨rfl, ⟨rfl, ⟨rfl, ⟨rfl, trivial⟩⟩⟩⟩⟩⟩⟩⟩) ?_
  exact hK0 v0 v1 v3 v4 v5 x12 (v7 + (1 : Int32)) μ11 hp11 k0 k1 h
theorem tX7_pushAll_95 (l : Launch) {K0 : Nat → Nat → Int32 → Int32 → Int32 → Int32 → Int32 → qa_M → Prop} {Q : qa_M → Prop} (hK0 : ∀ (v0 : Nat) (v1 : Nat) (v3 : Int32) (v4 : Int32) (v5 : Int32) (v6 : Int32) (v7 : Int32) (μ : qa_M), qa_PP μ.2.2 → qa_yr v0 → qa_tw v1 → K0 v0 v1 v3 v4 v5 v6 v7 μ → qa_G l yX7_pushAll cX7_pushAll 11 none 2 0 0 (qa_pV Q) 0 0 41 [some (.ref v0), some (.ref v1), some (.ref 31), some (.int v3), some (.int v4), some (.int v5), some (.int v6), some (.int v7), none, none, none] [] 113 μ) : ∀ (n : Nat) (v0 : Nat) (v1 : Nat) (v3 : Int32) (v4 : Int32) (v5 : Int32) (v6 : Int32) (v7 : Int32) (v8 : Int32) (s0 : Int32) (μ0 : qa_M), qa_PP μ0.2.2 → qa_yr v0 → qa_tw v1 → wX7_pushAll_95 n v0 v1 v3 v4 v5 v6 v7 v8 s0 μ0 K0 Q → qa_G l yX7_pushAll cX7_pushAll 11 none 2 0 0 (qa_pV Q) 0 0 95 [some (.ref v0), some (.ref v1), some (.ref 31), some (.int v3), some (.int v4), some (.int v5), some (.int v6), some (.int v7), some (.int v8), none, none] [.int s0] 113 μ0 := by
  intro n
  intro v0 v1 v3 v4 v5 v6 v7 v8 s0 μ0 hp0 k0 k1 h
  unfold wX7_pushAll_95 at h
  refine qa_ist9 dX7_pushAll_95 ?_
  refine qa_ild9 dX7_pushAll_97 ?_
  refine qa_if_eq (tgt := 124) dX7_pushAll_99 (by decide) (fun c9 => ?_) (fun c9 => ?_)
  · have h := h.1 c9
    refine qa_iconst (v := 0) dX7_pushAll_124 (by decide) ?_
    refine qa_fgt (L' := [some (.ref v0), some (.ref v1), some (.ref 31), some (.int v3), some (.int v4), some (.int v5), some (.int v6), some (.int v7), none, none, none]) (⟨rfl, ⟨rfl, ⟨rfl, ⟨rfl, ⟨rfl, ⟨rfl, ⟨rfl, ⟨rfl, trivial⟩⟩⟩⟩⟩⟩⟩⟩) ?_
    refine tX7_pushAll_125 l hK0 n v0 v1 v3 v4 v5 v6 v7 (0 : Int32) μ0 hp0 k0 k1 h
  · have h := h.2 c9
    refine qa_iconst (v := 0) dX7_pushAll_102 (by decide) ?_
    refine qa_ald1 dX7_pushAll_103 ?_
    refine qa_getR dX7_pushAll_104 lf_X7_103 rfl (st_0 k1) (tle_0 k1) (pt_11 hp0 k1) (Nat.succ_pos _) ?_
    refine qa_ild7 dX7_pushAll_107 ?_
    refine qa_iald dX7_pushAll_109 (st_1 k1) (tle_1 k1) h.1 ?_
    have h := h.2
    refine qa_ald1 dX7_pushAll_110 ?_
    refine qa_getR dX7_pushAll_111 lf_X7_106 rfl (st_0 k1) (tle_0 k1) (pt_13 hp0 k1) (Nat.succ_pos _) ?_
    refine qa_ild8 dX7_pushAll_114 ?_
    refine qa_iald dX7_pushAll_116 (st_3 k1) (tle_3 k1) h.1 ?_
    have h := h.2
    refine qa_isub dX7_pushAll_117 ?_
    refine qa_S2I dX7_pushAll_118 lm_X7_109  (by decide) (Nat.le_of_ble_eq_true rfl) (tJ9_max_7cf53 l hp0  h) (fun r13 μ13 hp13 h => ?_)
    refine qa_goto (tgt := 125) dX7_pushAll_121 (by decide) ?_
    refine qa_fgt (L' := [some (.ref v0), some (.ref v1), some (.ref 31), some (.int v3), some (.int v4), some (.int v5), some (.int v6), some (.int v7), none, none, none]) (⟨rfl, ⟨rfl, ⟨rfl, ⟨rfl, ⟨rfl, ⟨rfl, ⟨rfl, ⟨rfl, trivial⟩⟩⟩⟩⟩⟩⟩⟩) ?_
    refine tX7_pushAll_125 l hK0 n v0 v1 v3 v4 v5 v6 v7 r13 μ13 hp13 k0 k1 h
theorem tX7_pushAll_94 (l : Launch) {K0 : Nat → Nat → Int32 → Int32 → Int32 → Int32 → Int32 → qa_M → Prop} {Q : qa_M → Prop} (hK0 : ∀ (v0 : Nat) (v1 : Nat) (v3 : Int32) (v4 : Int32) (v5 : Int32) (v6 : Int32) (v7 : Int32) (μ : qa_M), qa_PP μ.2.2 → qa_yr v0 → qa_tw v1 → K0 v0 v1 v3 v4 v5 v6 v7 μ → qa_G l yX7_pushAll cX7_pushAll 11 none 2 0 0 (qa_pV Q) 0 0 41 [some (.ref v0), some (.ref v1), some (.ref 31), some (.int v3), some (.int v4), some (.int v5), some (.int v6), some (.int v7), none, none, none] [] 113 μ) : ∀ (n : Nat) (v0 : Nat) (v1 : Nat) (v3 : Int32) (v4 : Int32) (v5 : Int32) (v6 : Int32) (v7 : Int32) (v8 : Int32) (μ0 : qa_M), qa_PP μ0.2.2 → qa_yr v0 → qa_tw v1 → wX7_pushAll_94 n v0 v1 v3 v4 v5 v6 v7 v8 μ0 K0 Q → qa_G l yX7_pushAll cX7_pushAll 11 none 2 0 0 (qa_pV Q) 0 0 94 [some (.ref v0), some (.ref v1), some (.ref 31), some (.int v3), some (.int v4), some (.int v5), some (.int v6), some (.int v7), some (.int v8), none, none] [] 113 μ0 := by
  intro n
  intro v0 v1 v3 v4 v5 v6 v7 v8 μ0 hp0 k0 k1 h
  unfold wX7_pushAll_94 at h
  refine qa_iconst (v := 0) dX7_pushAll_94 (by decide) ?_
  refine qa_fgt (L' := [some (.ref v0), some (.ref v1), some (.ref 31), some (.int v3), some (.int v4), some (.int v5), some (.int v6), some (.int v7), some (.int v8), none, none]) (⟨rfl, ⟨rfl, ⟨rfl, ⟨rfl, ⟨rfl, ⟨rfl, ⟨rfl, ⟨rfl, ⟨rfl, trivial⟩⟩⟩⟩⟩⟩⟩⟩⟩) ?_
  refine tX7_pushAll_95 l hK0 n v0 v1 v3 v4 v5 v6 v7 v8 (0 : Int32) μ0 hp0 k0 k1 h
theorem tX7_pushAll_90 (l : Launch) {K0 : Nat → Nat → Int32 → Int32 → Int32 → Int32 → Int32 → qa_M → Prop} {Q : qa_M → Prop} (hK0 : ∀ (v0 : Nat) (v1 : Nat) (v3 : Int32) (v4 : Int32) (v5 : Int32) (v6 : Int32) (v7 : Int32) (μ : qa_M), qa_PP μ.2.2 → qa_yr v0 → qa_tw v1 → K0 v0 v1 v3 v4 v5 v6 v7 μ → qa_G l yX7_pushAll cX7_pushAll 11 none 2 0 0 (qa_pV Q) 0 0 41 [some (.ref v0), some (.ref v1), some (.ref 31), some (.int v3), some (.int v4), some (.int v5), some (.int v6), some (.int v7), none, none, none] [] 113 μ) : ∀ (n : Nat) (v0 : Nat) (v1 : Nat) (v3 : Int32) (v4 : Int32) (v5 : Int32) (v6 : Int32) (v7 : Int32) (v8 : Int32) (μ0 : qa_M), qa_PP μ0.2.2 → qa_yr v0 → qa_tw v1 → wX7_pushAll_90 n v0 v1 v3 v4 v5 v6 v7 v8 μ0 K0 Q → qa_G l yX7_pushAll cX7_pushAll 11 none 2 0 0 (qa_pV Q) 0 0 90 [some (.ref v0), some (.ref v1), some (.ref 31), some (.int v3), some (.int v4), some (.int v5), some (.int v6), some (.int v7), some (.int v8), none, none] [] 113 μ0 := by
  intro n
  intro v0 v1 v3 v4 v5 v6 v7 v8 μ0 hp0 k0 k1 h
  unfold wX7_pushAll_90 at h
  refine qa_iconst (v := 1) dX7_pushAll_90 (by decide) ?_
  refine qa_goto (tgt := 95) dX7_pushAll_91 (by decide) ?_
  refine qa_fgt (L' := [some (.ref v0), some (.ref v1), some (.ref 31), some (.int v3), some (.int v4), some (.int v5), some (.int v6), some (.int v7), some (.int v8), none, none]) (⟨rfl, ⟨rfl, ⟨rfl, ⟨rfl, ⟨rfl, ⟨rfl, ⟨rfl, ⟨rfl, ⟨rfl, trivial⟩⟩⟩⟩⟩⟩⟩⟩⟩) ?_
  refine tX7_pushAll_95 l hK0 n v0 v1 v3 v4 v5 v6 v7 v8 (1 : Int32) μ0 hp0 k0 k1 h
theorem tX7_pushAll_41 (l : Launch)  {Q : qa_M → Prop}  : ∀ (n : Nat) (v0 : Nat) (v1 : Nat) (v3 : Int32) (v4 : Int32) (v5 : Int32) (v6 : Int32) (v7 : Int32) (μ0 : qa_M), qa_PP μ0.2.2 → qa_yr v0 → qa_tw v1 → wX7_pushAll_41 n v0 v1 v3 v4 v5 v6 v7 μ0  Q → qa_G l yX7_pushAll cX7_pushAll 11 none 2 0 0 (qa_pV Q) 0 0 41 [some (.ref v0), some (.ref v1), some (.ref 31), some (.int v3), some (.int v4), some (.int v5), some (.int v6), some (.int v7), none, none, none] [] 113 μ0 := by
  intro n
  induction n with
  | zero =>
    intro v0 v1 v3 v4 v5 v6 v7 μ0 hp0 k0 k1 h
    rw [wX7_pushAll_41] at h
    exact h.elim
  | succ n ih =>
    intro v0 v1 v3 v4 v5 v6 v7 μ0 hp0 k0 k1 h
    rw [wX7_pushAll_41] at h
    refine qa_ild7 dX7_pushAll_41 ?_
    refine qa_ald1 dX7_pushAll_43 ?_
    refine qa_getI dX7_pushAll_44 lf_X7_28 (Or.inl rfl) (st_0 k1) (tle_0 k1) ?_
    refine qa_icmp_ge (tgt := 163) dX7_pushAll_47 (by decide) (fun c4 => ?_) (fun c4 => ?_)
    · have h := h.1 c4
      refine qa_ald0 dX7_pushAll_163 ?_
      refine qa_getR dX7_pushAll_164 lf_X7_18 rfl (sy_0 k0) (yle_0 k0) (py_2 hp0 k0) (Nat.succ_pos _) ?_
      refine qa_ild3 dX7_pushAll_167 ?_
      refine qa_ild6 dX7_pushAll_168 ?_
      refine qa_iast dX7_pushAll_170 (sy_3 k0) (yle_3 k0) h.1 ?_
      have h := h.2
      refine qa_nmM (fun μ5 em5 => ?_)
      have h := h μ5 em5
      have hp5 : qa_PP μ5.2.2 := by rw [em5]; exact hp0
      exact qa_vret rfl dX7_pushAll_171 ⟨rfl, rfl⟩ ⟨rfl, hp5, rfl, h⟩
    · have h := h.2 c4
      refine qa_ald0 dX7_pushAll_50 ?_
      refine qa_ild7 dX7_pushAll_51 ?_
      refine qa_ild3 dX7_pushAll_53 ?_
      refine qa_V2I dX7_pushAll_54 lm_X7_24 (sy_0 k0) rfl (yle_0 k0) (by decide) (Nat.le_of_ble_eq_true rfl) (tX7_spot l hp0 k0 h) (fun r6 μ6 hp6 h => ?_)
      refine qa_ist8 dX7_pushAll_57 ?_
      refine qa_ild4 dX7_pushAll_59 ?_
      refine qa_ild7 dX7_pushAll_61 ?_
      refine qa_N2I dX7_pushAll_63 lm_X7_80  (by decide) (Nat.le_of_ble_eq_true rfl) (tX8_bitOf l hp6  h) (fun r7 μ7 hp7 h => ?_)
      refine qa_if_ne (tgt := 94) dX7_pushAll_66 (by decide) (fun c8 => ?_) (fun c8 => ?_)
      · have h := h.1 c8
        refine qa_fgt (L' := [some (.ref v0), some (.ref v1), some (.ref 31), some (.int v3), some (.int v4), some (.int v5), some (.int v6), some (.int v7), some (.int r6), none, none]) (⟨rfl, ⟨rfl, ⟨rfl, ⟨rfl, ⟨rfl, ⟨rfl, ⟨rfl, ⟨rfl, ⟨rfl, trivial⟩⟩⟩⟩⟩⟩⟩⟩⟩) ?_
        refine tX7_pushAll_94 l ih n v0 v1 v3 v4 v5 v6 v7 r6 μ7 hp7 k0 k1 h
      · have h := h.2 c8
        refine qa_ild5 dX7_pushAll_69 ?_
        refine qa_if_eq (tgt := 90) dX7_pushAll_71 (by decide) (fun c14 => ?_) (fun c14 => ?_)
        · have h := h.1 c14
          refine qa_fgt (L' := [some (.ref v0), some (.ref v1), some (.ref 31), some (.int v3), some (.int v4), some (.int v5), some (.int v6), some (.int v7), some (.int r6), none, none]) (⟨rfl, ⟨rfl, ⟨rfl, ⟨rfl, ⟨rfl, ⟨rfl, ⟨rfl, ⟨rfl, ⟨rfl, trivial⟩⟩⟩⟩⟩⟩⟩⟩⟩) ?_
          refine tX7_pushAll_90 l ih n v0 v1 v3 v4 v5 v6 v7 r6 μ7 hp7 k0 k1 h
        · have h := h.2 c14
          refine qa_ild8 dX7_pushAll_74 ?_
          refine qa_if_eq (tgt := 90) dX7_pushAll_76 (by decide) (fun c15 => ?_) (fun c15 => ?_)
          · have h := h.1 c15
            refine qa_fgt (L' := [some (.ref v0), some (.ref v1), some (.ref 31), some (.int v3), some (.int v4), some (.int v5), some (.int v6), some (.int v7), some (.int r6), none, none]) (⟨rfl, ⟨rfl, ⟨rfl, ⟨rfl, ⟨rfl, ⟨rfl, ⟨rfl, ⟨rfl, ⟨rfl, trivial⟩⟩⟩⟩⟩⟩⟩⟩⟩) ?_
            refine tX7_pushAll_90 l ih n v0 v1 v3 v4 v5 v6 v7 r6 μ7 hp7 k0 k1 h
          · have h := h.2 c15
            refine qa_ild8 dX7_pushAll_79 ?_
            refine qa_ald1 dX7_pushAll_81 ?_
            refine qa_getI dX7_pushAll_82 lf_X7_28 (Or.inl rfl) (st_0 k1) (tle_0 k1) ?_
            refine qa_iconst (v := 1) dX7_pushAll_85 (by decide) ?_
            refine qa_isub dX7_pushAll_86 ?_
            refine qa_icmp_ne (tgt := 94) dX7_pushAll_87 (by decide) (fun c16 => ?_) (fun c16 => ?_)
            · have h := h.1 c16
              refine qa_fgt (L' := [some (.ref v0), some (.ref v1), some (.ref 31), some (.int v3), some (.int v4), some (.int v5), some (.int v6), some (.int v7), some (.int r6), none, none]) (⟨rfl, ⟨rfl, ⟨rfl, ⟨rfl, ⟨rfl, ⟨rfl, ⟨rfl, ⟨rfl, ⟨rfl, trivial⟩⟩⟩⟩⟩⟩⟩⟩⟩) ?_
              refine tX7_pushAll_94 l ih n v0 v1 v3 v4 v5 v6 v7 r6 μ7 hp7 k0 k1 h
            · have h := h.2 c16
              refine qa_fgt (L' := [some (.ref v0), some (.ref v1), some (.ref 31), some (.int v3), some (.int v4), some (.int v5), some (.int v6), some (.int v7), some (.int r6), none, none]) (⟨rfl, ⟨rfl, ⟨rfl, ⟨rfl, ⟨rfl, ⟨rfl, ⟨rfl, ⟨rfl, ⟨rfl, trivial⟩⟩⟩⟩⟩⟩⟩⟩⟩) ?_
              refine tX7_pushAll_90 l ih n v0 v1 v3 v4 v5 v6 v7 r6 μ7 hp7 k0 k1 h
theorem tX7_pushAll_33 (l : Launch)  {Q : qa_M → Prop}  : ∀ (n : Nat) (v0 : Nat) (v1 : Nat) (v3 : Int32) (v4 : Int32) (s0 : Int32) (μ0 : qa_M), qa_PP μ0.2.2 → qa_yr v0 → qa_tw v1 → wX7_pushAll_33 n v0 v1 v3 v4 s0 μ0  Q → qa_G l yX7_pushAll cX7_pushAll 11 none 2 0 0 (qa_pV Q) 0 0 33 [some (.ref v0), some (.ref v1), some (.ref 31), some (.int v3), some (.int v4), none, none, none, none, none, none] [.int s0] 113 μ0 := by
  intro n
  intro v0 v1 v3 v4 s0 μ0 hp0 k0 k1 h
  unfold wX7_pushAll_33 at h
  refine qa_ist5 dX7_pushAll_33 ?_
  refine qa_iconst (v := 0) dX7_pushAll_35 (by decide) ?_
  refine qa_ist6 dX7_pushAll_36 ?_
  refine qa_iconst (v := 0) dX7_pushAll_38 (by decide) ?_
  refine qa_ist7 dX7_pushAll_39 ?_
  refine qa_fgt (L' := [some (.ref v0), some (.ref v1), some (.ref 31), some (.int v3), some (.int v4), some (.int s0), some (.int (0 : Int32)), some (.int (0 : Int32)), none, none, none]) (⟨rfl, ⟨rfl, ⟨rfl, ⟨rfl, ⟨rfl, ⟨rfl, ⟨rfl, ⟨rfl, trivial⟩⟩⟩⟩⟩⟩⟩⟩) ?_
  refine tX7_pushAll_41 l  n v0 v1 v3 v4 s0 (0 : Int32) (0 : Int32) μ0 hp0 k0 k1 h
theorem tX7_pushAll (l : Launch) {n : Nat} {v0 : Nat} {v1 : Nat} {v3 : Int32} {μ0 : qa_M} {Q : qa_M → Prop} (hp0 : qa_PP μ0.2.2) (k0 : qa_yr v0) (k1 : qa_tw v1) (h : wX7_pushAll n v0 v1 v3 μ0 Q) : qa_Met l yX7_pushAll cX7_pushAll 11 none 2 0 0 [.ref v0, .ref v1, .ref 31, .int v3] 113 μ0 (qa_pV Q) := by
  refine qa_ofG (by decide) (Nat.le_of_ble_eq_true rfl) ?_
  unfold wX7_pushAll at h
  change qa_G l yX7_pushAll cX7_pushAll 11 none 2 0 0 (qa_pV Q) 0 0 0 [some (.ref v0), some (.ref v1), some (.ref 31), some (.int v3), none, none, none, none, none, none, none] [] 113 μ0
  refine qa_ald2 dX7_pushAll_0 ?_
  refine qa_getI dX7_pushAll_1 lf_X7_95 (Or.inl rfl) sh_31 (by decide) ?_
  refine qa_ald1 dX7_pushAll_4 ?_
  refine qa_getR dX7_pushAll_5 lf_X7_49 rfl (st_0 k1) (tle_0 k1) (pt_17 hp0 k1) (Nat.succ_pos _) ?_
  refine qa_getR dX7_pushAll_8 lf_X7_98 rfl (st_7 k1) (tle_7 k1) (pa_4 hp0 k1) (Nat.succ_pos _) ?_
  refine qa_ild3 dX7_pushAll_11 ?_
  refine qa_iald dX7_pushAll_12 (st_11 k1) (tle_11 k1) h.1 ?_
  have h := h.2
  refine qa_ior dX7_pushAll_13 ?_
  refine qa_nmI (fun x1 e1 => ?_)
  have h := h x1 e1
  refine qa_ist4 dX7_pushAll_14 ?_
  refine qa_ald2 dX7_pushAll_16 ?_
  refine qa_getI dX7_pushAll_17 lf_X7_100 (Or.inl rfl) sh_31 (by decide) ?_
  refine qa_ild3 dX7_pushAll_20 ?_
  refine qa_N2I dX7_pushAll_21 lm_X7_80  (by decide) (Nat.le_of_ble_eq_true rfl) (tX8_bitOf l hp0  h) (fun r2 μ2 hp2 h => ?_)
  refine qa_iconst (v := 1) dX7_pushAll_24 (by decide) ?_
  refine qa_icmp_ne (tgt := 32) dX7_pushAll_25 (by decide) (fun c3 => ?_) (fun c3 => ?_)
  · have h := h.1 c3
    refine qa_iconst (v := 0) dX7_pushAll_32 (by decide) ?_
    refine qa_fgt (L' := [some (.ref v0), some (.ref v1), some (.ref 31), some (.int v3), some (.int x1), none, none, none, none, none, none]) (⟨rfl, ⟨rfl, ⟨rfl, ⟨rfl, ⟨rfl, trivial⟩⟩⟩⟩⟩) ?_
    refine tX7_pushAll_33 l  n v0 v1 v3 x1 (0 : Int32) μ2 hp2 k0 k1 h
  · have h := h.2 c3
    refine qa_iconst (v := 1) dX7_pushAll_28 (by decide) ?_
    refine qa_goto (tgt := 33) dX7_pushAll_29 (by decide) ?_
    refine qa_fgt (L' := [some (.ref v0), some (.ref v1), some (.ref 31), some (.int v3), some (.int x1), none, none, none, none, none, none]) (⟨rfl, ⟨rfl, ⟨rfl, ⟨rfl, ⟨rfl, trivial⟩⟩⟩⟩⟩) ?_
    refine tX7_pushAll_33 l  n v0 v1 v3 x1 (1 : Int32) μ2 hp2 k0 k1 h
def wX8_turnBy_12 (n : Nat) (v0 : Int32) (v2 : Int32) (v3 : Int32) (v4 : Int32) (s0 : Int32) (μ0 : qa_M)  (Q : Int32 → qa_M → Prop) : Prop := ((v0 = (0 : Int32) → Q s0 μ0) ∧ (¬ v0 = (0 : Int32) → ((v0 = (1 : Int32) → wJ6_compare_7cf53 n s0 (0 : Int32) μ0 (fun r4 μ4 => Q r4 μ4)) ∧ (¬ v0 = (1 : Int32) → ((v0 = (2 : Int32) → wX8_round n v2 v4 μ0 (fun r6 μ6 => Q r6 μ6)) ∧ (¬ v0 = (2 : Int32) → ((¬ (v3 - v3 / (2 : Int32) * (2 : Int32)) = 0 → Q (0 : Int32) μ0) ∧ ((v3 - v3 / (2 : Int32) * (2 : Int32)) = 0 → Q s0 μ0))))))))
def wX8_turnBy (n : Nat) (v0 : Int32) (v1 : Int32) (v2 : Int32) (v3 : Int32) (v4 : Int32) (μ0 : qa_M) (Q : Int32 → qa_M → Prop) : Prop := (((1 : Int32) ≤ v1 → ¬ v1 = 0 ∧ wX8_turnBy_12 n v0 v2 v3 v4 (v2 / v1) μ0  Q) ∧ (¬ (1 : Int32) ≤ v1 → wX8_turnBy_12 n v0 v2 v3 v4 (0 : Int32) μ0  Q))
theorem tX8_turnBy_12 (l : Launch)  {Q : Int32 → qa_M → Prop}  : ∀ (n : Nat) (v0 : Int32) (v2 : Int32) (v3 : Int32) (v4 : Int32) (s0 : Int32) (μ0 : qa_M), qa_PP μ0.2.2 → wX8_turnBy_12 n v0 v2 v3 v4 s0 μ0  Q → qa_G l yX8_turnBy cX8_turnBy 6 (some .int) 2 0 0 (qa_pI Q) 0 0 12 [some (.int v0), none, some (.int v2), some (.int v3), some (.int v4), none] [.int s0] 113 μ0 := by
  intro n
  intro v0 v2 v3 v4 s0 μ0 hp0  h
  unfold wX8_turnBy_12 at h
  refine qa_ist5 dX8_turnBy_12 ?_
  refine qa_ild0 dX8_turnBy_14 ?_
  by_cases c2 : v0 = (0 : Int32)
  · have h := h.1 c2
    refine qa_tabIn (tgt := 40) dX8_turnBy_15 (by rw [c2]; decide) (by rw [c2]; decide) (by rw [c2]; rfl) (by decide) ?_
    refine qa_ild5 dX8_turnBy_40 ?_
    exact qa_iret rfl dX8_turnBy_42 ⟨rfl, rfl⟩ ⟨rfl, hp0, _, rfl, h⟩
  have h := h.2 c2
  by_cases c3 : v0 = (1 : Int32)
  · have h := h.1 c3
    refine qa_tabIn (tgt := 43) dX8_turnBy_15 (by rw [c3]; decide) (by rw [c3]; decide) (by rw [c3]; rfl) (by decide) ?_
    refine qa_ild5 dX8_turnBy_43 ?_
    refine qa_iconst (v := 0) dX8_turnBy_45 (by decide) ?_
    refine qa_S2I dX8_turnBy_46 lm_X8_458  (by decide) (Nat.le_of_ble_eq_true rfl) (tJ6_compare_7cf53 l hp0  h) (fun r4 μ4 hp4 h => ?_)
    exact qa_iret rfl dX8_turnBy_49 ⟨rfl, rfl⟩ ⟨rfl, hp4, _, rfl, h⟩
  have h := h.2 c3
  by_cases c5 : v0 = (2 : Int32)
  · have h := h.1 c5
    refine qa_tabIn (tgt := 50) dX8_turnBy_15 (by rw [c5]; decide) (by rw [c5]; decide) (by rw [c5]; rfl) (by decide) ?_
    refine qa_ild2 dX8_turnBy_50 ?_
    refine qa_ild4 dX8_turnBy_51 ?_
    refine qa_S2I dX8_turnBy_53 lm_X8_177  (by decide) (Nat.le_of_ble_eq_true rfl) (tX8_round l hp0  h) (fun r6 μ6 hp6 h => ?_)
    exact qa_iret rfl dX8_turnBy_56 ⟨rfl, rfl⟩ ⟨rfl, hp6, _, rfl, h⟩
  have h := h.2 c5
  have o8 : v0.toInt < 0 ∨ 2 < v0.toInt := by
    have qc2 : v0.toInt ≠ 0 := fun q => c2 (Int32.toInt_inj.mp (q.trans rfl))
    have qc3 : v0.toInt ≠ 1 := fun q => c3 (Int32.toInt_inj.mp (q.trans rfl))
    have qc5 : v0.toInt ≠ 2 := fun q => c5 (Int32.toInt_inj.mp (q.trans rfl))
    omega
  refine qa_tabOut (tgt := 57) dX8_turnBy_15 o8 (by decide) ?_
  refine qa_ild3 dX8_turnBy_57 ?_
  refine qa_iconst (v := 2) dX8_turnBy_58 (by decide) ?_
  refine qa_irem dX8_turnBy_59 (by decide) ?_
  refine qa_if_ne (tgt := 68) dX8_turnBy_60 (by decide) (fun c7 => ?_) (fun c7 => ?_)
  · have h := h.1 c7
    refine qa_iconst (v := 0) dX8_turnBy_68 (by decide) ?_
    exact qa_iret rfl dX8_turnBy_69 ⟨rfl, rfl⟩ ⟨rfl, hp0, _, rfl, h⟩
  · have h := h.2 c7
    refine qa_ild5 dX8_turnBy_63 ?_
    refine qa_goto (tgt := 69) dX8_turnBy_65 (by decide) ?_
    exact qa_iret rfl dX8_turnBy_69 ⟨rfl, rfl⟩ ⟨rfl, hp0, _, rfl, h⟩
theorem tX8_turnBy (l : Launch) {n : Nat} {v0 : Int32} {v1 : Int32} {v2 : Int32} {v3 : Int32} {v4 : Int32} {μ0 : qa_M} {Q : Int32 → qa_M → Prop} (hp0 : qa_PP μ0.2.2)  (h : wX8_turnBy n v0 v1 v2 v3 v4 μ0 Q) : qa_Met l yX8_turnBy cX8_turnBy 6 (some .int) 2 0 0 [.int v0, .int v1, .int v2, .int v3, .int v4] 113 μ0 (qa_pI Q) := by
  refine qa_ofG (by decide) (Nat.le_of_ble_eq_true rfl) ?_
  unfold wX8_turnBy at h
  change qa_G l yX8_turnBy cX8_turnBy 6 (some .int) 2 0 0 (qa_pI Q) 0 0 0 [some (.int v0), some (.int v1), some (.int v2), some (.int v3), some (.int v4), none] [] 113 μ0
  refine qa_ild1 dX8_turnBy_0 ?_
  refine qa_iconst (v := 1) dX8_turnBy_1 (by decide) ?_
  refine qa_icmp_ge (tgt := 9) dX8_turnBy_2 (by decide) (fun c1 => ?_) (fun c1 => ?_)
  · have h := h.1 c1
    refine qa_ild2 dX8_turnBy_9 ?_
    refine qa_ild1 dX8_turnBy_10 ?_
    refine qa_idiv dX8_turnBy_11 h.1 ?_
    have h := h.2
    refine qa_fgt (L' := [some (.int v0), none, some (.int v2), some (.int v3), some (.int v4), none]) (⟨rfl, ⟨rfl, ⟨rfl, ⟨rfl, trivial⟩⟩⟩⟩) ?_
    refine tX8_turnBy_12 l  n v0 v2 v3 v4 (v2 / v1) μ0 hp0  h
  · have h := h.2 c1
    refine qa_iconst (v := 0) dX8_turnBy_5 (by decide) ?_
    refine qa_goto (tgt := 12) dX8_turnBy_6 (by decide) ?_
    refine qa_fgt (L' := [some (.int v0), none, some (.int v2), some (.int v3), some (.int v4), none]) (⟨rfl, ⟨rfl, ⟨rfl, ⟨rfl, trivial⟩⟩⟩⟩) ?_
    refine tX8_turnBy_12 l  n v0 v2 v3 v4 (0 : Int32) μ0 hp0  h
def wX7_follow_2 : Nat → Nat → Nat → Int32 → qa_M → (Nat → Nat → qa_M → Prop) → (qa_M → Prop) → Prop
  | 0, _, _, _, _, _, _ => False
  | n + 1, v0, v1, v3, μ0, K0, Q => (((μ0.1 v1 5) ≤ v3 → K0 v0 v1 μ0) ∧ (¬ (μ0.1 v1 5) ≤ v3 → vp_in v3 168 ∧ ∀ μ2, μ2 = qa_uI μ0 (v0 + 1) v3.toNatClampNeg v3 → wX7_follow_2 n v0 v1 (v3 + (1 : Int32)) μ2 K0 Q))
def wX7_follow_46 : Nat → Nat → Nat → Int32 → qa_M → (qa_M → Prop) → Prop
  | 0, _, _, _, _, _ => False
  | n + 1, v0, v1, v3, μ0, Q => (((μ0.1 31 7) ≤ v3 → wX7_exchangeAll n v0 v1 (μ0.1 31 7) μ0 (fun μ7 => Q μ7)) ∧ (¬ (μ0.1 31 7) ≤ v3 → wX7_exchangeAll n v0 v1 v3 μ0 (fun μ8 => wX7_pushAll n v0 v1 v3 μ8 (fun μ9 => vp_in v3 20 ∧ wX8_turnBy n (μ9.1 31 0) (μ9.1 31 1) (μ9.1 (v0 + 3) v3.toNatClampNeg) v3 (μ9.1 v1 5) μ9 (fun r10 μ10 => vp_in v3 20 ∧ ∀ μ11, μ11 = qa_uI μ10 (v0 + 4) v3.toNatClampNeg r10 → wX7_carryAll n v0 (μ11.1 v1 5) v3 μ11 (fun μ12 => wX7_follow_46 n v0 v1 (v3 + (1 : Int32)) μ12 Q))))))
def wX7_follow (n : Nat) (v0 : Nat) (v1 : Nat) (μ0 : qa_M) (Q : qa_M → Prop) : Prop := wX7_follow_2 n v0 v1 (0 : Int32) μ0 (fun v0_4 v1_4 μ3 => (((μ3.1 31 5) = (-1 : Int32) → wX7_follow_46 n v0_4 v1_4 (0 : Int32) μ3  Q) ∧ (¬ (μ3.1 31 5) = (-1 : Int32) → wX7_exchange n v0_4 (μ3.1 31 5) (μ3.1 31 6) (0 : Int32) μ3 (fun μ13 => wX7_follow_46 n v0_4 v1_4 (0 : Int32) μ13  Q)))) Q
theorem tX7_follow_2 (l : Launch) {K0 : Nat → Nat → qa_M → Prop} {Q : qa_M → Prop} (hK0 : ∀ (v0 : Nat) (v1 : Nat) (μ : qa_M), qa_PP μ.2.2 → qa_yr v0 → qa_tw v1 → K0 v0 v1 μ → qa_G l yX7_follow cX7_follow 4 none 3 0 0 (qa_pV Q) 0 0 23 [some (.ref v0), some (.ref v1), some (.ref 31), none] [] 113 μ) : ∀ (n : Nat) (v0 : Nat) (v1 : Nat) (v3 : Int32) (μ0 : qa_M), qa_PP μ0.2.2 → qa_yr v0 → qa_tw v1 → wX7_follow_2 n v0 v1 v3 μ0 K0 Q → qa_G l yX7_follow cX7_follow 4 none 3 0 0 (qa_pV Q) 0 0 2 [some (.ref v0), some (.ref v1), some (.ref 31), some (.int v3)] [] 113 μ0 := by
  intro n
  induction n with
  | zero =>
    intro v0 v1 v3 μ0 hp0 k0 k1 h
    rw [wX7_follow_2] at h
    exact h.elim
  | succ n ih =>
    intro v0 v1 v3 μ0 hp0 k0 k1 h
    rw [wX7_follow_2] at h
    refine qa_ild3 dX7_follow_2 ?_
    refine qa_ald1 dX7_follow_3 ?_
    refine qa_getI dX7_follow_4 lf_X7_28 (Or.inl rfl) (st_0 k1) (tle_0 k1) ?_
    refine qa_icmp_ge (tgt := 23) dX7_follow_7 (by decide) (fun c1 => ?_) (fun c1 => ?_)
    · have h := h.1 c1
      refine qa_fgt (L' := [some (.ref v0), some (.ref v1), some (.ref 31), none]) (⟨rfl, ⟨rfl, ⟨rfl, trivial⟩⟩⟩) ?_
      exact hK0 v0 v1 μ0 hp0 k0 k1 h
    · have h := h.2 c1
      refine qa_ald0 dX7_follow_10 ?_
      refine qa_getR dX7_follow_11 lf_X7_9 rfl (sy_0 k0) (yle_0 k0) (py_0 hp0 k0) (Nat.succ_pos _) ?_
      refine qa_ild3 dX7_follow_14 ?_
      refine qa_ild3 dX7_follow_15 ?_
      refine qa_iast dX7_follow_16 (sy_1 k0) (yle_1 k0) h.1 ?_
      have h := h.2
      refine qa_nmM (fun μ2 em2 => ?_)
      have h := h μ2 em2
      have hp2 : qa_PP μ2.2.2 := by rw [em2]; exact hp0
      refine qa_inc3 dX7_follow_17 (qa_io1 _) ?_
      refine qa_goto (tgt := 2) dX7_follow_20 (by decide) ?_
      refine qa_fgt (L' := [some (.ref v0), some (.ref v1), some (.ref 31), some (.int (v3 + (1 : Int32)))]) (⟨rfl, ⟨rfl, ⟨rfl, ⟨rfl, trivial⟩⟩⟩⟩) ?_
      exact ih v0 v1 (v3 + (1 : Int32)) μ2 hp2 k0 k1 h
theorem tX7_follow_46 (l : Launch)  {Q : qa_M → Prop}  : ∀ (n : Nat) (v0 : Nat) (v1 : Nat) (v3 : Int32) (μ0 : qa_M), qa_PP μ0.2.2 → qa_yr v0 → qa_tw v1 → wX7_follow_46 n v0 v1 v3 μ0  Q → qa_G l yX7_follow cX7_follow 4 none 3 0 0 (qa_pV Q) 0 0 46 [some (.ref v0), some (.ref v1), some (.ref 31), some (.int v3)] [] 113 μ0 := by
  intro n
  induction n with
  | zero =>
    intro v0 v1 v3 μ0 hp0 k0 k1 h
    rw [wX7_follow_46] at h
    exact h.elim
  | succ n ih =>
    intro v0 v1 v3 μ0 hp0 k0 k1 h
    rw [wX7_follow_46] at h
    refine qa_ild3 dX7_follow_46 ?_
    refine qa_ald2 dX7_follow_47 ?_
    refine qa_getI dX7_follow_48 lf_X7_46 (Or.inl rfl) sh_31 (by decide) ?_
    refine qa_icmp_ge (tgt := 113) dX7_follow_51 (by decide) (fun c6 => ?_) (fun c6 => ?_)
    · have h := h.1 c6
      refine qa_ald0 dX7_follow_113 ?_
      refine qa_ald1 dX7_follow_114 ?_
      refine qa_getR dX7_follow_115 lf_X7_49 rfl (st_0 k1) (tle_0 k1) (pt_17 hp0 k1) (Nat.succ_pos _) ?_
      refine qa_ald2 dX7_follow_118 ?_
      refine qa_getI dX7_follow_119 lf_X7_46 (Or.inl rfl) sh_31 (by decide) ?_
      refine qa_V2V dX7_follow_122 lm_X7_53 (sy_0 k0) rfl (yle_0 k0) (by decide) (Nat.le_of_ble_eq_true rfl) (tX7_exchangeAll l hp0 k0 k1 h) (fun μ7 hp7 h => ?_)
      exact qa_vret rfl dX7_follow_125 ⟨rfl, rfl⟩ ⟨rfl, hp7, rfl, h⟩
    · have h := h.2 c6
      refine qa_ald0 dX7_follow_54 ?_
      refine qa_ald1 dX7_follow_55 ?_
      refine qa_getR dX7_follow_56 lf_X7_49 rfl (st_0 k1) (tle_0 k1) (pt_17 hp0 k1) (Nat.succ_pos _) ?_
      refine qa_ild3 dX7_follow_59 ?_
      refine qa_V2V dX7_follow_60 lm_X7_53 (sy_0 k0) rfl (yle_0 k0) (by decide) (Nat.le_of_ble_eq_true rfl) (tX7_exchangeAll l hp0 k0 k1 h) (fun μ8 hp8 h => ?_)
      refine qa_ald0 dX7_follow_63 ?_
      refine qa_ald1 dX7_follow_64 ?_
      refine qa_ald2 dX7_follow_65 ?_
      refine qa_ild3 dX7_follow_66 ?_
      refine qa_V3V dX7_follow_67 lm_X7_57 (sy_0 k0) rfl (yle_0 k0) (by decide) (Nat.le_of_ble_eq_true rfl) (tX7_pushAll l hp8 k0 k1 h) (fun μ9 hp9 h => ?_)
      refine qa_ald0 dX7_follow_70 ?_
      refine qa_getR dX7_follow_71 lf_X7_21 rfl (sy_0 k0) (yle_0 k0) (py_3 hp9 k0) (Nat.succ_pos _) ?_
      refine qa_ild3 dX7_follow_74 ?_
      refine qa_ald2 dX7_follow_75 ?_
      refine qa_getI dX7_follow_76 lf_X7_61 (Or.inl rfl) sh_31 (by decide) ?_
      refine qa_ald2 dX7_follow_79 ?_
      refine qa_getI dX7_follow_80 lf_X7_64 (Or.inl rfl) sh_31 (by decide) ?_
      refine qa_ald0 dX7_follow_83 ?_
      refine qa_getR dX7_follow_84 lf_X7_18 rfl (sy_0 k0) (yle_0 k0) (py_2 hp9 k0) (Nat.succ_pos _) ?_
      refine qa_ild3 dX7_follow_87 ?_
      refine qa_iald dX7_follow_88 (sy_3 k0) (yle_3 k0) h.1 ?_
      have h := h.2
      refine qa_ild3 dX7_follow_89 ?_
      refine qa_ald1 dX7_follow_90 ?_
      refine qa_getI dX7_follow_91 lf_X7_28 (Or.inl rfl) (st_0 k1) (tle_0 k1) ?_
      refine qa_N5I dX7_follow_94 lm_X7_67  (by decide) (Nat.le_of_ble_eq_true rfl) (tX8_turnBy l hp9  h) (fun r10 μ10 hp10 h => ?_)
      refine qa_iast dX7_follow_97 (sy_4 k0) (yle_4 k0) h.1 ?_
      have h := h.2
      refine qa_nmM (fun μ11 em11 => ?_)
      have h := h μ11 em11
      have hp11 : qa_PP μ11.2.2 := by rw [em11]; exact hp10
      refine qa_ald0 dX7_follow_98 ?_
      refine qa_ald1 dX7_follow_99 ?_
      refine qa_getI dX7_follow_100 lf_X7_28 (Or.inl rfl) (st_0 k1) (tle_0 k1) ?_
      refine qa_ild3 dX7_follow_103 ?_
      refine qa_V2V dX7_follow_104 lm_X7_71 (sy_0 k0) rfl (yle_0 k0) (by decide) (Nat.le_of_ble_eq_true rfl) (tX7_carryAll l hp11 k0 h) (fun μ12 hp12 h => ?_)
      refine qa_inc3 dX7_follow_107 (qa_io1 _) ?_
      refine qa_goto (tgt := 46) dX7_follow_110 (by decide) ?_
      refine qa_fgt (L' := [some (.ref v0), some (.ref v1), some (.ref 31), some (.int (v3 + (1 : Int32)))]) (⟨rfl, ⟨rfl, ⟨rfl, ⟨rfl, trivial⟩⟩⟩⟩) ?_
      exact ih v0 v1 (v3 + (1 : Int32)) μ12 hp12 k0 k1 h
theorem tX7_follow (l : Launch) {n : Nat} {v0 : Nat} {v1 : Nat} {μ0 : qa_M} {Q : qa_M → Prop} (hp0 : qa_PP μ0.2.2) (k0 : qa_yr v0) (k1 : qa_tw v1) (h : wX7_follow n v0 v1 μ0 Q) : qa_Met l yX7_follow cX7_follow 4 none 3 0 0 [.ref v0, .ref v1, .ref 31] 113 μ0 (qa_pV Q) := by
  refine qa_ofG (by decide) (Nat.le_of_ble_eq_true rfl) ?_
  unfold wX7_follow at h
  change qa_G l yX7_follow cX7_follow 4 none 3 0 0 (qa_pV Q) 0 0 0 [some (.ref v0), some (.ref v1), some (.ref 31), none] [] 113 μ0
  refine qa_iconst (v := 0) dX7_follow_0 (by decide) ?_
  refine qa_ist3 dX7_follow_1 ?_
  refine qa_fgt (L' := [some (.ref v0), some (.ref v1), some (.ref 31), some (.int (0 : Int32))]) (⟨rfl, ⟨rfl, ⟨rfl, ⟨rfl, trivial⟩⟩⟩⟩) ?_
  refine tX7_follow_2 l ?_ n v0 v1 (0 : Int32) μ0 hp0 k0 k1 h
  · intro v0_4 v1_4 μ3 hp3 k0_4 k1_4 h
    refine qa_ald2 dX7_follow_23 ?_
    refine qa_getI dX7_follow_24 lf_X7_34 (Or.inl rfl) sh_31 (by decide) ?_
    refine qa_iconst (v := -1) dX7_follow_27 (by decide) ?_
    refine qa_icmp_eq (tgt := 44) dX7_follow_28 (by decide) (fun c5 => ?_) (fun c5 => ?_)
    · have h := h.1 c5
      refine qa_iconst (v := 0) dX7_follow_44 (by decide) ?_
      refine qa_ist3 dX7_follow_45 ?_
      refine qa_fgt (L' := [some (.ref v0_4), some (.ref v1_4), some (.ref 31), some (.int (0 : Int32))]) (⟨rfl, ⟨rfl, ⟨rfl, ⟨rfl, trivial⟩⟩⟩⟩) ?_
      refine tX7_follow_46 l  n v0_4 v1_4 (0 : Int32) μ3 hp3 k0_4 k1_4 h
    · have h := h.2 c5
      refine qa_ald0 dX7_follow_31 ?_
      refine qa_ald2 dX7_follow_32 ?_
      refine qa_getI dX7_follow_33 lf_X7_34 (Or.inl rfl) sh_31 (by decide) ?_
      refine qa_ald2 dX7_follow_36 ?_
      refine qa_getI dX7_follow_37 lf_X7_39 (Or.inl rfl) sh_31 (by decide) ?_
      refine qa_iconst (v := 0) dX7_follow_40 (by decide) ?_
      refine qa_V3V dX7_follow_41 lm_X7_42 (sy_0 k0_4) rfl (yle_0 k0_4) (by decide) (Nat.le_of_ble_eq_true rfl) (tX7_exchange l hp3 k0_4 h) (fun μ13 hp13 h => ?_)
      refine qa_iconst (v := 0) dX7_follow_44 (by decide) ?_
      refine qa_ist3 dX7_follow_45 ?_
      refine qa_fgt (L' := [some (.ref v0_4), some (.ref v1_4), some (.ref 31), some (.int (0 : Int32))]) (⟨rfl, ⟨rfl, ⟨rfl, ⟨rfl, trivial⟩⟩⟩⟩) ?_
      refine tX7_follow_46 l  n v0_4 v1_4 (0 : Int32) μ13 hp13 k0_4 k1_4 h
def wX7_houseOn_3 : Nat → Nat → Int32 → Int32 → Int32 → Int32 → qa_M → (Int32 → qa_M → Prop) → Prop
  | 0, _, _, _, _, _, _, _ => False
  | n + 1, v0, v1, v2, v3, v4, μ0, Q => ((v3 ≤ v4 → Q (-1 : Int32) μ0) ∧ (¬ v3 ≤ v4 → wX7_spot n v0 v4 v2 μ0 (fun r2 μ2 => ((¬ r2 = v1 → wX7_houseOn_3 n v0 v1 v2 v3 (v4 + (1 : Int32)) μ2 Q) ∧ (r2 = v1 → Q v4 μ2)))))
def wX7_houseOn (n : Nat) (v0 : Nat) (v1 : Int32) (v2 : Int32) (v3 : Int32) (μ0 : qa_M) (Q : Int32 → qa_M → Prop) : Prop := wX7_houseOn_3 n v0 v1 v2 v3 (0 : Int32) μ0  Q
theorem tX7_houseOn_3 (l : Launch)  {Q : Int32 → qa_M → Prop}  : ∀ (n : Nat) (v0 : Nat) (v1 : Int32) (v2 : Int32) (v3 : Int32) (v4 : Int32) (μ0 : qa_M), qa_PP μ0.2.2 → qa_yr v0 → wX7_houseOn_3 n v0 v1 v2 v3 v4 μ0  Q → qa_G l yX7_houseOn cX7_houseOn 5 (some .int) 1 0 0 (qa_pI Q) 0 0 3 [some (.ref v0), some (.int v1), some (.int v2), some (.int v3), some (.int v4)] [] 113 μ0 := by
  intro n
  induction n with
  | zero =>
    intro v0 v1 v2 v3 v4 μ0 hp0 k0 h
    rw [wX7_houseOn_3] at h
    exact h.elim
  | succ n ih =>
    intro v0 v1 v2 v3 v4 μ0 hp0 k0 h
    rw [wX7_houseOn_3] at h
    refine qa_ild4 dX7_houseOn_3 ?_
    refine qa_ild3 dX7_houseOn_5 ?_
    refine qa_icmp_ge (tgt := 29) dX7_houseOn_6 (by decide) (fun c1 => ?_) (fun c1 => ?_)
    · have h := h.1 c1
      refine qa_iconst (v := -1) dX7_houseOn_29 (by decide) ?_
      exact qa_iret rfl dX7_houseOn_30 ⟨rfl, rfl⟩ ⟨rfl, hp0, _, rfl, h⟩
    · have h := h.2 c1
      refine qa_ald0 dX7_houseOn_9 ?_
      refine qa_ild4 dX7_houseOn_10 ?_
      refine qa_ild2 dX7_houseOn_12 ?_
      refine qa_V2I dX7_houseOn_13 lm_X7_24 (sy_0 k0) rfl (yle_0 k0) (by decide) (Nat.le_of_ble_eq_true rfl) (tX7_spot l hp0 k0 h) (fun r2 μ2 hp2 h => ?_)
      refine qa_ild1 dX7_houseOn_16 ?_
      refine qa_icmp_ne (tgt := 23) dX7_houseOn_17 (by decide) (fun c3 => ?_) (fun c3 => ?_)
      · have h := h.1 c3
        refine qa_inc4 dX7_houseOn_23 (qa_io1 _) ?_
        refine qa_goto (tgt := 3) dX7_houseOn_26 (by decide) ?_
        refine qa_fgt (L' := [some (.ref v0), some (.int v1), some (.int v2), some (.int v3), some (.int (v4 + (1 : Int32)))]) (⟨rfl, ⟨rfl, ⟨rfl, ⟨rfl, ⟨rfl, trivial⟩⟩⟩⟩⟩) ?_
        exact ih v0 v1 v2 v3 (v4 + (1 : Int32)) μ2 hp2 k0 h
      · have h := h.2 c3
        refine qa_ild4 dX7_houseOn_20 ?_
        exact qa_iret rfl dX7_houseOn_22 ⟨rfl, rfl⟩ ⟨rfl, hp2, _, rfl, h⟩
theorem tX7_houseOn (l : Launch) {n : Nat} {v0 : Nat} {v1 : Int32} {v2 : Int32} {v3 : Int32} {μ0 : qa_M} {Q : Int32 → qa_M → Prop} (hp0 : qa_PP μ0.2.2) (k0 : qa_yr v0) (h : wX7_houseOn n v0 v1 v2 v3 μ0 Q) : qa_Met l yX7_houseOn cX7_houseOn 5 (some .int) 1 0 0 [.ref v0, .int v1, .int v2, .int v3] 113 μ0 (qa_pI Q) := by
  refine qa_ofG (by decide) (Nat.le_of_ble_eq_true rfl) ?_
  unfold wX7_houseOn at h
  change qa_G l yX7_houseOn cX7_houseOn 5 (some .int) 1 0 0 (qa_pI Q) 0 0 0 [some (.ref v0), some (.int v1), some (.int v2), some (.int v3), none] [] 113 μ0
  refine qa_iconst (v := 0) dX7_houseOn_0 (by decide) ?_
  refine qa_ist4 dX7_houseOn_1 ?_
  refine qa_fgt (L' := [some (.ref v0), some (.int v1), some (.int v2), some (.int v3), some (.int (0 : Int32))]) (⟨rfl, ⟨rfl, ⟨rfl, ⟨rfl, ⟨rfl, trivial⟩⟩⟩⟩⟩) ?_
  refine tX7_houseOn_3 l  n v0 v1 v2 v3 (0 : Int32) μ0 hp0 k0 h
def wX7_reaches (n : Nat) (v0 : Nat) (v1 : Nat) (v2 : Int32) (μ0 : qa_M) (Q : Int32 → qa_M → Prop) : Prop := vp_in v2 8 ∧ ∀ x1, x1 = (μ0.1 (v1 + 6) v2.toNatClampNeg) → (((μ0.1 v1 1) < x1 → Q (0 : Int32) μ0) ∧ (¬ (μ0.1 v1 1) < x1 → vp_in v2 8 ∧ wX7_spot n v0 (μ0.1 (v1 + 4) v2.toNatClampNeg) x1 μ0 (fun r3 μ3 => vp_in v2 8 ∧ ((¬ r3 = (μ3.1 (v1 + 5) v2.toNatClampNeg) → Q (0 : Int32) μ3) ∧ (r3 = (μ3.1 (v1 + 5) v2.toNatClampNeg) → Q (1 : Int32) μ3)))))
theorem tX7_reaches (l : Launch) {n : Nat} {v0 : Nat} {v1 : Nat} {v2 : Int32} {μ0 : qa_M} {Q : Int32 → qa_M → Prop} (hp0 : qa_PP μ0.2.2) (k0 : qa_yr v0) (k1 : qa_tw v1) (h : wX7_reaches n v0 v1 v2 μ0 Q) : qa_Met l yX7_reaches cX7_reaches 4 (some .boolean) 1 0 0 [.ref v0, .ref v1, .int v2] 113 μ0 (qa_pI Q) := by
  refine qa_ofG (by decide) (Nat.le_of_ble_eq_true rfl) ?_
  unfold wX7_reaches at h
  change qa_G l yX7_reaches cX7_reaches 4 (some .boolean) 1 0 0 (qa_pI Q) 0 0 0 [some (.ref v0), some (.ref v1), some (.int v2), none] [] 113 μ0
  refine qa_ald1 dX7_reaches_0 ?_
  refine qa_getR dX7_reaches_1 lf_X7_137 rfl (st_0 k1) (tle_0 k1) (pt_16 hp0 k1) (Nat.succ_pos _) ?_
  refine qa_ild2 dX7_reaches_4 ?_
  refine qa_iald dX7_reaches_5 (st_6 k1) (tle_6 k1) h.1 ?_
  have h := h.2
  refine qa_nmI (fun x1 e1 => ?_)
  have h := h x1 e1
  refine qa_ist3 dX7_reaches_6 ?_
  refine qa_ild3 dX7_reaches_7 ?_
  refine qa_ald1 dX7_reaches_8 ?_
  refine qa_getI dX7_reaches_9 lf_X7_127 (Or.inl rfl) (st_0 k1) (tle_0 k1) ?_
  refine qa_icmp_gt (tgt := 39) dX7_reaches_12 (by decide) (fun c2 => ?_) (fun c2 => ?_)
  · have h := h.1 c2
    refine qa_iconst (v := 0) dX7_reaches_39 (by decide) ?_
    exact qa_zret rfl rfl dX7_reaches_40 ⟨rfl, rfl⟩ ⟨rfl, hp0, _, rfl, h⟩
  · have h := h.2 c2
    refine qa_ald0 dX7_reaches_15 ?_
    refine qa_ald1 dX7_reaches_16 ?_
    refine qa_getR dX7_reaches_17 lf_X7_140 rfl (st_0 k1) (tle_0 k1) (pt_14 hp0 k1) (Nat.succ_pos _) ?_
    refine qa_ild2 dX7_reaches_20 ?_
    refine qa_iald dX7_reaches_21 (st_4 k1) (tle_4 k1) h.1 ?_
    have h := h.2
    refine qa_ild3 dX7_reaches_22 ?_
    refine qa_V2I dX7_reaches_23 lm_X7_24 (sy_0 k0) rfl (yle_0 k0) (by decide) (Nat.le_of_ble_eq_true rfl) (tX7_spot l hp0 k0 h) (fun r3 μ3 hp3 h => ?_)
    refine qa_ald1 dX7_reaches_26 ?_
    refine qa_getR dX7_reaches_27 lf_X7_143 rfl (st_0 k1) (tle_0 k1) (pt_15 hp3 k1) (Nat.succ_pos _) ?_
    refine qa_ild2 dX7_reaches_30 ?_
    refine qa_iald dX7_reaches_31 (st_5 k1) (tle_5 k1) h.1 ?_
    have h := h.2
    refine qa_icmp_ne (tgt := 39) dX7_reaches_32 (by decide) (fun c4 => ?_) (fun c4 => ?_)
    · have h := h.1 c4
      refine qa_iconst (v := 0) dX7_reaches_39 (by decide) ?_
      exact qa_zret rfl rfl dX7_reaches_40 ⟨rfl, rfl⟩ ⟨rfl, hp3, _, rfl, h⟩
    · have h := h.2 c4
      refine qa_iconst (v := 1) dX7_reaches_35 (by decide) ?_
      refine qa_goto (tgt := 40) dX7_reaches_36 (by decide) ?_
      exact qa_zret rfl rfl dX7_reaches_40 ⟨rfl, rfl⟩ ⟨rfl, hp3, _, rfl, h⟩
def wX7_reachedBits_4 : Nat → Nat → Nat → Int32 → Int32 → qa_M → (Int32 → qa_M → Prop) → Prop
  | 0, _, _, _, _, _, _ => False
  | n + 1, v0, v1, v2, v3, μ0, Q => (((μ0.1 v1 8) ≤ v3 → Q v2 μ0) ∧ (¬ (μ0.1 v1 8) ≤ v3 → wX7_reaches n v0 v1 v3 μ0 (fun r2 μ2 => ((r2 = 0 → wX7_reachedBits_4 n v0 v1 v2 (v3 + (1 : Int32)) μ2 Q) ∧ (¬ r2 = 0 → ∀ x4, x4 = (v2 ||| ((1 : Int32) <<< (v3 &&& 31))) → wX7_reachedBits_4 n v0 v1 x4 (v3 + (1 : Int32)) μ2 Q)))))
def wX7_reachedBits (n : Nat) (v0 : Nat) (v1 : Nat) (μ0 : qa_M) (Q : Int32 → qa_M → Prop) : Prop := wX7_reachedBits_4 n v0 v1 (0 : Int32) (0 : Int32) μ0  Q
theorem tX7_reachedBits_4 (l : Launch)  {Q : Int32 → qa_M → Prop}  : ∀ (n : Nat) (v0 : Nat) (v1 : Nat) (v2 : Int32) (v3 : Int32) (μ0 : qa_M), qa_PP μ0.2.2 → qa_yr v0 → qa_tw v1 → wX7_reachedBits_4 n v0 v1 v2 v3 μ0  Q → qa_G l yX7_reachedBits cX7_reachedBits 4 (some .int) 2 0 0 (qa_pI Q) 0 0 4 [some (.ref v0), some (.ref v1), some (.int v2), some (.int v3)] [] 113 μ0 := by
  intro n
  induction n with
  | zero =>
    intro v0 v1 v2 v3 μ0 hp0 k0 k1 h
    rw [wX7_reachedBits_4] at h
    exact h.elim
  | succ n ih =>
    intro v0 v1 v2 v3 μ0 hp0 k0 k1 h
    rw [wX7_reachedBits_4] at h
    refine qa_ild3 dX7_reachedBits_4 ?_
    refine qa_ald1 dX7_reachedBits_5 ?_
    refine qa_getI dX7_reachedBits_6 lf_X7_146 (Or.inl rfl) (st_0 k1) (tle_0 k1) ?_
    refine qa_icmp_ge (tgt := 33) dX7_reachedBits_9 (by decide) (fun c1 => ?_) (fun c1 => ?_)
    · have h := h.1 c1
      refine qa_ild2 dX7_reachedBits_33 ?_
      exact qa_iret rfl dX7_reachedBits_34 ⟨rfl, rfl⟩ ⟨rfl, hp0, _, rfl, h⟩
    · have h := h.2 c1
      refine qa_ald0 dX7_reachedBits_12 ?_
      refine qa_ald1 dX7_reachedBits_13 ?_
      refine qa_ild3 dX7_reachedBits_14 ?_
      refine qa_V2I dX7_reachedBits_15 lm_X7_149 (sy_0 k0) rfl (yle_0 k0) (by decide) (Nat.le_of_ble_eq_true rfl) (tX7_reaches l hp0 k0 k1 h) (fun r2 μ2 hp2 h => ?_)
      refine qa_if_eq (tgt := 27) dX7_reachedBits_18 (by decide) (fun c3 => ?_) (fun c3 => ?_)
      · have h := h.1 c3
        refine qa_inc3 dX7_reachedBits_27 (qa_io1 _) ?_
        refine qa_goto (tgt := 4) dX7_reachedBits_30 (by decide) ?_
        refine qa_fgt (L' := [some (.ref v0), some (.ref v1), some (.int v2), some (.int (v3 + (1 : Int32)))]) (⟨rfl, ⟨rfl, ⟨rfl, ⟨rfl, trivial⟩⟩⟩⟩) ?_
        exact ih v0 v1 v2 (v3 + (1 : Int32)) μ2 hp2 k0 k1 h
      · have h := h.2 c3
        refine qa_ild2 dX7_reachedBits_21 ?_
        refine qa_iconst (v := 1) dX7_reachedBits_22 (by decide) ?_
        refine qa_ild3 dX7_reachedBits_23 ?_
        refine qa_ishl dX7_reachedBits_24 ?_
        refine qa_ior dX7_reachedBits_25 ?_
        refine qa_nmI (fun x4 e4 => ?_)
        have h := h x4 e4
        refine qa_ist2 dX7_reachedBits_26 ?_
        refine qa_inc3 dX7_reachedBits_27 (qa_io1 _) ?_
        refine qa_goto (tgt := 4) dX7_reachedBits_30 (by decide) ?_
        refine qa_fgt (L' := [some (.ref v0), some (.ref v1), some (.int x4), some (.int (v3 + (1 : Int32)))]) (⟨rfl, ⟨rfl, ⟨rfl, ⟨rfl, trivial⟩⟩⟩⟩) ?_
        exact ih v0 v1 x4 (v3 + (1 : Int32)) μ2 hp2 k0 k1 h
theorem tX7_reachedBits (l : Launch) {n : Nat} {v0 : Nat} {v1 : Nat} {μ0 : qa_M} {Q : Int32 → qa_M → Prop} (hp0 : qa_PP μ0.2.2) (k0 : qa_yr v0) (k1 : qa_tw v1) (h : wX7_reachedBits n v0 v1 μ0 Q) : qa_Met l yX7_reachedBits cX7_reachedBits 4 (some .int) 2 0 0 [.ref v0, .ref v1] 113 μ0 (qa_pI Q) := by
  refine qa_ofG (by decide) (Nat.le_of_ble_eq_true rfl) ?_
  unfold wX7_reachedBits at h
  change qa_G l yX7_reachedBits cX7_reachedBits 4 (some .int) 2 0 0 (qa_pI Q) 0 0 0 [some (.ref v0), some (.ref v1), none, none] [] 113 μ0
  refine qa_iconst (v := 0) dX7_reachedBits_0 (by decide) ?_
  refine qa_ist2 dX7_reachedBits_1 ?_
  refine qa_iconst (v := 0) dX7_reachedBits_2 (by decide) ?_
  refine qa_ist3 dX7_reachedBits_3 ?_
  refine qa_fgt (L' := [some (.ref v0), some (.ref v1), some (.int (0 : Int32)), some (.int (0 : Int32))]) (⟨rfl, ⟨rfl, ⟨rfl, ⟨rfl, trivial⟩⟩⟩⟩) ?_
  refine tX7_reachedBits_4 l  n v0 v1 (0 : Int32) (0 : Int32) μ0 hp0 k0 k1 h
def wX7_sunTo_6 : Nat → Nat → Nat → Int32 → Int32 → Int32 → Int32 → qa_M → (Int32 → qa_M → Prop) → Prop
  | 0, _, _, _, _, _, _, _, _ => False
  | n + 1, v0, v1, v2, v3, v4, v5, μ0, Q => ((v3 < v5 → Q v4 μ0) ∧ (¬ v3 < v5 → wX7_spot n v0 v2 v5 μ0 (fun r2 μ2 => vp_in r2 8 ∧ ∀ x3, x3 = (v4 + (μ2.1 (v1 + 2) r2.toNatClampNeg)) → wX7_sunTo_6 n v0 v1 v2 v3 x3 (v5 + (1 : Int32)) μ2 Q)))
def wX7_sunTo (n : Nat) (v0 : Nat) (v1 : Nat) (v2 : Int32) (v3 : Int32) (μ0 : qa_M) (Q : Int32 → qa_M → Prop) : Prop := wX7_sunTo_6 n v0 v1 v2 v3 (0 : Int32) (0 : Int32) μ0  Q
theorem tX7_sunTo_6 (l : Launch)  {Q : Int32 → qa_M → Prop}  : ∀ (n : Nat) (v0 : Nat) (v1 : Nat) (v2 : Int32) (v3 : Int32) (v4 : Int32) (v5 : Int32) (μ0 : qa_M), qa_PP μ0.2.2 → qa_yr v0 → qa_tw v1 → wX7_sunTo_6 n v0 v1 v2 v3 v4 v5 μ0  Q → qa_G l yX7_sunTo cX7_sunTo 6 (some .int) 1 0 0 (qa_pI Q) 0 0 6 [some (.ref v0), some (.ref v1), some (.int v2), some (.int v3), some (.int v4), some (.int v5)] [] 113 μ0 := by
  intro n
  induction n with
  | zero =>
    intro v0 v1 v2 v3 v4 v5 μ0 hp0 k0 k1 h
    rw [wX7_sunTo_6] at h
    exact h.elim
  | succ n ih =>
    intro v0 v1 v2 v3 v4 v5 μ0 hp0 k0 k1 h
    rw [wX7_sunTo_6] at h
    refine qa_ild5 dX7_sunTo_6 ?_
    refine qa_ild3 dX7_sunTo_8 ?_
    refine qa_icmp_gt (tgt := 35) dX7_sunTo_9 (by decide) (fun c1 => ?_) (fun c1 => ?_)
    · have h := h.1 c1
      refine qa_ild4 dX7_sunTo_35 ?_
      exact qa_iret rfl dX7_sunTo_37 ⟨rfl, rfl⟩ ⟨rfl, hp0, _, rfl, h⟩
    · have h := h.2 c1
      refine qa_ild4 dX7_sunTo_12 ?_
      refine qa_ald1 dX7_sunTo_14 ?_
      refine qa_getR dX7_sunTo_15 lf_X7_124 rfl (st_0 k1) (tle_0 k1) (pt_12 hp0 k1) (Nat.succ_pos _) ?_
      refine qa_ald0 dX7_sunTo_18 ?_
      refine qa_ild2 dX7_sunTo_19 ?_
      refine qa_ild5 dX7_sunTo_20 ?_
      refine qa_V2I dX7_sunTo_22 lm_X7_24 (sy_0 k0) rfl (yle_0 k0) (by decide) (Nat.le_of_ble_eq_true rfl) (tX7_spot l hp0 k0 h) (fun r2 μ2 hp2 h => ?_)
      refine qa_iald dX7_sunTo_25 (st_2 k1) (tle_2 k1) h.1 ?_
      have h := h.2
      refine qa_iadd dX7_sunTo_26 ?_
      refine qa_nmI (fun x3 e3 => ?_)
      have h := h x3 e3
      refine qa_ist4 dX7_sunTo_27 ?_
      refine qa_inc5 dX7_sunTo_29 (qa_io1 _) ?_
      refine qa_goto (tgt := 6) dX7_sunTo_32 (by decide) ?_
      refine qa_fgt (L' := [some (.ref v0), some (.ref v1), some (.int v2), some (.int v3), some (.int x3), some (.int (v5 + (1 : Int32)))]) (⟨rfl, ⟨rfl, ⟨rfl, ⟨rfl, ⟨rfl, ⟨rfl, trivial⟩⟩⟩⟩⟩⟩) ?_
      exact ih v0 v1 v2 v3 x3 (v5 + (1 : Int32)) μ2 hp2 k0 k1 h
theorem tX7_sunTo (l : Launch) {n : Nat} {v0 : Nat} {v1 : Nat} {v2 : Int32} {v3 : Int32} {μ0 : qa_M} {Q : Int32 → qa_M → Prop} (hp0 : qa_PP μ0.2.2) (k0 : qa_yr v0) (k1 : qa_tw v1) (h : wX7_sunTo n v0 v1 v2 v3 μ0 Q) : qa_Met l yX7_sunTo cX7_sunTo 6 (some .int) 1 0 0 [.ref v0, .ref v1, .int v2, .int v3] 113 μ0 (qa_pI Q) := by
  refine qa_ofG (by decide) (Nat.le_of_ble_eq_true rfl) ?_
  unfold wX7_sunTo at h
  change qa_G l yX7_sunTo cX7_sunTo 6 (some .int) 1 0 0 (qa_pI Q) 0 0 0 [some (.ref v0), some (.ref v1), some (.int v2), some (.int v3), none, none] [] 113 μ0
  refine qa_iconst (v := 0) dX7_sunTo_0 (by decide) ?_
  refine qa_ist4 dX7_sunTo_1 ?_
  refine qa_iconst (v := 0) dX7_sunTo_3 (by decide) ?_
  refine qa_ist5 dX7_sunTo_4 ?_
  refine qa_fgt (L' := [some (.ref v0), some (.ref v1), some (.int v2), some (.int v3), some (.int (0 : Int32)), some (.int (0 : Int32))]) (⟨rfl, ⟨rfl, ⟨rfl, ⟨rfl, ⟨rfl, ⟨rfl, trivial⟩⟩⟩⟩⟩⟩) ?_
  refine tX7_sunTo_6 l  n v0 v1 v2 v3 (0 : Int32) (0 : Int32) μ0 hp0 k0 k1 h
def wX7_spread_25 : Nat → Nat → Nat → Int32 → Int32 → Int32 → qa_M → (Int32 → qa_M → Prop) → Prop
  | 0, _, _, _, _, _, _, _ => False
  | n + 1, v0, v1, v2, v3, v4, μ0, Q => (((μ0.1 v1 5) ≤ v4 → Q (v3 - v2) μ0) ∧ (¬ (μ0.1 v1 5) ≤ v4 → wX7_sunTo n v0 v1 v4 (μ0.1 v1 1) μ0 (fun r4 μ4 => wJ9_min_7cf53 n v2 r4 μ4 (fun r5 μ5 => wJ9_max_7cf53 n v3 r4 μ5 (fun r6 μ6 => wX7_spread_25 n v0 v1 r5 r6 (v4 + (1 : Int32)) μ6 Q)))))
def wX7_spread (n : Nat) (v0 : Nat) (v1 : Nat) (μ0 : qa_M) (Q : Int32 → qa_M → Prop) : Prop := ((¬ (μ0.1 v1 5) = 0 → wX7_sunTo n v0 v1 (0 : Int32) (μ0.1 v1 1) μ0 (fun r2 μ2 => wX7_spread_25 n v0 v1 r2 r2 (1 : Int32) μ2  Q)) ∧ ((μ0.1 v1 5) = 0 → Q (0 : Int32) μ0))
theorem tX7_spread_25 (l : Launch)  {Q : Int32 → qa_M → Prop}  : ∀ (n : Nat) (v0 : Nat) (v1 : Nat) (v2 : Int32) (v3 : Int32) (v4 : Int32) (μ0 : qa_M), qa_PP μ0.2.2 → qa_yr v0 → qa_tw v1 → wX7_spread_25 n v0 v1 v2 v3 v4 μ0  Q → qa_G l yX7_spread cX7_spread 6 (some .int) 2 0 0 (qa_pI Q) 0 0 25 [some (.ref v0), some (.ref v1), some (.int v2), some (.int v3), some (.int v4), none] [] 113 μ0 := by
  intro n
  induction n with
  | zero =>
    intro v0 v1 v2 v3 v4 μ0 hp0 k0 k1 h
    rw [wX7_spread_25] at h
    exact h.elim
  | succ n ih =>
    intro v0 v1 v2 v3 v4 μ0 hp0 k0 k1 h
    rw [wX7_spread_25] at h
    refine qa_ild4 dX7_spread_25 ?_
    refine qa_ald1 dX7_spread_27 ?_
    refine qa_getI dX7_spread_28 lf_X7_28 (Or.inl rfl) (st_0 k1) (tle_0 k1) ?_
    refine qa_icmp_ge (tgt := 67) dX7_spread_31 (by decide) (fun c3 => ?_) (fun c3 => ?_)
    · have h := h.1 c3
      refine qa_ild3 dX7_spread_67 ?_
      refine qa_ild2 dX7_spread_68 ?_
      refine qa_isub dX7_spread_69 ?_
      exact qa_iret rfl dX7_spread_70 ⟨rfl, rfl⟩ ⟨rfl, hp0, _, rfl, h⟩
    · have h := h.2 c3
      refine qa_ald0 dX7_spread_34 ?_
      refine qa_ald1 dX7_spread_35 ?_
      refine qa_ild4 dX7_spread_36 ?_
      refine qa_ald1 dX7_spread_38 ?_
      refine qa_getI dX7_spread_39 lf_X7_127 (Or.inl rfl) (st_0 k1) (tle_0 k1) ?_
      refine qa_V3I dX7_spread_42 lm_X7_130 (sy_0 k0) rfl (yle_0 k0) (by decide) (Nat.le_of_ble_eq_true rfl) (tX7_sunTo l hp0 k0 k1 h) (fun r4 μ4 hp4 h => ?_)
      refine qa_ist5 dX7_spread_45 ?_
      refine qa_ild2 dX7_spread_47 ?_
      refine qa_ild5 dX7_spread_48 ?_
      refine qa_S2I dX7_spread_50 lm_X7_134  (by decide) (Nat.le_of_ble_eq_true rfl) (tJ9_min_7cf53 l hp4  h) (fun r5 μ5 hp5 h => ?_)
      refine qa_ist2 dX7_spread_53 ?_
      refine qa_ild3 dX7_spread_54 ?_
      refine qa_ild5 dX7_spread_55 ?_
      refine qa_S2I dX7_spread_57 lm_X7_109  (by decide) (Nat.le_of_ble_eq_true rfl) (tJ9_max_7cf53 l hp5  h) (fun r6 μ6 hp6 h => ?_)
      refine qa_ist3 dX7_spread_60 ?_
      refine qa_inc4 dX7_spread_61 (qa_io1 _) ?_
      refine qa_goto (tgt := 25) dX7_spread_64 (by decide) ?_
      refine qa_fgt (L' := [some (.ref v0), some (.ref v1), some (.int r5), some (.int r6), some (.int (v4 + (1 : Int32))), none]) (⟨rfl, ⟨rfl, ⟨rfl, ⟨rfl, ⟨rfl, trivial⟩⟩⟩⟩⟩) ?_
      exact ih v0 v1 r5 r6 (v4 + (1 : Int32)) μ6 hp6 k0 k1 h
theorem tX7_spread (l : Launch) {n : Nat} {v0 : Nat} {v1 : Nat} {μ0 : qa_M} {Q : Int32 → qa_M → Prop} (hp0 : qa_PP μ0.2.2) (k0 : qa_yr v0) (k1 : qa_tw v1) (h : wX7_spread n v0 v1 μ0 Q) : qa_Met l yX7_spread cX7_spread 6 (some .int) 2 0 0 [.ref v0, .ref v1] 113 μ0 (qa_pI Q) := by
  refine qa_ofG (by decide) (Nat.le_of_ble_eq_true rfl) ?_
  unfold wX7_spread at h
  change qa_G l yX7_spread cX7_spread 6 (some .int) 2 0 0 (qa_pI Q) 0 0 0 [some (.ref v0), some (.ref v1), none, none, none, none] [] 113 μ0
  refine qa_ald1 dX7_spread_0 ?_
  refine qa_getI dX7_spread_1 lf_X7_28 (Or.inl rfl) (st_0 k1) (tle_0 k1) ?_
  refine qa_if_ne (tgt := 9) dX7_spread_4 (by decide) (fun c1 => ?_) (fun c1 => ?_)
  · have h := h.1 c1
    refine qa_ald0 dX7_spread_9 ?_
    refine qa_ald1 dX7_spread_10 ?_
    refine qa_iconst (v := 0) dX7_spread_11 (by decide) ?_
    refine qa_ald1 dX7_spread_12 ?_
    refine qa_getI dX7_spread_13 lf_X7_127 (Or.inl rfl) (st_0 k1) (tle_0 k1) ?_
    refine qa_V3I dX7_spread_16 lm_X7_130 (sy_0 k0) rfl (yle_0 k0) (by decide) (Nat.le_of_ble_eq_true rfl) (tX7_sunTo l hp0 k0 k1 h) (fun r2 μ2 hp2 h => ?_)
    refine qa_ist2 dX7_spread_19 ?_
    refine qa_ild2 dX7_spread_20 ?_
    refine qa_ist3 dX7_spread_21 ?_
    refine qa_iconst (v := 1) dX7_spread_22 (by decide) ?_
    refine qa_ist4 dX7_spread_23 ?_
    refine qa_fgt (L' := [some (.ref v0), some (.ref v1), some (.int r2), some (.int r2), some (.int (1 : Int32)), none]) (⟨rfl, ⟨rfl, ⟨rfl, ⟨rfl, ⟨rfl, trivial⟩⟩⟩⟩⟩) ?_
    refine tX7_spread_25 l  n v0 v1 r2 r2 (1 : Int32) μ2 hp2 k0 k1 h
  · have h := h.2 c1
    refine qa_iconst (v := 0) dX7_spread_7 (by decide) ?_
    exact qa_iret rfl dX7_spread_8 ⟨rfl, rfl⟩ ⟨rfl, hp0, _, rfl, h⟩
def wX8_renew (n : Nat)  (μ0 : qa_M) (Q : qa_M → Prop) : Prop := wX1_asTold n (μ0.2.2 1 2) μ0 (fun μ1 => wX7_follow n 32 (μ1.2.2 1 2) μ1 (fun μ2 => ∀ μ3, μ3 = qa_uI μ2 1 4 (0 : Int32) → Q μ3))
theorem tX8_renew (l : Launch) {n : Nat}  {μ0 : qa_M} {Q : qa_M → Prop} (hp0 : qa_PP μ0.2.2)  (h : wX8_renew n  μ0 Q) : qa_Met l yX8_renew cX8_renew 1 none 4 0 0 [.ref 1] 113 μ0 (qa_pV Q) := by
  refine qa_ofG (by decide) (Nat.le_of_ble_eq_true rfl) ?_
  unfold wX8_renew at h
  change qa_G l yX8_renew cX8_renew 1 none 4 0 0 (qa_pV Q) 0 0 0 [some (.ref 1)] [] 113 μ0
  refine qa_ald0 dX8_renew_0 ?_
  refine qa_getR dX8_renew_1 lf_X8_40 rfl sh_1 (by decide) (pp_1_8 hp0) (by decide) ?_
  refine qa_ald0 dX8_renew_4 ?_
  refine qa_getR dX8_renew_5 lf_X8_19 rfl sh_1 (by decide) rfl (qa_tw0 hp0.2.1) ?_
  refine qa_V1V dX8_renew_8 lm_X8_261 sh_31 rfl (by decide) (by decide) (Nat.le_of_ble_eq_true rfl) (tX1_asTold l hp0 hp0.2.1 h) (fun μ1 hp1 h => ?_)
  refine qa_ald0 dX8_renew_11 ?_
  refine qa_getR dX8_renew_12 lf_X8_47 rfl sh_1 (by decide) (pp_1_9 hp1) (by decide) ?_
  refine qa_ald0 dX8_renew_15 ?_
  refine qa_getR dX8_renew_16 lf_X8_19 rfl sh_1 (by decide) rfl (qa_tw0 hp1.2.1) ?_
  refine qa_ald0 dX8_renew_19 ?_
  refine qa_getR dX8_renew_20 lf_X8_40 rfl sh_1 (by decide) (pp_1_8 hp1) (by decide) ?_
  refine qa_V2V dX8_renew_23 lm_X8_266 (sy_0 (Or.inl rfl)) rfl (yle_0 (Or.inl rfl)) (by decide) (Nat.le_of_ble_eq_true rfl) (tX7_follow l hp1 (Or.inl rfl) hp1.2.1 h) (fun μ2 hp2 h => ?_)
  refine qa_ald0 dX8_renew_26 ?_
  refine qa_iconst (v := 0) dX8_renew_27 (by decide) ?_
  refine qa_putZ dX8_renew_28 lf_X8_72 rfl (Or.inl rfl) sh_1 (by decide) rfl ?_
  refine qa_nmM (fun μ3 em3 => ?_)
  have h := h μ3 em3
  have hp3 : qa_PP μ3.2.2 := by rw [em3]; exact hp2
  exact qa_vret rfl dX8_renew_31 ⟨rfl, rfl⟩ ⟨rfl, hp3, rfl, h⟩
def wX8_act (n : Nat) (v1 : Int32) (v2 : Int32) (v3 : Int32) (μ0 : qa_M) (Q : Int32 → qa_M → Prop) : Prop := (((μ0.1 ((μ0.2.2 1 2) + 7) 0) < (30 : Int32) → wX0_add n (μ0.2.2 1 2) v1 v2 v3 μ0 (fun μ2 => wX8_renew n  μ2 (fun μ3 => wX7_spot n 32 v1 (μ3.1 (μ3.2.2 1 2) 1) μ3 (fun r4 μ4 => Q r4 μ4)))) ∧ (¬ (μ0.1 ((μ0.2.2 1 2) + 7) 0) < (30 : Int32) → Q (-5 : Int32) μ0))
theorem tX8_act (l : Launch) {n : Nat} {v1 : Int32} {v2 : Int32} {v3 : Int32} {μ0 : qa_M} {Q : Int32 → qa_M → Prop} (hp0 : qa_PP μ0.2.2)  (h : wX8_act n v1 v2 v3 μ0 Q) : qa_Met l yX8_act cX8_act 4 (some .int) 5 0 0 [.ref 1, .int v1, .int v2, .int v3] 113 μ0 (qa_pI Q) := by
  refine qa_ofG (by decide) (Nat.le_of_ble_eq_true rfl) ?_
  unfold wX8_act at h
  change qa_G l yX8_act cX8_act 4 (some .int) 5 0 0 (qa_pI Q) 0 0 0 [some (.ref 1), some (.int v1), some (.int v2), some (.int v3)] [] 113 μ0
  refine qa_ald0 dX8_act_0 ?_
  refine qa_getR dX8_act_1 lf_X8_19 rfl sh_1 (by decide) rfl (qa_tw0 hp0.2.1) ?_
  refine qa_getR dX8_act_4 lf_X8_387 rfl (st_0 hp0.2.1) (tle_0 hp0.2.1) (pt_17 hp0 hp0.2.1) (Nat.succ_pos _) ?_
  refine qa_getI dX8_act_7 lf_X8_391 (Or.inl rfl) (st_7 hp0.2.1) (tle_7 hp0.2.1) ?_
  refine qa_bipush (v := 30) dX8_act_10 (by decide) ?_
  refine qa_icmp_lt (tgt := 18) dX8_act_12 (by decide) (fun c1 => ?_) (fun c1 => ?_)
  · have h := h.1 c1
    refine qa_ald0 dX8_act_18 ?_
    refine qa_getR dX8_act_19 lf_X8_19 rfl sh_1 (by decide) rfl (qa_tw0 hp0.2.1) ?_
    refine qa_getR dX8_act_22 lf_X8_387 rfl (st_0 hp0.2.1) (tle_0 hp0.2.1) (pt_17 hp0 hp0.2.1) (Nat.succ_pos _) ?_
    refine qa_ild1 dX8_act_25 ?_
    refine qa_ild2 dX8_act_26 ?_
    refine qa_ild3 dX8_act_27 ?_
    refine qa_V3V dX8_act_28 lm_X8_394 (st_7 hp0.2.1) rfl (tle_7 hp0.2.1) (by decide) (Nat.le_of_ble_eq_true rfl) (tX0_add l hp0 hp0.2.1 h) (fun μ2 hp2 h => ?_)
    refine qa_ald0 dX8_act_31 ?_
    refine qa_V0V dX8_act_32 lm_X8_94 sh_1 rfl (by decide) (by decide) (Nat.le_of_ble_eq_true rfl) (tX8_renew l hp2  h) (fun μ3 hp3 h => ?_)
    refine qa_ald0 dX8_act_35 ?_
    refine qa_getR dX8_act_36 lf_X8_47 rfl sh_1 (by decide) (pp_1_9 hp3) (by decide) ?_
    refine qa_ild1 dX8_act_39 ?_
    refine qa_ald0 dX8_act_40 ?_
    refine qa_getR dX8_act_41 lf_X8_19 rfl sh_1 (by decide) rfl (qa_tw0 hp3.2.1) ?_
    refine qa_getI dX8_act_44 lf_X8_145 (Or.inl rfl) (st_0 hp3.2.1) (tle_0 hp3.2.1) ?_
    refine qa_V2I dX8_act_47 lm_X8_155 (sy_0 (Or.inl rfl)) rfl (yle_0 (Or.inl rfl)) (by decide) (Nat.le_of_ble_eq_true rfl) (tX7_spot l hp3 (Or.inl rfl) h) (fun r4 μ4 hp4 h => ?_)
    exact qa_iret rfl dX8_act_50 ⟨rfl, rfl⟩ ⟨rfl, hp4, _, rfl, h⟩
  · have h := h.2 c1
    refine qa_bipush (v := -5) dX8_act_15 (by decide) ?_
    exact qa_iret rfl dX8_act_17 ⟨rfl, rfl⟩ ⟨rfl, hp0, _, rfl, h⟩
def wX8_hasTown (n : Nat)  (μ0 : qa_M) (Q : Int32 → qa_M → Prop) : Prop := (((μ0.1 (μ0.2.2 1 2) 0) ≤ 0 → Q (0 : Int32) μ0) ∧ (¬ (μ0.1 (μ0.2.2 1 2) 0) ≤ 0 → Q (1 : Int32) μ0))
theorem tX8_hasTown (l : Launch) {n : Nat}  {μ0 : qa_M} {Q : Int32 → qa_M → Prop} (hp0 : qa_PP μ0.2.2)  (h : wX8_hasTown n  μ0 Q) : qa_Met l yX8_hasTown cX8_hasTown 1 (some .boolean) 0 0 0 [.ref 1] 113 μ0 (qa_pI Q) := by
  refine qa_ofG (by decide) (Nat.le_of_ble_eq_true rfl) ?_
  unfold wX8_hasTown at h
  change qa_G l yX8_hasTown cX8_hasTown 1 (some .boolean) 0 0 0 (qa_pI Q) 0 0 0 [some (.ref 1)] [] 113 μ0
  refine qa_ald0 dX8_hasTown_0 ?_
  refine qa_getR dX8_hasTown_1 lf_X8_19 rfl sh_1 (by decide) rfl (qa_tw0 hp0.2.1) ?_
  refine qa_getI dX8_hasTown_4 lf_X8_97 (Or.inl rfl) (st_0 hp0.2.1) (tle_0 hp0.2.1) ?_
  refine qa_if_le (tgt := 14) dX8_hasTown_7 (by decide) (fun c1 => ?_) (fun c1 => ?_)
  · have h := h.1 c1
    refine qa_iconst (v := 0) dX8_hasTown_14 (by decide) ?_
    exact qa_zret rfl rfl dX8_hasTown_15 ⟨rfl, rfl⟩ ⟨rfl, hp0, _, rfl, h⟩
  · have h := h.2 c1
    refine qa_iconst (v := 1) dX8_hasTown_10 (by decide) ?_
    refine qa_goto (tgt := 15) dX8_hasTown_11 (by decide) ?_
    exact qa_zret rfl rfl dX8_hasTown_15 ⟨rfl, rfl⟩ ⟨rfl, hp0, _, rfl, h⟩
def wX8_isTurningWeek (n : Nat) (v1 : Int32) (μ0 : qa_M) (Q : Int32 → qa_M → Prop) : Prop := wX8_hasTown n  μ0 (fun r1 μ1 => ((r1 = 0 → Q (0 : Int32) μ1) ∧ (¬ r1 = 0 → ((v1 < 0 → Q (0 : Int32) μ1) ∧ (¬ v1 < 0 → (((μ1.1 (μ1.2.2 1 2) 1) ≤ v1 → Q (0 : Int32) μ1) ∧ (¬ (μ1.1 (μ1.2.2 1 2) 1) ≤ v1 → Q (1 : Int32) μ1)))))))
theorem tX8_isTurningWeek (l : Launch) {n : Nat} {v1 : Int32} {μ0 : qa_M} {Q : Int32 → qa_M → Prop} (hp0 : qa_PP μ0.2.2)  (h : wX8_isTurningWeek n v1 μ0 Q) : qa_Met l yX8_isTurningWeek cX8_isTurningWeek 2 (some .boolean) 1 0 0 [.ref 1, .int v1] 113 μ0 (qa_pI Q) := by
  refine qa_ofG (by decide) (Nat.le_of_ble_eq_true rfl) ?_
  unfold wX8_isTurningWeek at h
  change qa_G l yX8_isTurningWeek cX8_isTurningWeek 2 (some .boolean) 1 0 0 (qa_pI Q) 0 0 0 [some (.ref 1), some (.int v1)] [] 113 μ0
  refine qa_ald0 dX8_isTurningWeek_0 ?_
  refine qa_V0I dX8_isTurningWeek_1 lm_X8_138 sh_1 rfl (by decide) (by decide) (Nat.le_of_ble_eq_true rfl) (tX8_hasTown l hp0  h) (fun r1 μ1 hp1 h => ?_)
  refine qa_if_eq (tgt := 26) dX8_isTurningWeek_4 (by decide) (fun c2 => ?_) (fun c2 => ?_)
  · have h := h.1 c2
    refine qa_iconst (v := 0) dX8_isTurningWeek_26 (by decide) ?_
    exact qa_zret rfl rfl dX8_isTurningWeek_27 ⟨rfl, rfl⟩ ⟨rfl, hp1, _, rfl, h⟩
  · have h := h.2 c2
    refine qa_ild1 dX8_isTurningWeek_7 ?_
    refine qa_if_lt (tgt := 26) dX8_isTurningWeek_8 (by decide) (fun c3 => ?_) (fun c3 => ?_)
    · have h := h.1 c3
      refine qa_iconst (v := 0) dX8_isTurningWeek_26 (by decide) ?_
      exact qa_zret rfl rfl dX8_isTurningWeek_27 ⟨rfl, rfl⟩ ⟨rfl, hp1, _, rfl, h⟩
    · have h := h.2 c3
      refine qa_ild1 dX8_isTurningWeek_11 ?_
      refine qa_ald0 dX8_isTurningWeek_12 ?_
      refine qa_getR dX8_isTurningWeek_13 lf_X8_19 rfl sh_1 (by decide) rfl (qa_tw0 hp1.2.1) ?_
      refine qa_getI dX8_isTurningWeek_16 lf_X8_145 (Or.inl rfl) (st_0 hp1.2.1) (tle_0 hp1.2.1) ?_
      refine qa_icmp_ge (tgt := 26) dX8_isTurningWeek_19 (by decide) (fun c4 => ?_) (fun c4 => ?_)
      · have h := h.1 c4
        refine qa_iconst (v := 0) dX8_isTurningWeek_26 (by decide) ?_
        exact qa_zret rfl rfl dX8_isTurningWeek_27 ⟨rfl, rfl⟩ ⟨rfl, hp1, _, rfl, h⟩
      · have h := h.2 c4
        refine qa_iconst (v := 1) dX8_isTurningWeek_22 (by decide) ?_
        refine qa_goto (tgt := 27) dX8_isTurningWeek_23 (by decide) ?_
        exact qa_zret rfl rfl dX8_isTurningWeek_27 ⟨rfl, rfl⟩ ⟨rfl, hp1, _, rfl, h⟩
def wX8_all_15 : Nat → Int32 → Int32 → Int32 → qa_M → (Int32 → qa_M → Prop) → Prop
  | 0, _, _, _, _, _ => False
  | n + 1, v1, v2, v3, μ0, Q => (((μ0.1 (μ0.2.2 1 2) 5) ≤ v3 → Q v2 μ0) ∧ (¬ (μ0.1 (μ0.2.2 1 2) 5) ≤ v3 → wX7_effort n 32 v3 v1 μ0 (fun r4 μ4 => ∀ x5, x5 = (v2 + r4) → wX8_all_15 n v1 x5 (v3 + (1 : Int32)) μ4 Q)))
def wX8_all (n : Nat) (v1 : Int32) (μ0 : qa_M) (Q : Int32 → qa_M → Prop) : Prop := wX8_isTurningWeek n v1 μ0 (fun r1 μ1 => ((¬ r1 = 0 → wX8_all_15 n v1 (0 : Int32) (0 : Int32) μ1  Q) ∧ (r1 = 0 → Q (-2 : Int32) μ1)))
theorem tX8_all_15 (l : Launch)  {Q : Int32 → qa_M → Prop}  : ∀ (n : Nat) (v1 : Int32) (v2 : Int32) (v3 : Int32) (μ0 : qa_M), qa_PP μ0.2.2 → wX8_all_15 n v1 v2 v3 μ0  Q → qa_G l yX8_all cX8_all 4 (some .int) 2 0 0 (qa_pI Q) 0 0 15 [some (.ref 1), some (.int v1), some (.int v2), some (.int v3)] [] 113 μ0 := by
  intro n
  induction n with
  | zero =>
    intro v1 v2 v3 μ0 hp0  h
    rw [wX8_all_15] at h
    exact h.elim
  | succ n ih =>
    intro v1 v2 v3 μ0 hp0  h
    rw [wX8_all_15] at h
    refine qa_ild3 dX8_all_15 ?_
    refine qa_ald0 dX8_all_16 ?_
    refine qa_getR dX8_all_17 lf_X8_19 rfl sh_1 (by decide) rfl (qa_tw0 hp0.2.1) ?_
    refine qa_getI dX8_all_20 lf_X8_158 (Or.inl rfl) (st_0 hp0.2.1) (tle_0 hp0.2.1) ?_
    refine qa_icmp_ge (tgt := 44) dX8_all_23 (by decide) (fun c3 => ?_) (fun c3 => ?_)
    · have h := h.1 c3
      refine qa_ild2 dX8_all_44 ?_
      exact qa_iret rfl dX8_all_45 ⟨rfl, rfl⟩ ⟨rfl, hp0, _, rfl, h⟩
    · have h := h.2 c3
      refine qa_ild2 dX8_all_26 ?_
      refine qa_ald0 dX8_all_27 ?_
      refine qa_getR dX8_all_28 lf_X8_47 rfl sh_1 (by decide) (pp_1_9 hp0) (by decide) ?_
      refine qa_ild3 dX8_all_31 ?_
      refine qa_ild1 dX8_all_32 ?_
      refine qa_V2I dX8_all_33 lm_X8_168 (sy_0 (Or.inl rfl)) rfl (yle_0 (Or.inl rfl)) (by decide) (Nat.le_of_ble_eq_true rfl) (tX7_effort l hp0 (Or.inl rfl) h) (fun r4 μ4 hp4 h => ?_)
      refine qa_iadd dX8_all_36 ?_
      refine qa_nmI (fun x5 e5 => ?_)
      have h := h x5 e5
      refine qa_ist2 dX8_all_37 ?_
      refine qa_inc3 dX8_all_38 (qa_io1 _) ?_
      refine qa_goto (tgt := 15) dX8_all_41 (by decide) ?_
      refine qa_fgt (L' := [some (.ref 1), some (.int v1), some (.int x5), some (.int (v3 + (1 : Int32)))]) (⟨rfl, ⟨rfl, ⟨rfl, ⟨rfl, trivial⟩⟩⟩⟩) ?_
      exact ih v1 x5 (v3 + (1 : Int32)) μ4 hp4  h
theorem tX8_all (l : Launch) {n : Nat} {v1 : Int32} {μ0 : qa_M} {Q : Int32 → qa_M → Prop} (hp0 : qa_PP μ0.2.2)  (h : wX8_all n v1 μ0 Q) : qa_Met l yX8_all cX8_all 4 (some .int) 2 0 0 [.ref 1, .int v1] 113 μ0 (qa_pI Q) := by
  refine qa_ofG (by decide) (Nat.le_of_ble_eq_true rfl) ?_
  unfold wX8_all at h
  change qa_G l yX8_all cX8_all 4 (some .int) 2 0 0 (qa_pI Q) 0 0 0 [some (.ref 1), some (.int v1), none, none] [] 113 μ0
  refine qa_ald0 dX8_all_0 ?_
  refine qa_ild1 dX8_all_1 ?_
  refine qa_V1I dX8_all_2 lm_X8_165 sh_1 rfl (by decide) (by decide) (Nat.le_of_ble_eq_true rfl) (tX8_isTurningWeek l hp0  h) (fun r1 μ1 hp1 h => ?_)
  refine qa_if_ne (tgt := 11) dX8_all_5 (by decide) (fun c2 => ?_) (fun c2 => ?_)
  · have h := h.1 c2
    refine qa_iconst (v := 0) dX8_all_11 (by decide) ?_
    refine qa_ist2 dX8_all_12 ?_
    refine qa_iconst (v := 0) dX8_all_13 (by decide) ?_
    refine qa_ist3 dX8_all_14 ?_
    refine qa_fgt (L' := [some (.ref 1), some (.int v1), some (.int (0 : Int32)), some (.int (0 : Int32))]) (⟨rfl, ⟨rfl, ⟨rfl, ⟨rfl, trivial⟩⟩⟩⟩) ?_
    refine tX8_all_15 l  n v1 (0 : Int32) (0 : Int32) μ1 hp1  h
  · have h := h.2 c2
    refine qa_bipush (v := -2) dX8_all_8 (by decide) ?_
    exact qa_iret rfl dX8_all_10 ⟨rfl, rfl⟩ ⟨rfl, hp1, _, rfl, h⟩
def wX8_anew (n : Nat)  (μ0 : qa_M) (Q : Int32 → qa_M → Prop) : Prop := wX8_hasTown n  μ0 (fun r1 μ1 => ((¬ r1 = 0 → ∀ x3, x3 = (μ1.1 ((μ1.2.2 1 2) + 7) 0) → wX0_keepFirst n (μ1.2.2 1 2) (0 : Int32) μ1 (fun μ4 => wX8_renew n  μ4 (fun μ5 => Q x3 μ5))) ∧ (r1 = 0 → Q (-2 : Int32) μ1)))
theorem tX8_anew (l : Launch) {n : Nat}  {μ0 : qa_M} {Q : Int32 → qa_M → Prop} (hp0 : qa_PP μ0.2.2)  (h : wX8_anew n  μ0 Q) : qa_Met l yX8_anew cX8_anew 2 (some .int) 5 0 0 [.ref 1] 113 μ0 (qa_pI Q) := by
  refine qa_ofG (by decide) (Nat.le_of_ble_eq_true rfl) ?_
  unfold wX8_anew at h
  change qa_G l yX8_anew cX8_anew 2 (some .int) 5 0 0 (qa_pI Q) 0 0 0 [some (.ref 1), none] [] 113 μ0
  refine qa_ald0 dX8_anew_0 ?_
  refine qa_V0I dX8_anew_1 lm_X8_138 sh_1 rfl (by decide) (by decide) (Nat.le_of_ble_eq_true rfl) (tX8_hasTown l hp0  h) (fun r1 μ1 hp1 h => ?_)
  refine qa_if_ne (tgt := 10) dX8_anew_4 (by decide) (fun c2 => ?_) (fun c2 => ?_)
  · have h := h.1 c2
    refine qa_ald0 dX8_anew_10 ?_
    refine qa_getR dX8_anew_11 lf_X8_19 rfl sh_1 (by decide) rfl (qa_tw0 hp1.2.1) ?_
    refine qa_getR dX8_anew_14 lf_X8_387 rfl (st_0 hp1.2.1) (tle_0 hp1.2.1) (pt_17 hp1 hp1.2.1) (Nat.succ_pos _) ?_
    refine qa_getI dX8_anew_17 lf_X8_391 (Or.inl rfl) (st_7 hp1.2.1) (tle_7 hp1.2.1) ?_
    refine qa_nmI (fun x3 e3 => ?_)
    have h := h x3 e3
    refine qa_ist1 dX8_anew_20 ?_
    refine qa_ald0 dX8_anew_21 ?_
    refine qa_getR dX8_anew_22 lf_X8_19 rfl sh_1 (by decide) rfl (qa_tw0 hp1.2.1) ?_
    refine qa_getR dX8_anew_25 lf_X8_387 rfl (st_0 hp1.2.1) (tle_0 hp1.2.1) (pt_17 hp1 hp1.2.1) (Nat.succ_pos _) ?_
    refine qa_iconst (v := 0) dX8_anew_28 (by decide) ?_
    refine qa_V1V dX8_anew_29 lm_X8_397 (st_7 hp1.2.1) rfl (tle_7 hp1.2.1) (by decide) (Nat.le_of_ble_eq_true rfl) (tX0_keepFirst l hp1 hp1.2.1 h) (fun μ4 hp4 h => ?_)
    refine qa_ald0 dX8_anew_32 ?_
    refine qa_V0V dX8_anew_33 lm_X8_94 sh_1 rfl (by decide) (by decide) (Nat.le_of_ble_eq_true rfl) (tX8_renew l hp4  h) (fun μ5 hp5 h => ?_)
    refine qa_ild1 dX8_anew_36 ?_
    exact qa_iret rfl dX8_anew_37 ⟨rfl, rfl⟩ ⟨rfl, hp5, _, rfl, h⟩
  · have h := h.2 c2
    refine qa_bipush (v := -2) dX8_anew_7 (by decide) ?_
    exact qa_iret rfl dX8_anew_9 ⟨rfl, rfl⟩ ⟨rfl, hp1, _, rfl, h⟩
def wX8_isHouse (n : Nat) (v1 : Int32) (μ0 : qa_M) (Q : Int32 → qa_M → Prop) : Prop := ((v1 < 0 → Q (0 : Int32) μ0) ∧ (¬ v1 < 0 → (((μ0.1 (μ0.2.2 1 2) 5) ≤ v1 → Q (0 : Int32) μ0) ∧ (¬ (μ0.1 (μ0.2.2 1 2) 5) ≤ v1 → Q (1 : Int32) μ0))))
theorem tX8_isHouse (l : Launch) {n : Nat} {v1 : Int32} {μ0 : qa_M} {Q : Int32 → qa_M → Prop} (hp0 : qa_PP μ0.2.2)  (h : wX8_isHouse n v1 μ0 Q) : qa_Met l yX8_isHouse cX8_isHouse 2 (some .boolean) 0 0 0 [.ref 1, .int v1] 113 μ0 (qa_pI Q) := by
  refine qa_ofG (by decide) (Nat.le_of_ble_eq_true rfl) ?_
  unfold wX8_isHouse at h
  change qa_G l yX8_isHouse cX8_isHouse 2 (some .boolean) 0 0 0 (qa_pI Q) 0 0 0 [some (.ref 1), some (.int v1)] [] 113 μ0
  refine qa_ild1 dX8_isHouse_0 ?_
  refine qa_if_lt (tgt := 19) dX8_isHouse_1 (by decide) (fun c1 => ?_) (fun c1 => ?_)
  · have h := h.1 c1
    refine qa_iconst (v := 0) dX8_isHouse_19 (by decide) ?_
    exact qa_zret rfl rfl dX8_isHouse_20 ⟨rfl, rfl⟩ ⟨rfl, hp0, _, rfl, h⟩
  · have h := h.2 c1
    refine qa_ild1 dX8_isHouse_4 ?_
    refine qa_ald0 dX8_isHouse_5 ?_
    refine qa_getR dX8_isHouse_6 lf_X8_19 rfl sh_1 (by decide) rfl (qa_tw0 hp0.2.1) ?_
    refine qa_getI dX8_isHouse_9 lf_X8_158 (Or.inl rfl) (st_0 hp0.2.1) (tle_0 hp0.2.1) ?_
    refine qa_icmp_ge (tgt := 19) dX8_isHouse_12 (by decide) (fun c2 => ?_) (fun c2 => ?_)
    · have h := h.1 c2
      refine qa_iconst (v := 0) dX8_isHouse_19 (by decide) ?_
      exact qa_zret rfl rfl dX8_isHouse_20 ⟨rfl, rfl⟩ ⟨rfl, hp0, _, rfl, h⟩
    · have h := h.2 c2
      refine qa_iconst (v := 1) dX8_isHouse_15 (by decide) ?_
      refine qa_goto (tgt := 20) dX8_isHouse_16 (by decide) ?_
      exact qa_zret rfl rfl dX8_isHouse_20 ⟨rfl, rfl⟩ ⟨rfl, hp0, _, rfl, h⟩
def wX8_isWeek (n : Nat) (v1 : Int32) (μ0 : qa_M) (Q : Int32 → qa_M → Prop) : Prop := wX8_hasTown n  μ0 (fun r1 μ1 => ((r1 = 0 → Q (0 : Int32) μ1) ∧ (¬ r1 = 0 → ((v1 < 0 → Q (0 : Int32) μ1) ∧ (¬ v1 < 0 → (((μ1.1 (μ1.2.2 1 2) 1) < v1 → Q (0 : Int32) μ1) ∧ (¬ (μ1.1 (μ1.2.2 1 2) 1) < v1 → Q (1 : Int32) μ1)))))))
theorem tX8_isWeek (l : Launch) {n : Nat} {v1 : Int32} {μ0 : qa_M} {Q : Int32 → qa_M → Prop} (hp0 : qa_PP μ0.2.2)  (h : wX8_isWeek n v1 μ0 Q) : qa_Met l yX8_isWeek cX8_isWeek 2 (some .boolean) 1 0 0 [.ref 1, .int v1] 113 μ0 (qa_pI Q) := by
  refine qa_ofG (by decide) (Nat.le_of_ble_eq_true rfl) ?_
  unfold wX8_isWeek at h
  change qa_G l yX8_isWeek cX8_isWeek 2 (some .boolean) 1 0 0 (qa_pI Q) 0 0 0 [some (.ref 1), some (.int v1)] [] 113 μ0
  refine qa_ald0 dX8_isWeek_0 ?_
  refine qa_V0I dX8_isWeek_1 lm_X8_138 sh_1 rfl (by decide) (by decide) (Nat.le_of_ble_eq_true rfl) (tX8_hasTown l hp0  h) (fun r1 μ1 hp1 h => ?_)
  refine qa_if_eq (tgt := 26) dX8_isWeek_4 (by decide) (fun c2 => ?_) (fun c2 => ?_)
  · have h := h.1 c2
    refine qa_iconst (v := 0) dX8_isWeek_26 (by decide) ?_
    exact qa_zret rfl rfl dX8_isWeek_27 ⟨rfl, rfl⟩ ⟨rfl, hp1, _, rfl, h⟩
  · have h := h.2 c2
    refine qa_ild1 dX8_isWeek_7 ?_
    refine qa_if_lt (tgt := 26) dX8_isWeek_8 (by decide) (fun c3 => ?_) (fun c3 => ?_)
    · have h := h.1 c3
      refine qa_iconst (v := 0) dX8_isWeek_26 (by decide) ?_
      exact qa_zret rfl rfl dX8_isWeek_27 ⟨rfl, rfl⟩ ⟨rfl, hp1, _, rfl, h⟩
    · have h := h.2 c3
      refine qa_ild1 dX8_isWeek_11 ?_
      refine qa_ald0 dX8_isWeek_12 ?_
      refine qa_getR dX8_isWeek_13 lf_X8_19 rfl sh_1 (by decide) rfl (qa_tw0 hp1.2.1) ?_
      refine qa_getI dX8_isWeek_16 lf_X8_145 (Or.inl rfl) (st_0 hp1.2.1) (tle_0 hp1.2.1) ?_
      refine qa_icmp_gt (tgt := 26) dX8_isWeek_19 (by decide) (fun c4 => ?_) (fun c4 => ?_)
      · have h := h.1 c4
        refine qa_iconst (v := 0) dX8_isWeek_26 (by decide) ?_
        exact qa_zret rfl rfl dX8_isWeek_27 ⟨rfl, rfl⟩ ⟨rfl, hp1, _, rfl, h⟩
      · have h := h.2 c4
        refine qa_iconst (v := 1) dX8_isWeek_22 (by decide) ?_
        refine qa_goto (tgt := 27) dX8_isWeek_23 (by decide) ?_
        exact qa_zret rfl rfl dX8_isWeek_27 ⟨rfl, rfl⟩ ⟨rfl, hp1, _, rfl, h⟩
