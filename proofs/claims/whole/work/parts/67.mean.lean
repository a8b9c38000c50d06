theorem uJs (μ : qa_M) (a k : Nat) (v : Int64) : (qa_uJ μ a k v).2.1 a k = v := if_pos ⟨rfl, rfl⟩
theorem uJn (μ : qa_M) {a k : Nat} (v : Int64) {b j : Nat} (h : ¬ (b = a ∧ j = k)) : (qa_uJ μ a k v).2.1 b j = μ.2.1 b j := if_neg h
theorem c3n : (3 : Int32).toNatClampNeg = 3 := rfl
theorem sh2 : ∀ j, j < 8 → (2 : Int32) <<< (nI j &&& 31) = nI (2 ^ (j + 1)) := by decide
theorem nI_o1 {k : Nat} (h : k < 2 ^ 31) : (nI k = 1) = (k = 1) := by rw [l1]; exact neq _ _ h (by decide)
theorem ml_weight {n h U k d : Nat} {q x : Int32} {μ : qa_M} {K0 : Int32 → Int32 → Int32 → Int32 → Int32 → Int64 → qa_M → Prop} {Q : qa_M → Prop} (h3 : μ.1 92 3 = nI d) (hd : d ≤ 10) (hU : U < 8) (hk : k < 2 ^ (U + 1)) (hn : 20 < n) : wX9_laySnows_50 n (nI h) q (nI U) x (nI k) 1 0 μ K0 Q ↔ K0 (nI h) q (nI U) x (nI k) (lN (vW d (U + 1) k)) μ := by
  have b1 := pw1 (show U + 1 ≤ 8 by omega)
  unfold vW
  refine for_iff 0 (fun n i (s : Nat) => wX9_laySnows_50 n (nI h) q (nI U) x (nI k) (lN s) i μ K0 Q) (fun s => K0 (nI h) q (nI U) x (nI k) (lN s) μ) (U + 1) (fun j (s : Nat) => s * (if k / 2 ^ j % 2 = 1 then d else 10 - d)) (fun _ _ => True) ?_ ?_ (fun _ _ _ _ => trivial) (U + 1) 0 1 n (by omega) (by omega) trivial
  · intro n s _ _
    show wX9_laySnows_50 (n + 1) _ _ _ _ _ _ _ _ _ _ ↔ _
    simp (disch := omega) only [wX9_laySnows_50, nlt, not_true_eq_false, not_false_eq_true, false_implies, true_implies, and_true, true_and, and_self, nmM, if_true, if_false, or0, Int32.add_zero, forall_const, one_ne, zero_ne1, nz1, nz0, nI_z, cl, inN, Nat.le_refl, Nat.lt_irrefl, Nat.lt_succ_self, Bool.false_eq_true]
  · intro n i s _ hi _
    show wX9_laySnows_50 (n + 1) _ _ _ _ _ _ _ _ _ _ ↔ _
    have hi' : ¬ U < i := by omega
    have eb : (nI k >>> (nI i &&& 31)) &&& 1 = nI (k / 2 ^ i % 2) := bt_nat (by omega) (by omega)
    have e1 : (10 : Int32) - nI d = nI (10 - d) := by rw [l10, pk_sub hd]
    have e2 : (nI (k / 2 ^ i % 2) = 1) = (k / 2 ^ i % 2 = 1) := nI_o1 (by omega)
    simp (disch := omega) only [wX9_laySnows_50, wX9_laySnows_89, nlt, hi', s_mbit, eb, e2, c3n, h3, e1, nI_l, lN_mul, nI1, not_true_eq_false, not_false_eq_true, false_implies, true_implies, and_true, true_and, and_self, nmM, if_true, if_false, or0, Int32.add_zero, forall_const, one_ne, zero_ne1, nz1, nz0, nI_z, cl, inN, Nat.le_refl, Nat.lt_irrefl, Nat.lt_succ_self, Bool.false_eq_true]
    by_cases c : k / 2 ^ i % 2 = 1 <;> simp only [c, not_true_eq_false, not_false_eq_true, false_implies, true_implies, and_true, true_and, and_self, nmM, if_true, if_false, or0, Int32.add_zero, forall_const, one_ne, zero_ne1, nz1, nz0, nI_z, cl, inN, Nat.le_refl, Nat.lt_irrefl, Nat.lt_succ_self, Bool.false_eq_true]
theorem and3 (a b c : Bool) : ((a && b) && c) = ((a && c) && (b && c)) := by cases a <;> cases b <;> cases c <;> rfl
theorem bt_and (a b : Int32) (k : Nat) : bt (a &&& b) k = bt a k &&& bt b k := by
  unfold bt
  apply Int32.toBitVec_inj.mp
  simp only [Int32.toBitVec_and, Int32.toBitVec_shiftRight, BitVec.sshiftRight_and_distrib, BitVec.sshiftRight_eq']
  generalize BitVec.sshiftRight a.toBitVec _ = x
  generalize BitVec.sshiftRight b.toBitVec _ = y
  ext i
  simp only [BitVec.getElem_and]
  exact and3 _ _ _
theorem bt_mask : ∀ U, U < 8 → ∀ j, j ≤ U → bt ((nI (2 ^ (U + 1)) - 1) ^^^ (-1)) j = 0 := by decide
theorem bt_behind {U : Nat} (hU : U < 8) (sn : Int32) (k j : Nat) (hj : j ≤ U) : bt ((sn &&& ((nI (2 ^ (U + 1)) - 1) ^^^ (-1))) ||| nI k) j = bt (nI k) j := by
  rw [bt_or, bt_and, bt_mask U hU j hj]
  rcases bt01 sn j with e | e <;> rcases bt01 (nI k) j with f | f <;> rw [e, f] <;> decide
theorem ms_snows {n h U : Nat} {q bh sn : Int32} {w : Nat → Int32} {μ0 μ : qa_M} {Q : qa_M → Prop} (r : RZ w) (hw : μ0.1 92 = w) (s0 : sc μ0 μ) (hh : h < zH w) (hU : U + 1 ≤ zW w) (hU8 : U < 8) (hbh : bh = sn &&& ((nI (2 ^ (U + 1)) - 1) ^^^ (-1))) (M0 : ∃ y, MS μ w (oN w y)) (j0 : μ.2.1 91 38 = 0 ∧ μ.2.1 91 39 = 0 ∧ μ.2.1 91 40 = 0) (hn : 500 < n) (k : ∀ μ', sc μ0 μ' → μ'.2.1 91 38 = lN (10 ^ (U + 1)) → μ'.2.1 91 39 = lN (itr (chF w h (U + 1) q) 0 (2 ^ (U + 1)) 0) → μ'.2.1 91 40 = lN (itr (mnF w h (U + 1)) 0 (2 ^ (U + 1)) 0) → Q μ') : wX9_laySnows_36 n (nI h) q (nI U) bh 0 μ Q := by
  have H8 := r.2.1.2.2.2.1
  have W20 := r.2.1.2.1
  have b1 := pw1 (show U + 1 ≤ 8 by omega)
  obtain ⟨o1, o2⟩ := r.odds
  have vs : SU w (U + 1) (2 ^ (U + 1)) = 10 ^ (U + 1) := vW_sum (zO w) o1 (U + 1) (by omega)
  rw [← vs] at k
  have sh := sh2 U hU8
  obtain ⟨B, hB⟩ : ∃ B, B = 2 ^ (U + 1) := ⟨_, rfl⟩
  rw [← hB] at b1 k sh
  refine inv_loopF 100 (fun n i (σ : qa_M) => wX9_laySnows_36 n (nI h) q (nI U) bh i σ Q) B (fun i σ => sc μ0 σ ∧ (∃ y, MS σ w (oN w y)) ∧ σ.2.1 91 38 = lN (SU w (U + 1) i) ∧ σ.2.1 91 39 = lN (itr (chF w h (U + 1) q) 0 i 0) ∧ σ.2.1 91 40 = lN (itr (mnF w h (U + 1)) 0 i 0)) ?_ ?_ B 0 μ n (by omega) (by omega) ⟨s0, M0, j0⟩
  · intro n μ1 hm ⟨s1, M1, j1, j2, j3⟩
    simp (disch := omega) only [wX9_laySnows_36, sh, nle, not_true_eq_false, not_false_eq_true, false_implies, true_implies, and_true, true_and, and_self, nmM, if_true, if_false, or0, Int32.add_zero, forall_const, one_ne, zero_ne1, nz1, nz0, nI_z, cl, inN, Nat.le_refl, Nat.lt_irrefl, Nat.lt_succ_self, Bool.false_eq_true]
    exact k μ1 s1 j1 j2 j3
  · intro n i μ1 hm hi ⟨s1, ⟨y, M1⟩, j1, j2, j3⟩ ih
    have hi' : ¬ B ≤ i := by omega
    have h3 : μ1.1 92 3 = nI (zO w) := by rw [s1.w.trans hw]; exact o2
    have vl := vW_le (zO w) o1 (U + 1) (by omega) i (by omega)
    have vz : (lN (vW (zO w) (U + 1) i) = 0) = (vW (zO w) (U + 1) i = 0) := propext (by rw [show (0 : Int64) = lN 0 from rfl]; exact pk_lEQ (by omega) (by decide))
    have t1 : SU w (U + 1) (i + 1) = SU w (U + 1) i + vW (zO w) (U + 1) i := by unfold SU; rw [itr_succ, Nat.zero_add]
    have t2 : itr (chF w h (U + 1) q) 0 (i + 1) 0 = chF w h (U + 1) q i (itr (chF w h (U + 1) q) 0 i 0) := by rw [itr_succ, Nat.zero_add]
    have t3 : itr (mnF w h (U + 1)) 0 (i + 1) 0 = mnF w h (U + 1) i (itr (mnF w h (U + 1)) 0 i 0) := by rw [itr_succ, Nat.zero_add]
    simp (disch := omega) only [wX9_laySnows_36, sh, nle, hi', ml_weight h3 o1 hU8 (show i < 2 ^ (U + 1) by omega), lg_cmp_eq, vz, nI1, not_true_eq_false, not_false_eq_true, false_implies, true_implies, and_true, true_and, and_self, nmM, if_true, if_false, or0, Int32.add_zero, forall_const, one_ne, zero_ne1, nz1, nz0, nI_z, cl, inN, Nat.le_refl, Nat.lt_irrefl, Nat.lt_succ_self, Bool.false_eq_true]
    refine ⟨fun c => ?_, fun c => ?_⟩
    · refine m_try (o := oN w (bh ||| nI i)) r hw (s1.put91 19 _ (by omega)) (M1.snow _) (fun hW => (r.law hW).1) (by omega) (fun μ2 s2 h2 M2 o2 E2 => ?_)
      have i1 : μ2.2.1 91 38 = lN (SU w (U + 1) i) := by rw [o2.1]; exact j1
      have i2 : μ2.2.1 91 39 = lN (itr (chF w h (U + 1) q) 0 i 0) := by rw [o2.1]; exact j2
      have i3 : μ2.2.1 91 40 = lN (itr (mnF w h (U + 1)) 0 i 0) := by rw [o2.1]; exact j3
      have agree : ∀ j, j < U + 1 → bt (bh ||| nI i) j = bt (nI i) j := fun j hj => by rw [hbh]; exact bt_behind hU8 sn i j (by omega)
      obtain ⟨q1, q2⟩ := sunN_eq r h (U + 1) i (by omega)
      have p1 := E2.2.2.2.2.2.1 (U + 1) hU h hh
      rw [yp_snow agree (U + 1) (Nat.le_refl _)] at p1
      rw [s_placeOf (by omega)]
      show (¬ μ2.1 101 ((U + 1) * 8 + h) = q → _) ∧ (μ2.1 101 ((U + 1) * 8 + h) = q → _)
      rw [p1]
      have fin : ∀ (A : Int64) (Z : Nat), A = lN Z → itr (chF w h (U + 1) q) 0 (i + 1) 0 = Z → wX9_laySnows_36 n (nI h) q (nI U) bh (nI (i + 1)) (qa_uJ (qa_uJ (qa_uJ μ2 91 38 (μ2.2.1 91 38 + lN (vW (zO w) (U + 1) i))) 91 39 A) 91 40 ((qa_uJ (qa_uJ μ2 91 38 (μ2.2.1 91 38 + lN (vW (zO w) (U + 1) i))) 91 39 A).2.1 91 40 + lN (vW (zO w) (U + 1) i) * (nI (sunN w h (U + 1) i)).toInt64)) Q := by
        intro A Z hA hZ
        refine ih _ ⟨((s2.putJ 38 _ (Or.inl rfl)).putJ 39 _ (Or.inl rfl)).putJ 40 _ (Or.inl rfl), ⟨_, M2⟩, ?_, ?_, ?_⟩
        · rw [uJn _ _ (by omega), uJn _ _ (by omega), uJs, i1, lN_add, t1]
        · rw [uJn _ _ (by omega), uJs, hA, hZ]
        · rw [uJs, uJn _ _ (by omega), uJn _ _ (by omega), i3, nI_l (by omega), lN_mul, lN_add, t3]
          rfl
      have su : ∀ (A B : Int64) (Q : Int32 → qa_M → Prop), wX9_sunTo n (nI h) (nI (U + 1)) (qa_uJ (qa_uJ μ2 91 38 A) 91 39 B) Q ↔ Q (nI (sunN w h (U + 1) i)) (qa_uJ (qa_uJ μ2 91 38 A) 91 39 B) := by
        intro A B Q
        rw [m_sunTo (μ := qa_uJ (qa_uJ μ2 91 38 A) 91 39 B) E2 hh hU (by omega), aSun_snow agree, q2]
      have j39 : (qa_uJ μ2 91 38 (μ2.2.1 91 38 + lN (vW (zO w) (U + 1) i))).2.1 91 39 = lN (itr (chF w h (U + 1) q) 0 i 0) := by rw [uJn _ _ (by omega)]; exact i2
      refine ⟨fun e => ?_, fun e => ?_⟩
      · unfold wX9_laySnows_155
        simp only [nmM, nI1, su]
        refine fin _ (itr (chF w h (U + 1) q) 0 i 0) (by rw [j39]; simp) ?_
        rw [t2]; unfold chF; rw [if_neg e]
      · unfold wX9_laySnows_155
        simp only [nmM, nI1, su]
        refine fin _ (itr (chF w h (U + 1) q) 0 i 0 + vW (zO w) (U + 1) i) (by rw [j39, lN_add]) ?_
        rw [t2]; unfold chF; rw [if_pos e]
    · refine ih μ1 ⟨s1, ⟨y, M1⟩, by rw [t1, c]; exact j1, ?_, ?_⟩
      · rw [t2, j2]
        unfold chF
        rw [c]
        split <;> rfl
      · rw [t3, j3]
        show _ = lN (itr (mnF w h (U + 1)) 0 i 0 + vW (zO w) (U + 1) i * sunN w h (U + 1) i)
        rw [c, Nat.zero_mul]
        rfl
theorem m_snows {n h U : Nat} {q : Int32} {w : Nat → Int32} {μ : qa_M} {Q : qa_M → Prop} (r : RZ w) (hw : μ.1 92 = w) (hh : h < zH w) (hU : U + 1 ≤ zW w) (hU8 : U < 8) (hn : 600 < n) (k : ∀ μ', sc μ μ' → μ'.2.1 91 38 = lN (10 ^ (U + 1)) → μ'.2.1 91 39 = lN (itr (chF w h (U + 1) q) 0 (2 ^ (U + 1)) 0) → μ'.2.1 91 40 = lN (itr (mnF w h (U + 1)) 0 (2 ^ (U + 1)) 0) → Q μ') : wX9_laySnows n (nI h) q (nI U) μ Q := by
  unfold wX9_laySnows
  simp only [nmM]
  have s0 : sc μ (qa_uJ (qa_uJ (qa_uJ μ 91 38 0) 91 39 0) 91 40 0) := (((sc.rf μ).putJ 38 _ (Or.inl rfl)).putJ 39 _ (Or.inl rfl)).putJ 40 _ (Or.inl rfl)
  refine m_lay (μ := qa_uJ (qa_uJ (qa_uJ μ 91 38 0) 91 39 0) 91 40 0) hw r (by omega) (fun μ1 a1 a2 a3 M1 => ?_)
  rw [sh2 U hU8]
  refine ms_snows r hw (s0.lay a1 a2 a3) hh hU hU8 rfl ⟨_, M1⟩ ?_ (by omega) k
  rw [a1]
  exact ⟨by rw [uJn _ _ (by omega), uJn _ _ (by omega), uJs], by rw [uJn _ _ (by omega), uJs], by rw [uJs]⟩
section CW
variable {n b : Nat} {v u : Int32} {w : Nat → Int32} {μ : qa_M} {Q : Int32 → qa_M → Prop}
theorem xC1 (T : TZ μ (μ.2.2 1 2) w) (r : RZ w) (h : 0 < zN w) (hb : b < zW w) (hb7 : b ≤ 7) : wX8_isChanceWeek n (nI b) μ Q ↔ Q 1 μ := by
  have := r.2.1.1
  have := r.2.1.2.1
  rw [s_isChanceWeek, T.1.1, T.1.2.1, nI_toInt (by omega), nI_toInt (by omega), nI_toInt (by omega), qb_p (by omega)]
theorem xC0 (T : TZ μ (μ.2.2 1 2) w) (r : RZ w) (h : ¬ ((0 < zN w ∧ 0 ≤ v.toInt ∧ v.toInt < (zW w : Int)) ∧ v.toInt ≤ 7)) : wX8_isChanceWeek n v μ Q ↔ Q 0 μ := by
  have := r.2.1.1
  have := r.2.1.2.1
  rw [s_isChanceWeek, T.1.1, T.1.2.1, nI_toInt (by omega), nI_toInt (by omega), qb_n (by omega)]
theorem s_snows7 : wX9_in n v.toInt64 0 7 μ Q ↔ Q (qb (0 ≤ v.toInt ∧ v.toInt ≤ 7)) μ := by
  rw [s_in, Int32.toInt_toInt64]
  exact Iff.rfl
theorem mC1 (hw : μ.1 92 = w) (r : RZ w) (h : 0 < zN w) (hb : b < zW w) (hb7 : b ≤ 7) (hu : u = 0 ∨ u = 1) : wX9_isSnows n (nI b) u μ Q ↔ Q 1 μ := by
  have q : 0 ≤ (nI b).toInt ∧ (nI b).toInt ≤ 7 := by rw [nI_toInt (by omega)]; omega
  unfold wX9_isSnows
  simp (disch := omega) only [mA1 hw r h hb, s_snows7, qb_p q, mQ1 hu, not_true_eq_false, not_false_eq_true, false_implies, true_implies, and_true, true_and, and_self, nmM, if_true, if_false, or0, Int32.add_zero, forall_const, one_ne, zero_ne1, nz1, nz0, nI_z, cl, inN, Nat.le_refl, Nat.lt_irrefl, Nat.lt_succ_self, Bool.false_eq_true]
theorem mC0 (hw : μ.1 92 = w) (r : RZ w) (h : ¬ (((0 < zN w ∧ 0 ≤ v.toInt ∧ v.toInt < (zW w : Int)) ∧ v.toInt ≤ 7) ∧ (u = 0 ∨ u = 1))) : wX9_isSnows n v u μ Q ↔ Q 0 μ := by
  have W20 := r.2.1.2.1
  unfold wX9_isSnows
  by_cases c1 : 0 < zN w ∧ 0 ≤ v.toInt ∧ v.toInt < (zW w : Int)
  · obtain ⟨b, hb, rfl⟩ := gN c1.2 (by omega)
    by_cases c2 : 0 ≤ (nI b).toInt ∧ (nI b).toInt ≤ 7
    · have c3 : ¬ (u = 0 ∨ u = 1) := fun z => h ⟨⟨c1, c2.2⟩, z⟩
      simp (disch := omega) only [mA1 hw r c1.1 hb, s_snows7, qb_p c2, mQ0 c3, not_true_eq_false, not_false_eq_true, false_implies, true_implies, and_true, true_and, and_self, nmM, if_true, if_false, or0, Int32.add_zero, forall_const, one_ne, zero_ne1, nz1, nz0, nI_z, cl, inN, Nat.le_refl, Nat.lt_irrefl, Nat.lt_succ_self, Bool.false_eq_true]
    · simp (disch := omega) only [mA1 hw r c1.1 hb, s_snows7, qb_n c2, not_true_eq_false, not_false_eq_true, false_implies, true_implies, and_true, true_and, and_self, nmM, if_true, if_false, or0, Int32.add_zero, forall_const, one_ne, zero_ne1, nz1, nz0, nI_z, cl, inN, Nat.le_refl, Nat.lt_irrefl, Nat.lt_succ_self, Bool.false_eq_true]
  · simp (disch := omega) only [mA0 hw r c1, not_true_eq_false, not_false_eq_true, false_implies, true_implies, and_true, true_and, and_self, nmM, if_true, if_false, or0, Int32.add_zero, forall_const, one_ne, zero_ne1, nz1, nz0, nI_z, cl, inN, Nat.le_refl, Nat.lt_irrefl, Nat.lt_succ_self, Bool.false_eq_true]
end CW
theorem p10_8 : ∀ e, e ≤ 8 → 1 ≤ 10 ^ e ∧ 10 ^ e ≤ 100000000 := by decide
theorem lN_min {A : Nat} (h : A < 2 ^ 63) : -9223372036854775808 < (lN A).toInt := by rw [pk_lT h]; omega
theorem c_65 {Ln n : Nat} {xs : Nat → Int32} {K : Int32 → qa_M → Prop} {i : Int32} {μ : qa_M} (I : INV μ) (hn : 2000 ≤ n) (k : ∀ μ', INV μ' → K (i + 6) μ') (v1 : vp_in (i + 1) Ln) (v2 : vp_in (i + 2) Ln) (v3 : vp_in (i + 3) Ln) (v4 : vp_in (i + 4) Ln) (v5 : vp_in (i + 5) Ln) : wLc_65 Ln xs n K i μ := by
  unfold wLc_65
  simp only [v1, v2, v3, v4, v5, true_and]
  generalize xs (i + 1).toNatClampNeg = a
  generalize xs (i + 2).toNatClampNeg = b
  generalize xs (i + 3).toNatClampNeg = c
  generalize xs (i + 4).toNatClampNeg = d
  obtain ⟨w, hw⟩ : ∃ w, μ.1 92 = w := ⟨_, rfl⟩
  obtain ⟨r, T, E, G⟩ := I.facts hw
  obtain ⟨r1, r2, r3, r4⟩ := r.n0
  have L8 := G.1
  have N1 := r.2.1.1
  obtain ⟨W20, H8, hW, hH, plt, hpl, hpp, hfo, htu, hsu, hsm⟩ := id E
  by_cases ga : 0 ≤ a.toInt ∧ a.toInt < (zH w : Int)
  · obtain ⟨a, ha, rfl⟩ := gN ga (by omega)
    by_cases gb : 0 ≤ b.toInt ∧ b.toInt < (zH w : Int)
    · obtain ⟨b, hb, rfl⟩ := gN gb (by omega)
      by_cases g : ((0 < zN w ∧ 0 ≤ c.toInt ∧ c.toInt < (zW w : Int)) ∧ c.toInt ≤ 7) ∧ (d = 0 ∨ d = 1)
      · obtain ⟨⟨⟨gT, gc⟩, gc7⟩, gd⟩ := g
        obtain ⟨c, hc, rfl⟩ := gN gc (by omega)
        rw [nI_toInt (by omega)] at gc7
        have t1 := p10_8 (c + 1) (by omega)
        have vs : SU w (c + 1) (2 ^ (c + 1)) = 10 ^ (c + 1) := vW_sum (zO w) r.odds.1 (c + 1) (by omega)
        have le := chA_le (w := w) (h := a) (U := c + 1) (q := nI b) (2 ^ (c + 1))
        rw [vs] at le
        have lm := lN_min (A := itr (chF w a (c + 1) (nI b)) 0 (2 ^ (c + 1)) 0) (by omega)
        simp (disch := omega) only [wX8_chance, xH1 T r, xP1 T r, xC1 T r gT hc, xQ1 gd, not_true_eq_false, not_false_eq_true, false_implies, true_implies, and_true, true_and, and_self, nmM, if_true, if_false, or0, Int32.add_zero, forall_const, one_ne, zero_ne1, nz1, nz0, nI_z, cl, inN, Nat.le_refl, Nat.lt_irrefl, Nat.lt_succ_self, Bool.false_eq_true]
        refine xs_chance I hw ha hc (by omega) (by omega) (fun μ1 s1 => ?_)
        have hw1 := s1.w.trans hw
        simp (disch := omega) only [nI1, l10, x_power, x_frac lm t1.1, not_true_eq_false, not_false_eq_true, false_implies, true_implies, and_true, true_and, and_self, nmM, if_true, if_false, or0, Int32.add_zero, forall_const, one_ne, zero_ne1, nz1, nz0, nI_z, cl, inN, Nat.le_refl, Nat.lt_irrefl, Nat.lt_succ_self, Bool.false_eq_true]
        simp (disch := omega) only [wX9_chance, mH1 hw1 r, mP1 hw1 r, mC1 hw1 r gT hc _ gd, not_true_eq_false, not_false_eq_true, false_implies, true_implies, and_true, true_and, and_self, nmM, if_true, if_false, or0, Int32.add_zero, forall_const, one_ne, zero_ne1, nz1, nz0, nI_z, cl, inN, Nat.le_refl, Nat.lt_irrefl, Nat.lt_succ_self, Bool.false_eq_true]
        refine m_snows r hw1 ha hc (by omega) (by omega) (fun μ2 s2 j1 j2 j3 => ?_)
        simp (disch := omega) only [j1, j2, m_part lm t1.1, lg_cmp_eq, not_true_eq_false, not_false_eq_true, false_implies, true_implies, and_true, true_and, and_self, nmM, if_true, if_false, or0, Int32.add_zero, forall_const, one_ne, zero_ne1, nz1, nz0, nI_z, cl, inN, Nat.le_refl, Nat.lt_irrefl, Nat.lt_succ_self, Bool.false_eq_true]
        exact k μ2 ((I.sc s1).sc s2)
      · have fin : wX9_chance n (nI a) (nI b) c d μ (fun r2 μ2 => (lg_cmp (-2 : Int64) r2 = 0 → K (i + 6) μ2) ∧ (¬ lg_cmp (-2 : Int64) r2 = 0 → False)) := by
          simp (disch := omega) only [wX9_chance, mH1 hw r, mP1 hw r, mC0 hw r g, lg_cmp_eq, not_true_eq_false, not_false_eq_true, false_implies, true_implies, and_true, true_and, and_self, nmM, if_true, if_false, or0, Int32.add_zero, forall_const, one_ne, zero_ne1, nz1, nz0, nI_z, cl, inN, Nat.le_refl, Nat.lt_irrefl, Nat.lt_succ_self, Bool.false_eq_true]
          exact k μ I
        by_cases g1 : (0 < zN w ∧ 0 ≤ c.toInt ∧ c.toInt < (zW w : Int)) ∧ c.toInt ≤ 7
        · have gd : ¬ (d = 0 ∨ d = 1) := fun z => g ⟨g1, z⟩
          obtain ⟨⟨gT, gc⟩, gc7⟩ := g1
          obtain ⟨c, hc, rfl⟩ := gN gc (by omega)
          rw [nI_toInt (by omega)] at gc7
          simp (disch := omega) only [wX8_chance, xH1 T r, xP1 T r, xC1 T r gT hc, xQ0 gd, not_true_eq_false, not_false_eq_true, false_implies, true_implies, and_true, true_and, and_self, nmM, if_true, if_false, or0, Int32.add_zero, forall_const, one_ne, zero_ne1, nz1, nz0, nI_z, cl, inN, Nat.le_refl, Nat.lt_irrefl, Nat.lt_succ_self, Bool.false_eq_true]
          exact fin
        · simp (disch := omega) only [wX8_chance, xH1 T r, xP1 T r, xC0 T r g1, not_true_eq_false, not_false_eq_true, false_implies, true_implies, and_true, true_and, and_self, nmM, if_true, if_false, or0, Int32.add_zero, forall_const, one_ne, zero_ne1, nz1, nz0, nI_z, cl, inN, Nat.le_refl, Nat.lt_irrefl, Nat.lt_succ_self, Bool.false_eq_true]
          exact fin
    · simp (disch := omega) only [wX8_chance, xH1 T r, xP0 T r gb, not_true_eq_false, not_false_eq_true, false_implies, true_implies, and_true, true_and, and_self, nmM, if_true, if_false, or0, Int32.add_zero, forall_const, one_ne, zero_ne1, nz1, nz0, nI_z, cl, inN, Nat.le_refl, Nat.lt_irrefl, Nat.lt_succ_self, Bool.false_eq_true]
      simp (disch := omega) only [wX9_chance, mH1 hw r, mP0 hw r gb, lg_cmp_eq, not_true_eq_false, not_false_eq_true, false_implies, true_implies, and_true, true_and, and_self, nmM, if_true, if_false, or0, Int32.add_zero, forall_const, one_ne, zero_ne1, nz1, nz0, nI_z, cl, inN, Nat.le_refl, Nat.lt_irrefl, Nat.lt_succ_self, Bool.false_eq_true]
      exact k μ I
  · simp (disch := omega) only [wX8_chance, xH0 T r ga, not_true_eq_false, not_false_eq_true, false_implies, true_implies, and_true, true_and, and_self, nmM, if_true, if_false, or0, Int32.add_zero, forall_const, one_ne, zero_ne1, nz1, nz0, nI_z, cl, inN, Nat.le_refl, Nat.lt_irrefl, Nat.lt_succ_self, Bool.false_eq_true]
    simp (disch := omega) only [wX9_chance, mH0 hw r ga, lg_cmp_eq, not_true_eq_false, not_false_eq_true, false_implies, true_implies, and_true, true_and, and_self, nmM, if_true, if_false, or0, Int32.add_zero, forall_const, one_ne, zero_ne1, nz1, nz0, nI_z, cl, inN, Nat.le_refl, Nat.lt_irrefl, Nat.lt_succ_self, Bool.false_eq_true]
    exact k μ I
theorem c_66 {Ln n : Nat} {xs : Nat → Int32} {K : Int32 → qa_M → Prop} {i : Int32} {μ : qa_M} (I : INV μ) (hn : 2000 ≤ n) (k : ∀ μ', INV μ' → K (i + 6) μ') (v1 : vp_in (i + 1) Ln) (v2 : vp_in (i + 2) Ln) (v3 : vp_in (i + 3) Ln) (v4 : vp_in (i + 4) Ln) (v5 : vp_in (i + 5) Ln) : wLc_66 Ln xs n K i μ := by
  unfold wLc_66
  simp only [v1, v2, v3, v4, v5, true_and]
  generalize xs (i + 1).toNatClampNeg = a
  generalize xs (i + 2).toNatClampNeg = c
  generalize xs (i + 3).toNatClampNeg = d
  obtain ⟨w, hw⟩ : ∃ w, μ.1 92 = w := ⟨_, rfl⟩
  obtain ⟨r, T, E, G⟩ := I.facts hw
  obtain ⟨r1, r2, r3, r4⟩ := r.n0
  have L8 := G.1
  have N1 := r.2.1.1
  obtain ⟨W20, H8, hW, hH, plt, hpl, hpp, hfo, htu, hsu, hsm⟩ := id E
  by_cases ga : 0 ≤ a.toInt ∧ a.toInt < (zH w : Int)
  · obtain ⟨a, ha, rfl⟩ := gN ga (by omega)
    by_cases g : ((0 < zN w ∧ 0 ≤ c.toInt ∧ c.toInt < (zW w : Int)) ∧ c.toInt ≤ 7) ∧ (d = 0 ∨ d = 1)
    · obtain ⟨⟨⟨gT, gc⟩, gc7⟩, gd⟩ := g
      obtain ⟨c, hc, rfl⟩ := gN gc (by omega)
      rw [nI_toInt (by omega)] at gc7
      have t1 := p10_8 (c + 1) (by omega)
      have vs : SU w (c + 1) (2 ^ (c + 1)) = 10 ^ (c + 1) := vW_sum (zO w) r.odds.1 (c + 1) (by omega)
      have le := mnA_le r (h := a) (U := c + 1) (by omega) (2 ^ (c + 1))
      rw [vs] at le
      have lm := lN_min (A := itr (mnF w a (c + 1)) 0 (2 ^ (c + 1)) 0) (by omega)
      simp (disch := omega) only [wX8_mean, xH1 T r, xC1 T r gT hc, xQ1 gd, not_true_eq_false, not_false_eq_true, false_implies, true_implies, and_true, true_and, and_self, nmM, if_true, if_false, or0, Int32.add_zero, forall_const, one_ne, zero_ne1, nz1, nz0, nI_z, cl, inN, Nat.le_refl, Nat.lt_irrefl, Nat.lt_succ_self, Bool.false_eq_true]
      refine xs_mean I hw ha hc (by omega) (by omega) (fun μ1 s1 => ?_)
      have hw1 := s1.w.trans hw
      simp (disch := omega) only [nI1, l10, x_power, x_frac lm t1.1, not_true_eq_false, not_false_eq_true, false_implies, true_implies, and_true, true_and, and_self, nmM, if_true, if_false, or0, Int32.add_zero, forall_const, one_ne, zero_ne1, nz1, nz0, nI_z, cl, inN, Nat.le_refl, Nat.lt_irrefl, Nat.lt_succ_self, Bool.false_eq_true]
      simp (disch := omega) only [wX9_mean, mH1 hw1 r, mC1 hw1 r gT hc _ gd, not_true_eq_false, not_false_eq_true, false_implies, true_implies, and_true, true_and, and_self, nmM, if_true, if_false, or0, Int32.add_zero, forall_const, one_ne, zero_ne1, nz1, nz0, nI_z, cl, inN, Nat.le_refl, Nat.lt_irrefl, Nat.lt_succ_self, Bool.false_eq_true]
      refine m_snows r hw1 ha hc (by omega) (by omega) (fun μ2 s2 j1 j2 j3 => ?_)
      simp (disch := omega) only [j1, j3, m_part lm t1.1, lg_cmp_eq, not_true_eq_false, not_false_eq_true, false_implies, true_implies, and_true, true_and, and_self, nmM, if_true, if_false, or0, Int32.add_zero, forall_const, one_ne, zero_ne1, nz1, nz0, nI_z, cl, inN, Nat.le_refl, Nat.lt_irrefl, Nat.lt_succ_self, Bool.false_eq_true]
      exact k μ2 ((I.sc s1).sc s2)
    · have fin : wX9_mean n (nI a) c d μ (fun r2 μ2 => (lg_cmp (-2 : Int64) r2 = 0 → K (i + 6) μ2) ∧ (¬ lg_cmp (-2 : Int64) r2 = 0 → False)) := by
        simp (disch := omega) only [wX9_mean, mH1 hw r, mC0 hw r g, lg_cmp_eq, not_true_eq_false, not_false_eq_true, false_implies, true_implies, and_true, true_and, and_self, nmM, if_true, if_false, or0, Int32.add_zero, forall_const, one_ne, zero_ne1, nz1, nz0, nI_z, cl, inN, Nat.le_refl, Nat.lt_irrefl, Nat.lt_succ_self, Bool.false_eq_true]
        exact k μ I
      by_cases g1 : (0 < zN w ∧ 0 ≤ c.toInt ∧ c.toInt < (zW w : Int)) ∧ c.toInt ≤ 7
      · have gd : ¬ (d = 0 ∨ d = 1) := fun z => g ⟨g1, z⟩
        obtain ⟨⟨gT, gc⟩, gc7⟩ := g1
        obtain ⟨c, hc, rfl⟩ := gN gc (by omega)
        rw [nI_toInt (by omega)] at gc7
        simp (disch := omega) only [wX8_mean, xH1 T r, xC1 T r gT hc, xQ0 gd, not_true_eq_false, not_false_eq_true, false_implies, true_implies, and_true, true_and, and_self, nmM, if_true, if_false, or0, Int32.add_zero, forall_const, one_ne, zero_ne1, nz1, nz0, nI_z, cl, inN, Nat.le_refl, Nat.lt_irrefl, Nat.lt_succ_self, Bool.false_eq_true]
        exact fin
      · simp (disch := omega) only [wX8_mean, xH1 T r, xC0 T r g1, not_true_eq_false, not_false_eq_true, false_implies, true_implies, and_true, true_and, and_self, nmM, if_true, if_false, or0, Int32.add_zero, forall_const, one_ne, zero_ne1, nz1, nz0, nI_z, cl, inN, Nat.le_refl, Nat.lt_irrefl, Nat.lt_succ_self, Bool.false_eq_true]
        exact fin
  · simp (disch := omega) only [wX8_mean, xH0 T r ga, not_true_eq_false, not_false_eq_true, false_implies, true_implies, and_true, true_and, and_self, nmM, if_true, if_false, or0, Int32.add_zero, forall_const, one_ne, zero_ne1, nz1, nz0, nI_z, cl, inN, Nat.le_refl, Nat.lt_irrefl, Nat.lt_succ_self, Bool.false_eq_true]
    simp (disch := omega) only [wX9_mean, mH0 hw r ga, lg_cmp_eq, not_true_eq_false, not_false_eq_true, false_implies, true_implies, and_true, true_and, and_self, nmM, if_true, if_false, or0, Int32.add_zero, forall_const, one_ne, zero_ne1, nz1, nz0, nI_z, cl, inN, Nat.le_refl, Nat.lt_irrefl, Nat.lt_succ_self, Bool.false_eq_true]
    exact k μ I
