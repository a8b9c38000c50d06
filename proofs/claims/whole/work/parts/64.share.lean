theorem ab_rng {x : Int32} (h1 : -320 ≤ x.toInt) (h2 : x.toInt ≤ 320) : 0 ≤ (ab x).toInt ∧ (ab x).toInt ≤ 320 := by
  unfold ab
  by_cases h : 0 ≤ x
  · rw [if_pos h]
    rw [nneg] at h
    omega
  · rw [if_neg h]
    rw [nneg] at h
    rw [fb_negI (by omega)]; omega
theorem wrt_rng {w : Nat → Int32} (r : RZ w) (s : Int32) (hW : 0 < zW w) : 0 ≤ (wrt w s).toInt ∧ (wrt w s).toInt ≤ 6400 := by
  have W20 := r.2.1.2.1
  have key : ∀ m, m ≤ zW w → 0 ≤ (itr (fun v x => x + ab (ytu w (oW w s) v)) 0 m 0).toInt ∧ (itr (fun v x => x + ab (ytu w (oW w s) v)) 0 m 0).toInt ≤ 320 * (m : Int) := by
    intro m
    induction m with
    | zero => exact fun _ => ⟨Int.le_refl 0, Int.le_refl 0⟩
    | succ m ih =>
      intro hm
      have ih := ih (by omega)
      have q := ytu_rng (o := oW w s) r m (r.law hW).1
      have a := ab_rng q.1 q.2
      rw [itr_succ, Nat.zero_add, fb_addI (by omega) (by omega)]
      omega
  have := key (zW w) (Nat.le_refl _)
  unfold wrt
  omega
/-- a set without a house has room -/
theorem bc_room : ∀ H, H ≤ 8 → ∀ h, h < H → ∀ k, k < 2 ^ H → k / 2 ^ h % 2 = 0 → bcN k + 1 ≤ H := by decide +kernel
theorem smd : ∀ j, j < 32 → ((nI j &&& 31).toBitVec.smod 32).toNat = j := by decide
theorem bt_nat {k j : Nat} (hk : k < 2 ^ 31) (hj : j < 31) : bt (nI k) j = nI (k / 2 ^ j % 2) := by
  unfold bt
  have hd : k / 2 ^ j ≤ k := Nat.div_le_self _ _
  rw [pk_shrN hk _ j (smd j (by omega)), pk_andN (m := 1) (by omega) 1 rfl]
def shF (w : Nat → Int32) (h i : Nat) (s : Int64) : Int64 := if i / 2 ^ h % 2 = 0 then s + lN (fN (bcN i)) * lN (fN (zH w - 1 - bcN i)) * (wrt w (nI (i ||| 2 ^ h)) - wrt w (nI i)).toInt64 else s
def shV (w : Nat → Int32) (h B : Nat) : Int64 := itr (shF w h) 0 B 0
theorem shV_rng {w : Nat → Int32} (r : RZ w) (hW : 0 < zW w) {h : Nat} (hh : h < zH w) {B : Nat} (hB : B = 2 ^ zH w) : -9223372036854775808 < (shV w h B).toInt := by
  have H8 := r.2.1.2.2.2.1
  have b1 := pw1 H8
  rw [← hB] at b1
  have key : ∀ m, m ≤ B → -(20000000000000 * (m : Int)) ≤ (itr (shF w h) 0 m 0).toInt ∧ (itr (shF w h) 0 m 0).toInt ≤ 20000000000000 * (m : Int) := by
    intro m
    induction m with
    | zero => exact fun _ => ⟨Int.le_refl 0, Int.le_refl 0⟩
    | succ m ih =>
      intro hm
      have ih := ih (by omega)
      rw [itr_succ, Nat.zero_add]
      generalize itr (shF w h) 0 m 0 = z at ih ⊢
      unfold shF
      split
      · next c =>
        have rm := bc_room (zH w) H8 h hh m (by omega) c
        have f1 := fN_rng (bcN m) (by omega)
        have f2 := fN_rng (zH w - 1 - bcN m) (by omega)
        have q1 := wrt_rng r (nI (m ||| 2 ^ h)) hW
        have q2 := wrt_rng r (nI m) hW
        have pm : fN (bcN m) * fN (zH w - 1 - bcN m) ≤ 40320 * 40320 := Nat.mul_le_mul f1.2 f2.2
        generalize fN (bcN m) * fN (zH w - 1 - bcN m) = P at pm
        have d1 : ((wrt w (nI (m ||| 2 ^ h)) - wrt w (nI m)).toInt64).toInt = (wrt w (nI (m ||| 2 ^ h))).toInt - (wrt w (nI m)).toInt := by rw [Int32.toInt_toInt64, fb_subI (by omega) (by omega)]
        rw [lN_mul]
        have pe : fN (bcN m) * fN (zH w - 1 - bcN m) ≤ 40320 * 40320 := Nat.mul_le_mul f1.2 f2.2
        generalize fN (bcN m) * fN (zH w - 1 - bcN m) = P2 at pe
        generalize (wrt w (nI (m ||| 2 ^ h)) - wrt w (nI m)).toInt64 = D at d1
        have pt : (lN P2).toInt = (P2 : Int) := pk_lT (by omega)
        have dl : -6400 ≤ D.toInt ∧ D.toInt ≤ 6400 := by omega
        have m1 : (P2 : Int) * D.toInt ≤ (40320 * 40320) * 6400 := by
          rcases Int.le_total 0 D.toInt with g | g
          · exact Int.mul_le_mul (by omega) dl.2 g (by omega)
          · have : (P2 : Int) * D.toInt ≤ 0 := Int.mul_nonpos_of_nonneg_of_nonpos (by omega) g
            omega
        have m2 : -((40320 * 40320) * 6400) ≤ (P2 : Int) * D.toInt := by
          rcases Int.le_total 0 D.toInt with g | g
          · have : 0 ≤ (P2 : Int) * D.toInt := Int.mul_nonneg (by omega) g
            omega
          · have : (P2 : Int) * (-D.toInt) ≤ (40320 * 40320) * 6400 := Int.mul_le_mul (by omega) (by omega) (by omega) (by omega)
            rw [Int.mul_neg] at this
            omega
        have e1 : (lN P2 * D).toInt = (P2 : Int) * D.toInt := by rw [fb_mulL (by rw [pt]; omega) (by rw [pt]; omega), pt]
        rw [fb_addL (by rw [e1]; omega) (by rw [e1]; omega), e1]
        omega
      · omega
  have := key B (Nat.le_refl _)
  unfold shV
  omega
theorem nzz {k : Nat} : (nI (k % 2) = 0) = (k % 2 = 0) := nI_z (by omega)
theorem xl_share {n h B : Nat} {v : Int32} {w : Nat → Int32} {μ : qa_M} {K0 : Int32 → Int64 → qa_M → Prop} {Q : Int32 → qa_M → Prop} (r : RZ w) (h5 : μ.1 (μ.2.2 1 2) 5 = nI (zH w)) (hh : h < zH w) (hB : B = 2 ^ zH w) (t : ∀ s, s < B → μ.1 46 s = wrt w (nI s)) (hn : 300 < n) : wX8_share_27 n (nI h) v 0 0 μ K0 Q ↔ K0 v (shV w h B) μ := by
  have H8 := r.2.1.2.2.2.1
  have b1 := pw1 H8
  rw [← hB] at b1
  have lw : ((1 : Int32) <<< (nI (zH w) &&& 31)) - 1 = nI (B - 1) := by rw [lowN _ H8, hB]
  unfold shV
  refine for_iff 0 (fun n i (z : Int64) => wX8_share_27 n (nI h) v z i μ K0 Q) (fun z => K0 v z μ) B (shF w h) (fun _ _ => True) ?_ ?_ (fun _ _ _ _ => trivial) B 0 0 n (by omega) (by omega) trivial
  · intro n z _ _
    show wX8_share_27 (n + 1) _ _ _ _ _ _ _ ↔ _
    have cc : B - 1 < B := by omega
    simp (disch := omega) only [wX8_share_27, h5, s_lowBits, lw, nlt, cc, not_true_eq_false, not_false_eq_true, false_implies, true_implies, and_true, true_and, and_self, nmM, if_true, if_false, or0, Int32.add_zero, forall_const, one_ne, zero_ne1, nz1, nz0, nI_z, cl, inN, Nat.le_refl, Nat.lt_irrefl, Nat.lt_succ_self, Bool.false_eq_true]
  · intro n i z _ hi _
    show wX8_share_27 (n + 1) _ _ _ _ _ _ _ ↔ _
    have hi' : ¬ B - 1 < i := by omega
    have eb : (nI i >>> (nI h &&& 31)) &&& 1 = nI (i / 2 ^ h % 2) := bt_nat (by omega) (by omega)
    simp (disch := omega) only [wX8_share_27, h5, s_lowBits, lw, nlt, hi', nI1, s_bitOf, eb, nzz, not_true_eq_false, not_false_eq_true, false_implies, true_implies, and_true, true_and, and_self, nmM, if_true, if_false, or0, Int32.add_zero, forall_const, one_ne, zero_ne1, nz1, nz0, nI_z, cl, inN, Nat.le_refl, Nat.lt_irrefl, Nat.lt_succ_self, Bool.false_eq_true]
    unfold shF
    by_cases c : i / 2 ^ h % 2 = 0
    · have rm := bc_room (zH w) H8 h hh i (by omega) c
      have o1 : i ||| 2 ^ h < 2 ^ zH w := Nat.or_lt_two_pow (by omega) (Nat.pow_lt_pow_right (by decide) hh)
      have e1 : nI (zH w) - 1 = nI (zH w - 1) := by rw [l1, pk_sub (by omega)]
      have e2 : nI (zH w - 1) - nI (bcN i) = nI (zH w - 1 - bcN i) := pk_sub (by omega)
      have t1 := t i hi
      have t2 := t (i ||| 2 ^ h) (by omega)
      have f1 := fN_eq (bcN i) (by omega)
      have f2 := fN_eq (zH w - 1 - bcN i) (by omega)
      simp (disch := omega) only [c, s_bitCount, h5, e1, e2, bit8, fa_or, t1, t2, f1, f2, not_true_eq_false, not_false_eq_true, false_implies, true_implies, and_true, true_and, and_self, nmM, if_true, if_false, or0, Int32.add_zero, forall_const, one_ne, zero_ne1, nz1, nz0, nI_z, cl, inN, Nat.le_refl, Nat.lt_irrefl, Nat.lt_succ_self, Bool.false_eq_true]
    · simp only [c, not_true_eq_false, not_false_eq_true, false_implies, true_implies, and_true, true_and, and_self, nmM, if_true, if_false, or0, Int32.add_zero, forall_const, one_ne, zero_ne1, nz1, nz0, nI_z, cl, inN, Nat.le_refl, Nat.lt_irrefl, Nat.lt_succ_self, Bool.false_eq_true]
theorem ml_share {n h B : Nat} {v : Int32} {w : Nat → Int32} {μ : qa_M} {Q : Int32 → qa_M → Prop} (r : RZ w) (hW : 0 < zW w) (hh : h < zH w) (hB : B = 2 ^ zH w) (t : ∀ s, s < B → μ.1 109 s = wrt w (nI s)) (hn : 700 < n) : wX9_share_66 n (nI h) v (nI (zH w)) 0 0 μ Q ↔ Q (frc (shV w h B) (fN (zH w)) v).toInt32 μ := by
  have H8 := r.2.1.2.2.2.1
  have b1 := pw1 H8
  rw [← hB] at b1
  have lw : ((1 : Int32) <<< (nI (zH w) &&& 31)) = nI B := by rw [shN _ H8, hB]
  have fr := fN_rng (zH w) (by omega)
  have sr := shV_rng r hW hh hB
  refine for_iff 300 (fun n i (z : Int64) => wX9_share_66 n (nI h) v (nI (zH w)) z i μ Q) (fun z => Q (frc z (fN (zH w)) v).toInt32 μ) B (shF w h) (fun i z => z = itr (shF w h) 0 i 0) ?_ ?_ (fun i z _ hz => by rw [itr_succ, Nat.zero_add, hz]) B 0 0 n (by omega) (by omega) rfl
  · intro n z _ hz
    show wX9_share_66 (n + 1) _ _ _ _ _ _ _ ↔ _
    have sz : -9223372036854775808 < z.toInt := by rw [hz]; exact sr
    simp (disch := omega) only [wX9_share_66, lw, nle, m_fact, m_part sz fr.1, not_true_eq_false, not_false_eq_true, false_implies, true_implies, and_true, true_and, and_self, nmM, if_true, if_false, or0, Int32.add_zero, forall_const, one_ne, zero_ne1, nz1, nz0, nI_z, cl, inN, Nat.le_refl, Nat.lt_irrefl, Nat.lt_succ_self, Bool.false_eq_true]
  · intro n i z hm hi _
    show wX9_share_66 (n + 1) _ _ _ _ _ _ _ ↔ _
    have hi' : ¬ B ≤ i := by omega
    have eb : (nI i >>> (nI h &&& 31)) &&& 1 = nI (i / 2 ^ h % 2) := bt_nat (by omega) (by omega)
    simp (disch := omega) only [wX9_share_66, lw, nle, hi', nI1, s_mbit, eb, nzz, not_true_eq_false, not_false_eq_true, false_implies, true_implies, and_true, true_and, and_self, nmM, if_true, if_false, or0, Int32.add_zero, forall_const, one_ne, zero_ne1, nz1, nz0, nI_z, cl, inN, Nat.le_refl, Nat.lt_irrefl, Nat.lt_succ_self, Bool.false_eq_true]
    unfold shF
    by_cases c : i / 2 ^ h % 2 = 0
    · have rm := bc_room (zH w) H8 h hh i (by omega) c
      have o1 : i ||| 2 ^ h < 2 ^ zH w := Nat.or_lt_two_pow (by omega) (Nat.pow_lt_pow_right (by decide) hh)
      have e1 : nI (zH w) - 1 = nI (zH w - 1) := by rw [l1, pk_sub (by omega)]
      have e2 : nI (zH w - 1) - nI (bcN i) = nI (zH w - 1 - bcN i) := pk_sub (by omega)
      have t1 := t i hi
      have t2 := t (i ||| 2 ^ h) (by omega)
      simp (disch := omega) only [c, s_bits, m_fact, e1, e2, bit8, fa_or, t1, t2, not_true_eq_false, not_false_eq_true, false_implies, true_implies, and_true, true_and, and_self, nmM, if_true, if_false, or0, Int32.add_zero, forall_const, one_ne, zero_ne1, nz1, nz0, nI_z, cl, inN, Nat.le_refl, Nat.lt_irrefl, Nat.lt_succ_self, Bool.false_eq_true]
    · simp only [c, not_true_eq_false, not_false_eq_true, false_implies, true_implies, and_true, true_and, and_self, nmM, if_true, if_false, or0, Int32.add_zero, forall_const, one_ne, zero_ne1, nz1, nz0, nI_z, cl, inN, Nat.le_refl, Nat.lt_irrefl, Nat.lt_succ_self, Bool.false_eq_true]
theorem ml_worths {n h B : Nat} {v : Int32} {w : Nat → Int32} {μ0 μ : qa_M} {K0 : Int32 → Int32 → Int32 → qa_M → Prop} {Q : Int32 → qa_M → Prop} (r : RZ w) (hw : μ0.1 92 = w) (s0 : sc μ0 μ) (hB : B = 2 ^ zH w) (M0 : ∃ y, MS μ w (oA w y)) (hn : 400 < n) (k : ∀ μ', sc μ0 μ' → (∀ s, s < B → μ'.1 109 s = wrt w (nI s)) → K0 (nI h) v (nI (zH w)) μ') : wX9_share_33 n (nI h) v (nI (zH w)) 0 μ K0 Q := by
  have H8 := r.2.1.2.2.2.1
  have b1 := pw1 H8
  rw [← hB] at b1
  have lw : ((1 : Int32) <<< (nI (zH w) &&& 31)) = nI B := by rw [shN _ H8, hB]
  refine inv_loopF 100 (fun n i (σ : qa_M) => wX9_share_33 n (nI h) v (nI (zH w)) i σ K0 Q) B (fun i σ => sc μ0 σ ∧ (∃ y, MS σ w (oA w y)) ∧ ∀ s, s < i → σ.1 109 s = wrt w (nI s)) ?_ ?_ B 0 μ n (by omega) (by omega) ⟨s0, M0, fun s hs => absurd hs (Nat.not_lt_zero s)⟩
  · intro n μ1 hm ⟨s1, M1, t1⟩
    simp (disch := omega) only [wX9_share_33, lw, nle, not_true_eq_false, not_false_eq_true, false_implies, true_implies, and_true, true_and, and_self, nmM, if_true, if_false, or0, Int32.add_zero, forall_const, one_ne, zero_ne1, nz1, nz0, nI_z, cl, inN, Nat.le_refl, Nat.lt_irrefl, Nat.lt_succ_self, Bool.false_eq_true]
    exact k μ1 s1 t1
  · intro n i μ1 hm hi ⟨s1, ⟨y, M1⟩, t1⟩ ih
    have hi' : ¬ B ≤ i := by omega
    simp (disch := omega) only [wX9_share_33, lw, nle, hi', nI1, not_true_eq_false, not_false_eq_true, false_implies, true_implies, and_true, true_and, and_self, nmM, if_true, if_false, or0, Int32.add_zero, forall_const, one_ne, zero_ne1, nz1, nz0, nI_z, cl, inN, Nat.le_refl, Nat.lt_irrefl, Nat.lt_succ_self, Bool.false_eq_true]
    refine m_worth r hw s1 M1 (by omega) (fun μ2 s2 ⟨y2, M2⟩ e2 => ?_)
    refine ih _ ⟨s2.put (b := 109) _ _ (by omega), ⟨y2, M2.other _ _ (by omega)⟩, fun s hs => ?_⟩
    by_cases e : s = i
    · rw [e, uIs]
    · rw [uIn _ _ (fun q => e q.2), e2 _ _ (by omega) (by omega) (by omega) (by omega) (by omega)]; exact t1 s (by omega)
section PT
variable {n : Nat} {v : Int32} {μ : qa_M} {Q : Int32 → qa_M → Prop}
theorem xQ1 (h : v = 0 ∨ v = 1) : wX8_isPart n v μ Q ↔ Q 1 μ := by rw [s_isPart, qb_p h]
theorem xQ0 (h : ¬ (v = 0 ∨ v = 1)) : wX8_isPart n v μ Q ↔ Q 0 μ := by rw [s_isPart, qb_n h]
theorem part01 : (v = 0 ∨ v = 1) ↔ ((0 : Int64).toInt ≤ v.toInt64.toInt ∧ v.toInt64.toInt ≤ (1 : Int64).toInt) := by
  rw [Int32.toInt_toInt64, fa_eq, fa_eq, show (0 : Int32).toInt = 0 from rfl, show (1 : Int32).toInt = 1 from rfl, z64, show (1 : Int64).toInt = 1 from rfl]
  omega
theorem mQ1 (h : v = 0 ∨ v = 1) : wX9_in n v.toInt64 0 1 μ Q ↔ Q 1 μ := by rw [s_in, qb_p (part01.mp h)]
theorem mQ0 (h : ¬ (v = 0 ∨ v = 1)) : wX9_in n v.toInt64 0 1 μ Q ↔ Q 0 μ := by rw [s_in, qb_n (fun q => h (part01.mpr q))]
end PT
theorem c_62 {Ln n : Nat} {xs : Nat → Int32} {K : Int32 → qa_M → Prop} {i : Int32} {μ : qa_M} (I : INV μ) (hn : 2000 ≤ n) (k : ∀ μ', INV μ' → K (i + 6) μ') (v1 : vp_in (i + 1) Ln) (v2 : vp_in (i + 2) Ln) (v3 : vp_in (i + 3) Ln) (v4 : vp_in (i + 4) Ln) (v5 : vp_in (i + 5) Ln) : wLc_62 Ln xs n K i μ := by
  unfold wLc_62
  simp only [v1, v2, v3, v4, v5, true_and]
  generalize xs (i + 1).toNatClampNeg = a
  generalize xs (i + 2).toNatClampNeg = b
  obtain ⟨w, hw⟩ : ∃ w, μ.1 92 = w := ⟨_, rfl⟩
  obtain ⟨r, T, E, G⟩ := I.facts hw
  obtain ⟨r1, r2, r3, r4⟩ := r.n0
  have L8 := G.1
  have N1 := r.2.1.1
  obtain ⟨W20, H8, hW, hH, plt, hpl, hpp, hfo, htu, hsu, hsm⟩ := id E
  by_cases ga : 0 ≤ a.toInt ∧ a.toInt < (zH w : Int)
  · obtain ⟨a, ha, rfl⟩ := gN ga (by omega)
    have n0 : 0 < zN w := by omega
    have hW0 := r4 n0
    by_cases gb : b = 0 ∨ b = 1
    · have b1 := pw1 H8
      obtain ⟨B, hB⟩ : ∃ B, B = 2 ^ zH w := ⟨_, rfl⟩
      rw [← hB] at b1
      have fr := fN_rng (zH w) (by omega)
      have fe := fN_eq (zH w) (by omega)
      have sr := shV_rng r (by omega) ha hB
      simp (disch := omega) only [wX8_share, xH1 T r, xQ1 gb, not_true_eq_false, not_false_eq_true, false_implies, true_implies, and_true, true_and, and_self, nmM, if_true, if_false, or0, Int32.add_zero, forall_const, one_ne, zero_ne1, nz1, nz0, nI_z, cl, inN, Nat.le_refl, Nat.lt_irrefl, Nat.lt_succ_self, Bool.false_eq_true]
      refine x_learn I hw hB (by omega) (fun μ1 I1 hw1 t1 => ?_)
      obtain ⟨-, T1, E1, -⟩ := I1.facts hw1
      simp (disch := omega) only [xl_share r E1.2.2.2.1 ha hB t1, E1.2.2.2.1, fe, x_frac sr fr.1, not_true_eq_false, not_false_eq_true, false_implies, true_implies, and_true, true_and, and_self, nmM, if_true, if_false, or0, Int32.add_zero, forall_const, one_ne, zero_ne1, nz1, nz0, nI_z, cl, inN, Nat.le_refl, Nat.lt_irrefl, Nat.lt_succ_self, Bool.false_eq_true]
      simp (disch := omega) only [wX9_share, mH1 hw1 r, mQ1 gb, not_true_eq_false, not_false_eq_true, false_implies, true_implies, and_true, true_and, and_self, nmM, if_true, if_false, or0, Int32.add_zero, forall_const, one_ne, zero_ne1, nz1, nz0, nI_z, cl, inN, Nat.le_refl, Nat.lt_irrefl, Nat.lt_succ_self, Bool.false_eq_true]
      refine m_lay hw1 r (by omega) (fun μ2 a1 a2 a3 M2 => ?_)
      have s2 : sc μ1 μ2 := (sc.rf μ1).lay a1 a2 a3
      have h4 : μ2.1 92 4 = nI (zH w) := by rw [s2.w.trans hw1]; exact r.1.2.2.2.1
      rw [s_mhouses, h4]
      refine ml_worths r hw1 s2 hB ⟨0, M2⟩ (by omega) (fun μ3 s3 t3 => ?_)
      simp (disch := omega) only [ml_share r (show 0 < zW w by omega) ha hB t3, not_true_eq_false, not_false_eq_true, false_implies, true_implies, and_true, true_and, and_self, nmM, if_true, if_false, or0, Int32.add_zero, forall_const, one_ne, zero_ne1, nz1, nz0, nI_z, cl, inN, Nat.le_refl, Nat.lt_irrefl, Nat.lt_succ_self, Bool.false_eq_true]
      exact k μ3 (I1.sc s3)
    · simp (disch := omega) only [wX8_share, xH1 T r, xQ0 gb, not_true_eq_false, not_false_eq_true, false_implies, true_implies, and_true, true_and, and_self, nmM, if_true, if_false, or0, Int32.add_zero, forall_const, one_ne, zero_ne1, nz1, nz0, nI_z, cl, inN, Nat.le_refl, Nat.lt_irrefl, Nat.lt_succ_self, Bool.false_eq_true]
      simp (disch := omega) only [wX9_share, mH1 hw r, mQ0 gb, not_true_eq_false, not_false_eq_true, false_implies, true_implies, and_true, true_and, and_self, nmM, if_true, if_false, or0, Int32.add_zero, forall_const, one_ne, zero_ne1, nz1, nz0, nI_z, cl, inN, Nat.le_refl, Nat.lt_irrefl, Nat.lt_succ_self, Bool.false_eq_true]
      exact k μ I
  · simp (disch := omega) only [wX8_share, xH0 T r ga, not_true_eq_false, not_false_eq_true, false_implies, true_implies, and_true, true_and, and_self, nmM, if_true, if_false, or0, Int32.add_zero, forall_const, one_ne, zero_ne1, nz1, nz0, nI_z, cl, inN, Nat.le_refl, Nat.lt_irrefl, Nat.lt_succ_self, Bool.false_eq_true]
    simp (disch := omega) only [wX9_share, mH0 hw r ga, not_true_eq_false, not_false_eq_true, false_implies, true_implies, and_true, true_and, and_self, nmM, if_true, if_false, or0, Int32.add_zero, forall_const, one_ne, zero_ne1, nz1, nz0, nI_z, cl, inN, Nat.le_refl, Nat.lt_irrefl, Nat.lt_succ_self, Bool.false_eq_true]
    exact k μ I
