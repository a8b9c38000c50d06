def andF (ft : Nat → Bool) (i : Nat) (a : Int32) : Int32 := itr (fun j a => if ft j = true then a &&& nI j else a) 0 i a
def orF (ft : Nat → Bool) (i : Nat) : Int32 := itr (fun j a => if ft j = true then a ||| nI j else a) 0 i 0
theorem ct_t {p : Nat → Bool} {n : Nat} (h : p n = true) : fb_ct p (n + 1) = fb_ct p n + 1 := by rw [fb_ct_succ, if_pos h]
theorem ct_f {p : Nat → Bool} {n : Nat} (h : p n = false) : fb_ct p (n + 1) = fb_ct p n := by rw [fb_ct_succ, if_neg (by rw [h]; decide)]; rfl
theorem itr_ct {op : Int32 → Int32 → Int32} {ft : Nat → Bool} {g h : Nat → Int32} {a0 : Int32} : ∀ (i : Nat), (∀ j, j < i → ft j = true → g (fb_ct ft j) = h j) → itr (fun k a => op a (g k)) 0 (fb_ct ft i) a0 = itr (fun j a => if ft j = true then op a (h j) else a) 0 i a0
  | 0, _ => rfl
  | i + 1, e => by
    have ih := itr_ct (op := op) (a0 := a0) i (fun j hj => e j (by omega))
    rw [itr_succ (fun j a => if ft j = true then op a (h j) else a), Nat.zero_add, ← ih]
    cases q : ft i
    · rw [ct_f q]; rfl
    · rw [ct_t q, itr_succ, Nat.zero_add, if_pos rfl, e i (by omega) q]
/-- x has sought up to i -/
def XS (μ : qa_M) (w : Nat → Int32) (ft : Nat → Bool) (i : Nat) : Prop := μ.1 42 0 = nI (fb_ct ft i) ∧ μ.1 42 1 = andF ft i (lowB (zH w)) ∧ μ.1 42 2 = orF ft i ∧ ∀ j, j < i → ft j = true → ∀ v, v < zW w → μ.1 43 (fb_ct ft j * 20 + v) = ytu w (oS w (nI j)) v
theorem x_addrow {n c W : Nat} {x : Int32} {tu : Nat → Int32} {μ : qa_M} {K0 : Int32 → qa_M → Prop} {Q : qa_M → Prop} (ht : ∀ v, v < W → μ.1 41 v = tu v) (hr : ∀ v, -320 ≤ (tu v).toInt ∧ (tu v).toInt ≤ 320) (h42 : μ.1 42 0 = nI c) (hc : c < 256) (hW : W ≤ 20) (hn : 25 < n) (k : ∀ μ', onlyA 43 μ μ' → (∀ v, v < W → μ'.1 43 (c * 20 + v) = tu v) → (∀ j, (j < c * 20 ∨ c * 20 + 20 ≤ j) → μ'.1 43 j = μ.1 43 j) → K0 x μ') : wX4_add_14 n x 37 (nI W) 0 μ K0 Q := by
  refine inv_loop (fun n i μ1 => wX4_add_14 n x 37 (nI W) i μ1 K0 Q) W (fun i μ1 => onlyA 43 μ μ1 ∧ (∀ v, v < i → μ1.1 43 (c * 20 + v) = tu v) ∧ ∀ j, (j < c * 20 ∨ c * 20 + 20 ≤ j) → μ1.1 43 j = μ.1 43 j) ?_ ?_ W 0 μ n (by omega) (by omega) ⟨onlyA.rf _ _, fun v h => absurd h (Nat.not_lt_zero v), fun _ _ => rfl⟩
  · intro n μ1 ⟨o1, e1, e2⟩
    show wX4_add_14 (n + 1) _ _ _ _ _ _ _
    rw [wX4_add_14]
    exact ⟨fun _ => k μ1 o1 e1 e2, fun h => absurd (nI_le (Nat.le_refl W) (by omega)) h⟩
  · intro n i μ1 hi ⟨o1, e1, e2⟩ ih
    show wX4_add_14 (n + 1) _ _ _ _ _ _ _
    have a1 : μ1.1 42 0 = nI c := by rw [o1.2 _ _ (by omega)]; exact h42
    have a2 : μ1.1 41 i = tu i := by rw [o1.2 _ _ (by omega)]; exact ht i hi
    have ix : nI c * 20 + nI i = nI (c * 20 + i) := by rw [l20, pk_mul, nI_add]
    have hi' : ¬ W ≤ i := by omega
    have a3 : (tu i).toInt16.toInt32.toInt16.toInt32 = tu i := by
      have := hr i
      rw [fb_short_twice, fb_short (by omega) (by omega)]
    simp (disch := omega) only [wX4_add_14, a1, a2, a3, nle, hi', ix, nI1, not_true_eq_false, not_false_eq_true, false_implies, true_implies, and_true, true_and, and_self, nmM, if_true, if_false, or0, Int32.add_zero, forall_const, one_ne, zero_ne1, nz1, nz0, nI_z, cl, inN, Nat.le_refl, Nat.lt_irrefl, Nat.lt_succ_self, Bool.false_eq_true]
    refine ih _ ⟨o1.put _ _, fun v hv => ?_, fun j hj => ?_⟩
    · by_cases e : v = i
      · rw [e, uIs]
      · rw [uIn _ _ (fun q => e (by omega))]; exact e1 v (by omega)
    · rw [uIn _ _ (fun q => by omega)]; exact e2 j hj
theorem x_add {n c i W : Nat} {tu : Nat → Int32} {μ : qa_M} {Q : qa_M → Prop} (ht : ∀ v, v < W → μ.1 41 v = tu v) (hr : ∀ v, -320 ≤ (tu v).toInt ∧ (tu v).toInt ≤ 320) (h42 : μ.1 42 0 = nI c) (hc : c < 256) (hW : W ≤ 20) (hn : 25 < n) (k : ∀ μ', μ'.2 = μ.2 → (∀ b j, b ≠ 42 → b ≠ 43 → μ'.1 b j = μ.1 b j) → μ'.1 42 0 = nI (c + 1) → μ'.1 42 1 = μ.1 42 1 &&& nI i → μ'.1 42 2 = μ.1 42 2 ||| nI i → (∀ v, v < W → μ'.1 43 (c * 20 + v) = tu v) → (∀ j, (j < c * 20 ∨ c * 20 + 20 ≤ j) → μ'.1 43 j = μ.1 43 j) → Q μ') : wX4_add n (nI i) 37 (nI W) μ Q := by
  unfold wX4_add
  rw [h42, show (256 : Int32) = nI 256 from rfl, nlt _ _ (by omega) (by omega)]
  simp only [hc, not_true_eq_false, not_false_eq_true, false_implies, true_implies, and_true, true_and, and_self, nmM, if_true, if_false, or0, Int32.add_zero, forall_const, one_ne, zero_ne1, nz1, nz0, nI_z, cl, inN, Nat.le_refl, Nat.lt_irrefl, Nat.lt_succ_self, Bool.false_eq_true]
  refine x_addrow ht hr h42 hc hW hn (fun μ1 o1 e1 e2 => ?_)
  refine k _ ?_ ?_ ?_ ?_ ?_ ?_ ?_
  · exact o1.1
  · intro b j h1 h2
    rw [uIn _ _ (fun e => h1 e.1), uIn _ _ (fun e => h1 e.1), uIn _ _ (fun e => h1 e.1)]
    exact o1.2 b j h2
  · rw [uIs, uIn _ _ (fun e => by omega), uIn _ _ (fun e => by omega), o1.2 _ _ (by omega), h42, nI1]
  · rw [uIn _ _ (fun e => by omega), uIn _ _ (fun e => by omega), uIs, o1.2 _ _ (by omega)]
  · rw [uIn _ _ (fun e => by omega), uIs, uIn _ _ (fun e => by omega), o1.2 _ _ (by omega)]
  · intro v hv
    rw [uIn _ _ (fun e => by omega), uIn _ _ (fun e => by omega), uIn _ _ (fun e => by omega)]
    exact e1 v hv
  · intro j hj
    rw [uIn _ _ (fun e => by omega), uIn _ _ (fun e => by omega), uIn _ _ (fun e => by omega)]
    exact e2 j hj
theorem xs_seek {n s p B : Nat} {f : Nat → Int64} {w : Nat → Int32} {μ0 μ : qa_M} {Q : qa_M → Prop} (I : INV μ0) (hw : μ0.1 92 = w) (s0 : sc μ0 μ) (S : SN μ0 s (2 * p) f) (gd : alls (prP f ((zW w : Int) - 1) (-400) 400) 0 p = true) (hN : 0 < zN w) (hB : B = 2 ^ zH w) (J : XS μ w (fit w f p) 0) (hn : 400 < n) (k : ∀ μ', sc μ0 μ' → XS μ' w (fit w f p) B → Q μ') : wX8_seek_19 n (83 + 2 * s) 0 μ Q := by
  obtain ⟨r, -, -, -⟩ := I.facts hw
  have H8 := r.2.1.2.2.2.1
  have W20 := r.2.1.2.1
  have W1 := r.n0.2.2.2 hN
  have b1 := pw1 H8
  rw [← hB] at b1
  have lw : ((1 : Int32) <<< (nI (zH w) &&& 31)) - 1 = nI (B - 1) := by rw [lowN _ H8, hB]
  have lawo := r.law (by omega)
  refine inv_loopF 100 (fun n i (σ : qa_M) => wX8_seek_19 n (83 + 2 * s) i σ Q) B (fun i σ => sc μ0 σ ∧ XS σ w (fit w f p) i) ?_ ?_ B 0 μ n (by omega) (by omega) ⟨s0, J⟩
  · intro n μ1 hm ⟨s1, J1⟩
    obtain ⟨-, T, E, G⟩ := (I.sc s1).facts (s1.w.trans hw)
    have cc : B - 1 < B := by omega
    simp (disch := omega) only [wX8_seek_19, E.2.2.2.1, s_lowBits, lw, nlt, cc, not_true_eq_false, not_false_eq_true, false_implies, true_implies, and_true, true_and, and_self, nmM, if_true, if_false, or0, Int32.add_zero, forall_const, one_ne, zero_ne1, nz1, nz0, nI_z, cl, inN, Nat.le_refl, Nat.lt_irrefl, Nat.lt_succ_self, Bool.false_eq_true]
    exact k μ1 s1 J1
  · intro n i μ1 hm hi ⟨s1, J1⟩ ih
    obtain ⟨-, T, E, G⟩ := (I.sc s1).facts (s1.w.trans hw)
    have hi' : ¬ B - 1 < i := by omega
    have c1 : fb_ct (fit w f p) i ≤ i := fb_ct_le _ i
    simp (disch := omega) only [wX8_seek_19, E.2.2.2.1, s_lowBits, lw, nlt, hi', not_true_eq_false, not_false_eq_true, false_implies, true_implies, and_true, true_and, and_self, nmM, if_true, if_false, or0, Int32.add_zero, forall_const, one_ne, zero_ne1, nz1, nz0, nI_z, cl, inN, Nat.le_refl, Nat.lt_irrefl, Nat.lt_succ_self, Bool.false_eq_true]
    refine x_trial (o := oS w (nI i)) (U := zW w) (fun μ => qa_uI μ 31 2 (nI i)) I hw s1 (fun μ1 P => P.lean (nI i)) (fun μ1 => onlyP1 2 _ μ1) (Nat.le_refl _) (fun _ => lawo) (by omega) (fun μ2 s2 x2 Y2 T2 => ?_)
    have J2 : XS μ2 w (fit w f p) i := ⟨by rw [x2.2 _ _ (by omega) (by omega) (by omega) (by omega) (by omega)]; exact J1.1, by rw [x2.2 _ _ (by omega) (by omega) (by omega) (by omega) (by omega)]; exact J1.2.1, by rw [x2.2 _ _ (by omega) (by omega) (by omega) (by omega) (by omega)]; exact J1.2.2.1, fun j hj hf v hv => by rw [x2.2 _ _ (by omega) (by omega) (by omega) (by omega) (by omega)]; exact J1.2.2.2 j hj hf v hv⟩
    rw [x_fitsTurns (S.sc s2) W20 gd Y2.2.2.2 (by omega)]
    show if fit w f p i = true then _ else _
    cases q : fit w f p i
    · simp only [nI1, not_true_eq_false, not_false_eq_true, false_implies, true_implies, and_true, true_and, and_self, nmM, if_true, if_false, or0, Int32.add_zero, forall_const, one_ne, zero_ne1, nz1, nz0, nI_z, cl, inN, Nat.le_refl, Nat.lt_irrefl, Nat.lt_succ_self, Bool.false_eq_true]
      refine ih μ2 ⟨s2, ?_⟩
      obtain ⟨j1, j2, j3, j4⟩ := J2
      refine ⟨by rw [ct_f q]; exact j1, ?_, ?_, fun j hj hf v hv => ?_⟩
      · unfold andF; rw [itr_succ, Nat.zero_add, q]; exact j2
      · unfold orF; rw [itr_succ, Nat.zero_add, q]; exact j3
      · by_cases e : j = i
        · rw [e, q] at hf; cases hf
        · exact j4 j (by omega) hf v hv
    · obtain ⟨j1, j2, j3, j4⟩ := J2
      have tW : μ2.1 (μ2.2.2 1 2) 1 = nI (zW w) := T2.1.2.1
      simp only [tW, nI1, not_true_eq_false, not_false_eq_true, false_implies, true_implies, and_true, true_and, and_self, nmM, if_true, if_false, or0, Int32.add_zero, forall_const, one_ne, zero_ne1, nz1, nz0, nI_z, cl, inN, Nat.le_refl, Nat.lt_irrefl, Nat.lt_succ_self, Bool.false_eq_true]
      refine x_add (c := fb_ct (fit w f p) i) (tu := ytu w (oS w (nI i))) Y2.2.2.2 (fun v => ytu_rng r v lawo.1) j1 (by omega) W20 (by omega) (fun μ3 g1 g2 g3 g4 g5 g6 g7 => ?_)
      have s3 : sc μ0 μ3 := s2.tr ⟨by rw [g1], fun b j h1 h2 h3 h4 => g2 b j (by omega) (by omega), ⟨g2 _ _ (by omega) (by omega), g2 _ _ (by omega) (by omega), g2 _ _ (by omega) (by omega)⟩, fun b j _ _ => by rw [g1]⟩
      refine ih μ3 ⟨s3, by rw [ct_t q]; exact g3, ?_, ?_, fun j hj hf v hv => ?_⟩
      · unfold andF; rw [itr_succ, Nat.zero_add, if_pos q, g4, j2]; rfl
      · unfold orF; rw [itr_succ, Nat.zero_add, if_pos q, g5, j3]; rfl
      · by_cases e : j = i
        · rw [e]; exact g6 v hv
        · have m1 : fb_ct (fit w f p) (j + 1) ≤ fb_ct (fit w f p) i := fb_ct_mono _ (by omega)
          rw [ct_t hf] at m1
          rw [g7 _ (by omega)]
          exact j4 j (by omega) hf v hv
theorem x_seek {n s p B : Nat} {f : Nat → Int64} {w : Nat → Int32} {μ : qa_M} {Q : qa_M → Prop} (I : INV μ) (hw : μ.1 92 = w) (S : SN μ s (2 * p) f) (gd : alls (prP f ((zW w : Int) - 1) (-400) 400) 0 p = true) (hN : 0 < zN w) (hB : B = 2 ^ zH w) (hn : 400 < n) (k : ∀ μ', sc μ μ' → XS μ' w (fit w f p) B → Q μ') : wX8_seek n (83 + 2 * s) μ Q := by
  obtain ⟨r, T, E, G⟩ := I.facts hw
  unfold wX8_seek wX4_begin
  simp only [E.2.2.2.1, s_lowBits, nmM]
  refine xs_seek I hw ((((sc.rf μ).put 0 _ (by omega)).put 1 _ (by omega)).put 2 _ (by omega)) S gd hN hB ⟨rfl, rfl, rfl, fun j hj => absurd hj (Nat.not_lt_zero j)⟩ hn k
theorem MS.cong {μ μ' : qa_M} {w : Nat → Int32} {o : OV} (M : MS μ w o) (e91 : ∀ j, 18 ≤ j → j ≤ 24 → μ'.1 91 j = μ.1 91 j) (e : ∀ b j, b = 98 ∨ b = 99 ∨ b = 100 → μ'.1 b j = μ.1 b j) : MS μ' w o := by
  obtain ⟨p0, p1, p2, p3, p4, p5, p6, p7, p8⟩ := M
  exact ⟨by rw [e91 _ (by omega) (by omega)]; exact p0, by rw [e91 _ (by omega) (by omega)]; exact p1, by rw [e91 _ (by omega) (by omega)]; exact p2, by rw [e91 _ (by omega) (by omega)]; exact p3, by rw [e91 _ (by omega) (by omega)]; exact p4, by rw [e91 _ (by omega) (by omega), e91 _ (by omega) (by omega)]; exact p5, fun p hp => by rw [e _ _ (by omega)]; exact p6 p hp, fun p hp => by rw [e _ _ (by omega)]; exact p7 p hp, fun p hp => by rw [e _ _ (by omega)]; exact p8 p hp⟩
/-- m has laid up to i -/
def MT (μ : qa_M) (w : Nat → Int32) (ft : Nat → Bool) (i : Nat) : Prop := μ.1 91 35 = nI (fb_ct ft i) ∧ (∀ j, j < i → ft j = true → μ.1 107 (fb_ct ft j) = nI j) ∧ ∀ j, j < i → ft j = true → ∀ v, v < zW w → μ.1 108 (20 * fb_ct ft j + v) = ytu w (oS w (nI j)) v
theorem ml_row {n c W : Nat} {x : Int32} {tu : Nat → Int32} {μ : qa_M} {K0 : Int32 → qa_M → Prop} {Q : Int32 → qa_M → Prop} (h0 : μ.1 92 0 = nI W) (ht : ∀ v, v < W → μ.1 104 v = tu v) (h35 : μ.1 91 35 = nI c) (hc : c < 256) (hW : W ≤ 20) (hn : 25 < n) (k : ∀ μ', onlyA 108 μ μ' → (∀ v, v < W → μ'.1 108 (20 * c + v) = tu v) → (∀ j, (j < 20 * c ∨ 20 * c + 20 ≤ j) → μ'.1 108 j = μ.1 108 j) → K0 x μ') : wX9_layLeans_206 n x 0 μ K0 Q := by
  refine inv_loop (fun n i μ1 => wX9_layLeans_206 n x i μ1 K0 Q) W (fun i μ1 => onlyA 108 μ μ1 ∧ (∀ v, v < i → μ1.1 108 (20 * c + v) = tu v) ∧ ∀ j, (j < 20 * c ∨ 20 * c + 20 ≤ j) → μ1.1 108 j = μ.1 108 j) ?_ ?_ W 0 μ n (by omega) (by omega) ⟨onlyA.rf _ _, fun v h => absurd h (Nat.not_lt_zero v), fun _ _ => rfl⟩
  · intro n μ1 ⟨o1, e1, e2⟩
    show wX9_layLeans_206 (n + 1) _ _ _ _ _
    have a0 : μ1.1 92 0 = nI W := by rw [o1.2 _ _ (by omega)]; exact h0
    simp (disch := omega) only [wX9_layLeans_206, s_mweeks, a0, nle, not_true_eq_false, not_false_eq_true, false_implies, true_implies, and_true, true_and, and_self, nmM, if_true, if_false, or0, Int32.add_zero, forall_const, one_ne, zero_ne1, nz1, nz0, nI_z, cl, inN, Nat.le_refl, Nat.lt_irrefl, Nat.lt_succ_self, Bool.false_eq_true]
    exact k μ1 o1 e1 e2
  · intro n i μ1 hi ⟨o1, e1, e2⟩ ih
    show wX9_layLeans_206 (n + 1) _ _ _ _ _
    have a0 : μ1.1 92 0 = nI W := by rw [o1.2 _ _ (by omega)]; exact h0
    have a1 : μ1.1 91 35 = nI c := by rw [o1.2 _ _ (by omega)]; exact h35
    have a2 : μ1.1 104 i = tu i := by rw [o1.2 _ _ (by omega)]; exact ht i hi
    have ix : 20 * nI c + nI i = nI (20 * c + i) := by rw [l20, pk_mul, nI_add]
    have hi' : ¬ W ≤ i := by omega
    simp (disch := omega) only [wX9_layLeans_206, s_mweeks, a0, a1, a2, nle, hi', ix, nI1, not_true_eq_false, not_false_eq_true, false_implies, true_implies, and_true, true_and, and_self, nmM, if_true, if_false, or0, Int32.add_zero, forall_const, one_ne, zero_ne1, nz1, nz0, nI_z, cl, inN, Nat.le_refl, Nat.lt_irrefl, Nat.lt_succ_self, Bool.false_eq_true]
    refine ih _ ⟨o1.put _ _, fun v hv => ?_, fun j hj => ?_⟩
    · by_cases e : v = i
      · rw [e, uIs]
      · rw [uIn _ _ (fun q => e (by omega))]; exact e1 v (by omega)
    · rw [uIn _ _ (fun q => by omega)]; exact e2 j hj
theorem ms_lay {n s p B : Nat} {f : Nat → Int64} {w : Nat → Int32} {μ0 μ : qa_M} {Q : Int32 → qa_M → Prop} (r : RZ w) (hw : μ0.1 92 = w) (s0 : sc μ0 μ) (S : SN μ0 s (2 * p) f) (gd : alls (prP f ((zW w : Int) - 1) (-400) 400) 0 p = true) (hN : 0 < zN w) (hB : B = 2 ^ zH w) (M0 : MS μ w (oS w (nI 0))) (J : MT μ w (fit w f p) 0) (hn : 400 < n) (k : ∀ μ', sc μ0 μ' → MT μ' w (fit w f p) B → Q 0 μ') : wX9_layLeans_112 n (nI s) μ Q := by
  have H8 := r.2.1.2.2.2.1
  have W20 := r.2.1.2.1
  have W1 := r.n0.2.2.2 hN
  have b1 := pw1 H8
  rw [← hB] at b1
  have lw : ((1 : Int32) <<< (nI (zH w) &&& 31)) = nI B := by rw [shN _ H8, hB]
  have lawo := r.law (by omega)
  refine inv_loopF 100 (fun n _ (σ : qa_M) => wX9_layLeans_112 n (nI s) σ Q) B (fun i σ => sc μ0 σ ∧ MT σ w (fit w f p) i ∧ MS σ w (oS w (nI i))) ?_ ?_ B 0 μ n (by omega) (by omega) ⟨s0, J, M0⟩
  · intro n μ1 hm ⟨s1, J1, M1⟩
    have e18 : μ1.1 91 18 = nI B := M1.2.2.1
    have h4 : μ1.1 92 4 = nI (zH w) := by rw [s1.w.trans hw]; exact r.1.2.2.2.1
    simp (disch := omega) only [wX9_layLeans_112, s_mhouses, h4, lw, e18, nle, not_true_eq_false, not_false_eq_true, false_implies, true_implies, and_true, true_and, and_self, nmM, if_true, if_false, or0, Int32.add_zero, forall_const, one_ne, zero_ne1, nz1, nz0, nI_z, cl, inN, Nat.le_refl, Nat.lt_irrefl, Nat.lt_succ_self, Bool.false_eq_true]
    exact k μ1 s1 J1
  · intro n i μ1 hm hi ⟨s1, J1, M1⟩ ih
    have e18 : μ1.1 91 18 = nI i := M1.2.2.1
    have h4 : μ1.1 92 4 = nI (zH w) := by rw [s1.w.trans hw]; exact r.1.2.2.2.1
    have hi' : ¬ B ≤ i := by omega
    have c1 : fb_ct (fit w f p) i ≤ i := fb_ct_le _ i
    simp (disch := omega) only [wX9_layLeans_112, s_mhouses, h4, lw, e18, nle, hi', not_true_eq_false, not_false_eq_true, false_implies, true_implies, and_true, true_and, and_self, nmM, if_true, if_false, or0, Int32.add_zero, forall_const, one_ne, zero_ne1, nz1, nz0, nI_z, cl, inN, Nat.le_refl, Nat.lt_irrefl, Nat.lt_succ_self, Bool.false_eq_true]
    refine m_try (o := oS w (nI i)) r hw s1 M1 (fun _ => lawo.1) (by omega) (fun μ2 s2 h2 M2 o2 E2 => ?_)
    obtain ⟨-, -, hW2, hH2, -, -, -, -, htu, -, -⟩ := id E2
    rw [ml_fits (S.sc s2) W20 gd htu (by omega)]
    have f18 : μ2.1 91 18 = nI i := M2.2.2.1
    have J2 : MT μ2 w (fit w f p) i := ⟨by rw [o2.2 _ _ (by omega) (by omega) (by omega) (by omega)]; exact J1.1, fun j hj hf => by rw [o2.2 _ _ (by omega) (by omega) (by omega) (by omega)]; exact J1.2.1 j hj hf, fun j hj hf v hv => by rw [o2.2 _ _ (by omega) (by omega) (by omega) (by omega)]; exact J1.2.2 j hj hf v hv⟩
    obtain ⟨j1, j2, j3⟩ := J2
    show (¬ (if fit w f p i = true then (1 : Int32) else 0) = 0 → _) ∧ ((if fit w f p i = true then (1 : Int32) else 0) = 0 → _)
    cases q : fit w f p i
    · simp only [wX9_layLeans_250, f18, nI1, not_true_eq_false, not_false_eq_true, false_implies, true_implies, and_true, true_and, and_self, nmM, if_true, if_false, or0, Int32.add_zero, forall_const, one_ne, zero_ne1, nz1, nz0, nI_z, cl, inN, Nat.le_refl, Nat.lt_irrefl, Nat.lt_succ_self, Bool.false_eq_true]
      refine ih _ ⟨s2.put91 18 _ (by omega), ⟨by rw [ct_f q, uIn _ _ (fun e => by omega)]; exact j1, fun j hj hf => ?_, fun j hj hf v hv => ?_⟩, M2.lean (nI (i + 1))⟩
      · rw [uIn _ _ (fun e => by omega)]
        by_cases e : j = i
        · rw [e, q] at hf; cases hf
        · exact j2 j (by omega) hf
      · rw [uIn _ _ (fun e => by omega)]
        by_cases e : j = i
        · rw [e, q] at hf; cases hf
        · exact j3 j (by omega) hf v hv
    · simp (disch := omega) only [j1, f18, not_true_eq_false, not_false_eq_true, false_implies, true_implies, and_true, true_and, and_self, nmM, if_true, if_false, or0, Int32.add_zero, forall_const, one_ne, zero_ne1, nz1, nz0, nI_z, cl, inN, Nat.le_refl, Nat.lt_irrefl, Nat.lt_succ_self, Bool.false_eq_true]
      refine ml_row (c := fb_ct (fit w f p) i) (tu := ytu w (oS w (nI i))) hW2 htu (by rw [uIn _ _ (fun e => by omega)]; exact j1) (by omega) W20 (by omega) (fun μ3 o3 e3 e3' => ?_)
      have g35 : μ3.1 91 35 = nI (fb_ct (fit w f p) i) := by rw [o3.2 _ _ (by omega), uIn _ _ (fun e => by omega)]; exact j1
      have g18 : μ3.1 91 18 = nI i := by rw [o3.2 _ _ (by omega), uIn _ _ (fun e => by omega)]; exact f18
      have i18 : ∀ x, (qa_uI μ3 91 35 x).1 91 18 = nI i := fun x => by rw [uIn _ _ (fun e => by omega)]; exact g18
      simp only [g35, wX9_layLeans_250, i18, nI1, not_true_eq_false, not_false_eq_true, false_implies, true_implies, and_true, true_and, and_self, nmM, if_true, if_false, or0, Int32.add_zero, forall_const, one_ne, zero_ne1, nz1, nz0, nI_z, cl, inN, Nat.le_refl, Nat.lt_irrefl, Nat.lt_succ_self, Bool.false_eq_true]
      have M3 : MS μ3 w (oS w (nI i)) := M2.cong (fun j _ _ => by rw [o3.2 _ _ (by omega), uIn _ _ (fun e => by omega)]) (fun b j hb => by rw [o3.2 _ _ (by omega), uIn _ _ (fun e => by omega)])
      have s3 : sc μ0 μ3 := (s2.put (b := 107) _ _ (by omega)).onl o3 (by omega)
      have k107 : ∀ j, μ3.1 107 j = if j = fb_ct (fit w f p) i then nI i else μ2.1 107 j := fun j => by
        rw [o3.2 _ _ (by omega), uI1]
        by_cases e : j = fb_ct (fit w f p) i
        · rw [if_pos ⟨rfl, e⟩, if_pos e]
        · rw [if_neg (fun q => e q.2), if_neg e]
      refine ih _ ⟨(s3.put91 35 _ (by omega)).put91 18 _ (by omega), ⟨by rw [ct_t q, uIn _ _ (fun e => by omega), uIs], fun j hj hf => ?_, fun j hj hf v hv => ?_⟩, (M3.other 35 _ (by omega)).lean (nI (i + 1))⟩
      · rw [uIn _ _ (fun e => by omega), uIn _ _ (fun e => by omega), k107]
        by_cases e : j = i
        · rw [e, if_pos rfl]
        · have m1 : fb_ct (fit w f p) (j + 1) ≤ fb_ct (fit w f p) i := fb_ct_mono _ (by omega)
          rw [ct_t hf] at m1
          rw [if_neg (by omega)]
          exact j2 j (by omega) hf
      · rw [uIn _ _ (fun e => by omega), uIn _ _ (fun e => by omega)]
        by_cases e : j = i
        · rw [e]; exact e3 v hv
        · have m1 : fb_ct (fit w f p) (j + 1) ≤ fb_ct (fit w f p) i := fb_ct_mono _ (by omega)
          rw [ct_t hf] at m1
          rw [e3' _ (by omega), uIn _ _ (fun e => by omega)]
          exact j3 j (by omega) hf v hv
theorem m_goodL {n s p B : Nat} {f : Nat → Int64} {v : Int32} {w : Nat → Int32} {μ : qa_M} {Q : Int32 → qa_M → Prop} (r : RZ w) (hw : μ.1 92 = w) (D : GOOD μ w v ((zW w : Int) - 1) (-400) 400 s p f) (hB : B = 2 ^ zH w) (hn : 500 < n) (k : ∀ μ', sc μ μ' → MT μ' w (fit w f p) B → Q 0 μ') : wX9_layLeans n v μ Q := by
  unfold wX9_layLeans
  obtain ⟨rfl, gT, S, q⟩ := D
  have m60 := S.1.2
  have hs := S.1.1
  have h3 := S.2.2.1
  have ev : nI (2 * p) - nI (2 * p) / 2 * 2 = 0 := by rw [ev2 m60, show 2 * p % 2 = 0 by omega]; rfl
  simp (disch := omega) only [mS1 hs, mT1 hw r gT, h3, nI_n1, ev, ml_pairs r hw gT S, q, not_true_eq_false, not_false_eq_true, false_implies, true_implies, and_true, true_and, and_self, nmM, if_true, if_false, or0, Int32.add_zero, forall_const, one_ne, zero_ne1, nz1, nz0, nI_z, cl, inN, Nat.le_refl, Nat.lt_irrefl, Nat.lt_succ_self, Bool.false_eq_true]
  refine m_lay hw r (by omega) (fun μ1 a1 a2 a3 M1 => ?_)
  have s1 : sc μ μ1 := (sc.rf μ).lay a1 a2 a3
  refine ms_lay r hw ((s1.put91 35 _ (by omega)).put91 18 _ (by omega)) S q gT hB ((M1.other 35 _ (by omega)).lean (nI 0)) ⟨?_, fun j hj => absurd hj (Nat.not_lt_zero j), fun j hj => absurd hj (Nat.not_lt_zero j)⟩ (by omega) k
  rw [uIn _ _ (fun e => by omega), uIs]
  rfl
theorem refT {n : Nat} {v : Int32} {w : Nat → Int32} {μ : qa_M} {Q : Int32 → qa_M → Prop} (r : RZ w) (T : TZ μ (μ.2.2 1 2) w) : wX8_refuseTurns n v μ Q = wX8_refusePairs n v (nI (zW w) - 1) (-400) 400 μ Q := by
  unfold wX8_refuseTurns
  rw [T.1.2.1]
theorem Wm1 {w : Nat → Int32} (r : RZ w) : (nI (zW w) - 1).toInt = (zW w : Int) - 1 := by
  have := r.2.1.2.1
  exact pk_sub_toInt (b := 1) (by omega) (by decide)
theorem Hm1 {w : Nat → Int32} (r : RZ w) : (nI (zH w) - 1).toInt = (zH w : Int) - 1 := by
  have := r.2.1.2.2.2.1
  exact pk_sub_toInt (b := 1) (by omega) (by decide)
theorem bad_neg {μ : qa_M} {w : Nat → Int32} {v : Int32} {A B C : Int} {c : Int32} (h : BAD μ w v A B C c) : ¬ c = 0 ∧ ¬ 0 ≤ c := by
  rcases h with ⟨-, rfl⟩ | ⟨s, -, -, ⟨-, rfl⟩ | ⟨-, ⟨-, -, rfl⟩ | ⟨m, f, -, rfl, -⟩⟩⟩ <;> decide
