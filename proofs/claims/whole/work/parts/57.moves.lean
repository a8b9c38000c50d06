def ixT (x : Int32) : Nat := (x + 400).toNatClampNeg
def cT (TW : Nat → Int32) (i p : Nat) : Nat := fb_ct (fun j => decide (ixT (TW j) = p)) i
def mvF (TW : Nat → Int32) (i : Nat) (s : Int32) : Int32 := if cT TW i (ixT (TW i)) = 0 then s + 1 else s
theorem cT_le (TW : Nat → Int32) (i p : Nat) : cT TW i p ≤ i := fb_ct_le _ i
theorem cT_succ (TW : Nat → Int32) (i p : Nat) : cT TW (i + 1) p = cT TW i p + (if ixT (TW i) = p then 1 else 0) := by
  unfold cT
  rw [fb_ct_succ]
  by_cases h : ixT (TW i) = p <;> simp [h]
theorem ixT_rng {x : Int32} (h1 : -320 ≤ x.toInt) (h2 : x.toInt ≤ 320) : ixT x < 801 ∧ x + 400 = nI (ixT x) ∧ (x < -400) = False ∧ (x ≤ 400) = True := by
  have e : (x + 400).toInt = x.toInt + 400 := by
    rw [fb_addI (by show -2147483648 ≤ x.toInt + 400; omega) (by show x.toInt + 400 < 2147483648; omega)]
    rfl
  have e2 : ixT x = (x.toInt + 400).toNat := by
    unfold ixT
    show (x + 400).toInt.toNat = _
    rw [e]
  refine ⟨by rw [e2]; omega, ?_, ?_, ?_⟩
  · rw [fa_eq, e, nI_toInt (by rw [e2]; omega), e2]
    omega
  · apply propext
    rw [fa_lt, show (-400 : Int32).toInt = -400 from rfl]
    exact ⟨fun h => by omega, fun h => h.elim⟩
  · apply propext
    rw [fa_le, show (400 : Int32).toInt = 400 from rfl]
    exact ⟨fun h => trivial, fun h => by omega⟩
theorem nI_one {c : Nat} (h : c < 1000) : (nI (c + 1) = 1) = (c = 0) := by
  rw [l1, neq _ _ (by omega) (by decide)]
  apply propext
  omega
theorem xs_moves {n v B : Nat} {w : Nat → Int32} {μ0 μ : qa_M} {Q : Int32 → qa_M → Prop} (I : INV μ0) (hw : μ0.1 92 = w) (s0 : sc μ0 μ) (z : ∀ p, p < 801 → μ.1 45 p = 0) (hB : B = 2 ^ zH w) (hv : v < zW w) (hn : 400 < n) (k : ∀ μ', sc μ0 μ' → Q (itr (mvF (fun i => TWv w v (nI i))) 0 B 0) μ') : wX8_moves_22 n (nI v) 0 0 μ Q := by
  obtain ⟨r, -, -, -⟩ := I.facts hw
  have H8 := r.2.1.2.2.2.1
  have b1 := pw1 H8
  rw [← hB] at b1
  have lw : ((1 : Int32) <<< (nI (zH w) &&& 31)) - 1 = nI (B - 1) := by rw [lowN _ H8, hB]
  have lawo := r.law (by omega)
  refine inv_loopF 60 (fun n i (σ : Int32 × qa_M) => wX8_moves_22 n (nI v) σ.1 i σ.2 Q) B (fun i σ => σ.1 = itr (mvF (fun i => TWv w v (nI i))) 0 i 0 ∧ sc μ0 σ.2 ∧ ∀ p, p < 801 → σ.2.1 45 p = nI (cT (fun i => TWv w v (nI i)) i p)) ?_ ?_ B 0 (0, μ) n (by omega) (by omega) ⟨rfl, s0, fun p hp => z p hp⟩
  · intro n ⟨c, μ1⟩ hm ⟨e1, s1, t1⟩
    dsimp only at e1 s1 t1 ⊢
    obtain ⟨-, T, E, G⟩ := (I.sc s1).facts (s1.w.trans hw)
    have cc : B - 1 < B := by omega
    simp (disch := omega) only [wX8_moves_22, E.2.2.2.1, s_lowBits, lw, nlt, cc, not_true_eq_false, not_false_eq_true, false_implies, true_implies, and_true, true_and, and_self, nmM, if_true, if_false, or0, Int32.add_zero, forall_const, one_ne, zero_ne1, nz1, nz0, nI_z, cl, inN, Nat.le_refl, Nat.lt_irrefl, Nat.lt_succ_self]
    rw [e1]
    exact k μ1 s1
  · intro n i ⟨c, μ1⟩ hm hi ⟨e1, s1, t1⟩ ih
    dsimp only at e1 s1 t1 ⊢
    obtain ⟨-, T, E, G⟩ := (I.sc s1).facts (s1.w.trans hw)
    have hi' : ¬ B - 1 < i := by omega
    obtain ⟨g1, g2⟩ := TWv_rng r (by omega) v (nI i)
    obtain ⟨x1, x2, x3, x4⟩ := ixT_rng g1 g2
    have cl1 := cT_le (fun i => TWv w v (nI i)) i (ixT (TWv w v (nI i)))
    simp (disch := omega) only [wX8_moves_22, E.2.2.2.1, s_lowBits, lw, nlt, hi', x_without E hv T.1.2.2.1 T.1.2.2.2.1 T.1.2.2.2.2.2.2.2.2.2.1 lawo.1 lawo.2, show yTurn (zH w) (w 1) (nI (zK w)) v (FWv (ypp w (oT w)) (leanW w) (zH w) v (nI i)) = TWv w v (nI i) from rfl, wX5_add, x3, x4, x2, t1, uIs, nI1, nI_one, not_true_eq_false, not_false_eq_true, false_implies, true_implies, and_true, true_and, and_self, nmM, if_true, if_false, or0, Int32.add_zero, forall_const, one_ne, zero_ne1, nz1, nz0, nI_z, cl, inN, Nat.le_refl, Nat.lt_irrefl, Nat.lt_succ_self]
    have s2 := s1.put (b := 45) (ixT (TWv w v (nI i))) (nI (cT (fun i => TWv w v (nI i)) i (ixT (TWv w v (nI i))) + 1)) (by omega)
    have t2 : ∀ p, p < 801 → (qa_uI μ1 45 (ixT (TWv w v (nI i))) (nI (cT (fun i => TWv w v (nI i)) i (ixT (TWv w v (nI i))) + 1))).1 45 p = nI (cT (fun i => TWv w v (nI i)) (i + 1) p) := by
      intro p hp
      rw [uI1, cT_succ]
      by_cases e : ixT (TWv w v (nI i)) = p
      · rw [if_pos ⟨rfl, e.symm⟩, if_pos e, e]
      · rw [if_neg (fun q => e q.2.symm), if_neg e, Nat.add_zero]; exact t1 p hp
    have stp : itr (mvF (fun i => TWv w v (nI i))) 0 (i + 1) 0 = mvF (fun i => TWv w v (nI i)) i c := by rw [itr_succ, Nat.zero_add, e1]
    refine ⟨fun h => ih (c, _) ⟨?_, s2, t2⟩, fun h => ih (c + 1, _) ⟨?_, s2, t2⟩⟩
    · rw [stp]; unfold mvF; rw [if_neg h]
    · rw [stp]; unfold mvF; rw [if_pos h]
theorem ms_zero {n v : Nat} {μ : qa_M} {K Q : Int32 → qa_M → Prop} (hn : 810 < n) (k : ∀ μ', onlyA 105 μ μ' → (∀ p, p < 801 → μ'.1 105 p = 0) → K (nI v) μ') : wX9_moves_13 n (nI v) 0 μ K Q := by
  refine inv_loop (fun n i s => wX9_moves_13 n (nI v) i s K Q) 801 (fun i μ' => onlyA 105 μ μ' ∧ ∀ j, j < i → μ'.1 105 j = 0) ?_ ?_ 801 0 μ n (by omega) (by omega) ⟨onlyA.rf _ μ, fun j hj => absurd hj (Nat.not_lt_zero j)⟩
  · intro n s ⟨h1, h2⟩
    show wX9_moves_13 (n + 1) _ _ _ _ _
    rw [wX9_moves_13]
    exact ⟨fun _ => k s h1 h2, fun h => absurd (by decide) h⟩
  · intro n i s hi ⟨h1, h2⟩ ih
    show wX9_moves_13 (n + 1) _ _ _ _ _
    rw [wX9_moves_13, show (800 : Int32) = nI 800 from rfl, nlt _ _ (by decide) (by omega)]
    refine ⟨fun h => absurd h (by omega), fun _ => ⟨inN hi (by decide), ?_⟩⟩
    rw [nmM, cl (by omega), nI1]
    refine ih _ ⟨h1.put i 0, fun j hj => ?_⟩
    by_cases e : j = i
    · rw [e, uIs]
    · rw [uIn _ _ (fun q => e q.2)]; exact h2 j (by omega)
def onlyB (μ μ' : qa_M) : Prop := μ'.2 = μ.2 ∧ ∀ b j, b ≠ 102 → b ≠ 105 → μ'.1 b j = μ.1 b j
theorem ms_moves {n v B : Nat} {w : Nat → Int32} {μ : qa_M} {Q : Int32 → qa_M → Prop} (r : RZ w) (hw : μ.1 92 = w) (M : MS μ w (oT w)) (hB : B = 2 ^ zH w) (hpl : ∀ h, h < zH w → μ.1 101 (v * 8 + h) = nI (yp w (oT w) v h)) (hv : v < zW w) (z : ∀ p, p < 801 → μ.1 105 p = 0) (hn : 400 < n) (k : ∀ μ', onlyB μ μ' → Q (itr (mvF (fun i => TWv w v (nI i))) 0 B 0) μ') : wX9_moves_37 n (nI v) 0 0 μ Q := by
  have H8 := r.2.1.2.2.2.1
  have b1 := pw1 H8
  rw [← hB] at b1
  have lw : (1 : Int32) <<< (nI (zH w) &&& 31) = nI B := by rw [shN _ H8, hB]
  have keep : ∀ {μ1 : qa_M}, onlyB μ μ1 → μ1.1 92 = w ∧ μ1.1 92 4 = nI (zH w) ∧ MS μ1 w (oT w) ∧ ∀ h, h < zH w → μ1.1 101 (v * 8 + h) = nI (yp w (oT w) v h) := by
    intro μ1 o1
    have e92 : μ1.1 92 = w := by rw [← hw]; exact funext (fun j => o1.2 92 j (by omega) (by omega))
    obtain ⟨m1, m2, m3, m4, m5, m6, m7, m8, m9⟩ := M
    have e91 : ∀ j, μ1.1 91 j = μ.1 91 j := fun j => o1.2 _ _ (by omega) (by omega)
    exact ⟨e92, by rw [e92]; exact r.1.2.2.2.1, ⟨by rw [e91]; exact m1, by rw [e91]; exact m2, by rw [e91]; exact m3, by rw [e91]; exact m4, by rw [e91]; exact m5, by rw [e91, e91]; exact m6, fun p hp => by rw [o1.2 _ _ (by omega) (by omega)]; exact m7 p hp, fun p hp => by rw [o1.2 _ _ (by omega) (by omega)]; exact m8 p hp, fun p hp => by rw [o1.2 _ _ (by omega) (by omega)]; exact m9 p hp⟩, fun h hh => by rw [o1.2 _ _ (by omega) (by omega)]; exact hpl h hh⟩
  refine inv_loopF 60 (fun n i (σ : Int32 × qa_M) => wX9_moves_37 n (nI v) σ.1 i σ.2 Q) B (fun i σ => σ.1 = itr (mvF (fun i => TWv w v (nI i))) 0 i 0 ∧ onlyB μ σ.2 ∧ ∀ p, p < 801 → σ.2.1 105 p = if cT (fun i => TWv w v (nI i)) i p = 0 then 0 else 1) ?_ ?_ B 0 (0, μ) n (by omega) (by omega) ⟨rfl, ⟨rfl, fun _ _ _ _ => rfl⟩, fun p hp => z p hp⟩
  · intro n ⟨c, μ1⟩ hm ⟨e1, o1, t1⟩
    obtain ⟨k1, k2, k3, k4⟩ := keep o1
    dsimp only at e1 o1 t1 k1 k2 k3 k4 ⊢
    simp (disch := omega) only [wX9_moves_37, s_mhouses, k2, lw, nle, not_true_eq_false, not_false_eq_true, false_implies, true_implies, and_true, true_and, and_self, nmM, if_true, if_false, or0, Int32.add_zero, forall_const, one_ne, zero_ne1, nz1, nz0, nI_z, cl, inN, Nat.le_refl, Nat.lt_irrefl, Nat.lt_succ_self]
    rw [e1]
    exact k μ1 o1
  · intro n i ⟨c, μ1⟩ hm hi ⟨e1, o1, t1⟩ ih
    obtain ⟨k1, k2, k3, k4⟩ := keep o1
    dsimp only at e1 o1 t1 k1 k2 k3 k4 ⊢
    have hi' : ¬ B ≤ i := by omega
    obtain ⟨g1, g2⟩ := TWv_rng r (by omega) v (nI i)
    obtain ⟨x1, x2, x3, x4⟩ := ixT_rng g1 g2
    simp (disch := omega) only [wX9_moves_37, s_mhouses, k2, lw, nle, hi', not_true_eq_false, not_false_eq_true, false_implies, true_implies, and_true, true_and, and_self, nmM, if_true, if_false, or0, Int32.add_zero, forall_const, one_ne, zero_ne1, nz1, nz0, nI_z, cl, inN, Nat.le_refl, Nat.lt_irrefl, Nat.lt_succ_self]
    refine m_without r k1 k3 k4 hv (by omega) (fun μ2 o2 => ?_)
    have o12 : onlyB μ μ2 := ⟨o2.1.trans o1.1, fun b j h1 h2 => (o2.2 b j h1).trans (o1.2 b j h1 h2)⟩
    have t2 : ∀ p, p < 801 → μ2.1 105 p = if cT (fun i => TWv w v (nI i)) i p = 0 then 0 else 1 := fun p hp => by rw [o2.2 _ _ (by omega)]; exact t1 p hp
    rw [Int32.add_comm, x2, cl (by omega), t2 _ x1]
    have stp : itr (mvF (fun i => TWv w v (nI i))) 0 (i + 1) 0 = mvF (fun i => TWv w v (nI i)) i c := by rw [itr_succ, Nat.zero_add, e1]
    have nx : ∀ x, mvF (fun i => TWv w v (nI i)) i c = c + x → wX9_moves_80 n (nI v) (nI i) (nI (ixT (TWv w v (nI i)))) x c μ2 (fun v1 v2 v3 μk => wX9_moves_37 n v1 v2 v3 μk Q) Q := by
      intro x hx
      unfold wX9_moves_80
      rw [nmM, nmM, cl (by omega), nI1]
      refine ⟨inN x1 (by decide), ih (c + x, qa_uI μ2 105 (ixT (TWv w v (nI i))) 1) ⟨by rw [stp, hx], ⟨o12.1, fun b j h1 h2 => by show (qa_uI μ2 105 (ixT (TWv w v (nI i))) 1).1 b j = _; rw [uIn _ _ (fun e => h2 e.1)]; exact o12.2 b j h1 h2⟩, fun p hp => ?_⟩⟩
      show (qa_uI μ2 105 (ixT (TWv w v (nI i))) 1).1 105 p = _
      rw [uI1, cT_succ]
      by_cases e : ixT (TWv w v (nI i)) = p
      · rw [if_pos ⟨rfl, e.symm⟩, if_pos e, if_neg (by omega)]
      · rw [if_neg (fun q => e q.2.symm), if_neg e, Nat.add_zero]; exact t2 p hp
    refine ⟨inN x1 (by decide), fun h => ?_, fun h => ?_⟩
    · refine nx 1 ?_
      unfold mvF
      rw [if_pos]
      by_cases q : cT (fun i => TWv w v (nI i)) i (ixT (TWv w v (nI i))) = 0
      · exact q
      · rw [if_neg q] at h; exact absurd h (by decide)
    · refine nx 0 ?_
      unfold mvF
      rw [if_neg, Int32.add_zero]
      intro q
      rw [if_pos q] at h
      exact h rfl
theorem xTn1 {n : Nat} {v : Int32} {μ : qa_M} {Q : Int32 → qa_M → Prop} (h : -400 ≤ v.toInt ∧ v.toInt ≤ 400) : wX8_isTurn n v μ Q ↔ Q 1 μ := by
  rw [s_isTurn, qb_p (by exact h)]
theorem xTn0 {n : Nat} {v : Int32} {μ : qa_M} {Q : Int32 → qa_M → Prop} (h : ¬ (-400 ≤ v.toInt ∧ v.toInt ≤ 400)) : wX8_isTurn n v μ Q ↔ Q 0 μ := by
  rw [s_isTurn, qb_n (by exact h)]
theorem c_45 {Ln n : Nat} {xs : Nat → Int32} {K : Int32 → qa_M → Prop} {i : Int32} {μ : qa_M} (I : INV μ) (hn : 2000 ≤ n) (k : ∀ μ', INV μ' → K (i + 6) μ') (v1 : vp_in (i + 1) Ln) (v2 : vp_in (i + 2) Ln) (v3 : vp_in (i + 3) Ln) (v4 : vp_in (i + 4) Ln) (v5 : vp_in (i + 5) Ln) : wLc_45 Ln xs n K i μ := by
  unfold wLc_45
  simp only [v1, v2, v3, v4, v5, true_and]
  generalize xs (i + 1).toNatClampNeg = a
  generalize xs (i + 2).toNatClampNeg = b
  obtain ⟨w, hw⟩ : ∃ w, μ.1 92 = w := ⟨_, rfl⟩
  obtain ⟨r, T, E, G⟩ := I.facts hw
  obtain ⟨r1, r2, r3, r4⟩ := r.n0
  have L8 := G.1
  have N1 := r.2.1.1
  obtain ⟨W20, H8, hW, hH, plt, hpl, hpp, hfo, htu, hsu, hsm⟩ := id E
  by_cases ga : 0 < zN w ∧ 0 ≤ a.toInt ∧ a.toInt < (zW w : Int)
  · have n0 := ga.1
    obtain ⟨a, ha, rfl⟩ := gN ga.2 (by omega)
    have lawo := r.law (by omega)
    obtain ⟨B, hB⟩ : ∃ B, B = 2 ^ zH w := ⟨_, rfl⟩
    have pw := pw1 H8
    rw [← hB] at pw
    by_cases gb : -400 ≤ b.toInt ∧ b.toInt ≤ 400
    · have bd : ∀ p, itr (styF (fun i => TWv w a (nI i)) b) 0 B none = some p → p < B := by
        have := itr_inv (f := styF (fun i => TWv w a (nI i)) b) (fun _ (s : Option Nat) => ∀ p, s = some p → p < B) B 0 none (fun p e => nomatch e) (fun j s _ hj hs => sty_lt (by omega) hs)
        exact this
      simp (disch := omega) only [wX8_stay, xA1 T r, xTn1 gb, xl_stay E hB ha T.1.2.2.1 T.1.2.2.2.1 T.1.2.2.2.2.2.2.2.2.2.1 lawo.1 lawo.2, not_true_eq_false, not_false_eq_true, false_implies, true_implies, and_true, true_and, and_self, nmM, if_true, if_false, or0, Int32.add_zero, forall_const, one_ne, zero_ne1, nz1, nz0, nI_z, cl, inN]
      rw [show (fun i => yTurn (zH w) (w 1) (nI (zK w)) a (FWv (ypp w (oT w)) (leanW w) (zH w) a (nI i))) = (fun i => TWv w a (nI i)) from rfl]
      simp only [wX9_stay, wX9_asksAhead]
      generalize hS : itr (styF (fun i => TWv w a (nI i)) b) 0 B none = S at bd
      cases S with
      | none =>
        simp (disch := omega) only [oI, not_true_eq_false, not_false_eq_true, false_implies, true_implies, and_true, true_and, and_self, nmM, if_true, if_false, or0, Int32.add_zero, forall_const, one_ne, zero_ne1, nz1, nz0, nI_z, cl, inN]
        refine m_asks2 hw r (by omega) (fun μ' s h' M E' => ?_)
        simp (disch := omega) only [mA1 h' r, mIn1 (v := b) (lo := -400) (hi := 400) gb, not_true_eq_false, not_false_eq_true, false_implies, true_implies, and_true, true_and, and_self, nmM, if_true, if_false, or0, Int32.add_zero, forall_const, one_ne, zero_ne1, nz1, nz0, nI_z, cl, inN]
        refine ms_stay r h' M hB (fun h hh => E'.2.2.2.2.2.1 a (by omega) h hh) ha (by omega) (fun μ2 o2 => ?_)
        rw [hS]
        simp (disch := omega) only [oI, not_true_eq_false, not_false_eq_true, false_implies, true_implies, and_true, true_and, and_self, nmM, if_true, if_false, or0, Int32.add_zero, forall_const, one_ne, zero_ne1, nz1, nz0, nI_z, cl, inN]
        exact k μ2 (I.sc (s.onl o2 (by omega)))
      | some p =>
        have hp := bd p rfl
        simp (disch := omega) only [oI, neg1_ne, s_bitCount, not_true_eq_false, not_false_eq_true, false_implies, true_implies, and_true, true_and, and_self, nmM, if_true, if_false, or0, Int32.add_zero, forall_const, one_ne, zero_ne1, nz1, nz0, nI_z, cl, inN]
        refine m_asks2 hw r (by omega) (fun μ' s h' M E' => ?_)
        simp (disch := omega) only [mA1 h' r, mIn1 (v := b) (lo := -400) (hi := 400) gb, not_true_eq_false, not_false_eq_true, false_implies, true_implies, and_true, true_and, and_self, nmM, if_true, if_false, or0, Int32.add_zero, forall_const, one_ne, zero_ne1, nz1, nz0, nI_z, cl, inN]
        refine ms_stay r h' M hB (fun h hh => E'.2.2.2.2.2.1 a (by omega) h hh) ha (by omega) (fun μ2 o2 => ?_)
        rw [hS]
        simp (disch := omega) only [oI, neg1_ne, s_bits, not_true_eq_false, not_false_eq_true, false_implies, true_implies, and_true, true_and, and_self, nmM, if_true, if_false, or0, Int32.add_zero, forall_const, one_ne, zero_ne1, nz1, nz0, nI_z, cl, inN]
        exact k μ2 (I.sc (s.onl o2 (by omega)))
    · simp (disch := omega) only [wX8_stay, xA1 T r, xTn0 gb, not_true_eq_false, not_false_eq_true, false_implies, true_implies, and_true, true_and, and_self, nmM, if_true, if_false, or0, Int32.add_zero, forall_const, one_ne, zero_ne1, nz1, nz0, nI_z, cl, inN]
      simp only [wX9_stay, wX9_asksAhead]
      refine m_asks2 hw r (by omega) (fun μ' s h' M E' => ?_)
      simp (disch := omega) only [mA1 h' r, mIn0 (v := b) (lo := -400) (hi := 400) gb, not_true_eq_false, not_false_eq_true, false_implies, true_implies, and_true, true_and, and_self, nmM, if_true, if_false, or0, Int32.add_zero, forall_const, one_ne, zero_ne1, nz1, nz0, nI_z, cl, inN]
      exact k μ' (I.sc s)
  · simp (disch := omega) only [wX8_stay, xA0 T r ga, not_true_eq_false, not_false_eq_true, false_implies, true_implies, and_true, true_and, and_self, nmM, if_true, if_false, or0, Int32.add_zero, forall_const, one_ne, zero_ne1, nz1, nz0, nI_z, cl, inN]
    simp only [wX9_stay, wX9_asksAhead]
    refine m_asks2 hw r (by omega) (fun μ' s h' M E' => ?_)
    simp (disch := omega) only [mA0 h' r ga, not_true_eq_false, not_false_eq_true, false_implies, true_implies, and_true, true_and, and_self, nmM, if_true, if_false, or0, Int32.add_zero, forall_const, one_ne, zero_ne1, nz1, nz0, nI_z, cl, inN]
    exact k μ' (I.sc s)
theorem c_46 {Ln n : Nat} {xs : Nat → Int32} {K : Int32 → qa_M → Prop} {i : Int32} {μ : qa_M} (I : INV μ) (hn : 2000 ≤ n) (k : ∀ μ', INV μ' → K (i + 6) μ') (v1 : vp_in (i + 1) Ln) (v2 : vp_in (i + 2) Ln) (v3 : vp_in (i + 3) Ln) (v4 : vp_in (i + 4) Ln) (v5 : vp_in (i + 5) Ln) : wLc_46 Ln xs n K i μ := by
  unfold wLc_46
  simp only [v1, v2, v3, v4, v5, true_and]
  generalize xs (i + 1).toNatClampNeg = a
  generalize xs (i + 2).toNatClampNeg = b
  obtain ⟨w, hw⟩ : ∃ w, μ.1 92 = w := ⟨_, rfl⟩
  obtain ⟨r, T, E, G⟩ := I.facts hw
  obtain ⟨r1, r2, r3, r4⟩ := r.n0
  have L8 := G.1
  have N1 := r.2.1.1
  obtain ⟨W20, H8, hW, hH, plt, hpl, hpp, hfo, htu, hsu, hsm⟩ := id E
  by_cases ga : 0 < zN w ∧ 0 ≤ a.toInt ∧ a.toInt < (zW w : Int)
  · have n0 := ga.1
    obtain ⟨a, ha, rfl⟩ := gN ga.2 (by omega)
    have lawo := r.law (by omega)
    obtain ⟨B, hB⟩ : ∃ B, B = 2 ^ zH w := ⟨_, rfl⟩
    have pw := pw1 H8
    rw [← hB] at pw
    by_cases gb : -400 ≤ b.toInt ∧ b.toInt ≤ 400
    · have bd : ∀ p, itr (styF (fun i => TWv w a (nI i)) b) 0 B none = some p → p < B := by
        have := itr_inv (f := styF (fun i => TWv w a (nI i)) b) (fun _ (s : Option Nat) => ∀ p, s = some p → p < B) B 0 none (fun p e => nomatch e) (fun j s _ hj hs => sty_lt (by omega) hs)
        exact this
      simp (disch := omega) only [wX8_stays, xA1 T r, xTn1 gb, xl_stay E hB ha T.1.2.2.1 T.1.2.2.2.1 T.1.2.2.2.2.2.2.2.2.2.1 lawo.1 lawo.2, not_true_eq_false, not_false_eq_true, false_implies, true_implies, and_true, true_and, and_self, nmM, if_true, if_false, or0, Int32.add_zero, forall_const, one_ne, zero_ne1, nz1, nz0, nI_z, cl, inN]
      simp only [wX9_stays, wX9_asksAhead]
      refine m_asks2 hw r (by omega) (fun μ' s h' M E' => ?_)
      simp (disch := omega) only [mA1 h' r, mIn1 (v := b) (lo := -400) (hi := 400) gb, not_true_eq_false, not_false_eq_true, false_implies, true_implies, and_true, true_and, and_self, nmM, if_true, if_false, or0, Int32.add_zero, forall_const, one_ne, zero_ne1, nz1, nz0, nI_z, cl, inN]
      refine ms_stay r h' M hB (fun h hh => E'.2.2.2.2.2.1 a (by omega) h hh) ha (by omega) (fun μ2 o2 => ?_)
      exact fin (k μ2 (I.sc (s.onl o2 (by omega))))
    · simp (disch := omega) only [wX8_stays, xA1 T r, xTn0 gb, not_true_eq_false, not_false_eq_true, false_implies, true_implies, and_true, true_and, and_self, nmM, if_true, if_false, or0, Int32.add_zero, forall_const, one_ne, zero_ne1, nz1, nz0, nI_z, cl, inN]
      simp only [wX9_stays, wX9_asksAhead]
      refine m_asks2 hw r (by omega) (fun μ' s h' M E' => ?_)
      simp (disch := omega) only [mA1 h' r, mIn0 (v := b) (lo := -400) (hi := 400) gb, not_true_eq_false, not_false_eq_true, false_implies, true_implies, and_true, true_and, and_self, nmM, if_true, if_false, or0, Int32.add_zero, forall_const, one_ne, zero_ne1, nz1, nz0, nI_z, cl, inN]
      exact k μ' (I.sc s)
  · simp (disch := omega) only [wX8_stays, xA0 T r ga, not_true_eq_false, not_false_eq_true, false_implies, true_implies, and_true, true_and, and_self, nmM, if_true, if_false, or0, Int32.add_zero, forall_const, one_ne, zero_ne1, nz1, nz0, nI_z, cl, inN]
    simp only [wX9_stays, wX9_asksAhead]
    refine m_asks2 hw r (by omega) (fun μ' s h' M E' => ?_)
    simp (disch := omega) only [mA0 h' r ga, not_true_eq_false, not_false_eq_true, false_implies, true_implies, and_true, true_and, and_self, nmM, if_true, if_false, or0, Int32.add_zero, forall_const, one_ne, zero_ne1, nz1, nz0, nI_z, cl, inN]
    exact k μ' (I.sc s)
theorem c_47 {Ln n : Nat} {xs : Nat → Int32} {K : Int32 → qa_M → Prop} {i : Int32} {μ : qa_M} (I : INV μ) (hn : 2000 ≤ n) (k : ∀ μ', INV μ' → K (i + 6) μ') (v1 : vp_in (i + 1) Ln) (v2 : vp_in (i + 2) Ln) (v3 : vp_in (i + 3) Ln) (v4 : vp_in (i + 4) Ln) (v5 : vp_in (i + 5) Ln) : wLc_47 Ln xs n K i μ := by
  unfold wLc_47
  simp only [v1, v2, v3, v4, v5, true_and]
  generalize xs (i + 1).toNatClampNeg = a
  obtain ⟨w, hw⟩ : ∃ w, μ.1 92 = w := ⟨_, rfl⟩
  obtain ⟨r, T, E, G⟩ := I.facts hw
  obtain ⟨r1, r2, r3, r4⟩ := r.n0
  have L8 := G.1
  have N1 := r.2.1.1
  obtain ⟨W20, H8, hW, hH, plt, hpl, hpp, hfo, htu, hsu, hsm⟩ := id E
  by_cases ga : 0 < zN w ∧ 0 ≤ a.toInt ∧ a.toInt < (zW w : Int)
  · have n0 := ga.1
    obtain ⟨a, ha, rfl⟩ := gN ga.2 (by omega)
    obtain ⟨B, hB⟩ : ∃ B, B = 2 ^ zH w := ⟨_, rfl⟩
    simp (disch := omega) only [wX8_moves, xA1 T r, wX5_clear, not_true_eq_false, not_false_eq_true, false_implies, true_implies, and_true, true_and, and_self, nmM, if_true, if_false, or0, Int32.add_zero, forall_const, one_ne, zero_ne1, nz1, nz0, nI_z, cl, inN]
    refine s_fill (by decide) (by omega) (fun μ1 o1 z1 => ?_)
    refine xs_moves I hw ((sc.rf μ).onl o1 (by omega)) z1 hB ha (by omega) (fun μ2 s2 => ?_)
    have hw2 := s2.w.trans hw
    simp only [wX9_moves, wX9_asksAhead]
    refine m_asks2 hw2 r (by omega) (fun μ' s h' M E' => ?_)
    simp (disch := omega) only [mA1 h' r, not_true_eq_false, not_false_eq_true, false_implies, true_implies, and_true, true_and, and_self, nmM, if_true, if_false, or0, Int32.add_zero, forall_const, one_ne, zero_ne1, nz1, nz0, nI_z, cl, inN]
    refine ms_zero (by omega) (fun μ3 o3 z3 => ?_)
    have e92 : μ3.1 92 = w := by rw [← h']; exact funext (fun j => o3.2 92 j (by omega))
    have e91 : ∀ j, μ3.1 91 j = μ'.1 91 j := fun j => o3.2 _ _ (by omega)
    obtain ⟨m1, m2, m3, m4, m5, m6, m7, m8, m9⟩ := M
    refine ms_moves r e92 ⟨by rw [e91]; exact m1, by rw [e91]; exact m2, by rw [e91]; exact m3, by rw [e91]; exact m4, by rw [e91]; exact m5, by rw [e91, e91]; exact m6, fun p hp => by rw [o3.2 _ _ (by omega)]; exact m7 p hp, fun p hp => by rw [o3.2 _ _ (by omega)]; exact m8 p hp, fun p hp => by rw [o3.2 _ _ (by omega)]; exact m9 p hp⟩ hB (fun h hh => by rw [o3.2 _ _ (by omega)]; exact E'.2.2.2.2.2.1 a (by omega) h hh) ha z3 (by omega) (fun μ4 o4 => ?_)
    have s3 := s.onl o3 (by omega)
    have s4 : sc μ2 μ4 := s3.tr ⟨by rw [o4.1], fun b j h1 h2 h3 h4 => o4.2 b j (by omega) (by omega), ⟨o4.2 _ _ (by omega) (by omega), o4.2 _ _ (by omega) (by omega), o4.2 _ _ (by omega) (by omega)⟩, fun b j _ _ => by rw [o4.1]⟩
    exact fin (k μ4 ((I.sc s2).sc s4))
  · simp (disch := omega) only [wX8_moves, xA0 T r ga, not_true_eq_false, not_false_eq_true, false_implies, true_implies, and_true, true_and, and_self, nmM, if_true, if_false, or0, Int32.add_zero, forall_const, one_ne, zero_ne1, nz1, nz0, nI_z, cl, inN]
    simp only [wX9_moves, wX9_asksAhead]
    refine m_asks2 hw r (by omega) (fun μ' s h' M E' => ?_)
    simp (disch := omega) only [mA0 h' r ga, not_true_eq_false, not_false_eq_true, false_implies, true_implies, and_true, true_and, and_self, nmM, if_true, if_false, or0, Int32.add_zero, forall_const, one_ne, zero_ne1, nz1, nz0, nI_z, cl, inN]
    exact k μ' (I.sc s)
