def oH (w : Nat → Int32) (h : Nat) : OV := (w 1, h, (oT w).2.2)
def oL (w : Nat → Int32) (x : Int32) : OV := (x, (oT w).2)
theorem x_tryE {n : Nat} {w : Nat → Int32} {o : OV} {μ0 μ : qa_M} {Q : qa_M → Prop} (I : INV μ0) (hw : μ0.1 92 = w) (s : sc μ0 μ) (P : PLN μ w (zW w) o) (hlaw : 0 < zW w → (1 ≤ o.2.1 ∧ o.2.1 ≤ 30) ∧ (o.1 = 0 ∨ o.1 = 1 ∨ o.1 = 2 ∨ o.1 = 3)) (hn : 60 < n)
    (kk : ∀ μ', sc μ0 μ' → XE μ' (μ'.2.2 1 2) 38 39 40 41 (zH w) (zW w) (yp w o) (ypp w o) (yfo w o) (ytu w o) (sunW w (zP w)) (smellW w (zP w)) → XL μ' (μ'.2.2 1 2) (zH w) (zL w) (lhW w) (lpW w) (lwW w) → Q μ') : wX7_follow n 37 (μ.2.2 1 2) μ Q := by
  refine x_try I hw s P (Nat.le_refl _) hlaw hn (fun μ' s' Y => ?_)
  obtain ⟨r, T, -, G⟩ := (I.sc s').facts (s'.w.trans hw)
  refine kk μ' s' (XEZ.of r T Y ?_) G
  rcases P.2.2.2.2.2.1 with ⟨-, e⟩ | ⟨a, b, ha, hb, -, -, e⟩
  · exact Or.inl e
  · exact Or.inr ⟨a, b, ha, hb, e⟩
theorem x_told2 {n : Nat} {w : Nat → Int32} {μ0 μ : qa_M} {Q : qa_M → Prop} (I : INV μ0) (hw : μ0.1 92 = w) (s : sc μ0 μ) (kk : ∀ μ', sc μ0 μ' → μ'.2.2 = μ0.2.2 → PLN μ' w (zW w) (oT w) → Q μ') : wX1_asTold n (μ.2.2 1 2) μ Q := by
  have I' := I.sc s
  obtain ⟨r, T, -, -⟩ := I'.facts (s.w.trans hw)
  exact x_asTold I'.tw T (fun μ' o P => kk μ' (s.pln o) ((s.pln o).1) P)
theorem x_heavy {n h : Nat} {w : Nat → Int32} {μ0 μ : qa_M} {Q : qa_M → Prop} (I : INV μ0) (hw : μ0.1 92 = w) (s : sc μ0 μ) (h1 : 1 ≤ h) (h2 : h ≤ 30) (hn : 60 < n)
    (kk : ∀ μ', sc μ0 μ' → XE μ' (μ'.2.2 1 2) 38 39 40 41 (zH w) (zW w) (yp w (oH w h)) (ypp w (oH w h)) (yfo w (oH w h)) (ytu w (oH w h)) (sunW w (zP w)) (smellW w (zP w)) → XL μ' (μ'.2.2 1 2) (zH w) (zL w) (lhW w) (lpW w) (lwW w) → Q μ') : wX8_followHeavy n (nI h) μ Q := by
  unfold wX8_followHeavy
  refine x_told2 I hw s (fun μ1 s1 _ P1 => ?_)
  rw [nmM]
  exact x_tryE (o := oH w h) I hw (s1.put 1 (nI h) (Or.inl rfl)) (P1.heavy h) (fun hW => ⟨⟨h1, h2⟩, ((I.facts hw).1.law hW).2⟩) hn kk
theorem x_law {n : Nat} {x : Int32} {w : Nat → Int32} {μ0 μ : qa_M} {Q : qa_M → Prop} (I : INV μ0) (hw : μ0.1 92 = w) (s : sc μ0 μ) (hx : x = 0 ∨ x = 1 ∨ x = 2 ∨ x = 3) (hn : 60 < n)
    (kk : ∀ μ', sc μ0 μ' → XE μ' (μ'.2.2 1 2) 38 39 40 41 (zH w) (zW w) (yp w (oL w x)) (ypp w (oL w x)) (yfo w (oL w x)) (ytu w (oL w x)) (sunW w (zP w)) (smellW w (zP w)) → XL μ' (μ'.2.2 1 2) (zH w) (zL w) (lhW w) (lpW w) (lwW w) → Q μ') : wX8_followLaw n x μ Q := by
  unfold wX8_followLaw
  refine x_told2 I hw s (fun μ1 s1 _ P1 => ?_)
  rw [nmM]
  exact x_tryE (o := oL w x) I hw (s1.put 0 x (Or.inl rfl)) (P1.law x) (fun hW => ⟨((I.facts hw).1.law hW).1, hx⟩) hn kk
def SPh (w : Nat → Int32) (h : Nat) : Int32 := spanV (fun q => aSun (yp w (oH w h)) (sunW w (zP w)) q (zW w)) (zH w)
def SPl (w : Nat → Int32) (h : Nat) : Int32 := spanV (fun q => aSun (yp w (oL w (nI h))) (sunW w (zP w)) q (zW w)) (zH w)
def RCh (w : Nat → Int32) (h : Nat) : Int32 := nI (bcN (rgs (yp w (oH w h)) (zW w) (lhW w) (lpW w) (lwW w) (zL w)).toNatClampNeg)
theorem lawN {h : Nat} (hh : h < 4) : nI h = 0 ∨ nI h = 1 ∨ nI h = 2 ∨ nI h = 3 := by
  have : h = 0 ∨ h = 1 ∨ h = 2 ∨ h = 3 := by omega
  rcases this with rfl | rfl | rfl | rfl
  · exact Or.inl rfl
  · exact Or.inr (Or.inl rfl)
  · exact Or.inr (Or.inr (Or.inl rfl))
  · exact Or.inr (Or.inr (Or.inr rfl))
theorem RCh_rng (w : Nat → Int32) (h : Nat) : 0 ≤ (RCh w h).toInt ∧ (RCh w h).toInt ≤ 8 := by
  unfold RCh
  have := bcN_le (rgs (yp w (oH w h)) (zW w) (lhW w) (lpW w) (lwW w) (zL w)).toNatClampNeg
  rw [nI_toInt (by omega)]
  omega
theorem pal_ne (S : Nat → Int32) (i : Nat) (q : Option Nat) : ∃ p, pal S i q = some p := by
  cases q with
  | none => exact ⟨i, rfl⟩
  | some p => unfold pal; dsimp only [Option.elim]; split <;> exact ⟨_, rfl⟩
theorem bro_ne (S : Nat → Int32) (i : Nat) (q : Option Nat) : ∃ p, bro S i q = some p := by
  cases q with
  | none => exact ⟨i, rfl⟩
  | some p => unfold bro; dsimp only [Option.elim]; split <;> exact ⟨_, rfl⟩
theorem pal_lt (S : Nat → Int32) (a : Nat) : ∀ (j p : Nat), itr (pal S) a j none = some p → p < a + j
  | 0, p, h => by cases h
  | j + 1, p, h => by
    have ih := pal_lt S a j
    rw [itr_succ] at h
    generalize itr (pal S) a j none = q at h ih
    cases q with
    | none => cases h; omega
    | some r =>
      have := ih r rfl
      unfold pal at h
      dsimp only [Option.elim] at h
      split at h <;> cases h <;> omega
theorem bro_lt (S : Nat → Int32) (a : Nat) : ∀ (j p : Nat), itr (bro S) a j none = some p → p < a + j
  | 0, p, h => by cases h
  | j + 1, p, h => by
    have ih := bro_lt S a j
    rw [itr_succ] at h
    generalize itr (bro S) a j none = q at h ih
    cases q with
    | none => cases h; omega
    | some r =>
      have := ih r rfl
      unfold bro at h
      dsimp only [Option.elim] at h
      split at h <;> cases h <;> omega
theorem xs_fair {n : Nat} {w : Nat → Int32} {μ : qa_M} {Q : Int32 → qa_M → Prop} (I : INV μ) (hw : μ.1 92 = w) (hn : 500 < n) (k : ∀ μ', sc μ μ' → Q ((itr (pal (SPh w)) 1 30 none).elim 1 nI) μ') : wX8_fair_16 n (-1) 0 1 μ Q := by
  obtain ⟨r, T, E, G⟩ := I.facts hw
  refine inv_loopF 300 (fun n i (σ : Int32 × Int32 × qa_M) => wX8_fair_16 n σ.1 σ.2.1 i σ.2.2 Q) 31 (fun i σ => ∃ j, i = j + 1 ∧ σ.1 = (itr (pal (SPh w)) 1 j none).elim (-1) nI ∧ σ.2.1 = (itr (pal (SPh w)) 1 j none).elim 0 (SPh w) ∧ sc μ σ.2.2) ?_ ?_ 30 1 (-1, 0, μ) n (by omega) (by omega) ⟨0, rfl, rfl, rfl, sc.rf μ⟩
  · intro n ⟨v1, v2, μ1⟩ hm ⟨j, hj, e1, e2, s⟩
    obtain rfl : j = 30 := by omega
    dsimp only at e1 e2 s ⊢
    rw [wX8_fair_16]
    obtain ⟨p, hp⟩ : ∃ p, itr (pal (SPh w)) 1 30 none = some p := by
      rw [itr_succ _ 29]
      exact pal_ne _ _ _
    rw [hp] at e1 k
    refine ⟨fun _ => by rw [e1]; exact k μ1 s, fun h => absurd (by decide) h⟩
  · intro n i ⟨v1, v2, μ1⟩ hm hi ⟨j, hj, e1, e2, s⟩ ih
    dsimp only at e1 e2 s ⊢
    rw [wX8_fair_16]
    refine ⟨fun h => absurd h (by rw [show (30 : Int32) = nI 30 from rfl, nlt _ _ (by decide) (by omega)]; omega), fun _ => ?_⟩
    refine x_heavy I hw s (by omega) (by omega) (by omega) (fun μ2 s2 E2 G2 => ?_)
    rw [x_spread (y := 37) E2 (by omega)]
    have stp : itr (pal (SPh w)) 1 (j + 1) none = pal (SPh w) i (itr (pal (SPh w)) 1 j none) := by rw [itr_succ, show 1 + j = i by omega]
    have bd := pal_lt (SPh w) 1 j
    generalize itr (pal (SPh w)) 1 j none = q at e1 e2 stp bd
    unfold wX8_fair_51
    rw [nI1]
    show (v1 = -1 → _) ∧ (¬ v1 = -1 → ((v2 ≤ SPh w i → _) ∧ (¬ v2 ≤ SPh w i → _)))
    cases q with
    | none =>
      have e1 : v1 = -1 := e1
      exact ⟨fun _ => ih (nI i, SPh w i, μ2) ⟨j + 1, by omega, by rw [stp]; rfl, by rw [stp]; rfl, s2⟩, fun h => absurd e1 h⟩
    | some p =>
      have e1 : v1 = nI p := e1
      have e2 : v2 = SPh w p := e2
      have bp := bd p rfl
      refine ⟨fun h => absurd h (by rw [e1, neg1_ne (by omega)]; exact fun h => h), fun _ => ?_⟩
      refine ⟨fun h => ih (v1, v2, μ2) ⟨j + 1, by omega, ?_, ?_, s2⟩, fun h => ih (nI i, SPh w i, μ2) ⟨j + 1, by omega, ?_, ?_, s2⟩⟩
      all_goals rw [stp]
      all_goals rw [e2] at h
      · rw [e1]; unfold pal; dsimp only [Option.elim]; rw [if_pos h]
      · rw [e2]; unfold pal; dsimp only [Option.elim]; rw [if_pos h]
      · unfold pal; dsimp only [Option.elim]; rw [if_neg h]
      · unfold pal; dsimp only [Option.elim]; rw [if_neg h]
theorem xs_post {n : Nat} {w : Nat → Int32} {μ : qa_M} {Q : Int32 → qa_M → Prop} (I : INV μ) (hw : μ.1 92 = w) (hn : 500 < n) (k : ∀ μ', sc μ μ' → Q ((itr (bro (RCh w)) 1 30 none).elim 1 nI) μ') : wX8_post_16 n (-1) 0 1 μ Q := by
  obtain ⟨r, T, E, G⟩ := I.facts hw
  refine inv_loopF 300 (fun n i (σ : Int32 × Int32 × qa_M) => wX8_post_16 n σ.1 σ.2.1 i σ.2.2 Q) 31 (fun i σ => ∃ j, i = j + 1 ∧ σ.1 = (itr (bro (RCh w)) 1 j none).elim (-1) nI ∧ σ.2.1 = (itr (bro (RCh w)) 1 j none).elim 0 (RCh w) ∧ sc μ σ.2.2) ?_ ?_ 30 1 (-1, 0, μ) n (by omega) (by omega) ⟨0, rfl, rfl, rfl, sc.rf μ⟩
  · intro n ⟨v1, v2, μ1⟩ hm ⟨j, hj, e1, e2, s⟩
    obtain rfl : j = 30 := by omega
    dsimp only at e1 e2 s ⊢
    rw [wX8_post_16]
    obtain ⟨p, hp⟩ : ∃ p, itr (bro (RCh w)) 1 30 none = some p := by
      rw [itr_succ _ 29]
      exact bro_ne _ _ _
    rw [hp] at e1 k
    refine ⟨fun _ => by rw [e1]; exact k μ1 s, fun h => absurd (by decide) h⟩
  · intro n i ⟨v1, v2, μ1⟩ hm hi ⟨j, hj, e1, e2, s⟩ ih
    dsimp only at e1 e2 s ⊢
    rw [wX8_post_16]
    refine ⟨fun h => absurd h (by rw [show (30 : Int32) = nI 30 from rfl, nlt _ _ (by decide) (by omega)]; omega), fun _ => ?_⟩
    refine x_heavy I hw s (by omega) (by omega) (by omega) (fun μ2 s2 E2 G2 => ?_)
    obtain ⟨m, m1, m2⟩ := rgs_rng (pl := yp w (oH w i)) (W := zW w) (lh := lhW w) (lp := lpW w) (lw := lwW w) G2.1
    have m3 : nI (bcN m) = RCh w i := by unfold RCh; rw [m2, cl (by omega)]
    rw [x_reached (y := 37) E2 G2 (by omega), m2, s_bitCount m1, m3]
    have stp : itr (bro (RCh w)) 1 (j + 1) none = bro (RCh w) i (itr (bro (RCh w)) 1 j none) := by rw [itr_succ, show 1 + j = i by omega]
    have bd := bro_lt (RCh w) 1 j
    generalize itr (bro (RCh w)) 1 j none = q at e1 e2 stp bd
    unfold wX8_post_54
    rw [nI1]
    show (v1 = -1 → _) ∧ (¬ v1 = -1 → ((RCh w i ≤ v2 → _) ∧ (¬ RCh w i ≤ v2 → _)))
    cases q with
    | none =>
      have e1 : v1 = -1 := e1
      exact ⟨fun _ => ih (nI i, RCh w i, μ2) ⟨j + 1, by omega, by rw [stp]; rfl, by rw [stp]; rfl, s2⟩, fun h => absurd e1 h⟩
    | some p =>
      have e1 : v1 = nI p := e1
      have e2 : v2 = RCh w p := e2
      have bp := bd p rfl
      refine ⟨fun h => absurd h (by rw [e1, neg1_ne (by omega)]; exact fun h => h), fun _ => ?_⟩
      refine ⟨fun h => ih (v1, v2, μ2) ⟨j + 1, by omega, ?_, ?_, s2⟩, fun h => ih (nI i, RCh w i, μ2) ⟨j + 1, by omega, ?_, ?_, s2⟩⟩
      all_goals rw [stp]
      all_goals rw [e2] at h
      · rw [e1]; unfold bro; dsimp only [Option.elim]; rw [if_pos h]
      · rw [e2]; unfold bro; dsimp only [Option.elim]; rw [if_pos h]
      · unfold bro; dsimp only [Option.elim]; rw [if_neg h]
      · unfold bro; dsimp only [Option.elim]; rw [if_neg h]
theorem xs_law {n : Nat} {w : Nat → Int32} {μ : qa_M} {Q : Int32 → qa_M → Prop} (I : INV μ) (hw : μ.1 92 = w) (hn : 500 < n) (k : ∀ μ', sc μ μ' → Q ((itr (pal (SPl w)) 0 4 none).elim 0 nI) μ') : wX8_law_16 n (-1) 0 0 μ Q := by
  obtain ⟨r, T, E, G⟩ := I.facts hw
  refine inv_loopF 300 (fun n i (σ : Int32 × Int32 × qa_M) => wX8_law_16 n σ.1 σ.2.1 i σ.2.2 Q) 4 (fun i σ => ∃ j, i = j ∧ σ.1 = (itr (pal (SPl w)) 0 j none).elim (-1) nI ∧ σ.2.1 = (itr (pal (SPl w)) 0 j none).elim 0 (SPl w) ∧ sc μ σ.2.2) ?_ ?_ 4 0 (-1, 0, μ) n (by omega) (by omega) ⟨0, rfl, rfl, rfl, sc.rf μ⟩
  · intro n ⟨v1, v2, μ1⟩ hm ⟨j, hj, e1, e2, s⟩
    obtain rfl : j = 4 := by omega
    dsimp only at e1 e2 s ⊢
    rw [wX8_law_16]
    obtain ⟨p, hp⟩ : ∃ p, itr (pal (SPl w)) 0 4 none = some p := by
      rw [itr_succ _ 3]
      exact pal_ne _ _ _
    rw [hp] at e1 k
    refine ⟨fun _ => by rw [e1]; exact k μ1 s, fun h => absurd (by decide) h⟩
  · intro n i ⟨v1, v2, μ1⟩ hm hi ⟨j, hj, e1, e2, s⟩ ih
    dsimp only at e1 e2 s ⊢
    rw [wX8_law_16]
    refine ⟨fun h => absurd h (by rw [l4, nle _ _ (by decide) (by omega)]; omega), fun _ => ?_⟩
    unfold wX8_spreadBy
    refine x_law I hw s (lawN hi) (by omega) (fun μ2 s2 E2 G2 => ?_)
    rw [x_spread (y := 37) E2 (by omega)]
    have stp : itr (pal (SPl w)) 0 (j + 1) none = pal (SPl w) i (itr (pal (SPl w)) 0 j none) := by rw [itr_succ, show 0 + j = i by omega]
    have bd := pal_lt (SPl w) 0 j
    generalize itr (pal (SPl w)) 0 j none = q at e1 e2 stp bd
    unfold wX8_law_39
    rw [nI1]
    show (v1 = -1 → _) ∧ (¬ v1 = -1 → ((v2 ≤ SPl w i → _) ∧ (¬ v2 ≤ SPl w i → _)))
    cases q with
    | none =>
      have e1 : v1 = -1 := e1
      exact ⟨fun _ => ih (nI i, SPl w i, μ2) ⟨j + 1, by omega, by rw [stp]; rfl, by rw [stp]; rfl, s2⟩, fun h => absurd e1 h⟩
    | some p =>
      have e1 : v1 = nI p := e1
      have e2 : v2 = SPl w p := e2
      have bp := bd p rfl
      refine ⟨fun h => absurd h (by rw [e1, neg1_ne (by omega)]; exact fun h => h), fun _ => ?_⟩
      refine ⟨fun h => ih (v1, v2, μ2) ⟨j + 1, by omega, ?_, ?_, s2⟩, fun h => ih (nI i, SPl w i, μ2) ⟨j + 1, by omega, ?_, ?_, s2⟩⟩
      all_goals rw [stp]
      all_goals rw [e2] at h
      · rw [e1]; unfold pal; dsimp only [Option.elim]; rw [if_pos h]
      · rw [e2]; unfold pal; dsimp only [Option.elim]; rw [if_pos h]
      · unfold pal; dsimp only [Option.elim]; rw [if_neg h]
      · unfold pal; dsimp only [Option.elim]; rw [if_neg h]
theorem ms_fair {n : Nat} {w : Nat → Int32} {μ0 μ : qa_M} {Q : Int32 → qa_M → Prop} (r : RZ w) (hN : 0 < zN w) (hw : μ0.1 92 = w) (s0 : sc μ0 μ) (M0 : MS μ w (oH w 1)) (hn : 500 < n) (k : ∀ μ', sc μ0 μ' → Q ((itr (pal (SPh w)) 1 30 none).elim 1 nI) μ') : wX9_fair_21 n 1 1000000000 μ Q := by
  refine inv_loopF 300 (fun n _ (σ : Int32 × Int32 × qa_M) => wX9_fair_21 n σ.1 σ.2.1 σ.2.2 Q) 31 (fun i σ => ∃ j, i = j + 1 ∧ σ.1 = (itr (pal (SPh w)) 1 j none).elim 1 nI ∧ σ.2.1 = (itr (pal (SPh w)) 1 j none).elim 1000000000 (SPh w) ∧ sc μ0 σ.2.2 ∧ MS σ.2.2 w (oH w i)) ?_ ?_ 30 1 (1, 1000000000, μ) n (by omega) (by omega) ⟨0, rfl, rfl, rfl, s0, M0⟩
  · intro n ⟨v1, v2, μ1⟩ hm ⟨j, hj, e1, e2, s, M⟩
    obtain rfl : j = 30 := by omega
    dsimp only at e1 e2 s M ⊢
    rw [wX9_fair_21, show μ1.1 91 21 = nI 31 from M.2.1]
    refine ⟨fun _ => by rw [e1]; exact k μ1 s, fun h => absurd (by decide) h⟩
  · intro n i ⟨v1, v2, μ1⟩ hm hi ⟨j, hj, e1, e2, s, M⟩ ih
    dsimp only at e1 e2 s M ⊢
    rw [wX9_fair_21, show μ1.1 91 21 = nI i from M.2.1]
    refine ⟨fun h => absurd h (by rw [show (30 : Int32) = nI 30 from rfl, nlt _ _ (by decide) (by omega)]; omega), fun _ => ?_⟩
    refine m_try r hw s M (fun _ => ⟨by show 1 ≤ i; omega, by show i ≤ 30; omega⟩) (by omega) (fun μ2 s2 h2 M2 o2 E2 => ?_)
    rw [m_span E2 (by omega)]
    have stp : itr (pal (SPh w)) 1 (j + 1) none = pal (SPh w) i (itr (pal (SPh w)) 1 j none) := by rw [itr_succ, show 1 + j = i by omega]
    generalize itr (pal (SPh w)) 1 j none = q at e1 e2 stp
    have e91 : μ2.1 91 21 = nI i := M2.2.1
    have nx : ∀ x y, x = (pal (SPh w) i q).elim 1 nI → y = (pal (SPh w) i q).elim 1000000000 (SPh w) → wX9_fair_55 n x y μ2 (fun v1 v2 μk => wX9_fair_21 n v1 v2 μk Q) Q := by
      intro x y ex ey
      unfold wX9_fair_55
      rw [nmM, e91, nI1]
      exact ih (x, y, _) ⟨j + 1, by omega, by rw [stp]; exact ex, by rw [stp]; exact ey, s2.put91 21 _ (by omega), M2.heavy (i + 1)⟩
    show (SPh w i < v2 → _) ∧ (¬ SPh w i < v2 → _)
    cases q with
    | none =>
      have b := span_rng (pl := yp w (oH w i)) (sunW_rng r) (zH w) (zW w) r.2.1.2.1
      refine ⟨fun _ => ?_, fun h => absurd ?_ h⟩
      · rw [m_span E2 (by omega), nmM, e91]
        exact nx _ _ rfl rfl
      · rw [e2, fa_lt]
        show (SPh w i).toInt < (1000000000 : Int)
        unfold SPh
        omega
    | some p =>
      have e2 : v2 = SPh w p := e2
      have cc : (SPh w i < SPh w p) ↔ ¬ (SPh w p ≤ SPh w i) := by rw [fa_lt, fa_le]; omega
      refine ⟨fun h => ?_, fun h => nx _ _ ?_ ?_⟩
      all_goals rw [e2, cc] at h
      · rw [m_span E2 (by omega), nmM, e91]
        refine nx _ _ ?_ ?_
        · unfold pal; dsimp only [Option.elim]; rw [if_neg h]; try rfl
        · unfold pal; dsimp only [Option.elim]; rw [if_neg h]; try rfl
      · rw [e1]; unfold pal; dsimp only [Option.elim]; rw [if_pos (Classical.not_not.mp h)]
      · rw [e2]; unfold pal; dsimp only [Option.elim]; rw [if_pos (Classical.not_not.mp h)]
theorem ms_post {n : Nat} {w : Nat → Int32} {μ0 μ : qa_M} {Q : Int32 → qa_M → Prop} (r : RZ w) (hN : 0 < zN w) (hw : μ0.1 92 = w) (s0 : sc μ0 μ) (M0 : MS μ w (oH w 1)) (hn : 500 < n) (k : ∀ μ', sc μ0 μ' → Q ((itr (bro (RCh w)) 1 30 none).elim 1 nI) μ') : wX9_post_19 n 1 (-1) μ Q := by
  refine inv_loopF 300 (fun n _ (σ : Int32 × Int32 × qa_M) => wX9_post_19 n σ.1 σ.2.1 σ.2.2 Q) 31 (fun i σ => ∃ j, i = j + 1 ∧ σ.1 = (itr (bro (RCh w)) 1 j none).elim 1 nI ∧ σ.2.1 = (itr (bro (RCh w)) 1 j none).elim (-1) (RCh w) ∧ sc μ0 σ.2.2 ∧ MS σ.2.2 w (oH w i)) ?_ ?_ 30 1 (1, (-1), μ) n (by omega) (by omega) ⟨0, rfl, rfl, rfl, s0, M0⟩
  · intro n ⟨v1, v2, μ1⟩ hm ⟨j, hj, e1, e2, s, M⟩
    obtain rfl : j = 30 := by omega
    dsimp only at e1 e2 s M ⊢
    rw [wX9_post_19, show μ1.1 91 21 = nI 31 from M.2.1]
    refine ⟨fun _ => by rw [e1]; exact k μ1 s, fun h => absurd (by decide) h⟩
  · intro n i ⟨v1, v2, μ1⟩ hm hi ⟨j, hj, e1, e2, s, M⟩ ih
    dsimp only at e1 e2 s M ⊢
    rw [wX9_post_19, show μ1.1 91 21 = nI i from M.2.1]
    refine ⟨fun h => absurd h (by rw [show (30 : Int32) = nI 30 from rfl, nlt _ _ (by decide) (by omega)]; omega), fun _ => ?_⟩
    refine m_try r hw s M (fun _ => ⟨by show 1 ≤ i; omega, by show i ≤ 30; omega⟩) (by omega) (fun μ2 s2 h2 M2 o2 E2 => ?_)
    have G2 := MLZ.of r h2
    have hT := r.town h2 hN
    obtain ⟨m, m1, m2⟩ := rgs_rng (pl := yp w (oH w i)) (W := zW w) (lh := lhW w) (lp := lpW w) (lw := lwW w) G2.1
    have m3 : nI (bcN m) = RCh w i := by unfold RCh; rw [m2, cl (by omega)]
    rw [m_rights E2 G2 hT (by omega), m2, s_bits m1 (by omega), m3]
    have stp : itr (bro (RCh w)) 1 (j + 1) none = bro (RCh w) i (itr (bro (RCh w)) 1 j none) := by rw [itr_succ, show 1 + j = i by omega]
    generalize itr (bro (RCh w)) 1 j none = q at e1 e2 stp
    have e91 : μ2.1 91 21 = nI i := M2.2.1
    have nx : ∀ x y, x = (bro (RCh w) i q).elim 1 nI → y = (bro (RCh w) i q).elim (-1) (RCh w) → wX9_post_59 n x y μ2 (fun v1 v2 μk => wX9_post_19 n v1 v2 μk Q) Q := by
      intro x y ex ey
      unfold wX9_post_59
      rw [nmM, e91, nI1]
      exact ih (x, y, _) ⟨j + 1, by omega, by rw [stp]; exact ex, by rw [stp]; exact ey, s2.put91 21 _ (by omega), M2.heavy (i + 1)⟩
    show (v2 < RCh w i → _) ∧ (¬ v2 < RCh w i → _)
    cases q with
    | none =>
      have b := RCh_rng w i
      refine ⟨fun _ => ?_, fun h => absurd ?_ h⟩
      · rw [m_rights E2 G2 hT (by omega), m2, s_bits m1 (by omega), m3, nmM, e91]
        exact nx _ _ rfl rfl
      · rw [e2, fa_lt]
        show (-1 : Int) < (RCh w i).toInt
        omega
    | some p =>
      have e2 : v2 = RCh w p := e2
      have cc : (RCh w p < RCh w i) ↔ ¬ (RCh w i ≤ RCh w p) := by rw [fa_lt, fa_le]; omega
      refine ⟨fun h => ?_, fun h => nx _ _ ?_ ?_⟩
      all_goals rw [e2, cc] at h
      · rw [m_rights E2 G2 hT (by omega), m2, s_bits m1 (by omega), m3, nmM, e91]
        refine nx _ _ ?_ ?_
        · unfold bro; dsimp only [Option.elim]; rw [if_neg h]; try rfl
        · unfold bro; dsimp only [Option.elim]; rw [if_neg h]; try rfl
      · rw [e1]; unfold bro; dsimp only [Option.elim]; rw [if_pos (Classical.not_not.mp h)]
      · rw [e2]; unfold bro; dsimp only [Option.elim]; rw [if_pos (Classical.not_not.mp h)]
theorem m_spanBy {n h : Nat} {w : Nat → Int32} {o : OV} {μ0 μ : qa_M} {Q : Int32 → qa_M → Prop} (r : RZ w) (hw : μ0.1 92 = w) (s : sc μ0 μ) (M : MS μ w (o.1, (oT w).2)) (hn : 100 < n) (k : ∀ μ', sc μ0 μ' → MS μ' w (oL w (nI h)) → Q (SPl w h) μ') : wX9_spanBy n (nI h) μ Q := by
  unfold wX9_spanBy
  rw [nmM]
  refine m_try (o := oL w (nI h)) r hw (s.put91 20 _ (by omega)) (M.law (nI h)) (fun hW => (r.law hW).1) (by omega) (fun μ2 s2 h2 M2 o2 E2 => ?_)
  rw [m_span E2 (by omega)]
  exact k μ2 s2 M2
theorem ms_law {n : Nat} {w : Nat → Int32} {μ0 μ : qa_M} {Q : Int32 → qa_M → Prop} (r : RZ w) (hw : μ0.1 92 = w) (s0 : sc μ0 μ) (M0 : MS μ w (oT w)) (hn : 500 < n) (k : ∀ μ', sc μ0 μ' → Q (nI (lowI (SPl w) 4)) μ') : wX9_law_14 n 0 1 μ Q := by
  refine inv_loopF 300 (fun n i (σ : Nat × qa_M) => wX9_law_14 n (nI σ.1) i σ.2 Q) 4 (fun i σ => ∃ j, i = j + 1 ∧ σ.1 = itr (fun h q => if SPl w q ≤ SPl w h then q else h) 1 j 0 ∧ σ.1 < 4 ∧ sc μ0 σ.2 ∧ ∃ x, MS σ.2 w (x, (oT w).2)) ?_ ?_ 3 1 (0, μ) n (by omega) (by omega) ⟨0, rfl, rfl, by omega, s0, w 1, M0⟩
  · intro n ⟨v1, μ1⟩ hm ⟨j, hj, e1, e2, s, x, M⟩
    obtain rfl : j = 3 := by omega
    dsimp only at e1 e2 s M ⊢
    rw [wX9_law_14]
    refine ⟨fun _ => by rw [e1]; exact k μ1 s, fun h => absurd (by decide) h⟩
  · intro n i ⟨v1, μ1⟩ hm hi ⟨j, hj, e1, e2, s, x, M⟩ ih
    dsimp only at e1 e2 s M ⊢
    rw [wX9_law_14]
    refine ⟨fun h => absurd h (by rw [l4, nle _ _ (by decide) (by omega)]; omega), fun _ => ?_⟩
    refine m_spanBy (o := (x, (oT w).2)) r hw s M (by omega) (fun μ2 s2 M2 => ?_)
    refine m_spanBy (o := oL w (nI i)) r hw s2 M2 (by omega) (fun μ3 s3 M3 => ?_)
    have stp : itr (fun h q => if SPl w q ≤ SPl w h then q else h) 1 (j + 1) 0 = (if SPl w v1 ≤ SPl w i then v1 else i) := by rw [itr_succ, show 1 + j = i by omega, ← e1]
    unfold wX9_law_37
    rw [nI1]
    refine ⟨fun h => ih (v1, μ3) ⟨j + 1, by omega, by rw [stp, if_pos h], e2, s3, _, M3⟩, fun h => ih (i, μ3) ⟨j + 1, by omega, by rw [stp, if_neg h], hi, s3, _, M3⟩⟩
