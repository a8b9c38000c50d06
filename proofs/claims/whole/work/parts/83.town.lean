/-! x reads the tape -/
section RD
variable {f : Nat → Int32} {T t n : Nat} {er : Nat → Nat → Prop} {ok : (Nat → Int32) → Prop} {μ : qa_M}
theorem x_read {Q : qa_M → Prop} (ht : t = 3 ∨ t = 16) (et : μ.2.2 2 2 = t) (hT : T ≤ 800) (e1 : μ.1 2 1 = nI T) (hb : ∀ j, j < T → μ.1 15 j = f j ∧ isB (f j)) (hn : 1990 ≤ n) (h : pAll f T (T + 1) (rdT f T 0) w00 er ok) (kb : ∀ k pl μ', er k pl → xf t μ μ' → BX μ' k pl → Q μ') (kg : ∀ w' μ', ok w' → xf t μ μ' → RZ w' → zA w' = 0 → TZ μ' t w' → μ'.1 2 7 = 0 → μ'.1 2 8 = -1 → Q μ') : wX2_read n μ Q := by
  unfold wX2_read
  rw [et]
  refine x_clear (by omega) (fun μ1 a1 a2 X1 => ?_)
  rw [nmM, nmM, nmM]
  have p3 : ∀ b j, b ≠ 2 → (qa_uI (qa_uI (qa_uI μ1 2 7 0) 2 8 (-1)) 2 5 0).1 b j = μ1.1 b j := fun b j hb => by
    simp (disch := omega) only [uIn]
  have f1 : (qa_uI (qa_uI (qa_uI μ1 2 7 0) 2 8 (-1)) 2 5 0).1 2 1 = nI T := by
    simp (disch := omega) only [uIn]
    rw [a2 _ _ (by omega)]
    exact e1
  have e5 : (qa_uI (qa_uI (qa_uI μ1 2 7 0) 2 8 (-1)) 2 5 0).1 2 5 = nI 0 := uIs _ _ _ _
  have e7 : (qa_uI (qa_uI (qa_uI μ1 2 7 0) 2 8 (-1)) 2 5 0).1 2 7 = 0 := by
    simp (disch := omega) only [uIn, uIs]
  have e8 : (qa_uI (qa_uI (qa_uI μ1 2 7 0) 2 8 (-1)) 2 5 0).1 2 8 = -1 := by
    simp (disch := omega) only [uIn, uIs]
  have r1 : (qa_uI (qa_uI (qa_uI μ1 2 7 0) 2 8 (-1)) 2 5 0).2 = μ1.2 := rfl
  generalize qa_uI (qa_uI (qa_uI μ1 2 7 0) 2 8 (-1)) 2 5 0 = μ6 at p3 f1 e5 e7 e8 r1
  have et6 : μ6.2.2 2 2 = t := by rw [r1, a1]; exact et
  have tx : TPX μ6 f T := ⟨hT, f1, fun j hj => by rw [p3 15 j (by omega), a2 15 j (by omega)]; exact hb j hj⟩
  have xx : ∀ μ', xf t μ6 μ' → xf t μ μ' := fun μ' x => ⟨x.1.trans (r1.trans a1), fun b j h1 h2 => by rw [x.2 b j h1 h2, p3 b j h1]; exact a2 b j h2⟩
  refine x_step0 tx (Nat.zero_le T) (by omega) e5 (fun μ7 o7 S7 => ?_)
  have G7 : GX f T μ7 (rdT f T 0) := ⟨tx.oc o7 (by omega), S7, (rdT_ok (Nat.zero_le T)).1, by rw [o7.2 _ _ (by omega)]; exact e7, by rw [o7.2 _ _ (by omega)]; exact e8⟩
  have X7 : TZ μ7 t w00 := X1.mono (fun j x hj => by rw [o7.2 _ _ (by omega), p3 _ _ (by omega)]) rfl
  exact x_loop (μ0 := μ6) ht (fun k pl μ' e x B => kb k pl μ' e (xx μ' x) B) (fun w' μ' e x a1 a2 a3 a4 a5 => kg w' μ' e (xx μ' x) a1 a2 a3 a4 a5) et6 (T + 1) 0 n _ w00 μ7 ((xf.rf _ _).oc o7) G7 RZ00.1 RZ00.2.1 X7 RZ00.2.2 (Nat.zero_le _) (by omega) (by omega) h
/-! m reads the tape -/
theorem m_clr {K0 : qa_M → Prop} {R : Int32 → qa_M → Prop} (hn : 130 < n) (kk : ∀ μ', onlyA 97 μ μ' → (∀ j, j < 114 → μ'.1 97 j = 0) → K0 μ') : wX9_town_30 n 0 μ K0 R := by
  refine inv_loop (fun n i (σ : qa_M) => wX9_town_30 n i σ K0 R) 114 (fun i σ => onlyA 97 μ σ ∧ ∀ j, j < i → σ.1 97 j = 0) ?_ ?_ 114 0 μ n (by omega) (by omega) ⟨onlyA.rf _ _, fun j hj => absurd hj (Nat.not_lt_zero j)⟩
  · intro n μ1 ⟨o1, e1⟩
    show wX9_town_30 (n + 1) _ _ _ _
    rw [wX9_town_30]
    exact ⟨fun _ => kk μ1 o1 e1, fun h => absurd (by decide) h⟩
  · intro n i μ1 hi ⟨o1, e1⟩ ih
    show wX9_town_30 (n + 1) _ _ _ _
    rw [wX9_town_30, le114 (by omega), cl (by omega), nmM, nI1]
    refine ⟨fun h => absurd h (by omega), fun _ => ⟨inN hi (by omega), ih _ ⟨o1.put _ _, fun j hj => ?_⟩⟩⟩
    by_cases c : j = i
    · rw [c, uIs]
    · rw [uIn _ _ (by omega)]; exact e1 j (by omega)
theorem m_cpy {R : Int32 → qa_M → Prop} (hn : 130 < n) (kk : ∀ μ', onlyA 92 μ μ' → (∀ j, 114 ≤ j → μ'.1 92 j = μ.1 92 j) → (∀ j, j < 114 → μ'.1 92 j = μ.1 97 j) → R (μ'.1 92 9) μ') : wX9_town_86 n 0 μ R := by
  refine inv_loop (fun n i (σ : qa_M) => wX9_town_86 n i σ R) 114 (fun i σ => onlyA 92 μ σ ∧ (∀ j, 114 ≤ j → σ.1 92 j = μ.1 92 j) ∧ ∀ j, j < i → σ.1 92 j = μ.1 97 j) ?_ ?_ 114 0 μ n (by omega) (by omega) ⟨onlyA.rf _ _, fun _ _ => rfl, fun j hj => absurd hj (Nat.not_lt_zero j)⟩
  · intro n μ1 ⟨o1, e0, e1⟩
    show wX9_town_86 (n + 1) _ _ _
    rw [wX9_town_86, c9n]
    exact ⟨fun _ => kk μ1 o1 e0 e1, fun h => absurd (by decide) h⟩
  · intro n i μ1 hi ⟨o1, e0, e1⟩ ih
    show wX9_town_86 (n + 1) _ _ _
    rw [wX9_town_86, le114 (by omega), cl (by omega), nmM, nI1]
    refine ⟨fun h => absurd h (by omega), fun _ => ⟨inN hi (by omega), inN hi (by omega), ih _ ⟨o1.put _ _, fun j hj => ?_, fun j hj => ?_⟩⟩⟩
    · rw [uIn _ _ (by omega)]; exact e0 j hj
    · by_cases c : j = i
      · rw [c, uIs]; exact o1.2 _ _ (by omega)
      · rw [uIn _ _ (by omega)]; exact e1 j (by omega)
theorem m_town {R : Int32 → qa_M → Prop} (hT : T ≤ 800) (e5 : μ.1 91 5 = nI T) (hb : ∀ j, j < T → μ.1 95 j = f j ∧ isB (f j)) (hn : 1990 ≤ n) (h : pAll f T (T + 1) (rdT f T 0) w00 er ok) (kb : ∀ k pl μ', er k pl → μ'.2 = μ.2 → μ'.1 91 5 = 0 → (∀ b j, b ≠ 91 → b ≠ 97 → μ'.1 b j = μ.1 b j) → BM μ' k pl → R (-4) μ') (kg : ∀ w' μ', ok w' → μ'.2 = μ.2 → μ'.1 91 5 = 0 → (∀ b j, b ≠ 91 → b ≠ 97 → ¬ (b = 92 ∧ j < 114) → μ'.1 b j = μ.1 b j) → (∀ j, j < 114 → μ'.1 92 j = w' j) → μ'.1 91 12 = 0 → μ'.1 91 13 = -1 → R (w' 9) μ') : wX9_town n μ R := by
  unfold wX9_town
  rw [nmM, nmM, nmM, nmM, nmM, e5]
  have p3 : ∀ b j, b ≠ 91 → (qa_uI (qa_uI (qa_uI (qa_uI (qa_uI μ 91 7 (nI T)) 91 5 0) 91 8 0) 91 12 0) 91 13 (-1)).1 b j = μ.1 b j := fun b j hb => by
    simp (disch := omega) only [uIn]
  have f7 : (qa_uI (qa_uI (qa_uI (qa_uI (qa_uI μ 91 7 (nI T)) 91 5 0) 91 8 0) 91 12 0) 91 13 (-1)).1 91 7 = nI T := by
    simp (disch := omega) only [uIn, uIs]
  have f5 : (qa_uI (qa_uI (qa_uI (qa_uI (qa_uI μ 91 7 (nI T)) 91 5 0) 91 8 0) 91 12 0) 91 13 (-1)).1 91 5 = 0 := by
    simp (disch := omega) only [uIn, uIs]
  have f8 : (qa_uI (qa_uI (qa_uI (qa_uI (qa_uI μ 91 7 (nI T)) 91 5 0) 91 8 0) 91 12 0) 91 13 (-1)).1 91 8 = 0 := by
    simp (disch := omega) only [uIn, uIs]
  have f12 : (qa_uI (qa_uI (qa_uI (qa_uI (qa_uI μ 91 7 (nI T)) 91 5 0) 91 8 0) 91 12 0) 91 13 (-1)).1 91 12 = 0 := by
    simp (disch := omega) only [uIn, uIs]
  have f13 : (qa_uI (qa_uI (qa_uI (qa_uI (qa_uI μ 91 7 (nI T)) 91 5 0) 91 8 0) 91 12 0) 91 13 (-1)).1 91 13 = -1 := uIs _ _ _ _
  have r2 : (qa_uI (qa_uI (qa_uI (qa_uI (qa_uI μ 91 7 (nI T)) 91 5 0) 91 8 0) 91 12 0) 91 13 (-1)).2 = μ.2 := rfl
  generalize qa_uI (qa_uI (qa_uI (qa_uI (qa_uI μ 91 7 (nI T)) 91 5 0) 91 8 0) 91 12 0) 91 13 (-1) = μ5 at p3 f7 f5 f8 f12 f13 r2
  refine m_clr (by omega) (fun μ8 o8 c8 => ?_)
  have tm : TPM μ8 f T := ⟨hT, by rw [o8.2 _ _ (by omega)]; exact f7, fun j hj => by rw [o8.2 _ _ (by omega), p3 _ _ (by omega)]; exact hb j hj⟩
  refine m_adv0 (p := 0) tm (Nat.zero_le T) (by omega) (by rw [o8.2 _ _ (by omega)]; exact f8) (fun μ9 o9 S9 => ?_)
  have G9 : GM f T μ9 (rdT f T 0) := ⟨tm.oc o9 (by omega), S9, (rdT_ok (Nat.zero_le T)).1, by rw [o9.2 _ _ (by omega), o8.2 _ _ (by omega)]; exact f12, by rw [o9.2 _ _ (by omega), o8.2 _ _ (by omega)]; exact f13⟩
  have W9 : MW μ9 w00 := fun j hj => (o9.2 _ _ (by omega)).trans (c8 j hj)
  have h2 : ∀ μ', mf μ9 μ' → μ'.2 = μ.2 := fun μ' x => by rw [x.1, o9.1, o8.1]; exact r2
  have h5 : ∀ μ', mf μ9 μ' → μ'.1 91 5 = 0 := fun μ' x => by rw [x.2 _ _ (by omega) (by omega), o9.2 _ _ (by omega), o8.2 _ _ (by omega)]; exact f5
  have hf : ∀ μ', mf μ9 μ' → ∀ b j, b ≠ 91 → b ≠ 97 → μ'.1 b j = μ.1 b j := fun μ' x b j h1 h2 => by rw [x.2 _ _ h2 (by omega), o9.2 _ _ (by omega), o8.2 _ _ h2]; exact p3 b j h1
  refine m_loop (μ0 := μ9) (fun k pl μ' e x B => ?_) (fun w' μ' e x W g1 g2 => ?_) (T + 1) n _ w00 μ9 (mf.rf _) G9 RZ00.1 RZ00.2.1 W9 (by rw [RZ00.2.2]; exact Nat.zero_le _) (by omega) (by omega) h
  · rw [mb_good B.nz]
    exact ⟨fun e => absurd rfl e, fun _ => kb k pl μ' e (h2 μ' x) (h5 μ' x) (hf μ' x) B⟩
  · rw [m_good g1]
    refine ⟨fun _ => m_cpy (by omega) (fun μ1 o1 e0 e1 => ?_), fun e => absurd e (by decide)⟩
    have ew : ∀ j, j < 114 → μ1.1 92 j = w' j := fun j hj => (e1 j hj).trans (W j hj)
    rw [ew 9 (by omega)]
    refine kg w' μ1 e (by rw [o1.1]; exact h2 μ' x) (by rw [o1.2 _ _ (by omega)]; exact h5 μ' x) (fun b j h1 h2 h3 => ?_) ew (by rw [o1.2 _ _ (by omega)]; exact g1) (by rw [o1.2 _ _ (by omega)]; exact g2)
    by_cases c : b = 92
    · subst c
      rw [e0 j (by omega)]
      exact hf μ' x 92 j h1 h2
    · rw [o1.2 b j c]
      exact hf μ' x b j h1 h2
end RD
theorem ptab_x : ∀ q ∈ qa_ptab, ¬ (q.1 = 1 ∧ q.2.1 = 2) ∧ ¬ (q.1 = 2 ∧ q.2.1 = 2) := by decide
theorem PPx {P P' : Nat → Nat → Nat} (h : qa_PP P) (e : ∀ a j, ¬ (a = 1 ∧ j = 2) → ¬ (a = 2 ∧ j = 2) → P' a j = P a j) (h1 : qa_tw (P' 1 2)) (h2 : qa_tw (P' 2 2)) : qa_PP P' := ⟨fun q hq => (e _ _ (ptab_x q hq).1 (ptab_x q hq).2).trans (h.1 q hq), h1, h2⟩
theorem INV.town {μ μ' : qa_M} (h : INV μ) (pp : qa_PP μ'.2.2) (tt : (μ'.2.2 1 2 = 3 ∧ μ'.2.2 2 2 = 16) ∨ (μ'.2.2 1 2 = 16 ∧ μ'.2.2 2 2 = 3)) (j1 : μ'.2.1 = μ.2.1) (s2 : ∀ b j, (b = 29 ∨ (47 ≤ b ∧ b ≤ 90) ∨ (93 ≤ b ∧ b ≤ 94) ∨ (110 ≤ b ∧ b ≤ 111)) → μ'.1 b j = μ.1 b j) (r : RZ (μ'.1 92)) (T : TZ μ' (μ'.2.2 1 2) (μ'.1 92)) (Y : YR μ' 33 34 35 36 (zW (μ'.1 92)) (μ'.1 92) (oT (μ'.1 92))) (TP : TAPE μ') (F : μ'.1 2 7 = μ'.1 91 12 ∧ μ'.1 2 8 = μ'.1 91 13) (Wr : WRT μ') : INV μ' := by
  obtain ⟨i1, i2, i3, i4, i5, i6, i7, i8, i9, i10⟩ := h
  refine ⟨pp, tt, r, T, Y, TP, F, ?_, ?_, Wr⟩
  · intro k hk
    have e93 : (fun j => μ'.1 93 (114 * k + j)) = (fun j => μ.1 93 (114 * k + j)) := funext (fun j => s2 _ _ (by omega))
    rw [s2 29 _ (by omega), s2 94 _ (by omega), e93]
    obtain ⟨g1, g2⟩ := i8 k hk
    refine ⟨g1, ?_⟩
    rcases g2 with g2 | ⟨g2, g3, g4⟩
    · exact Or.inl g2
    · exact Or.inr ⟨g2, g3, g4.mono (fun j x hj => s2 _ _ (by omega)) rfl⟩
  · intro k hk
    obtain ⟨g1, g2⟩ := i9 k hk
    rw [s2 (83 + 2 * k) _ (by omega), s2 110 _ (by omega)]
    refine ⟨g1, ?_⟩
    rcases g2 with g2 | ⟨m, g2, g3, g4, g5, g6⟩
    · exact Or.inl g2
    · refine Or.inr ⟨m, g2, g3, ?_, ?_, fun j hj => ?_⟩
      · rw [s2 (83 + 2 * k) _ (by omega), s2 111 _ (by omega)]; exact g4
      · rw [s2 111 _ (by omega)]; exact g5
      · rw [j1]; exact g6 j hj
theorem c_2 {Ln n : Nat} {xs : Nat → Int32} {K : Int32 → qa_M → Prop} {i : Int32} {μ : qa_M} (I : INV μ) (hn : 2000 ≤ n) (k : ∀ μ', INV μ' → K (i + 6) μ') (v1 : vp_in (i + 1) Ln) (v2 : vp_in (i + 2) Ln) (v3 : vp_in (i + 3) Ln) (v4 : vp_in (i + 4) Ln) (v5 : vp_in (i + 5) Ln) : wLc_2 Ln xs n K i μ := by
  unfold wLc_2
  obtain ⟨w, hw⟩ : ∃ w, μ.1 92 = w := ⟨_, rfl⟩
  obtain ⟨r, T, E, G⟩ := I.facts hw
  obtain ⟨r1, r2, r3, r4⟩ := r.n0
  have L8 := G.1
  have N1 := r.2.1.1
  obtain ⟨W20, H8, hW, hH, plt, hpl, hpp, hfo, htu, hsu, hsm⟩ := id E
  obtain ⟨Z, z1, z2, z3, z4⟩ := I.2.2.2.2.2.1
  obtain ⟨t, t', et, et', ht⟩ : ∃ t t', μ.2.2 2 2 = t ∧ μ.2.2 1 2 = t' ∧ ((t' = 3 ∧ t = 16) ∨ (t' = 16 ∧ t = 3)) := ⟨_, _, rfl, rfl, I.2.1⟩
  have tw : qa_tw t := by unfold qa_tw; omega
  have tw' : qa_tw t' := by unfold qa_tw; omega
  rw [et'] at T
  unfold wX8_town
  have hb1 : ∀ j, j < Z → μ.1 15 j = μ.1 15 j ∧ isB (μ.1 15 j) := fun j hj => ⟨rfl, (z4 j hj).2⟩
  rcases pAll_end (f := μ.1 15) (T := Z) (Z + 1) (rdT (μ.1 15) Z 0) w00 with ⟨a, b, h⟩ | ⟨wn, h⟩
  · refine x_read (f := μ.1 15) (t := t) (by omega) et z1 z2 hb1 (by omega) h (fun k1 pl μ2 e x2 B2 => ?_) (fun w' μ2 e => e.elim)
    obtain ⟨rfl, rfl⟩ := e
    obtain ⟨x21, x24⟩ := x2
    have B3 : BX (qa_uI μ2 2 1 0) _ _ := ⟨(uIn _ _ (by omega)).trans B2.1, B2.2.1, (uIn _ _ (by omega)).trans B2.2.2⟩
    rw [nmM]
    refine ⟨fun e => absurd e B3.nz, fun _ => ?_⟩
    have F3 : ∀ b j, b ≠ 2 → (b < t ∨ t + 11 < b) → (qa_uI μ2 2 1 0).1 b j = μ.1 b j := fun b j h1 h2 => by
      rw [uIn _ _ (by omega), x24 b j h1 h2]
    refine m_town (f := μ.1 15) z1 (by rw [F3 _ _ (by omega) (by omega)]; exact z3) (fun j hj => ⟨by rw [F3 _ _ (by omega) (by omega)]; exact (z4 j hj).1.symm, (z4 j hj).2⟩) (by omega) h (fun k2 pl2 μ4 e y1 y2 y3 B4 => ?_) (fun w' μ4 e => e.elim)
    obtain ⟨rfl, rfl⟩ := e
    have F4 : ∀ b j, b ≠ 2 → b ≠ 91 → b ≠ 97 → (b < t ∨ t + 11 < b) → μ4.1 b j = μ.1 b j := fun b j h1 h2 h3 h4 => by
      rw [y3 b j h2 h3]; exact F3 b j h1 h4
    have R4 : μ4.2 = μ.2 := y1.trans x21
    have e12 : μ4.2.2 1 2 = t' := by rw [R4]; exact et'
    have e22 : μ4.2.2 2 2 = t := by rw [R4]; exact et
    have e92 : μ4.1 92 = μ.1 92 := funext (fun j => F4 92 j (by omega) (by omega) (by omega) (by omega))
    have T4 : TZ μ4 t' w := T.mono (fun j x hj => F4 _ _ (by omega) (by omega) (by omega) (by omega)) rfl
    refine eq_fin rfl (k _ (I.town (by rw [R4]; exact I.1) (by rw [e12, e22]; exact ht) (by rw [R4]) (fun b j hb => F4 b j (by omega) (by omega) (by omega) (by omega)) (by rw [e92]; exact I.2.2.1) (by rw [e12, e92, hw]; exact T4) (by rw [e92]; exact I.2.2.2.2.1.mono (fun b j hb => F4 b j (by omega) (by omega) (by omega) (by omega))) ⟨0, by omega, ?_, y2, fun j hj => absurd hj (Nat.not_lt_zero j)⟩ ⟨?_, ?_⟩ ?_))
    · rw [y3 _ _ (by omega) (by omega)]
      exact uIs _ _ _ _
    · rw [y3 _ _ (by omega) (by omega), B3.1, B4.1]
    · rw [y3 _ _ (by omega) (by omega), B3.2.2, B4.2.2]
    · have Wr := I.2.2.2.2.2.2.2.2.2
      unfold WRT at Wr ⊢
      rw [e92, F4 1 4 (by omega) (by omega) (by omega) (by omega)]
      rcases Wr with g | ⟨g, g'⟩
      · exact Or.inl g
      · exact Or.inr ⟨g, fun s hs => by rw [F4 46 s (by omega) (by omega) (by omega) (by omega)]; exact g' s hs⟩
  · refine x_read (f := μ.1 15) (t := t) (by omega) et z1 z2 hb1 (by omega) h (fun k1 pl μ2 e => e.elim) (fun w' μ2 e x2 rn zn X2 g7 g8 => ?_)
    subst e
    obtain ⟨x21, x24⟩ := x2
    rw [nmM]
    refine ⟨fun _ => ?_, fun e => absurd ((uIn _ _ (by omega)).trans g7) e⟩
    rw [nmM, nmM]
    obtain ⟨u, hu⟩ : ∃ u : Nat → Int32, u = fun j => if j < 114 then w' j else w j := ⟨_, rfl⟩
    have ul : ∀ j, j < 114 → u j = w' j := fun j hj => by rw [hu]; exact if_pos hj
    have ru := (rn.lt ul).1
    have Xu := X2.lt rn ul
    have m12 : (qa_uI μ2 2 1 0).2.2 1 2 = t' := by
      show μ2.2.2 1 2 = t'
      rw [x21]; exact et'
    have m22 : (qa_uI μ2 2 1 0).2.2 2 2 = t := by
      show μ2.2.2 2 2 = t
      rw [x21]; exact et
    rw [m12, m22]
    have R6 : ∀ a j, (qa_uP (qa_uP (qa_uI μ2 2 1 0) 1 2 t) 2 2 t').2.2 a j = if a = 2 ∧ j = 2 then t' else if a = 1 ∧ j = 2 then t else μ2.2.2 a j := fun a j => rfl
    have V6 : (qa_uP (qa_uP (qa_uI μ2 2 1 0) 1 2 t) 2 2 t').2.1 = μ2.2.1 := rfl
    have F6 : ∀ b j, b ≠ 2 → (b < t ∨ t + 11 < b) → (qa_uP (qa_uP (qa_uI μ2 2 1 0) 1 2 t) 2 2 t').1 b j = μ.1 b j := fun b j h1 h2 => by
      rw [uP1, uP1, uIn _ _ (by omega), x24 b j h1 h2]
    have T6 : ∀ j x, j ≤ 11 → (qa_uP (qa_uP (qa_uI μ2 2 1 0) 1 2 t) 2 2 t').1 (t + j) x = μ2.1 (t + j) x := fun j x hj => by
      rw [uP1, uP1, uIn _ _ (by omega)]
    have E6 : (qa_uP (qa_uP (qa_uI μ2 2 1 0) 1 2 t) 2 2 t').1 2 1 = 0 := by
      rw [uP1, uP1, uIs]
    have H6 : ∀ j, j ≠ 1 → (qa_uP (qa_uP (qa_uI μ2 2 1 0) 1 2 t) 2 2 t').1 2 j = μ2.1 2 j := fun j hj => by
      rw [uP1, uP1, uIn _ _ (by omega)]
    generalize qa_uP (qa_uP (qa_uI μ2 2 1 0) 1 2 t) 2 2 t' = μ6 at R6 V6 F6 T6 E6 H6
    have e12 : μ6.2.2 1 2 = t := by rw [R6, if_neg (by omega), if_pos ⟨rfl, rfl⟩]
    have e22 : μ6.2.2 2 2 = t' := by rw [R6, if_pos ⟨rfl, rfl⟩]
    refine x_renew (w := u) (by rw [e12]; omega) ru (by rw [e12]; exact Xu.mono T6 rfl) (by omega) (fun μ7 b1 b2 b3 Y7 => ?_)
    have t7 : μ7.2.2 1 2 = t := by rw [b1]; exact e12
    have X7 : TZ μ7 t u := Xu.mono (fun j x hj => by rw [b2 _ _ (by omega) (by omega) (by omega) (by omega) (by omega) (by omega)]; exact T6 j x hj) rfl
    have F7 : ∀ b j, b ≠ 2 → (b < t ∨ t + 11 < b) → b ≠ 1 → b ≠ 31 → (b < 33 ∨ 36 < b) → μ7.1 b j = μ.1 b j := fun b j h1 h2 h3 h4 h5 => by
      rw [b2 b j h4 (by omega) (by omega) (by omega) (by omega) (by omega)]; exact F6 b j h1 h2
    rw [t7, X7.1.1]
    refine m_town (f := μ.1 15) z1 (by rw [F7 _ _ (by omega) (by omega) (by omega) (by omega) (by omega)]; exact z3) (fun j hj => ⟨by rw [F7 _ _ (by omega) (by omega) (by omega) (by omega) (by omega)]; exact (z4 j hj).1.symm, (z4 j hj).2⟩) (by omega) h (fun k2 pl2 μ8 e => e.elim) (fun w2 μ8 e y1 y2 y3 y4 y5 y6 => ?_)
    subst e
    have e92 : μ8.1 92 = u := by
      funext j
      rw [hu]
      by_cases c : j < 114
      · show μ8.1 92 j = if j < 114 then w2 j else w j
        rw [if_pos c]; exact y4 j c
      · show μ8.1 92 j = if j < 114 then w2 j else w j
        rw [if_neg c, y3 _ _ (by omega) (by omega) (by omega), F7 _ _ (by omega) (by omega) (by omega) (by omega) (by omega), hw]
    have R8 : ∀ a j, ¬ (a = 1 ∧ j = 2) → ¬ (a = 2 ∧ j = 2) → μ8.2.2 a j = μ.2.2 a j := fun a j h1 h2 => by
      rw [y1, b1, R6, if_neg h2, if_neg h1, x21]
    have s12 : μ8.2.2 1 2 = t := by rw [y1]; exact t7
    have s22 : μ8.2.2 2 2 = t' := by rw [y1, b1]; exact e22
    refine eq_fin ?_ (k _ (I.town (PPx I.1 R8 (by rw [s12]; exact tw) (by rw [s22]; exact tw')) (by rw [s12, s22]; omega) ?_ (fun b j hb => ?_) (by rw [e92]; exact ru) ?_ ?_ ⟨0, by omega, ?_, y2, fun j hj => absurd hj (Nat.not_lt_zero j)⟩ ⟨?_, ?_⟩ (Or.inl ?_)))
    · rw [← ul 9 (by omega)]
      exact ru.1.1.symm
    · rw [y1, b1, V6, x21]
    · rw [y3 _ _ (by omega) (by omega) (by omega)]
      exact F7 _ _ (by omega) (by omega) (by omega) (by omega) (by omega)
    · rw [s12, e92]
      exact X7.mono (fun j x hj => y3 _ _ (by omega) (by omega) (by omega)) rfl
    · rw [e92]
      exact Y7.mono (fun b j hb => y3 _ _ (by omega) (by omega) (by omega))
    · rw [y3 _ _ (by omega) (by omega) (by omega), b2 _ _ (by omega) (by omega) (by omega) (by omega) (by omega) (by omega)]
      exact E6
    · rw [y3 _ _ (by omega) (by omega) (by omega), b2 _ _ (by omega) (by omega) (by omega) (by omega) (by omega) (by omega), H6 _ (by omega), g7, y5]
    · rw [y3 _ _ (by omega) (by omega) (by omega), b2 _ _ (by omega) (by omega) (by omega) (by omega) (by omega) (by omega), H6 _ (by omega), g8, y6]
    · rw [y3 _ _ (by omega) (by omega) (by omega)]
      exact b3
