/-! what a line gives -/
section ST
variable {f : Nat → Int32} {T P : Nat} {s : Tk} {w : Nat → Int32} {er : Nat → Nat → Prop}
theorem pWord_m {wd : List Int32} {ok ok' : Tk → Prop} (o : okT T s) (b : P ≤ s.2.2.1) (h : pWord f T wd s er ok) (kk : ∀ s', okT T s' → P ≤ s'.2.2.1 → (s'.1 ≠ 0 → P < s'.2.2.1) → ok s' → ok' s') : pWord f T wd s er ok' := by
  unfold pWord at h ⊢
  obtain ⟨r1, r2, r3⟩ := rdT_ok (f := f) (T := T) o.2.1
  by_cases c : isw f wd s = true
  · rw [if_pos c] at h ⊢
    exact kk _ r1 (by omega) (fun n => by have := r3 n; omega) h
  · rw [if_neg c] at h ⊢
    exact h
theorem pNum_m {lo hi : Nat} {ok ok' : Nat → Tk → Prop} (o : okT T s) (b : P ≤ s.2.2.1) (h : pNum f T lo hi s er ok) (kk : ∀ v s', okT T s' → P ≤ s'.2.2.1 → (s'.1 ≠ 0 → P < s'.2.2.1) → lo ≤ v → v < hi → ok v s' → ok' v s') : pNum f T lo hi s er ok' := by
  unfold pNum at h ⊢
  obtain ⟨r1, r2, r3⟩ := rdT_ok (f := f) (T := T) o.2.1
  by_cases c : s.1 = 2
  · rw [if_pos c] at h ⊢
    by_cases d : lo ≤ s.2.2.2 ∧ s.2.2.2 < hi
    · rw [if_pos d] at h ⊢
      exact kk _ _ r1 (by omega) (fun n => by have := r3 n; omega) d.1 d.2 h
    · rw [if_neg d] at h ⊢
      exact h
  · rw [if_neg c] at h ⊢
    exact h
theorem pTold_m {wd : List Int32} {lo hi : Nat} {ok ok' : Nat → Tk → Prop} (o : okT T s) (b : P ≤ s.2.2.1) (h : pTold f T wd lo hi s er ok) (kk : ∀ v s', okT T s' → P ≤ s'.2.2.1 → (s'.1 ≠ 0 → P < s'.2.2.1) → lo ≤ v → v < hi → ok v s' → ok' v s') : pTold f T wd lo hi s er ok' := by
  unfold pTold at h ⊢
  exact pWord_m o b h (fun s1 o1 b1 _ h1 => pNum_m o1 b1 h1 kk)
theorem pSemi_m {ok ok' : Tk → Prop} (o : okT T s) (b : P ≤ s.2.2.1) (h : pSemi f T s er ok) (kk : ∀ s', s.1 = 3 → okT T s' → s.2.2.1 ≤ s'.2.2.1 → ok s' → ok' s') : pSemi f T s er ok' := by
  unfold pSemi at h ⊢
  obtain ⟨r1, r2, r3⟩ := rdT_ok (f := f) (T := T) o.2.1
  by_cases c : s.1 = 3
  · rw [if_pos c] at h ⊢
    exact kk _ c r1 r2 h
  · rw [if_neg c] at h ⊢
    exact h
def LNE (T : Nat) (s : Tk) (w : Nat → Int32) (s' : Tk) (w' : Nat → Int32) : Prop := okT T s' ∧ s.2.2.1 < s'.2.2.1 ∧ RZ w' ∧ zA w' = 0 ∧ zN w' = zN w + 1
theorem pLine_m {ok : Tk → (Nat → Int32) → Prop} (hT : T ≤ 800) (o : okT T s) (r : RZ w) (z : zA w = 0) (hN : zN w ≤ s.2.2.1) (h : pLine f T s w er ok) : pLine f T s w er (fun s' w' => ok s' w' ∧ LNE T s w s' w') := by
  have o2 := o.2.1
  have n9 : zN w < 900 := by omega
  obtain ⟨r1, r2, r3⟩ := rdT_ok (f := f) (T := T) o.2.1
  unfold pLine at h ⊢
  by_cases c0 : zN w = 0
  · rw [if_pos c0] at h ⊢
    unfold pTown at h ⊢
    refine pWord_m (P := s.2.2.1) o (Nat.le_refl _) h (fun s1 o1 p1 _ h1 => ?_)
    refine pTold_m o1 p1 h1 (fun a s2 o2 p2 _ a1 a2 h2 => ?_)
    refine pTold_m o2 p2 h2 (fun b s3 o3 p3 _ b1 b2 h3 => ?_)
    refine pTold_m o3 p3 h3 (fun c s4 o4 p4 _ c1 c2 h4 => ?_)
    refine pTold_m o4 p4 h4 (fun d s5 o5 p5 q5 d1 d2 h5 => ?_)
    refine pSemi_m o5 p5 h5 (fun s6 e3 o6 p6 h6 => ⟨h6, o6, ?_, ?_⟩)
    · have := q5 (by omega)
      omega
    · have g := (rz_T (a := a) (b := b) (c := c) (d := d) r z n9 ⟨a1, by omega⟩ (by omega) ⟨c1, by omega⟩ (by omega)).z
      exact ⟨g.1, g.2.2.2.2.2, g.2.1.1⟩
  rw [if_neg c0] at h ⊢
  have h0 : 0 < zN w := by omega
  by_cases c1 : isw f (wX 5) s = true
  · rw [if_pos c1] at h ⊢
    unfold pHouse at h ⊢
    by_cases d : zH w < 8
    · rw [if_pos d] at h ⊢
      refine pTold_m (P := s.2.2.1) r1 r2 h (fun a s2 o2 p2 q2 a1 a2 h2 => ?_)
      show if isw f (wX 7) s2 = true then _ else _
      by_cases e : isw f (wX 7) s2 = true
      · rw [if_pos e] at h2 ⊢
        obtain ⟨t1, t2, t3⟩ := rdT_ok (f := f) (T := T) o2.2.1
        refine pSemi_m (P := s.2.2.1) t1 (by omega) h2 (fun s6 e3 o6 p6 h6 => ⟨h6, o6, ?_, ?_⟩)
        · have := t3 (by omega)
          omega
        · have g := (rz_H (a := a) (b := 1) r z n9 h0 d (by omega) (by omega)).z
          exact ⟨g.1, g.2.2.2.2.2, g.2.1.1⟩
      · rw [if_neg e] at h2 ⊢
        refine pSemi_m o2 p2 h2 (fun s6 e3 o6 p6 h6 => ⟨h6, o6, ?_, ?_⟩)
        · have := q2 (by omega)
          omega
        · have g := (rz_H (a := a) (b := 0) r z n9 h0 d (by omega) (by omega)).z
          exact ⟨g.1, g.2.2.2.2.2, g.2.1.1⟩
    · rw [if_neg d] at h ⊢
      exact h
  rw [if_neg c1] at h ⊢
  by_cases c2 : isw f (wX 8) s = true
  · rw [if_pos c2] at h ⊢
    unfold pPlace at h ⊢
    by_cases d : zP w < 10
    · rw [if_pos d] at h ⊢
      refine pNum_m (P := s.2.2.1) r1 r2 h (fun p s2 o2 p2 q2 _ a2 h2 => ?_)
      refine pTold_m o2 p2 h2 (fun a s3 o3 p3 _ b1 b2 h3 => ?_)
      refine pTold_m o3 p3 h3 (fun b s4 o4 p4 q4 c1 c2 h4 => ?_)
      refine pSemi_m o4 p4 h4 (fun s6 e3 o6 p6 h6 => ⟨h6, o6, ?_, ?_⟩)
      · have := q4 (by omega)
        omega
      · have g := (rz_P (p := p) (a := a) (b := b) r z n9 h0 d a2 (by omega) (by omega)).z
        exact ⟨g.1, g.2.2.2.2.2, g.2.1.1⟩
    · rw [if_neg d] at h ⊢
      exact h
  rw [if_neg c2] at h ⊢
  by_cases c3 : isw f (wX 11) s = true
  · rw [if_pos c3] at h ⊢
    unfold pSnow at h ⊢
    by_cases d : zS w < 4
    · rw [if_pos d] at h ⊢
      refine pTold_m (P := s.2.2.1) r1 r2 h (fun a s4 o4 p4 q4 c1 c2 h4 => ?_)
      refine pSemi_m o4 p4 h4 (fun s6 e3 o6 p6 h6 => ⟨h6, o6, ?_, ?_⟩)
      · have := q4 (by omega)
        omega
      · have g := (rz_S (a := a) r z n9 h0 d c2).z
        exact ⟨g.1, g.2.2.2.2.2, g.2.1.1⟩
    · rw [if_neg d] at h ⊢
      exact h
  rw [if_neg c3] at h ⊢
  by_cases c4 : isw f (wX 13) s = true
  · rw [if_pos c4] at h ⊢
    unfold pLett at h ⊢
    by_cases d : zL w < 8
    · rw [if_pos d] at h ⊢
      refine pNum_m (P := s.2.2.1) r1 r2 h (fun p s2 o2 p2 q2 _ a2 h2 => ?_)
      refine pTold_m o2 p2 h2 (fun a s3 o3 p3 _ b1 b2 h3 => ?_)
      refine pTold_m o3 p3 h3 (fun b s4 o4 p4 q4 c1 c2 h4 => ?_)
      refine pSemi_m o4 p4 h4 (fun s6 e3 o6 p6 h6 => ⟨h6, o6, ?_, ?_⟩)
      · have := q4 (by omega)
        omega
      · have g := (rz_L (h := p) (p := a) (v := b) r z n9 h0 d a2 b2 c2).z
        exact ⟨g.1, g.2.2.2.2.2, g.2.1.1⟩
    · rw [if_neg d] at h ⊢
      exact h
  rw [if_neg c4] at h ⊢
  exact h
end ST
/-! the loops over lines -/
section LP
variable {f : Nat → Int32} {T t : Nat} {er : Nat → Nat → Prop} {ok : (Nat → Int32) → Prop}
theorem x_39b {n : Nat} {v : Int32} {μ : qa_M} {Q : qa_M → Prop} (hn : 0 < n) (b0 : ¬ μ.1 2 7 = 0) (h : Q μ) : wX2_read_28 n v μ Q := by
  obtain ⟨n, rfl⟩ : ∃ m, n = m + 1 := ⟨n - 1, by omega⟩
  rw [wX2_read_28]
  exact ⟨fun _ => h, fun _ => ⟨fun _ => h, fun _ => ⟨fun _ => h, fun e => absurd e b0⟩⟩⟩
theorem x_loop {Q : qa_M → Prop} {μ0 : qa_M} (ht : t = 3 ∨ t = 16) (kb : ∀ k pl μ', er k pl → xf t μ0 μ' → BX μ' k pl → Q μ') (kg : ∀ w' μ', ok w' → xf t μ0 μ' → RZ w' → zA w' = 0 → TZ μ' t w' → μ'.1 2 7 = 0 → μ'.1 2 8 = -1 → Q μ') (et : μ0.2.2 2 2 = t) : ∀ (k i n : Nat) (s : Tk) (w : Nat → Int32) (μ : qa_M), xf t μ0 μ → GX f T μ s → RZ w → zA w = 0 → TZ μ t w → zN w = i → i ≤ s.2.2.1 → T + 1 ≤ s.2.2.1 + k → k + 820 < n → pAll f T k s w er ok → wX2_read_28 n (nI i) μ Q := by
  intro k
  induction k with
  | zero =>
    intro i n s w μ X G r z tz zi hi hT hn h
    have := G.2.2.1.2.1
    omega
  | succ k ih =>
    intro i n s w μ X G r z tz zi hi hT hn h
    obtain ⟨n, rfl⟩ : ∃ m, n = m + 1 := ⟨n - 1, by omega⟩
    have T8 := G.1.1
    have sT := G.2.2.1.2.1
    have s4 := G.2.2.1.2.2.2
    rw [wX2_read_28, G.1.2.1, G.2.1.1, nlt _ _ (by omega) (by omega), nI_z (by omega)]
    unfold pAll at h
    refine ⟨fun e => absurd e (by omega), fun _ => ⟨fun c => ?_, fun c => ⟨fun e => absurd G.2.2.2.1 e, fun _ => ?_⟩⟩⟩
    · rw [if_pos c] at h
      exact kg w μ h X r z tz G.2.2.2.1 G.2.2.2.2
    · rw [if_neg c] at h
      have h' := pLine_m T8 G.2.2.1 r z (by omega) h
      refine x_line ht (by rw [X.1]; exact et) G r z (by omega) tz (by omega) h' (fun k pl μ' e x B => x_39b (by omega) B.nz (kb k pl μ' e (X.tr x) B)) (fun s' w' μ' q x G' tz' => ?_)
      obtain ⟨q1, q2, q3, q4, q5, q6⟩ := q
      rw [nI1]
      exact ih (i + 1) n s' w' μ' (X.tr x) G' q4 q5 tz' (by omega) (by omega) (by omega) (by omega) q1
theorem m_loop {K0 : qa_M → Prop} {Q : Int32 → qa_M → Prop} {μ0 : qa_M} (kb : ∀ k pl μ', er k pl → mf μ0 μ' → BM μ' k pl → K0 μ') (kg : ∀ w' μ', ok w' → mf μ0 μ' → MW μ' w' → μ'.1 91 12 = 0 → μ'.1 91 13 = -1 → K0 μ') : ∀ (k n : Nat) (s : Tk) (w : Nat → Int32) (μ : qa_M), mf μ0 μ → GM f T μ s → RZ w → zA w = 0 → MW μ w → zN w ≤ s.2.2.1 → T + 1 ≤ s.2.2.1 + k → k + 820 < n → pAll f T k s w er ok → wX9_town_53 n μ K0 Q := by
  intro k
  induction k with
  | zero =>
    intro n s w μ X G r z W hi hT hn h
    have := G.2.2.1.2.1
    omega
  | succ k ih =>
    intro n s w μ X G r z W hi hT hn h
    obtain ⟨n, rfl⟩ : ∃ m, n = m + 1 := ⟨n - 1, by omega⟩
    have T8 := G.1.1
    have sT := G.2.2.1.2.1
    have s4 := G.2.2.1.2.2.2
    rw [wX9_town_53, m_good G.2.2.2.1, G.2.1.1, nI_z (by omega)]
    unfold pAll at h
    refine ⟨fun e => absurd e (by decide), fun _ => ⟨fun c => ?_, fun c => ?_⟩⟩
    · rw [if_pos c] at h
      exact kg w μ h X W G.2.2.2.1 G.2.2.2.2
    · rw [if_neg c] at h
      have h' := pLine_m T8 G.2.2.1 r z (by omega) h
      refine m_line G r W (by omega) h' (fun k pl μ' e x B => ?_) (fun s' w' μ' q x G' W' => ?_)
      · obtain ⟨n, rfl⟩ : ∃ m, n = m + 1 := ⟨n - 1, by omega⟩
        rw [wX9_town_53, mb_good B.nz]
        exact ⟨fun _ => kb k pl μ' e (X.tr x) B, fun e => absurd rfl e⟩
      · obtain ⟨q1, q2, q3, q4, q5, q6⟩ := q
        exact ih n s' w' μ' (X.tr x) G' q4 q5 W' (by omega) (by omega) (by omega) q1
end LP
/-! the two readings -/
def w00 : Nat → Int32 := fun _ => 0
theorem RZ00 : RZ w00 ∧ zA w00 = 0 ∧ zN w00 = 0 := ⟨⟨⟨rfl, rfl, rfl, rfl, rfl, rfl, rfl, rfl⟩, ⟨by decide, by decide, by decide, by decide, by decide, by decide, by decide, by decide⟩, ⟨⟨0, by omega, rfl⟩, Or.inl rfl, fun h => absurd h (by decide), fun _ => ⟨rfl, rfl, rfl⟩⟩, ⟨fun h hh => absurd hh (Nat.not_lt_zero h), fun _ _ _ => rfl⟩, fun h hh => absurd hh (Nat.not_lt_zero h), fun h hh => absurd hh (Nat.not_lt_zero h), fun h hh => absurd hh (Nat.not_lt_zero h), fun h hh => absurd hh (Nat.not_lt_zero h)⟩, rfl, rfl⟩
theorem lean00 : leanW w00 = 0 := by decide
theorem x_clear {n t : Nat} {μ : qa_M} {Q : qa_M → Prop} (hn : 60 < n) (kk : ∀ μ', μ'.2 = μ.2 → (∀ b j, (b < t ∨ t + 11 < b) → μ'.1 b j = μ.1 b j) → TZ μ' t w00 → Q μ') : wX6_clear n t μ Q := by
  unfold wX6_clear
  simp only [nmM]
  refine s_fill (by omega) (by omega) (fun μ1 o1 f1 => ?_)
  refine s_fill (by omega) (by omega) (fun μ2 o2 f2 => ?_)
  unfold wX0_keepFirst
  rw [nmM]
  refine x_noteAll (c := 0) (H := 0) (W := 0) (w := w00) (by omega) (by omega) (uIs _ _ _ _) (by omega) (fun i hi => absurd hi (Nat.not_lt_zero i)) (by omega) (fun μ3 e1 e2 e3 e4 => ?_)
  refine kk μ3 (e1.trans (o2.1.trans o1.1)) (fun b j hb => ?_) ?_
  · rw [e2 b j (by omega) (by omega), uIn _ _ (by omega), o2.2 b j (by omega), o1.2 b j (by omega)]
    simp (disch := omega) only [uIn]
  · have c0 : ∀ j, j ≤ 10 → μ3.1 t j = 0 := fun j hj => by
      rw [e2 t j (by omega) (by omega), uIn _ _ (by omega), o2.2 t j (by omega), o1.2 t j (by omega)]
      have : j = 0 ∨ j = 1 ∨ j = 2 ∨ j = 3 ∨ j = 4 ∨ j = 5 ∨ j = 6 ∨ j = 7 ∨ j = 8 ∨ j = 9 ∨ j = 10 := by omega
      rcases this with rfl | rfl | rfl | rfl | rfl | rfl | rfl | rfl | rfl | rfl | rfl <;> simp (disch := omega) only [uIn, uIs]
    refine ⟨⟨c0 0 (by omega), c0 1 (by omega), c0 2 (by omega), c0 3 (by omega), c0 4 (by omega), c0 5 (by omega), c0 6 (by omega), c0 7 (by omega), c0 8 (by omega), by rw [lean00]; exact c0 9 (by omega), c0 10 (by omega)⟩, ⟨fun h hh => absurd hh (Nat.not_lt_zero h), fun p hp => ?_, fun p hp => ?_⟩, fun i hi => absurd hi (Nat.not_lt_zero i), ⟨?_, e3, e4⟩, fun i hi => absurd hi (Nat.not_lt_zero i)⟩
    · rw [e2 _ _ (by omega) (by omega), uIn _ _ (by omega), o2.2 _ _ (by omega)]
      exact f1 p hp
    · rw [e2 _ _ (by omega) (by omega), uIn _ _ (by omega)]
      exact f2 p hp
    · rw [e2 _ _ (by omega) (by omega), uIs]
      rfl
