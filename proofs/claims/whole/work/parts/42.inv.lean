def ab (x : Int32) : Int32 := if 0 ≤ x then x else -x
/-- lowest bits -/
def lowB (H : Nat) : Int32 := ((1 : Int32) <<< (nI H &&& 31)) - 1
def oW (w : Nat → Int32) (s : Int32) : OV := (w 1, zK w, leanW w, snowW w (zS w), lowB (zH w) &&& ~~~ s, id)
def wrt (w : Nat → Int32) (s : Int32) : Int32 := itr (fun v x => x + ab (ytu w (oW w s) v)) 0 (zW w) 0
def TAPE (μ : qa_M) : Prop := ∃ T : Nat, T ≤ 800 ∧ μ.1 2 1 = nI T ∧ μ.1 91 5 = nI T ∧ ∀ j, j < T → μ.1 15 j = μ.1 95 j ∧ ∃ b : Int8, μ.1 15 j = b.toInt32
def IMG (μ : qa_M) : Prop := ∀ k, k < 3 → μ.1 29 k = μ.1 94 k ∧ (μ.1 29 k = 0 ∨ (μ.1 29 k = 1 ∧ RZ (fun j => μ.1 93 (114 * k + j)) ∧ TZ μ (47 + 12 * k) (fun j => μ.1 93 (114 * k + j))))
def SLOT (μ : qa_M) : Prop := ∀ s, s < 4 → μ.1 (83 + 2 * s) 2 = μ.1 110 s ∧ (μ.1 110 s = -1 ∨ ∃ m, m ≤ 60 ∧ μ.1 110 s = nI m ∧ μ.1 (83 + 2 * s) 1 = μ.1 111 s ∧ (μ.1 111 s = 0 ∨ μ.1 111 s = 1 ∨ μ.1 111 s = 2 ∨ μ.1 111 s = 3) ∧ ∀ j, j < m → μ.2.1 (84 + 2 * s) j = μ.2.1 112 (60 * s + j))
def WRT (μ : qa_M) : Prop := μ.1 1 4 = 0 ∨ (μ.1 1 4 = 1 ∧ ∀ s, s < 2 ^ zH (μ.1 92) → μ.1 46 s = wrt (μ.1 92) (nI s))
def INV (μ : qa_M) : Prop := qa_PP μ.2.2 ∧ ((μ.2.2 1 2 = 3 ∧ μ.2.2 2 2 = 16) ∨ (μ.2.2 1 2 = 16 ∧ μ.2.2 2 2 = 3)) ∧ RZ (μ.1 92) ∧ TZ μ (μ.2.2 1 2) (μ.1 92) ∧ YR μ 33 34 35 36 (zW (μ.1 92)) (μ.1 92) (oT (μ.1 92)) ∧ TAPE μ ∧ (μ.1 2 7 = μ.1 91 12 ∧ μ.1 2 8 = μ.1 91 13) ∧ IMG μ ∧ SLOT μ ∧ WRT μ
/-- nothing has changed but what no later call reads -/
def sc (μ μ' : qa_M) : Prop := μ'.2.2 = μ.2.2 ∧ (∀ b j, b ≠ 31 → (b < 38 ∨ 45 < b) → (b < 96 ∨ 109 < b) → b ≠ 91 → μ'.1 b j = μ.1 b j) ∧ (μ'.1 91 5 = μ.1 91 5 ∧ μ'.1 91 12 = μ.1 91 12 ∧ μ'.1 91 13 = μ.1 91 13) ∧ ∀ b j, b ≠ 91 → b ≠ 113 → μ'.2.1 b j = μ.2.1 b j
theorem sc.rf (μ : qa_M) : sc μ μ := ⟨rfl, fun _ _ _ _ _ _ => rfl, ⟨rfl, rfl, rfl⟩, fun _ _ _ _ => rfl⟩
theorem sc.tr {μ μ1 μ2 : qa_M} (h : sc μ μ1) (h' : sc μ1 μ2) : sc μ μ2 := ⟨h'.1.trans h.1, fun b j h1 h2 h3 h4 => (h'.2.1 b j h1 h2 h3 h4).trans (h.2.1 b j h1 h2 h3 h4), ⟨h'.2.2.1.1.trans h.2.2.1.1, h'.2.2.1.2.1.trans h.2.2.1.2.1, h'.2.2.1.2.2.trans h.2.2.1.2.2⟩, fun b j h1 h2 => (h'.2.2.2 b j h1 h2).trans (h.2.2.2 b j h1 h2)⟩
theorem sc.w {μ μ' : qa_M} (h : sc μ μ') : μ'.1 92 = μ.1 92 := funext (fun j => h.2.1 92 j (by omega) (by omega) (by omega) (by omega))
theorem sc.put {μ μ' : qa_M} (h : sc μ μ') {b : Nat} (j : Nat) (x : Int32) (hb : b = 31 ∨ (38 ≤ b ∧ b ≤ 45) ∨ (96 ≤ b ∧ b ≤ 109)) : sc μ (qa_uI μ' b j x) := by
  refine h.tr ⟨rfl, fun c k h1 h2 h3 h4 => uIn _ _ (fun e => by omega), ⟨uIn _ _ (fun e => by omega), uIn _ _ (fun e => by omega), uIn _ _ (fun e => by omega)⟩, fun _ _ _ _ => rfl⟩
theorem sc.put91 {μ μ' : qa_M} (h : sc μ μ') (j : Nat) (x : Int32) (hj : j ≠ 5 ∧ j ≠ 12 ∧ j ≠ 13) : sc μ (qa_uI μ' 91 j x) := by
  refine h.tr ⟨rfl, fun c k h1 h2 h3 h4 => uIn _ _ (fun e => by omega), ⟨uIn _ _ (fun e => by omega), uIn _ _ (fun e => by omega), uIn _ _ (fun e => by omega)⟩, fun _ _ _ _ => rfl⟩
theorem sc.putJ {μ μ' : qa_M} (h : sc μ μ') {b : Nat} (j : Nat) (x : Int64) (hb : b = 91 ∨ b = 113) : sc μ (qa_uJ μ' b j x) := by
  refine h.tr ⟨rfl, fun c k h1 h2 h3 h4 => rfl, ⟨rfl, rfl, rfl⟩, fun c k h1 h2 => ?_⟩
  rw [uJ21, if_neg (by omega)]
theorem sc.yr {μ μ1 μ2 : qa_M} (h : sc μ μ1) (o : onlyY 101 102 103 104 μ1 μ2) : sc μ μ2 := h.tr ⟨by rw [o.1], fun b j h1 h2 h3 h4 => o.2 b j (by omega) (by omega) (by omega) (by omega), ⟨o.2 _ _ (by omega) (by omega) (by omega) (by omega), o.2 _ _ (by omega) (by omega) (by omega) (by omega), o.2 _ _ (by omega) (by omega) (by omega) (by omega)⟩, fun b j _ _ => by rw [o.1]⟩
theorem sc.tr' {μ μ1 μ2 : qa_M} (h : sc μ μ1) (o : onlyY 38 39 40 41 μ1 μ2) : sc μ μ2 := h.tr ⟨by rw [o.1], fun b j h1 h2 h3 h4 => o.2 b j (by omega) (by omega) (by omega) (by omega), ⟨o.2 _ _ (by omega) (by omega) (by omega) (by omega), o.2 _ _ (by omega) (by omega) (by omega) (by omega), o.2 _ _ (by omega) (by omega) (by omega) (by omega)⟩, fun b j _ _ => by rw [o.1]⟩
theorem sc.lay {μ μ1 μ2 : qa_M} (h : sc μ μ1) (a1 : μ2.2 = μ1.2) (a2 : ∀ b j, b ≠ 91 → b ≠ 98 → b ≠ 99 → b ≠ 100 → μ2.1 b j = μ1.1 b j) (a3 : ∀ j, (j < 18 ∨ 25 ≤ j) → μ2.1 91 j = μ1.1 91 j) : sc μ μ2 := h.tr ⟨by rw [a1], fun b j h1 h2 h3 h4 => a2 b j (by omega) (by omega) (by omega) (by omega), ⟨a3 _ (by omega), a3 _ (by omega), a3 _ (by omega)⟩, fun b j _ _ => by rw [a1]⟩
theorem YR.mono {μ μ' : qa_M} {a1 a2 a3 a4 U : Nat} {w : Nat → Int32} {o : OV} (h : YR μ a1 a2 a3 a4 U w o) (e : ∀ b j, b = a1 ∨ b = a2 ∨ b = a3 ∨ b = a4 → μ'.1 b j = μ.1 b j) : YR μ' a1 a2 a3 a4 U w o := by
  obtain ⟨h1, h2, h3, h4⟩ := h
  exact ⟨fun v hv h hh => by rw [e _ _ (Or.inl rfl)]; exact h1 v hv h hh, fun v hv h hh => by rw [e _ _ (Or.inr (Or.inl rfl))]; exact h2 v hv h hh, fun v hv => by rw [e _ _ (Or.inr (Or.inr (Or.inl rfl)))]; exact h3 v hv, fun v hv => by rw [e _ _ (Or.inr (Or.inr (Or.inr rfl)))]; exact h4 v hv⟩
theorem TZ.mono {μ μ' : qa_M} {t : Nat} {w w' : Nat → Int32} (h : TZ μ t w) (e : ∀ j x, j ≤ 11 → μ'.1 (t + j) x = μ.1 (t + j) x) (ew : w' = w) : TZ μ' t w' := by
  subst ew
  exact TX.mono h e rfl
theorem INV.sc {μ μ' : qa_M} (h : INV μ) (s : sc μ μ') : INV μ' := by
  have e92 := s.w
  obtain ⟨i1, i2, i3, i4, i5, i6, i7, i8, i9, i10⟩ := h
  obtain ⟨s1, s2, ⟨s3, s4, s5⟩, s6⟩ := s
  refine ⟨by rw [s1]; exact i1, by rw [s1]; exact i2, by rw [e92]; exact i3, ?_, ?_, ?_, ?_, ?_, ?_, ?_⟩
  · rw [s1, e92]
    rcases i2 with ⟨q, -⟩ | ⟨q, -⟩ <;> rw [q] at i4 ⊢
    · exact i4.mono (fun j x hj => s2 _ _ (by omega) (by omega) (by omega) (by omega)) rfl
    · exact i4.mono (fun j x hj => s2 _ _ (by omega) (by omega) (by omega) (by omega)) rfl
  · rw [e92]
    exact i5.mono (fun b j hb => s2 _ _ (by omega) (by omega) (by omega) (by omega))
  · obtain ⟨T, t1, t2, t3, t4⟩ := i6
    refine ⟨T, t1, by rw [s2 _ _ (by omega) (by omega) (by omega) (by omega)]; exact t2, by rw [s3]; exact t3, fun j hj => ?_⟩
    rw [s2 _ _ (by omega) (by omega) (by omega) (by omega), s2 _ _ (by omega) (by omega) (by omega) (by omega)]
    exact t4 j hj
  · rw [s4, s5, s2 _ _ (by omega) (by omega) (by omega) (by omega), s2 _ _ (by omega) (by omega) (by omega) (by omega)]
    exact i7
  · intro k hk
    have e93 : (fun j => μ'.1 93 (114 * k + j)) = (fun j => μ.1 93 (114 * k + j)) := funext (fun j => s2 _ _ (by omega) (by omega) (by omega) (by omega))
    rw [s2 29 _ (by omega) (by omega) (by omega) (by omega), s2 94 _ (by omega) (by omega) (by omega) (by omega), e93]
    obtain ⟨g1, g2⟩ := i8 k hk
    refine ⟨g1, ?_⟩
    rcases g2 with g2 | ⟨g2, g3, g4⟩
    · exact Or.inl g2
    · exact Or.inr ⟨g2, g3, g4.mono (fun j x hj => s2 _ _ (by omega) (by omega) (by omega) (by omega)) rfl⟩
  · intro k hk
    obtain ⟨g1, g2⟩ := i9 k hk
    rw [s2 (83 + 2 * k) _ (by omega) (by omega) (by omega) (by omega), s2 110 _ (by omega) (by omega) (by omega) (by omega)]
    refine ⟨g1, ?_⟩
    rcases g2 with g2 | ⟨m, g2, g3, g4, g5, g6⟩
    · exact Or.inl g2
    · refine Or.inr ⟨m, g2, g3, ?_, ?_, fun j hj => ?_⟩
      · rw [s2 (83 + 2 * k) _ (by omega) (by omega) (by omega) (by omega), s2 111 _ (by omega) (by omega) (by omega) (by omega)]; exact g4
      · rw [s2 111 _ (by omega) (by omega) (by omega) (by omega)]; exact g5
      · rw [s6 _ _ (by omega) (by omega), s6 _ _ (by omega) (by omega)]; exact g6 j hj
  · unfold WRT
    rw [e92, s2 1 _ (by omega) (by omega) (by omega) (by omega)]
    rcases i10 with g | ⟨g, g'⟩
    · exact Or.inl g
    · exact Or.inr ⟨g, fun k hk => by rw [s2 46 _ (by omega) (by omega) (by omega) (by omega)]; exact g' k hk⟩
theorem RZ.law {w : Nat → Int32} (r : RZ w) (hW : 0 < zW w) : (1 ≤ zK w ∧ zK w ≤ 30) ∧ (w 1 = 0 ∨ w 1 = 1 ∨ w 1 = 2 ∨ w 1 = 3) := by
  obtain ⟨-, ⟨-, -, g1, -⟩, ⟨-, g4, g2, g3⟩, -⟩ := r
  by_cases q : zN w = 0
  · have := (g3 q).1
    omega
  · have := g2 (by omega)
    exact ⟨⟨this.2, g1⟩, g4⟩
/-- m looks at the year as it is -/
theorem m_asks {n : Nat} {w : Nat → Int32} {μ : qa_M} {Q : Int32 → qa_M → Prop} (hw : μ.1 92 = w) (r : RZ w) (hn : 60 < n)
    (kk : ∀ μ', sc μ μ' → MS μ' w (oT w) → YR μ' 101 102 103 104 (zW w) w (oT w) → Q (qb (0 < (w 9).toInt)) μ') : wX9_asksTown n μ Q := by
  unfold wX9_asksTown
  refine m_lay hw r (by omega) (fun μ1 a1 a2 a3 a4 => ?_)
  have e1 : μ1.1 92 = w := by rw [← hw]; exact funext (fun j => a2 92 j (by omega) (by omega) (by omega) (by omega))
  refine m_year e1 r a4 (fun hW => ?_) hn (fun μ2 o2 y2 => ?_)
  · exact (r.law hW).1
  · have e2 : μ2.1 92 = w := by rw [← e1]; exact funext (fun j => o2.2 92 j (by omega) (by omega) (by omega) (by omega))
    rw [s_isTown, nzb, e2]
    refine ⟨rfl, kk μ2 (((sc.rf μ).lay a1 a2 a3).yr o2) ?_ y2⟩
    obtain ⟨m1, m2, m3, m4, m5, m6, m7, m8, m9⟩ := a4
    have e91 : ∀ j, μ2.1 91 j = μ1.1 91 j := fun j => o2.2 _ _ (by omega) (by omega) (by omega) (by omega)
    exact ⟨by rw [e91]; exact m1, by rw [e91]; exact m2, by rw [e91]; exact m3, by rw [e91]; exact m4, by rw [e91]; exact m5, by rw [e91, e91]; exact m6, fun p hp => by rw [o2.2 _ _ (by omega) (by omega) (by omega) (by omega)]; exact m7 p hp, fun p hp => by rw [o2.2 _ _ (by omega) (by omega) (by omega) (by omega)]; exact m8 p hp, fun p hp => by rw [o2.2 _ _ (by omega) (by omega) (by omega) (by omega)]; exact m9 p hp⟩
