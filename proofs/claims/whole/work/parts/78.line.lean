/-! a line, in abstract -/
abbrev wX (i : Nat) : List Int32 := qa_txt.getD i []
def uT (w : Nat → Int32) (a b c d : Nat) : Nat → Int32 := upd (upd (upd (upd (upd w 0 (nI a)) 1 (nI b)) 2 (nI c)) 3 (nI d)) 9 (nI (zN w + 1))
def uH (w : Nat → Int32) (a b : Nat) : Nat → Int32 := upd (upd (upd (upd w (10 + 2 * zH w) (nI a)) (11 + 2 * zH w) (nI b)) 4 (nI (zH w + 1))) 9 (nI (zN w + 1))
def uP (w : Nat → Int32) (p a b : Nat) : Nat → Int32 := upd (upd (upd (upd (upd w (26 + 3 * zP w) (nI p)) (27 + 3 * zP w) (nI a)) (28 + 3 * zP w) (nI b)) 5 (nI (zP w + 1))) 9 (nI (zN w + 1))
def uS (w : Nat → Int32) (a : Nat) : Nat → Int32 := upd (upd (upd w (56 + zS w) (nI a)) 6 (nI (zS w + 1))) 9 (nI (zN w + 1))
def uL (w : Nat → Int32) (h p v : Nat) : Nat → Int32 := upd (upd (upd (upd (upd w (60 + 3 * zL w) (nI h)) (61 + 3 * zL w) (nI p)) (62 + 3 * zL w) (nI v)) 7 (nI (zL w + 1))) 9 (nI (zN w + 1))
theorem upn (f : Nat → Int32) {k j : Nat} (x : Int32) (h : j ≠ k) : upd f k x j = f j := if_neg h
theorem ups (f : Nat → Int32) (k : Nat) (x : Int32) : upd f k x k = x := if_pos rfl
section PL
variable {ρ : Type} (f : Nat → Int32) (T : Nat)
def pTown (s : Tk) (w : Nat → Int32) (er : Nat → Nat → ρ) (ok : Tk → (Nat → Int32) → ρ) : ρ := pWord f T (wX 0) s er fun s => pTold f T (wX 1) 1 21 s er fun a s => pTold f T (wX 2) 0 4 s er fun b s => pTold f T (wX 3) 1 31 s er fun c s => pTold f T (wX 4) 0 11 s er fun d s => pSemi f T s er fun s => ok s (uT w a b c d)
def pHouse (s : Tk) (w : Nat → Int32) (er : Nat → Nat → ρ) (ok : Tk → (Nat → Int32) → ρ) : ρ := if zH w < 8 then pTold f T (wX 6) 0 41 (rdT f T s.2.2.1) er (fun a s => if isw f (wX 7) s = true then pSemi f T (rdT f T s.2.2.1) er (fun s => ok s (uH w a 1)) else pSemi f T s er (fun s => ok s (uH w a 0))) else er 3 s.2.1
def pPlace (s : Tk) (w : Nat → Int32) (er : Nat → Nat → ρ) (ok : Tk → (Nat → Int32) → ρ) : ρ := if zP w < 10 then pNum f T 0 8 (rdT f T s.2.2.1) er (fun p s => pTold f T (wX 9) 0 21 s er fun a s => pTold f T (wX 10) 0 21 s er fun b s => pSemi f T s er fun s => ok s (uP w p a b)) else er 3 s.2.1
def pSnow (s : Tk) (w : Nat → Int32) (er : Nat → Nat → ρ) (ok : Tk → (Nat → Int32) → ρ) : ρ := if zS w < 4 then pTold f T (wX 12) 0 20 (rdT f T s.2.2.1) er (fun a s => pSemi f T s er fun s => ok s (uS w a)) else er 3 s.2.1
def pLett (s : Tk) (w : Nat → Int32) (er : Nat → Nat → ρ) (ok : Tk → (Nat → Int32) → ρ) : ρ := if zL w < 8 then pNum f T 0 (zH w) (rdT f T s.2.2.1) er (fun h s => pTold f T (wX 14) 0 8 s er fun p s => pTold f T (wX 12) 0 20 s er fun v s => pSemi f T s er fun s => ok s (uL w h p v)) else er 3 s.2.1
def pLine (s : Tk) (w : Nat → Int32) (er : Nat → Nat → ρ) (ok : Tk → (Nat → Int32) → ρ) : ρ :=
  if zN w = 0 then pTown f T s w er ok
  else if isw f (wX 5) s = true then pHouse f T s w er ok
  else if isw f (wX 8) s = true then pPlace f T s w er ok
  else if isw f (wX 11) s = true then pSnow f T s w er ok
  else if isw f (wX 13) s = true then pLett f T s w er ok
  else er 1 s.2.1
/-- all lines -/
def pAll : Nat → Tk → (Nat → Int32) → (Nat → Nat → ρ) → ((Nat → Int32) → ρ) → ρ
  | 0, _, w, _, ok => ok w
  | k + 1, s, w, er, ok => if s.1 = 0 then ok w else pLine f T s w er (fun s' w' => pAll k s' w' er ok)
end PL
/-! what is done with an end may be done behind it -/
section NT
variable {ρ σ : Type} (F : ρ → σ) {f : Nat → Int32} {T : Nat} {er : Nat → Nat → ρ}
theorem nt_w {wd : List Int32} {s : Tk} {ok : Tk → ρ} : F (pWord f T wd s er ok) = pWord f T wd s (fun k p => F (er k p)) (fun s => F (ok s)) := by
  unfold pWord
  split <;> rfl
theorem nt_n {lo hi : Nat} {s : Tk} {ok : Nat → Tk → ρ} : F (pNum f T lo hi s er ok) = pNum f T lo hi s (fun k p => F (er k p)) (fun v s => F (ok v s)) := by
  unfold pNum
  split
  · split <;> rfl
  · rfl
theorem nt_t {wd : List Int32} {lo hi : Nat} {s : Tk} {ok : Nat → Tk → ρ} : F (pTold f T wd lo hi s er ok) = pTold f T wd lo hi s (fun k p => F (er k p)) (fun v s => F (ok v s)) := by
  unfold pTold
  rw [nt_w F]
  congr 1
  funext s
  exact nt_n F
theorem nt_s {s : Tk} {ok : Tk → ρ} : F (pSemi f T s er ok) = pSemi f T s (fun k p => F (er k p)) (fun s => F (ok s)) := by
  unfold pSemi
  split <;> rfl
theorem nt_line {s : Tk} {w : Nat → Int32} {ok : Tk → (Nat → Int32) → ρ} : F (pLine f T s w er ok) = pLine f T s w (fun k p => F (er k p)) (fun s w => F (ok s w)) := by
  unfold pLine
  split
  · unfold pTown
    simp only [nt_w F, nt_t F, nt_s F]
  · split
    · unfold pHouse
      split
      · rw [nt_t F]
        congr 1
        funext a s
        split <;> exact nt_s F
      · rfl
    · split
      · unfold pPlace
        split
        · simp only [nt_n F, nt_t F, nt_s F]
        · rfl
      · split
        · unfold pSnow
          split
          · simp only [nt_n F, nt_t F, nt_s F]
          · rfl
        · split
          · unfold pLett
            split
            · simp only [nt_n F, nt_t F, nt_s F]
            · rfl
          · rfl
theorem nt_all : ∀ (k : Nat) (s : Tk) (w : Nat → Int32) (ok : (Nat → Int32) → ρ), F (pAll f T k s w er ok) = pAll f T k s w (fun k p => F (er k p)) (fun w => F (ok w)) := by
  intro k
  induction k with
  | zero => intro s w ok; rfl
  | succ k ih =>
    intro s w ok
    unfold pAll
    split
    · rfl
    · rw [nt_line F]
      congr 1
      funext s' w'
      exact ih s' w' ok
end NT
/-- its end, one of two -/
theorem pAll_end {f : Nat → Int32} {T : Nat} (k : Nat) (s : Tk) (w : Nat → Int32) : (∃ a b, pAll f T k s w (fun x y => x = a ∧ y = b) (fun _ => False)) ∨ ∃ w', pAll f T k s w (fun _ _ => False) (fun u => u = w') := by
  cases h : pAll f T k s w (fun x y => (Sum.inl (x, y) : (Nat × Nat) ⊕ (Nat → Int32))) (fun u => Sum.inr u) with
  | inl q =>
    refine Or.inl ⟨q.1, q.2, ?_⟩
    have := nt_all (Sum.elim (fun z : Nat × Nat => z.1 = q.1 ∧ z.2 = q.2) (fun _ : Nat → Int32 => False)) (f := f) (T := T) (er := fun x y => (Sum.inl (x, y) : (Nat × Nat) ⊕ (Nat → Int32))) k s w (fun u => Sum.inr u)
    rw [h] at this
    exact this ▸ ⟨rfl, rfl⟩
  | inr u =>
    refine Or.inr ⟨u, ?_⟩
    have := nt_all (Sum.elim (fun z : Nat × Nat => False) (fun v : Nat → Int32 => v = u)) (f := f) (T := T) (er := fun x y => (Sum.inl (x, y) : (Nat × Nat) ⊕ (Nat → Int32))) k s w (fun u => Sum.inr u)
    rw [h] at this
    exact this ▸ rfl
/-! numbers of a town -/
theorem RG.z {w : Nat → Int32} {ln wk k H np ns nl na : Nat} (h : RG w ln wk k H np ns nl na) : RZ w ∧ (zN w = ln ∧ zW w = wk ∧ zK w = k ∧ zH w = H) ∧ (zP w = np ∧ zS w = ns ∧ zL w = nl ∧ zA w = na) := by
  have h0 := h
  obtain ⟨⟨a1, a2, a3, a4, a5, a6, a7, a8⟩, ⟨b1, b2, b3, b4, b5, b6, b7, b8⟩, -⟩ := h0
  have z1 : zN w = ln := by unfold zN; rw [a1, cl (by omega)]
  have z2 : zW w = wk := by unfold zW; rw [a2, cl (by omega)]
  have z3 : zK w = k := by unfold zK; rw [a3, cl (by omega)]
  have z4 : zH w = H := by unfold zH; rw [a4, cl (by omega)]
  have z5 : zP w = np := by unfold zP; rw [a5, cl (by omega)]
  have z6 : zS w = ns := by unfold zS; rw [a6, cl (by omega)]
  have z7 : zL w = nl := by unfold zL; rw [a7, cl (by omega)]
  have z8 : zA w = na := by unfold zA; rw [a8, cl (by omega)]
  refine ⟨?_, ⟨z1, z2, z3, z4⟩, z5, z6, z7, z8⟩
  unfold RZ
  rw [z1, z2, z3, z4, z5, z6, z7, z8]
  exact h
section UU
variable {w : Nat → Int32}
theorem uT_o {a b c d j : Nat} (h : 4 ≤ j) (h9 : j ≠ 9) : uT w a b c d j = w j := by
  unfold uT
  rw [upn _ _ h9, upn _ _ (by omega), upn _ _ (by omega), upn _ _ (by omega), upn _ _ (by omega)]
theorem uT_v {a b c d : Nat} : uT w a b c d 0 = nI a ∧ uT w a b c d 1 = nI b ∧ uT w a b c d 2 = nI c ∧ uT w a b c d 3 = nI d ∧ uT w a b c d 9 = nI (zN w + 1) := by
  unfold uT
  refine ⟨?_, ?_, ?_, ?_, ups _ _ _⟩
  · rw [upn _ _ (by omega), upn _ _ (by omega), upn _ _ (by omega), upn _ _ (by omega), ups]
  · rw [upn _ _ (by omega), upn _ _ (by omega), upn _ _ (by omega), ups]
  · rw [upn _ _ (by omega), upn _ _ (by omega), ups]
  · rw [upn _ _ (by omega), ups]
theorem uH_o {a b j : Nat} (h1 : j ≠ 10 + 2 * zH w) (h2 : j ≠ 11 + 2 * zH w) (h4 : j ≠ 4) (h9 : j ≠ 9) : uH w a b j = w j := by
  unfold uH
  rw [upn _ _ h9, upn _ _ h4, upn _ _ h2, upn _ _ h1]
theorem uH_v {a b : Nat} : uH w a b (10 + 2 * zH w) = nI a ∧ uH w a b (11 + 2 * zH w) = nI b ∧ uH w a b 4 = nI (zH w + 1) ∧ uH w a b 9 = nI (zN w + 1) := by
  unfold uH
  refine ⟨?_, ?_, ?_, ups _ _ _⟩
  · rw [upn _ _ (by omega), upn _ _ (by omega), upn _ _ (by omega), ups]
  · rw [upn _ _ (by omega), upn _ _ (by omega), ups]
  · rw [upn _ _ (by omega), ups]
theorem uP_o {p a b j : Nat} (h1 : j < 26 + 3 * zP w ∨ 28 + 3 * zP w < j) (h5 : j ≠ 5) (h9 : j ≠ 9) : uP w p a b j = w j := by
  unfold uP
  rw [upn _ _ h9, upn _ _ h5, upn _ _ (by omega), upn _ _ (by omega), upn _ _ (by omega)]
theorem uP_v {p a b : Nat} : uP w p a b (26 + 3 * zP w) = nI p ∧ uP w p a b (27 + 3 * zP w) = nI a ∧ uP w p a b (28 + 3 * zP w) = nI b ∧ uP w p a b 5 = nI (zP w + 1) ∧ uP w p a b 9 = nI (zN w + 1) := by
  unfold uP
  refine ⟨?_, ?_, ?_, ?_, ups _ _ _⟩
  · rw [upn _ _ (by omega), upn _ _ (by omega), upn _ _ (by omega), upn _ _ (by omega), ups]
  · rw [upn _ _ (by omega), upn _ _ (by omega), upn _ _ (by omega), ups]
  · rw [upn _ _ (by omega), upn _ _ (by omega), ups]
  · rw [upn _ _ (by omega), ups]
theorem uS_o {a j : Nat} (h1 : j ≠ 56 + zS w) (h6 : j ≠ 6) (h9 : j ≠ 9) : uS w a j = w j := by
  unfold uS
  rw [upn _ _ h9, upn _ _ h6, upn _ _ h1]
theorem uS_v {a : Nat} : uS w a (56 + zS w) = nI a ∧ uS w a 6 = nI (zS w + 1) ∧ uS w a 9 = nI (zN w + 1) := by
  unfold uS
  refine ⟨?_, ?_, ups _ _ _⟩
  · rw [upn _ _ (by omega), upn _ _ (by omega), ups]
  · rw [upn _ _ (by omega), ups]
theorem uL_o {h p v j : Nat} (h1 : j < 60 + 3 * zL w ∨ 62 + 3 * zL w < j) (h7 : j ≠ 7) (h9 : j ≠ 9) : uL w h p v j = w j := by
  unfold uL
  rw [upn _ _ h9, upn _ _ h7, upn _ _ (by omega), upn _ _ (by omega), upn _ _ (by omega)]
theorem uL_v {h p v : Nat} : uL w h p v (60 + 3 * zL w) = nI h ∧ uL w h p v (61 + 3 * zL w) = nI p ∧ uL w h p v (62 + 3 * zL w) = nI v ∧ uL w h p v 7 = nI (zL w + 1) ∧ uL w h p v 9 = nI (zN w + 1) := by
  unfold uL
  refine ⟨?_, ?_, ?_, ?_, ups _ _ _⟩
  · rw [upn _ _ (by omega), upn _ _ (by omega), upn _ _ (by omega), upn _ _ (by omega), ups]
  · rw [upn _ _ (by omega), upn _ _ (by omega), upn _ _ (by omega), ups]
  · rw [upn _ _ (by omega), upn _ _ (by omega), ups]
  · rw [upn _ _ (by omega), ups]
theorem rz_T {a b c d : Nat} (r : RZ w) (z : zA w = 0) (hN : zN w < 900) (ha : 1 ≤ a ∧ a ≤ 20) (hb : b < 4) (hc : 1 ≤ c ∧ c ≤ 30) (hd : d ≤ 10) : RG (uT w a b c d) (zN w + 1) a c (zH w) (zP w) (zS w) (zL w) 0 := by
  obtain ⟨v0, v1, v2, v3, v9⟩ := uT_v (w := w) (a := a) (b := b) (c := c) (d := d)
  have o : ∀ {j : Nat}, 4 ≤ j → j ≠ 9 → uT w a b c d j = w j := fun h h' => uT_o h h'
  obtain ⟨⟨a1, a2, a3, a4, a5, a6, a7, a8⟩, ⟨b1, b2, b3, b4, b5, b6, b7, b8⟩, -, ⟨e1, e2⟩, g1, g2, g3, -⟩ := r
  rw [z] at a8
  refine ⟨⟨v9, v0, v2, (o (by omega) (by omega)).trans a4, (o (by omega) (by omega)).trans a5, (o (by omega) (by omega)).trans a6, (o (by omega) (by omega)).trans a7, (o (by omega) (by omega)).trans a8⟩, ⟨by omega, by omega, by omega, b4, b5, b6, b7, by omega⟩, ⟨⟨d, hd, v3⟩, ?_, fun _ => ⟨ha.1, hc.1⟩, fun h => absurd h (by omega)⟩, ⟨fun h hh => ?_, fun h h1 h2 => ?_⟩, fun i hi => ?_, fun i hi => ?_, fun i hi => ?_, fun i hi => absurd hi (Nat.not_lt_zero i)⟩
  · rw [v1]
    have : b = 0 ∨ b = 1 ∨ b = 2 ∨ b = 3 := by omega
    rcases this with rfl | rfl | rfl | rfl
    · exact Or.inl rfl
    · exact Or.inr (Or.inl rfl)
    · exact Or.inr (Or.inr (Or.inl rfl))
    · exact Or.inr (Or.inr (Or.inr rfl))
  · rw [o (by omega) (by omega), o (by omega) (by omega)]; exact e1 h hh
  · rw [o (by omega) (by omega)]; exact e2 h h1 h2
  · rw [o (by omega) (by omega), o (by omega) (by omega), o (by omega) (by omega)]; exact g1 i hi
  · rw [o (by omega) (by omega)]; exact g2 i hi
  · rw [o (by omega) (by omega), o (by omega) (by omega), o (by omega) (by omega)]; exact g3 i hi
theorem rz_H {a b : Nat} (r : RZ w) (z : zA w = 0) (hN : zN w < 900) (h0 : 0 < zN w) (hH : zH w < 8) (ha : a ≤ 40) (hb : b = 0 ∨ b = 1) : RG (uH w a b) (zN w + 1) (zW w) (zK w) (zH w + 1) (zP w) (zS w) (zL w) 0 := by
  obtain ⟨v0, v1, v4, v9⟩ := uH_v (w := w) (a := a) (b := b)
  have o : ∀ {j : Nat}, j ≠ 10 + 2 * zH w → j ≠ 11 + 2 * zH w → j ≠ 4 → j ≠ 9 → uH w a b j = w j := fun h1 h2 h4 h9 => uH_o h1 h2 h4 h9
  obtain ⟨⟨a1, a2, a3, a4, a5, a6, a7, a8⟩, ⟨b1, b2, b3, b4, b5, b6, b7, b8⟩, ⟨⟨d, d1, d2⟩, c1, c2, c3⟩, ⟨e1, e2⟩, g1, g2, g3, -⟩ := r
  rw [z] at a8
  refine ⟨⟨v9, (o (by omega) (by omega) (by omega) (by omega)).trans a2, (o (by omega) (by omega) (by omega) (by omega)).trans a3, v4, (o (by omega) (by omega) (by omega) (by omega)).trans a5, (o (by omega) (by omega) (by omega) (by omega)).trans a6, (o (by omega) (by omega) (by omega) (by omega)).trans a7, (o (by omega) (by omega) (by omega) (by omega)).trans a8⟩, ⟨by omega, b2, b3, by omega, b5, b6, b7, by omega⟩, ⟨⟨d, d1, (o (by omega) (by omega) (by omega) (by omega)).trans d2⟩, ?_, fun _ => c2 h0, fun h => absurd h (by omega)⟩, ⟨fun h hh => ?_, fun h h1 h2 => ?_⟩, fun i hi => ?_, fun i hi => ?_, fun i hi => ?_, fun i hi => absurd hi (Nat.not_lt_zero i)⟩
  · rw [o (by omega) (by omega) (by omega) (by omega)]; exact c1
  · by_cases c : h = zH w
    · rw [c, v0, v1]
      exact ⟨⟨a, ha, rfl⟩, hb.elim (fun e => Or.inl (by rw [e]; rfl)) (fun e => Or.inr (by rw [e]; rfl))⟩
    · rw [o (by omega) (by omega) (by omega) (by omega), o (by omega) (by omega) (by omega) (by omega)]; exact e1 h (by omega)
  · rw [o (by omega) (by omega) (by omega) (by omega)]; exact e2 h (by omega) h2
  · rw [o (by omega) (by omega) (by omega) (by omega), o (by omega) (by omega) (by omega) (by omega), o (by omega) (by omega) (by omega) (by omega)]; exact g1 i hi
  · rw [o (by omega) (by omega) (by omega) (by omega)]; exact g2 i hi
  · rw [o (by omega) (by omega) (by omega) (by omega), o (by omega) (by omega) (by omega) (by omega), o (by omega) (by omega) (by omega) (by omega)]
    obtain ⟨⟨h, h1, h2⟩, h3⟩ := g3 i hi
    exact ⟨⟨h, by omega, h2⟩, h3⟩
theorem rz_P {p a b : Nat} (r : RZ w) (z : zA w = 0) (hN : zN w < 900) (h0 : 0 < zN w) (hP : zP w < 10) (hp : p < 8) (ha : a ≤ 20) (hb : b ≤ 20) : RG (uP w p a b) (zN w + 1) (zW w) (zK w) (zH w) (zP w + 1) (zS w) (zL w) 0 := by
  obtain ⟨v0, v1, v2, v5, v9⟩ := uP_v (w := w) (p := p) (a := a) (b := b)
  have o : ∀ {j : Nat}, (j < 26 + 3 * zP w ∨ 28 + 3 * zP w < j) → j ≠ 5 → j ≠ 9 → uP w p a b j = w j := fun h1 h5 h9 => uP_o h1 h5 h9
  obtain ⟨⟨a1, a2, a3, a4, a5, a6, a7, a8⟩, ⟨b1, b2, b3, b4, b5, b6, b7, b8⟩, ⟨⟨d, d1, d2⟩, c1, c2, c3⟩, ⟨e1, e2⟩, g1, g2, g3, -⟩ := r
  rw [z] at a8
  refine ⟨⟨v9, (o (by omega) (by omega) (by omega)).trans a2, (o (by omega) (by omega) (by omega)).trans a3, (o (by omega) (by omega) (by omega)).trans a4, v5, (o (by omega) (by omega) (by omega)).trans a6, (o (by omega) (by omega) (by omega)).trans a7, (o (by omega) (by omega) (by omega)).trans a8⟩, ⟨by omega, b2, b3, b4, by omega, b6, b7, by omega⟩, ⟨⟨d, d1, (o (by omega) (by omega) (by omega)).trans d2⟩, ?_, fun _ => c2 h0, fun h => absurd h (by omega)⟩, ⟨fun h hh => ?_, fun h h1 h2 => ?_⟩, fun i hi => ?_, fun i hi => ?_, fun i hi => ?_, fun i hi => absurd hi (Nat.not_lt_zero i)⟩
  · rw [o (by omega) (by omega) (by omega)]; exact c1
  · rw [o (by omega) (by omega) (by omega), o (by omega) (by omega) (by omega)]; exact e1 h hh
  · rw [o (by omega) (by omega) (by omega)]; exact e2 h h1 h2
  · by_cases c : i = zP w
    · rw [c, v0, v1, v2]
      exact ⟨⟨p, hp, rfl⟩, ⟨a, ha, rfl⟩, b, hb, rfl⟩
    · rw [o (by omega) (by omega) (by omega), o (by omega) (by omega) (by omega), o (by omega) (by omega) (by omega)]; exact g1 i (by omega)
  · rw [o (by omega) (by omega) (by omega)]; exact g2 i hi
  · rw [o (by omega) (by omega) (by omega), o (by omega) (by omega) (by omega), o (by omega) (by omega) (by omega)]; exact g3 i hi
theorem rz_S {a : Nat} (r : RZ w) (z : zA w = 0) (hN : zN w < 900) (h0 : 0 < zN w) (hS : zS w < 4) (ha : a < 20) : RG (uS w a) (zN w + 1) (zW w) (zK w) (zH w) (zP w) (zS w + 1) (zL w) 0 := by
  obtain ⟨v0, v6, v9⟩ := uS_v (w := w) (a := a)
  have o : ∀ {j : Nat}, j ≠ 56 + zS w → j ≠ 6 → j ≠ 9 → uS w a j = w j := fun h1 h5 h9 => uS_o h1 h5 h9
  obtain ⟨⟨a1, a2, a3, a4, a5, a6, a7, a8⟩, ⟨b1, b2, b3, b4, b5, b6, b7, b8⟩, ⟨⟨d, d1, d2⟩, c1, c2, c3⟩, ⟨e1, e2⟩, g1, g2, g3, -⟩ := r
  rw [z] at a8
  refine ⟨⟨v9, (o (by omega) (by omega) (by omega)).trans a2, (o (by omega) (by omega) (by omega)).trans a3, (o (by omega) (by omega) (by omega)).trans a4, (o (by omega) (by omega) (by omega)).trans a5, v6, (o (by omega) (by omega) (by omega)).trans a7, (o (by omega) (by omega) (by omega)).trans a8⟩, ⟨by omega, b2, b3, b4, b5, by omega, b7, by omega⟩, ⟨⟨d, d1, (o (by omega) (by omega) (by omega)).trans d2⟩, ?_, fun _ => c2 h0, fun h => absurd h (by omega)⟩, ⟨fun h hh => ?_, fun h h1 h2 => ?_⟩, fun i hi => ?_, fun i hi => ?_, fun i hi => ?_, fun i hi => absurd hi (Nat.not_lt_zero i)⟩
  · rw [o (by omega) (by omega) (by omega)]; exact c1
  · rw [o (by omega) (by omega) (by omega), o (by omega) (by omega) (by omega)]; exact e1 h hh
  · rw [o (by omega) (by omega) (by omega)]; exact e2 h h1 h2
  · rw [o (by omega) (by omega) (by omega), o (by omega) (by omega) (by omega), o (by omega) (by omega) (by omega)]; exact g1 i hi
  · by_cases c : i = zS w
    · rw [c, v0]
      exact ⟨a, ha, rfl⟩
    · rw [o (by omega) (by omega) (by omega)]; exact g2 i (by omega)
  · rw [o (by omega) (by omega) (by omega), o (by omega) (by omega) (by omega), o (by omega) (by omega) (by omega)]; exact g3 i hi
theorem rz_L {h p v : Nat} (r : RZ w) (z : zA w = 0) (hN : zN w < 900) (h0 : 0 < zN w) (hL : zL w < 8) (hh : h < zH w) (hp : p < 8) (hv : v < 20) : RG (uL w h p v) (zN w + 1) (zW w) (zK w) (zH w) (zP w) (zS w) (zL w + 1) 0 := by
  obtain ⟨v0, v1, v2, v7, v9⟩ := uL_v (w := w) (h := h) (p := p) (v := v)
  have o : ∀ {j : Nat}, (j < 60 + 3 * zL w ∨ 62 + 3 * zL w < j) → j ≠ 7 → j ≠ 9 → uL w h p v j = w j := fun h1 h5 h9 => uL_o h1 h5 h9
  obtain ⟨⟨a1, a2, a3, a4, a5, a6, a7, a8⟩, ⟨b1, b2, b3, b4, b5, b6, b7, b8⟩, ⟨⟨d, d1, d2⟩, c1, c2, c3⟩, ⟨e1, e2⟩, g1, g2, g3, -⟩ := r
  rw [z] at a8
  refine ⟨⟨v9, (o (by omega) (by omega) (by omega)).trans a2, (o (by omega) (by omega) (by omega)).trans a3, (o (by omega) (by omega) (by omega)).trans a4, (o (by omega) (by omega) (by omega)).trans a5, (o (by omega) (by omega) (by omega)).trans a6, v7, (o (by omega) (by omega) (by omega)).trans a8⟩, ⟨by omega, b2, b3, b4, b5, b6, by omega, by omega⟩, ⟨⟨d, d1, (o (by omega) (by omega) (by omega)).trans d2⟩, ?_, fun _ => c2 h0, fun h => absurd h (by omega)⟩, ⟨fun h hh => ?_, fun h h1 h2 => ?_⟩, fun i hi => ?_, fun i hi => ?_, fun i hi => ?_, fun i hi => absurd hi (Nat.not_lt_zero i)⟩
  · rw [o (by omega) (by omega) (by omega)]; exact c1
  · rw [o (by omega) (by omega) (by omega), o (by omega) (by omega) (by omega)]; exact e1 h hh
  · rw [o (by omega) (by omega) (by omega)]; exact e2 h h1 h2
  · rw [o (by omega) (by omega) (by omega), o (by omega) (by omega) (by omega), o (by omega) (by omega) (by omega)]; exact g1 i hi
  · rw [o (by omega) (by omega) (by omega)]; exact g2 i hi
  · by_cases c : i = zL w
    · rw [c, v0, v1, v2]
      exact ⟨⟨h, hh, rfl⟩, ⟨p, hp, rfl⟩, v, hv, rfl⟩
    · rw [o (by omega) (by omega) (by omega), o (by omega) (by omega) (by omega), o (by omega) (by omega) (by omega)]; exact g3 i (by omega)
end UU
