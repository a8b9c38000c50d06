/-! x's draft goes along -/
theorem itr_or {g g' : Nat → Int32} {H : Nat} (h0 : g H = 0) (ho : ∀ j, j ≠ H → g' j = g j) : ∀ k, itr (fun h s => s ||| g' h) 0 k 0 = itr (fun h s => s ||| g h) 0 k 0 ||| (if H < k then g' H else 0) := by
  intro k
  induction k with
  | zero => rw [if_neg (Nat.not_lt_zero H), or0]; rfl
  | succ k ih =>
    rw [itr_succ, itr_succ, ih, Nat.zero_add]
    show itr (fun h s => s ||| g h) 0 k 0 ||| (if H < k then g' H else 0) ||| g' k = itr (fun h s => s ||| g h) 0 k 0 ||| g k ||| (if H < k + 1 then g' H else 0)
    by_cases c : k = H
    · subst c
      rw [if_neg (Nat.lt_irrefl k), if_pos (Nat.lt_succ_self k), or0, h0, or0]
    · rw [ho k c]
      by_cases c1 : H < k
      · rw [if_pos c1, if_pos (by omega), Int32.or_assoc, Int32.or_comm (g' H), ← Int32.or_assoc]
      · rw [if_neg c1, if_neg (by omega), or0, or0]
theorem leanW_set {w w' : Nat → Int32} {H : Nat} (hH : H < 8) (h0 : w (11 + 2 * H) = 0) (ho : ∀ j, j < 8 → j ≠ H → w' (11 + 2 * j) = w (11 + 2 * j)) : leanW w' = leanW w ||| (w' (11 + 2 * H) <<< (nI H &&& 31)) := by
  have z : ∀ j, j < 8 → (0 : Int32) <<< (nI j &&& 31) = 0 := by decide
  have := itr_or (g := fun h => if h < 8 then w (11 + 2 * h) <<< (nI h &&& 31) else 0) (g' := fun h => if h < 8 then w' (11 + 2 * h) <<< (nI h &&& 31) else 0) (H := H) (by
    show (if H < 8 then w (11 + 2 * H) <<< (nI H &&& 31) else 0) = 0
    rw [if_pos hH, h0, z H hH]) (fun j hj => by
    show (if j < 8 then w' (11 + 2 * j) <<< (nI j &&& 31) else 0) = (if j < 8 then w (11 + 2 * j) <<< (nI j &&& 31) else 0)
    by_cases c : j < 8
    · rw [if_pos c, if_pos c, ho j c hj]
    · rw [if_neg c, if_neg c]) 8
  rw [if_pos hH] at this
  have e : ∀ u : Nat → Int32, leanW u = itr (fun h s => s ||| (if h < 8 then u (11 + 2 * h) <<< (nI h &&& 31) else 0)) 0 8 0 := fun u => itr_congr 8 0 0 (fun j s _ hj => by rw [if_pos (by omega)])
  rw [e w', e w, this]
  congr 1
  exact if_pos hH
theorem swapW0 (w : Nat → Int32) : swapW w 0 = 0 := rfl
theorem restW0 (w : Nat → Int32) (j : Nat) : restW w 0 j = 0 := rfl
section XD
variable {μ μ' : qa_M} {t : Nat} {w : Nat → Int32}
theorem tz_T {a b c d : Nat} (X : TZ μ t w) (r : RZ w) (z : zA w = 0) (g : RG (uT w a b c d) (zN w + 1) a c (zH w) (zP w) (zS w) (zL w) 0) (e0 : μ'.1 t 0 = nI (zN w + 1)) (e1 : μ'.1 t 1 = nI a) (e2 : μ'.1 t 2 = nI b) (e3 : μ'.1 t 3 = nI c) (e4 : μ'.1 t 4 = nI d) (eo : ∀ j x, j ≤ 11 → ¬ (j = 0 ∧ x ≤ 4) → μ'.1 (t + j) x = μ.1 (t + j) x) : TZ μ' t (uT w a b c d) := by
  obtain ⟨-, ⟨z1, z2, z3, z4⟩, z5, z6, z7, z8⟩ := g.z
  obtain ⟨-, ⟨r1, r2, r3, r4, r5, r6, r7, r8⟩, -⟩ := r
  obtain ⟨v0, v1, v2, v3, v9⟩ := uT_v (w := w) (a := a) (b := b) (c := c) (d := d)
  have o : ∀ {j : Nat}, 4 ≤ j → j ≠ 9 → uT w a b c d j = w j := fun h h' => uT_o h h'
  unfold TZ
  rw [z1, z2, z3, z4, z5, z6, z7, z8]
  unfold TZ at X
  rw [z] at X
  obtain ⟨⟨a0, a1, a2, a3, a4, a5, a6, a7, a8, a9, a10⟩, ⟨b1, b2, b3⟩, cc, ⟨d1, d2, d3⟩, -⟩ := X
  have o0 : ∀ x, 4 < x → μ'.1 t x = μ.1 t x := fun x hx => eo 0 x (by omega) (by omega)
  refine ⟨⟨e0, e1, by rw [v1]; exact e2, e3, by rw [v3]; exact e4, (o0 5 (by omega)).trans a5, (o0 6 (by omega)).trans a6, (o0 7 (by omega)).trans a7, (o0 8 (by omega)).trans a8, ?_, ?_⟩, ⟨fun h hh => ?_, fun p hp => ?_, fun p hp => ?_⟩, fun i hi => ?_, ⟨?_, ?_, fun j hj => ?_⟩, fun i hi => absurd hi (Nat.not_lt_zero i)⟩
  · rw [o0 9 (by omega), leanW_c (fun j hj => o (by omega) (by omega))]; exact a9
  · rw [o0 10 (by omega), snowW_c (fun j hj => o (by omega) (by omega))]; exact a10
  · rw [eo 1 h (by omega) (by omega), o (by omega) (by omega)]; exact b1 h hh
  · rw [eo 2 p (by omega) (by omega), sunW_c (fun j h1 h2 => o (by omega) (by omega))]; exact b2 p hp
  · rw [eo 3 p (by omega) (by omega), smellW_c (fun j h1 h2 => o (by omega) (by omega))]; exact b3 p hp
  · rw [eo 4 i (by omega) (by omega), eo 5 i (by omega) (by omega), eo 6 i (by omega) (by omega), o (by omega) (by omega), o (by omega) (by omega), o (by omega) (by omega)]; exact cc i hi
  · rw [eo 7 0 (by omega) (by omega)]; exact d1
  · rw [eo 7 5 (by omega) (by omega)]; rw [swapW0] at d2 ⊢; exact d2
  · rw [eo 11 j (by omega) (by omega)]; have := d3 j hj; rw [restW0] at this ⊢; exact this
theorem tz_H {a b : Nat} (X : TZ μ t w) (r : RZ w) (z : zA w = 0) (hH : zH w < 8) (g : RG (uH w a b) (zN w + 1) (zW w) (zK w) (zH w + 1) (zP w) (zS w) (zL w) 0) (e0 : μ'.1 t 0 = nI (zN w + 1)) (e5 : μ'.1 t 5 = nI (zH w + 1)) (e9 : μ'.1 t 9 = leanW w ||| (nI b <<< (nI (zH w) &&& 31))) (ea : μ'.1 (t + 1) (zH w) = nI a) (eo : ∀ j x, j ≤ 11 → ¬ (j = 0 ∧ (x = 0 ∨ x = 5 ∨ x = 9)) → ¬ (j = 1 ∧ x = zH w) → μ'.1 (t + j) x = μ.1 (t + j) x) : TZ μ' t (uH w a b) := by
  obtain ⟨-, ⟨z1, z2, z3, z4⟩, z5, z6, z7, z8⟩ := g.z
  obtain ⟨-, ⟨r1, r2, r3, r4, r5, r6, r7, r8⟩, -, ⟨-, rl⟩, -⟩ := r
  obtain ⟨v0, v1, v4, v9⟩ := uH_v (w := w) (a := a) (b := b)
  have o : ∀ {j : Nat}, j ≠ 10 + 2 * zH w → j ≠ 11 + 2 * zH w → j ≠ 4 → j ≠ 9 → uH w a b j = w j := fun h1 h2 h4 h9 => uH_o h1 h2 h4 h9
  unfold TZ
  rw [z1, z2, z3, z4, z5, z6, z7, z8]
  unfold TZ at X
  rw [z] at X
  obtain ⟨⟨a0, a1, a2, a3, a4, a5, a6, a7, a8, a9, a10⟩, ⟨b1, b2, b3⟩, cc, ⟨d1, d2, d3⟩, -⟩ := X
  have o0 : ∀ x, x ≠ 0 → x ≠ 5 → x ≠ 9 → μ'.1 t x = μ.1 t x := fun x h1 h2 h3 => eo 0 x (by omega) (by omega) (by omega)
  refine ⟨⟨e0, (o0 1 (by omega) (by omega) (by omega)).trans a1, by rw [o (by omega) (by omega) (by omega) (by omega)]; exact (o0 2 (by omega) (by omega) (by omega)).trans a2, (o0 3 (by omega) (by omega) (by omega)).trans a3, by rw [o (by omega) (by omega) (by omega) (by omega)]; exact (o0 4 (by omega) (by omega) (by omega)).trans a4, e5, (o0 6 (by omega) (by omega) (by omega)).trans a6, (o0 7 (by omega) (by omega) (by omega)).trans a7, (o0 8 (by omega) (by omega) (by omega)).trans a8, ?_, ?_⟩, ⟨fun h hh => ?_, fun p hp => ?_, fun p hp => ?_⟩, fun i hi => ?_, ⟨?_, ?_, fun j hj => ?_⟩, fun i hi => absurd hi (Nat.not_lt_zero i)⟩
  · rw [e9, leanW_set hH (rl _ (Nat.le_refl _) hH) (fun j hj hne => o (by omega) (by omega) (by omega) (by omega)), v1]
  · rw [o0 10 (by omega) (by omega) (by omega), snowW_c (fun j hj => o (by omega) (by omega) (by omega) (by omega))]; exact a10
  · by_cases c : h = zH w
    · rw [c, v0]; exact ea
    · rw [eo 1 h (by omega) (by omega) (by omega), o (by omega) (by omega) (by omega) (by omega)]; exact b1 h (by omega)
  · rw [eo 2 p (by omega) (by omega) (by omega), sunW_c (fun j h1 h2 => o (by omega) (by omega) (by omega) (by omega))]; exact b2 p hp
  · rw [eo 3 p (by omega) (by omega) (by omega), smellW_c (fun j h1 h2 => o (by omega) (by omega) (by omega) (by omega))]; exact b3 p hp
  · rw [eo 4 i (by omega) (by omega) (by omega), eo 5 i (by omega) (by omega) (by omega), eo 6 i (by omega) (by omega) (by omega), o (by omega) (by omega) (by omega) (by omega), o (by omega) (by omega) (by omega) (by omega), o (by omega) (by omega) (by omega) (by omega)]; exact cc i hi
  · rw [eo 7 0 (by omega) (by omega) (by omega)]; exact d1
  · rw [eo 7 5 (by omega) (by omega) (by omega)]; rw [swapW0] at d2 ⊢; exact d2
  · rw [eo 11 j (by omega) (by omega) (by omega)]; have := d3 j hj; rw [restW0] at this ⊢; exact this
theorem tz_P {p a b : Nat} (X : TZ μ t w) (r : RZ w) (z : zA w = 0) (hP : zP w < 10) (hp : p < 8) (g : RG (uP w p a b) (zN w + 1) (zW w) (zK w) (zH w) (zP w + 1) (zS w) (zL w) 0) (e0 : μ'.1 t 0 = nI (zN w + 1)) (e6 : μ'.1 t 6 = nI (zP w + 1)) (ea : μ'.1 (t + 2) p = nI a) (eb : μ'.1 (t + 3) p = nI b) (eo : ∀ j x, j ≤ 11 → ¬ (j = 0 ∧ (x = 0 ∨ x = 6)) → ¬ ((j = 2 ∨ j = 3) ∧ x = p) → μ'.1 (t + j) x = μ.1 (t + j) x) : TZ μ' t (uP w p a b) := by
  obtain ⟨-, ⟨z1, z2, z3, z4⟩, z5, z6, z7, z8⟩ := g.z
  obtain ⟨-, ⟨r1, r2, r3, r4, r5, r6, r7, r8⟩, -⟩ := r
  obtain ⟨v0, v1, v2, v5, v9⟩ := uP_v (w := w) (p := p) (a := a) (b := b)
  have o : ∀ {j : Nat}, (j < 26 + 3 * zP w ∨ 28 + 3 * zP w < j) → j ≠ 5 → j ≠ 9 → uP w p a b j = w j := fun h1 h5 h9 => uP_o h1 h5 h9
  unfold TZ
  rw [z1, z2, z3, z4, z5, z6, z7, z8]
  unfold TZ at X
  rw [z] at X
  obtain ⟨⟨a0, a1, a2, a3, a4, a5, a6, a7, a8, a9, a10⟩, ⟨b1, b2, b3⟩, cc, ⟨d1, d2, d3⟩, -⟩ := X
  have o0 : ∀ x, x ≠ 0 → x ≠ 6 → μ'.1 t x = μ.1 t x := fun x h1 h2 => eo 0 x (by omega) (by omega) (by omega)
  have s1 : ∀ q, q < 8 → sunW (uP w p a b) (zP w + 1) q = if q = p then nI a else sunW w (zP w) q := fun q hq => by
    have c0 : sunW (uP w p a b) (zP w) q = sunW w (zP w) q := sunW_c (fun j h1 h2 => o (by omega) (by omega) (by omega))
    unfold sunW at c0 ⊢
    rw [itr_succ, c0, Nat.zero_add, v0, v1]
    by_cases c : q = p
    · rw [if_pos (by rw [c]), if_pos c]
    · rw [if_neg (by rw [neq p q (by omega) (by omega)]; exact fun e => c e.symm), if_neg c]
  have s2 : ∀ q, q < 8 → smellW (uP w p a b) (zP w + 1) q = if q = p then nI b else smellW w (zP w) q := fun q hq => by
    have c0 : smellW (uP w p a b) (zP w) q = smellW w (zP w) q := smellW_c (fun j h1 h2 => o (by omega) (by omega) (by omega))
    unfold smellW at c0 ⊢
    rw [itr_succ, c0, Nat.zero_add, v0, v2]
    by_cases c : q = p
    · rw [if_pos (by rw [c]), if_pos c]
    · rw [if_neg (by rw [neq p q (by omega) (by omega)]; exact fun e => c e.symm), if_neg c]
  refine ⟨⟨e0, (o0 1 (by omega) (by omega)).trans a1, by rw [o (by omega) (by omega) (by omega)]; exact (o0 2 (by omega) (by omega)).trans a2, (o0 3 (by omega) (by omega)).trans a3, by rw [o (by omega) (by omega) (by omega)]; exact (o0 4 (by omega) (by omega)).trans a4, (o0 5 (by omega) (by omega)).trans a5, e6, (o0 7 (by omega) (by omega)).trans a7, (o0 8 (by omega) (by omega)).trans a8, ?_, ?_⟩, ⟨fun h hh => ?_, fun q hq => ?_, fun q hq => ?_⟩, fun i hi => ?_, ⟨?_, ?_, fun j hj => ?_⟩, fun i hi => absurd hi (Nat.not_lt_zero i)⟩
  · rw [o0 9 (by omega) (by omega), leanW_c (fun j hj => o (by omega) (by omega) (by omega))]; exact a9
  · rw [o0 10 (by omega) (by omega), snowW_c (fun j hj => o (by omega) (by omega) (by omega))]; exact a10
  · rw [eo 1 h (by omega) (by omega) (by omega), o (by omega) (by omega) (by omega)]; exact b1 h hh
  · rw [s1 q hq]
    by_cases c : q = p
    · rw [if_pos c, c]; exact ea
    · rw [if_neg c, eo 2 q (by omega) (by omega) (by omega)]; exact b2 q hq
  · rw [s2 q hq]
    by_cases c : q = p
    · rw [if_pos c, c]; exact eb
    · rw [if_neg c, eo 3 q (by omega) (by omega) (by omega)]; exact b3 q hq
  · rw [eo 4 i (by omega) (by omega) (by omega), eo 5 i (by omega) (by omega) (by omega), eo 6 i (by omega) (by omega) (by omega), o (by omega) (by omega) (by omega), o (by omega) (by omega) (by omega), o (by omega) (by omega) (by omega)]; exact cc i hi
  · rw [eo 7 0 (by omega) (by omega) (by omega)]; exact d1
  · rw [eo 7 5 (by omega) (by omega) (by omega)]; rw [swapW0] at d2 ⊢; exact d2
  · rw [eo 11 j (by omega) (by omega) (by omega)]; have := d3 j hj; rw [restW0] at this ⊢; exact this
theorem tz_S {a : Nat} (X : TZ μ t w) (r : RZ w) (z : zA w = 0) (hS : zS w < 4) (g : RG (uS w a) (zN w + 1) (zW w) (zK w) (zH w) (zP w) (zS w + 1) (zL w) 0) (e0 : μ'.1 t 0 = nI (zN w + 1)) (e7 : μ'.1 t 7 = nI (zS w + 1)) (e10 : μ'.1 t 10 = snowW w (zS w) ||| ((1 : Int32) <<< (nI a &&& 31))) (eo : ∀ j x, j ≤ 11 → ¬ (j = 0 ∧ (x = 0 ∨ x = 7 ∨ x = 10)) → μ'.1 (t + j) x = μ.1 (t + j) x) : TZ μ' t (uS w a) := by
  obtain ⟨-, ⟨z1, z2, z3, z4⟩, z5, z6, z7, z8⟩ := g.z
  obtain ⟨-, ⟨r1, r2, r3, r4, r5, r6, r7, r8⟩, -⟩ := r
  obtain ⟨v0, v6, v9⟩ := uS_v (w := w) (a := a)
  have o : ∀ {j : Nat}, j ≠ 56 + zS w → j ≠ 6 → j ≠ 9 → uS w a j = w j := fun h1 h5 h9 => uS_o h1 h5 h9
  unfold TZ
  rw [z1, z2, z3, z4, z5, z6, z7, z8]
  unfold TZ at X
  rw [z] at X
  obtain ⟨⟨a0, a1, a2, a3, a4, a5, a6, a7, a8, a9, a10⟩, ⟨b1, b2, b3⟩, cc, ⟨d1, d2, d3⟩, -⟩ := X
  have o0 : ∀ x, x ≠ 0 → x ≠ 7 → x ≠ 10 → μ'.1 t x = μ.1 t x := fun x h1 h2 h3 => eo 0 x (by omega) (by omega)
  refine ⟨⟨e0, (o0 1 (by omega) (by omega) (by omega)).trans a1, by rw [o (by omega) (by omega) (by omega)]; exact (o0 2 (by omega) (by omega) (by omega)).trans a2, (o0 3 (by omega) (by omega) (by omega)).trans a3, by rw [o (by omega) (by omega) (by omega)]; exact (o0 4 (by omega) (by omega) (by omega)).trans a4, (o0 5 (by omega) (by omega) (by omega)).trans a5, (o0 6 (by omega) (by omega) (by omega)).trans a6, e7, (o0 8 (by omega) (by omega) (by omega)).trans a8, ?_, ?_⟩, ⟨fun h hh => ?_, fun q hq => ?_, fun q hq => ?_⟩, fun i hi => ?_, ⟨?_, ?_, fun j hj => ?_⟩, fun i hi => absurd hi (Nat.not_lt_zero i)⟩
  · rw [o0 9 (by omega) (by omega) (by omega), leanW_c (fun j hj => o (by omega) (by omega) (by omega))]; exact a9
  · have c0 : snowW (uS w a) (zS w) = snowW w (zS w) := snowW_c (fun j hj => o (by omega) (by omega) (by omega))
    rw [e10, ← c0]
    unfold snowW
    rw [itr_succ, Nat.zero_add, v0]
  · rw [eo 1 h (by omega) (by omega), o (by omega) (by omega) (by omega)]; exact b1 h hh
  · rw [eo 2 q (by omega) (by omega), sunW_c (fun j h1 h2 => o (by omega) (by omega) (by omega))]; exact b2 q hq
  · rw [eo 3 q (by omega) (by omega), smellW_c (fun j h1 h2 => o (by omega) (by omega) (by omega))]; exact b3 q hq
  · rw [eo 4 i (by omega) (by omega), eo 5 i (by omega) (by omega), eo 6 i (by omega) (by omega), o (by omega) (by omega) (by omega), o (by omega) (by omega) (by omega), o (by omega) (by omega) (by omega)]; exact cc i hi
  · rw [eo 7 0 (by omega) (by omega)]; exact d1
  · rw [eo 7 5 (by omega) (by omega)]; rw [swapW0] at d2 ⊢; exact d2
  · rw [eo 11 j (by omega) (by omega)]; have := d3 j hj; rw [restW0] at this ⊢; exact this
theorem tz_L {h p v : Nat} (X : TZ μ t w) (r : RZ w) (z : zA w = 0) (hL : zL w < 8) (g : RG (uL w h p v) (zN w + 1) (zW w) (zK w) (zH w) (zP w) (zS w) (zL w + 1) 0) (e0 : μ'.1 t 0 = nI (zN w + 1)) (e8 : μ'.1 t 8 = nI (zL w + 1)) (eh : μ'.1 (t + 4) (zL w) = nI h) (ep : μ'.1 (t + 5) (zL w) = nI p) (ev : μ'.1 (t + 6) (zL w) = nI v) (eo : ∀ j x, j ≤ 11 → ¬ (j = 0 ∧ (x = 0 ∨ x = 8)) → ¬ ((j = 4 ∨ j = 5 ∨ j = 6) ∧ x = zL w) → μ'.1 (t + j) x = μ.1 (t + j) x) : TZ μ' t (uL w h p v) := by
  obtain ⟨-, ⟨z1, z2, z3, z4⟩, z5, z6, z7, z8⟩ := g.z
  obtain ⟨-, ⟨r1, r2, r3, r4, r5, r6, r7, r8⟩, -⟩ := r
  obtain ⟨v0, v1, v2, v7, v9⟩ := uL_v (w := w) (h := h) (p := p) (v := v)
  have o : ∀ {j : Nat}, (j < 60 + 3 * zL w ∨ 62 + 3 * zL w < j) → j ≠ 7 → j ≠ 9 → uL w h p v j = w j := fun h1 h5 h9 => uL_o h1 h5 h9
  unfold TZ
  rw [z1, z2, z3, z4, z5, z6, z7, z8]
  unfold TZ at X
  rw [z] at X
  obtain ⟨⟨a0, a1, a2, a3, a4, a5, a6, a7, a8, a9, a10⟩, ⟨b1, b2, b3⟩, cc, ⟨d1, d2, d3⟩, -⟩ := X
  have o0 : ∀ x, x ≠ 0 → x ≠ 8 → μ'.1 t x = μ.1 t x := fun x h1 h2 => eo 0 x (by omega) (by omega) (by omega)
  refine ⟨⟨e0, (o0 1 (by omega) (by omega)).trans a1, by rw [o (by omega) (by omega) (by omega)]; exact (o0 2 (by omega) (by omega)).trans a2, (o0 3 (by omega) (by omega)).trans a3, by rw [o (by omega) (by omega) (by omega)]; exact (o0 4 (by omega) (by omega)).trans a4, (o0 5 (by omega) (by omega)).trans a5, (o0 6 (by omega) (by omega)).trans a6, (o0 7 (by omega) (by omega)).trans a7, e8, ?_, ?_⟩, ⟨fun k hk => ?_, fun q hq => ?_, fun q hq => ?_⟩, fun i hi => ?_, ⟨?_, ?_, fun j hj => ?_⟩, fun i hi => absurd hi (Nat.not_lt_zero i)⟩
  · rw [o0 9 (by omega) (by omega), leanW_c (fun j hj => o (by omega) (by omega) (by omega))]; exact a9
  · rw [o0 10 (by omega) (by omega), snowW_c (fun j hj => o (by omega) (by omega) (by omega))]; exact a10
  · rw [eo 1 k (by omega) (by omega) (by omega), o (by omega) (by omega) (by omega)]; exact b1 k hk
  · rw [eo 2 q (by omega) (by omega) (by omega), sunW_c (fun j h1 h2 => o (by omega) (by omega) (by omega))]; exact b2 q hq
  · rw [eo 3 q (by omega) (by omega) (by omega), smellW_c (fun j h1 h2 => o (by omega) (by omega) (by omega))]; exact b3 q hq
  · by_cases c : i = zL w
    · rw [c, v0, v1, v2]; exact ⟨eh, ep, ev⟩
    · rw [eo 4 i (by omega) (by omega) (by omega), eo 5 i (by omega) (by omega) (by omega), eo 6 i (by omega) (by omega) (by omega), o (by omega) (by omega) (by omega), o (by omega) (by omega) (by omega), o (by omega) (by omega) (by omega)]; exact cc i (by omega)
  · rw [eo 7 0 (by omega) (by omega) (by omega)]; exact d1
  · rw [eo 7 5 (by omega) (by omega) (by omega)]; rw [swapW0] at d2 ⊢; exact d2
  · rw [eo 11 j (by omega) (by omega) (by omega)]; have := d3 j hj; rw [restW0] at this ⊢; exact this
end XD
