theorem sunW_rng {w : Nat → Int32} (r : RZ w) (p : Nat) : ∃ s, s ≤ 20 ∧ sunW w (zP w) p = nI s := by
  obtain ⟨-, -, -, -, g, -⟩ := r
  refine itr_inv (fun _ (x : Int32) => ∃ s, s ≤ 20 ∧ x = nI s) (zP w) 0 0 ⟨0, by omega, rfl⟩ (fun j x _ hj hx => ?_)
  try dsimp only
  split
  · exact (g j (by omega)).2.1
  · exact hx
theorem smellW_rng {w : Nat → Int32} (r : RZ w) (p : Nat) : ∃ s, s ≤ 20 ∧ smellW w (zP w) p = nI s := by
  obtain ⟨-, -, -, -, g, -⟩ := r
  refine itr_inv (fun _ (x : Int32) => ∃ s, s ≤ 20 ∧ x = nI s) (zP w) 0 0 ⟨0, by omega, rfl⟩ (fun j x _ hj hx => ?_)
  try dsimp only
  split
  · exact (g j (by omega)).2.2
  · exact hx
theorem sun_pos {w : Nat → Int32} (r : RZ w) (p : Nat) : (sunW w (zP w) p ≤ -1) = False := by
  obtain ⟨s, hs, e⟩ := sunW_rng r p
  rw [e]
  apply propext
  rw [fa_le, nI_toInt (by omega), show (-1 : Int32).toInt = -1 from rfl]
  exact ⟨fun h => by omega, fun h => h.elim⟩
theorem push_rng {H : Nat} {pu sm : Nat → Int32} {snow : Int32} {st : Nat → Int32} {f : Nat → Nat} {v h : Nat} (hp : ∃ p, p ≤ 40 ∧ pu h = nI p) (hs : ∀ q, ∃ s, s ≤ 20 ∧ sm q = nI s) : ∃ q, q ≤ 40 ∧ yPush H pu sm snow st f v h = nI q := by
  unfold yPush
  split
  · exact ⟨0, by omega, rfl⟩
  · obtain ⟨p, p1, p2⟩ := hp
    obtain ⟨s, s1, s2⟩ := hs (f h)
    rw [p2, s2]
    split
    · next hlt =>
      have e : (nI p - nI s).toInt = (p : Int) - s := by rw [fb_subI (by rw [nI_toInt (by omega), nI_toInt (by omega)]; omega) (by rw [nI_toInt (by omega), nI_toInt (by omega)]; omega), nI_toInt (by omega), nI_toInt (by omega)]
      rw [fa_lt, e, show (0 : Int32).toInt = 0 from rfl] at hlt
      refine ⟨p - s, by omega, ?_⟩
      rw [fa_eq, e, nI_toInt (by omega)]
      omega
    · exact ⟨0, by omega, rfl⟩
theorem sum_rng {g : Nat → Int32} {H : Nat} (hH : H ≤ 8) (hg : ∀ h, h < H → -40 ≤ (g h).toInt ∧ (g h).toInt ≤ 40) : ∀ k, k ≤ H → -(40 * (k : Int)) ≤ (itr (fun h s => s + g h) 0 k 0).toInt ∧ (itr (fun h s => s + g h) 0 k 0).toInt ≤ 40 * (k : Int)
  | 0, _ => ⟨Int.le_refl 0, Int.le_refl 0⟩
  | k + 1, hk => by
    have ih := sum_rng hH hg k (by omega)
    have q := hg k (by omega)
    rw [itr_succ, Nat.zero_add, fb_addI (by omega) (by omega)]
    omega
theorem sg_rng {x : Int32} {c : Prop} [Decidable c] (h : ∃ q, q ≤ 40 ∧ x = nI q) : -40 ≤ (if c then -x else x).toInt ∧ (if c then -x else x).toInt ≤ 40 := by
  obtain ⟨q, q1, rfl⟩ := h
  have e : (nI q).toInt = q := nI_toInt (by omega)
  split
  · rw [fb_negI (by rw [e]; omega), e]; omega
  · rw [e]; omega
theorem tdiv_rng {F : Int32} {k : Nat} (hk : 1 ≤ k ∧ k ≤ 30) {M : Int} (h1 : -M ≤ F.toInt) (h2 : F.toInt ≤ M) : -M ≤ (F / nI k).toInt ∧ (F / nI k).toInt ≤ M := by
  have hkI : (nI k).toInt = (k : Int) := nI_toInt (by omega)
  rw [Int32.toInt_div_of_ne_right _ _ (by rw [ne_eq, fa_eq, hkI]; show ¬ (k : Int) = -1; omega), hkI]
  have a : (F.toInt.tdiv k).natAbs = F.toInt.natAbs / (k : Int).natAbs := Int.natAbs_tdiv F.toInt k
  have b := Nat.div_le_self F.toInt.natAbs (k : Int).natAbs
  omega
theorem turn_rng {H v k : Nat} {la F : Int32} (hH : H ≤ 8) (hk : 1 ≤ k ∧ k ≤ 30) (h1 : -320 ≤ F.toInt) (h2 : F.toInt ≤ 320) : -320 ≤ (yTurn H la (nI k) v F).toInt ∧ (yTurn H la (nI k) v F).toInt ≤ 320 := by
  unfold yTurn
  split
  · split
    · split <;> decide
    · decide
  · split
    · split
      · decide
      · rw [ov_toInt (by omega) (by omega)]
        have a1 := Int.emod_nonneg F.toInt (b := (H : Int)) (by omega)
        have a2 := Int.emod_lt_of_pos F.toInt (b := (H : Int)) (by omega)
        omega
    · split
      · decide
      · exact tdiv_rng hk h1 h2
theorem ypp_rng {w : Nat → Int32} {o : OV} (r : RZ w) (v h : Nat) (hh : h < zH w) : ∃ q, q ≤ 40 ∧ ypp w o v h = nI q :=
  push_rng (r.2.2.2.1.1 h hh).1 (smellW_rng r)
theorem yfo_rng {w : Nat → Int32} {o : OV} (r : RZ w) (v : Nat) : -320 ≤ (yfo w o v).toInt ∧ (yfo w o v).toInt ≤ 320 := by
  have hH : zH w ≤ 8 := r.2.1.2.2.2.1
  have := sum_rng (g := ySg (zH w) (fun h => w (10 + 2 * h)) (smellW w (zP w)) o.2.2.1 o.2.2.2.1 (fun j => o.2.2.2.2.1 ||| restW w (zA w) j) (yp w o v) v) hH (fun h hh => sg_rng (ypp_rng (o := o) r v h hh)) (zH w) (Nat.le_refl _)
  unfold yfo yForce
  omega
theorem ytu_rng {w : Nat → Int32} {o : OV} (r : RZ w) (v : Nat) (hk : 1 ≤ o.2.1 ∧ o.2.1 ≤ 30) : -320 ≤ (ytu w o v).toInt ∧ (ytu w o v).toInt ≤ 320 :=
  turn_rng r.2.1.2.2.2.1 hk (yfo_rng r v).1 (yfo_rng r v).2
def INJ (H : Nat) (f : Nat → Nat) : Prop := ∀ i j, i < H → j < H → f i = f j → i = j
theorem swp_inj {H a b : Nat} {f : Nat → Nat} (ha : a < H) (hb : b < H) (hf : INJ H f) : INJ H (swp a b f) := by
  intro i j hi hj e
  unfold swp at e
  by_cases h1 : i = b
  · by_cases h2 : j = b
    · omega
    · rw [if_pos h1, if_neg h2] at e
      by_cases h3 : j = a
      · rw [if_pos h3] at e
        have := hf a b ha hb e
        omega
      · rw [if_neg h3] at e
        have := hf a j ha hj e
        omega
  · rw [if_neg h1] at e
    by_cases h2 : j = b
    · rw [if_pos h2] at e
      by_cases h3 : i = a
      · rw [if_pos h3] at e
        have := hf b a hb ha e
        omega
      · rw [if_neg h3] at e
        have := hf i a hi ha e
        omega
    · rw [if_neg h2] at e
      by_cases h3 : i = a
      · by_cases h4 : j = a
        · omega
        · rw [if_pos h3, if_neg h4] at e
          have := hf b j hb hj e
          omega
      · rw [if_neg h3] at e
        by_cases h4 : j = a
        · rw [if_pos h4] at e
          have := hf i b hi hb e
          omega
        · rw [if_neg h4] at e
          exact hf i j hi hj e
theorem yNext_inj {H : Nat} {f : Nat → Nat} {t : Int32} (hH : H ≤ 8) (hl : ∀ h, h < H → f h < H) (h1 : -320 ≤ t.toInt) (h2 : t.toInt ≤ 320) (hf : INJ H f) : INJ H (yNext H f t) := by
  intro i j hi hj e
  unfold yNext at e
  have c1 := (ov_nat (v := nI (f i) + t) (H := H) (by omega) (by omega)).2
  have c2 := (ov_nat (v := nI (f j) + t) (H := H) (by omega) (by omega)).2
  rw [e, c2] at c1
  have q := congrArg Int32.toInt c1
  have l1 := hl i hi
  have l2 := hl j hj
  have n1 : (nI (f i)).toInt = (f i : Int) := nI_toInt (by omega)
  have n2 : (nI (f j)).toInt = (f j : Int) := nI_toInt (by omega)
  rw [ov_toInt (by omega) (by omega), ov_toInt (by omega) (by omega), fb_addI (by omega) (by omega), fb_addI (by omega) (by omega), n1, n2] at q
  have d := Int.emod_emod_of_dvd
  have s : ((f j : Int) + t.toInt - ((f i : Int) + t.toInt)) % (H : Int) = 0 := Int.emod_eq_emod_iff_emod_sub_eq_zero.mp q
  have s2 : ((f j : Int) - (f i : Int)) % (H : Int) = 0 := by
    rw [show (f j : Int) + t.toInt - ((f i : Int) + t.toInt) = (f j : Int) - (f i : Int) by omega] at s
    exact s
  have s3 : (f j : Int) % (H : Int) = (f i : Int) % (H : Int) := Int.emod_eq_emod_iff_emod_sub_eq_zero.mpr s2
  rw [Int.emod_eq_of_lt (by omega) (by omega), Int.emod_eq_of_lt (by omega) (by omega)] at s3
  exact hf i j hi hj (by omega)
theorem yEx_inj {H ac v : Nat} {ex : Nat → Option (Nat × Nat × Nat)} (hx : EXok H ac ex) {f : Nat → Nat} (hf : INJ H f) : INJ H (yEx ac ex v f) := by
  refine itr_inv (f := yEx1 ex v) (fun _ (g : Nat → Nat) => INJ H g) ac 0 f hf (fun j g _ hj hg => ?_)
  unfold yEx1
  cases he : ex j with
  | none => exact hg
  | some q =>
    obtain ⟨a, b, u⟩ := q
    obtain ⟨h1, h2, -⟩ := hx j (by omega) a b u he
    dsimp only
    split
    · exact swp_inj h1 h2 hg
    · exact hg
theorem yp_inj {w : Nat → Int32} {o : OV} (r : RZ w) (hk : 1 ≤ o.2.1 ∧ o.2.1 ≤ 30) (hf : o.2.2.2.2.2 = id ∨ ∃ a b, a < zH w ∧ b < zH w ∧ o.2.2.2.2.2 = swp a b id) : ∀ v, INJ (zH w) (yp w o v)
  | 0 => by
    refine yEx_inj r.EX ?_
    rcases hf with e | ⟨a, b, ha, hb, e⟩
    · rw [e]; exact fun i j _ _ h => h
    · rw [e]; exact swp_inj ha hb (fun i j _ _ h => h)
  | v + 1 => by
    have t := ytu_rng r v hk
    exact yEx_inj r.EX (yNext_inj r.2.1.2.2.2.1 (fun h hh => yp_lt r hf v h hh) t.1 t.2 (yp_inj r hk hf v))
theorem yp_onto {w : Nat → Int32} {o : OV} (r : RZ w) (hk : 1 ≤ o.2.1 ∧ o.2.1 ≤ 30) (hf : o.2.2.2.2.2 = id ∨ ∃ a b, a < zH w ∧ b < zH w ∧ o.2.2.2.2.2 = swp a b id) : ONTO (yp w o) (zH w) (zW w) := by
  intro v hv p hp
  exact fb_onto (fun i hi => yp_lt r hf v i hi) (fun i j hij hj e => by have := yp_inj r hk hf v i j (by omega) hj e; omega) hp
