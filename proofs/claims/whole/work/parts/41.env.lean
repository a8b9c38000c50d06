def zN (w : Nat → Int32) : Nat := (w 9).toNatClampNeg
def zW (w : Nat → Int32) : Nat := (w 0).toNatClampNeg
def zK (w : Nat → Int32) : Nat := (w 2).toNatClampNeg
def zH (w : Nat → Int32) : Nat := (w 4).toNatClampNeg
def zP (w : Nat → Int32) : Nat := (w 5).toNatClampNeg
def zS (w : Nat → Int32) : Nat := (w 6).toNatClampNeg
def zL (w : Nat → Int32) : Nat := (w 7).toNatClampNeg
def zA (w : Nat → Int32) : Nat := (w 8).toNatClampNeg
def RZ (w : Nat → Int32) : Prop := RG w (zN w) (zW w) (zK w) (zH w) (zP w) (zS w) (zL w) (zA w)
def TZ (μ : qa_M) (t : Nat) (w : Nat → Int32) : Prop := TX μ t w (zN w) (zW w) (zK w) (zH w) (zP w) (zS w) (zL w) (zA w)
/-- law, heavy, lean, snow, always, first -/
abbrev OV : Type := Int32 × Nat × Int32 × Int32 × Int32 × (Nat → Nat)
def yp (w : Nat → Int32) (o : OV) : Nat → Nat → Nat := yPL (zH w) (fun h => w (10 + 2 * h)) (smellW w (zP w)) o.1 (nI o.2.1) o.2.2.1 o.2.2.2.1 (fun j => o.2.2.2.2.1 ||| restW w (zA w) j) (zA w) (exW w) o.2.2.2.2.2
def ypp (w : Nat → Int32) (o : OV) (v h : Nat) : Int32 := yPush (zH w) (fun h => w (10 + 2 * h)) (smellW w (zP w)) o.2.2.2.1 (fun j => o.2.2.2.2.1 ||| restW w (zA w) j) (yp w o v) v h
def yfo (w : Nat → Int32) (o : OV) (v : Nat) : Int32 := yForce (zH w) (fun h => w (10 + 2 * h)) (smellW w (zP w)) o.2.2.1 o.2.2.2.1 (fun j => o.2.2.2.2.1 ||| restW w (zA w) j) (yp w o v) v
def ytu (w : Nat → Int32) (o : OV) (v : Nat) : Int32 := yTurn (zH w) o.1 (nI o.2.1) v (yfo w o v)
def YR (μ : qa_M) (a1 a2 a3 a4 U : Nat) (w : Nat → Int32) (o : OV) : Prop := YA μ a1 a2 a3 a4 U (zH w) (yp w o) (ypp w o) (yfo w o) (ytu w o)
/-- as told -/
def oT (w : Nat → Int32) : OV := (w 1, zK w, leanW w, snowW w (zS w), 0, id)
def okO (w : Nat → Int32) (o : OV) : Prop := (0 < zW w → (1 ≤ o.2.1 ∧ o.2.1 ≤ 30) ∧ (o.1 = 0 ∨ o.1 = 1 ∨ o.1 = 2 ∨ o.1 = 3)) ∧ (o.2.2.2.2.2 = id ∨ ∃ a b, a < zH w ∧ b < zH w ∧ o.2.2.2.2.2 = swp a b id)
theorem RZ.ex {w : Nat → Int32} (h : RZ w) (i : Nat) (hi : i < zA w) : (∃ h v, h < zH w ∧ v < zW w ∧ w (84 + i) = nI (10000 + 100 * h + v) ∧ exW w i = none) ∨ ∃ a b v, a < zH w ∧ b < zH w ∧ a ≠ b ∧ v < zW w ∧ w (84 + i) = nI (1000 * a + 100 * b + v) ∧ exW w i = some (a, b, v) := by
  obtain ⟨-, ⟨-, g1, -, g2, -⟩, -, -, -, -, -, g⟩ := h
  rcases g i hi with ⟨h, v, h1, h2, h3⟩ | ⟨a, b, v, h1, h2, h3, h4, h5⟩
  · exact Or.inl ⟨h, v, h1, h2, h3, exW_rest (by omega) (by omega) h3⟩
  · exact Or.inr ⟨a, b, v, h1, h2, h3, h4, h5, exW_swap (by omega) (by omega) (by omega) h5⟩
theorem RZ.EX {w : Nat → Int32} (h : RZ w) : EXok (zH w) (zA w) (exW w) := by
  intro i hi a b v e
  rcases h.ex i hi with ⟨_, _, _, _, _, q⟩ | ⟨a', b', v', h1, h2, h3, h4, h5, q⟩
  · rw [q] at e; cases e
  · rw [q] at e; cases e; exact ⟨h1, h2, h3⟩
theorem RZ.EU {w : Nat → Int32} (h : RZ w) : ∀ i, i < zA w → ∀ a b v, exW w i = some (a, b, v) → v < zW w := by
  intro i hi a b v e
  rcases h.ex i hi with ⟨_, _, _, _, _, q⟩ | ⟨a', b', v', h1, h2, h3, h4, h5, q⟩
  · rw [q] at e; cases e
  · rw [q] at e; cases e; exact h4
theorem RZ.AM {μ : qa_M} (h : RZ (μ.1 92)) : AM μ (zA (μ.1 92)) (exW (μ.1 92)) := by
  have hh := h
  obtain ⟨⟨-, -, -, -, -, -, -, g8⟩, ⟨-, g1, -, g2, -, -, -, ga⟩, -⟩ := h
  refine ⟨ga, g8, fun i hi => ⟨fun a b v e => ?_, fun e => ?_⟩⟩
  · rcases hh.ex i hi with ⟨_, _, _, _, _, q⟩ | ⟨a', b', v', h1, h2, h3, h4, h5, q⟩
    · rw [q] at e; cases e
    · rw [q] at e; cases e; exact ⟨by omega, by omega, by omega, h5⟩
  · rcases hh.ex i hi with ⟨h, v, h1, h2, h3, q⟩ | ⟨a', b', v', h1, h2, h3, h4, h5, q⟩
    · exact ⟨_, by omega, by omega, h3⟩
    · rw [q] at e; cases e
theorem act_mod {h v : Nat} (hh : h < 8) (hv : v < 20) : nI (10000 + 100 * h + v) - nI (10000 + 100 * h + v) / 100 * 100 = nI v := by
  rw [show (100 : Int32) = nI 100 from rfl, pk_div (by omega) (by omega) (by omega), pk_mul, pk_sub (by omega)]
  congr 1
  omega
theorem RZ.WOK {w : Nat → Int32} (h : RZ w) : WOK w (zP w) (zS w) (zA w) := by
  have hh := h
  obtain ⟨⟨-, -, -, -, g5, g6, -, g8⟩, ⟨-, g1, -, g2, gp, gs, -, ga⟩, -, -, g, -⟩ := h
  refine ⟨gp, gs, ga, g5, g6, g8, fun k hk => (g k hk).1, fun i hi hlt => ?_⟩
  rcases hh.ex i hi with ⟨h, v, h1, h2, h3, q⟩ | ⟨a, b, v, h1, h2, h3, h4, h5, q⟩
  · exact ⟨v, by omega, by rw [h3]; exact act_mod (by omega) (by omega)⟩
  · exact absurd (by rw [h5, show (10000 : Int32) = nI 10000 from rfl, nlt _ _ (by omega) (by omega)]; omega) hlt
theorem or_1 {x : Int32} (h : x = 0 ∨ x = 1) : x ||| 1 = 1 := by rcases h with rfl | rfl <;> decide
theorem or_1' {x : Int32} (h : x = 0 ∨ x = 1) : 1 ||| x = 1 := by rcases h with rfl | rfl <;> decide
theorem swapW_bt (w : Nat → Int32) : ∀ (k : Nat), ∀ i, i < k → ∀ a b v, exW w i = some (a, b, v) → v < 32 → bt (swapW w k) v = 1
  | 0, i, hi, _, _, _, _, _ => absurd hi (Nat.not_lt_zero i)
  | k + 1, i, hi, a, b, v, e, hv => by
    unfold swapW
    rw [itr_succ, Nat.zero_add]
    by_cases q : i = k
    · rw [← q, e]
      show bt (_ ||| _) v = 1
      rw [bt_or, bt_one v hv]
      exact or_1 (bt01 _ v)
    · have ih := swapW_bt w k i (by omega) a b v e hv
      unfold swapW at ih
      cases exW w k with
      | none => exact ih
      | some p =>
        show bt (_ ||| _) v = 1
        rw [bt_or, ih]
        exact or_1' (bt01 _ v)
theorem TZ.AX {μ : qa_M} {t : Nat} {w : Nat → Int32} (r : RZ w) (h : TZ μ t w) : AX μ t (zH w) (zA w) (exW w) := by
  obtain ⟨-, -, -, ⟨d1, d2, -⟩, f⟩ := h
  have rr := r
  obtain ⟨-, ⟨-, g1, -, g2, -, -, -, ga⟩, -⟩ := r
  refine ⟨ga, d1, fun i hi => ⟨fun a b v e => ?_, fun e => ?_⟩, fun v hv hb i hi a b u e q => ?_⟩
  · rcases f i hi with ⟨h, v', h1, h2, h3, -⟩ | ⟨a', b', v', h1, h2, h3, h4, h5, h6, h7, h8⟩
    · rw [exW_rest (by omega) (by omega) h3] at e; cases e
    · rw [exW_swap (by omega) (by omega) (by omega) h5] at e; cases e
      exact ⟨h1, h2, by omega, h6, h7, h8⟩
  · rcases f i hi with ⟨h, v', h1, h2, h3, h4, h5, h6⟩ | ⟨a', b', v', h1, h2, h3, h4, h5, h6, h7, h8⟩
    · exact h5
    · rw [exW_swap (by omega) (by omega) (by omega) h5] at e; cases e
  · rw [d2] at hb
    have := swapW_bt w (zA w) i hi a b u e (by have := rr.EU i hi a b u e; omega)
    rw [q, hb] at this
    exact absurd this (by decide)
theorem yp_lt {w : Nat → Int32} {o : OV} (r : RZ w) (hf : o.2.2.2.2.2 = id ∨ ∃ a b, a < zH w ∧ b < zH w ∧ o.2.2.2.2.2 = swp a b id) (v h : Nat) (hh : h < zH w) : yp w o v h < zH w := by
  refine yPL_lt ?_ r.EX (fun h hh => ?_) v h hh
  · obtain ⟨-, ⟨-, g1, -, g2, -⟩, -⟩ := r
    omega
  · rcases hf with e | ⟨a, b, ha, hb, e⟩
    · rw [e]; exact hh
    · rw [e]; exact swp_lt (fun h hh => hh) ha hb h hh
/-- x's plan -/
def PLN (μ : qa_M) (w : Nat → Int32) (U : Nat) (o : OV) : Prop := μ.1 31 0 = o.1 ∧ μ.1 31 1 = nI o.2.1 ∧ μ.1 31 2 = o.2.2.1 ∧ μ.1 31 3 = o.2.2.2.1 ∧ μ.1 31 4 = o.2.2.2.2.1 ∧ ((μ.1 31 5 = -1 ∧ o.2.2.2.2.2 = id) ∨ ∃ a b, a < zH w ∧ b < zH w ∧ μ.1 31 5 = nI a ∧ μ.1 31 6 = nI b ∧ o.2.2.2.2.2 = swp a b id) ∧ μ.1 31 7 = nI U
theorem x_year {n v t U : Nat} {w : Nat → Int32} {o : OV} {μ : qa_M} {Q : qa_M → Prop} (ht : qa_tw t) (hv : qa_yr v) (r : RZ w) (hT : TZ μ t w) (hP : PLN μ w U o) (hU : U ≤ zW w) (hlaw : 0 < U → (1 ≤ o.2.1 ∧ o.2.1 ≤ 30) ∧ (o.1 = 0 ∨ o.1 = 1 ∨ o.1 = 2 ∨ o.1 = 3)) (hn : 60 < n)
    (kk : ∀ μ', onlyY (v + 1) (v + 2) (v + 3) (v + 4) μ μ' → YR μ' (v + 1) (v + 2) (v + 3) (v + 4) U w o → Q μ') : wX7_follow n v t μ Q := by
  obtain ⟨p0, p1, p2, p3, p4, p5, p7⟩ := hP
  have hAX := hT.AX r
  have hEX := r.EX
  obtain ⟨-, ⟨-, g1, -, g2, -⟩, -⟩ := r
  obtain ⟨⟨a0, a1, a2, a3, a4, a5, a6, a7, a8, a9, a10⟩, ⟨b1, b2, b3⟩, c, ⟨d1, d2, d3⟩, f⟩ := hT
  refine x_follow (la := o.1) (k := o.2.1) (lean := o.2.2.1) (snow := o.2.2.2.1) (pu := fun h => w (10 + 2 * h)) (sm := smellW w (zP w)) (st := fun j => o.2.2.2.2.1 ||| restW w (zA w) j) (f0 := o.2.2.2.2.2) ht hv ⟨g2, a5, b1, fun p hp => b3 p (by omega), p2, p3, fun j hj => by rw [p4, d3 j hj]⟩ hAX hEX p0 p1 p7 (by omega) hlaw p5 hn kk
/-- m's town laid out, with what is told otherwise -/
def MS (μ : qa_M) (w : Nat → Int32) (o : OV) : Prop := μ.1 91 20 = o.1 ∧ μ.1 91 21 = nI o.2.1 ∧ μ.1 91 18 = o.2.2.1 ∧ μ.1 91 19 = o.2.2.2.1 ∧ μ.1 91 22 = o.2.2.2.2.1 ∧ ((μ.1 91 23 = 0 ∧ μ.1 91 24 = 0 ∧ o.2.2.2.2.2 = id) ∨ ∃ a b, a < zH w ∧ b < zH w ∧ μ.1 91 23 = nI a ∧ μ.1 91 24 = nI b ∧ o.2.2.2.2.2 = swp a b id) ∧ (∀ p, p < 8 → μ.1 98 p = sunW w (zP w) p) ∧ (∀ p, p < 8 → μ.1 99 p = smellW w (zP w) p) ∧ ∀ j, j < 20 → μ.1 100 j = restW w (zA w) j
theorem m_year {n : Nat} {w : Nat → Int32} {o : OV} {μ : qa_M} {Q : qa_M → Prop} (hw : μ.1 92 = w) (r : RZ w) (hM : MS μ w o) (hlaw : 0 < zW w → (1 ≤ o.2.1 ∧ o.2.1 ≤ 30)) (hn : 60 < n)
    (kk : ∀ μ', onlyY 101 102 103 104 μ μ' → YR μ' 101 102 103 104 (zW w) w o → Q μ') : wX9_goAll n μ Q := by
  subst hw
  obtain ⟨p0, p1, p2, p3, p4, p5, p6, p7, p8⟩ := hM
  have hAM := r.AM
  have hEX := r.EX
  have hEU := r.EU
  obtain ⟨⟨w9, w0, w2, w4, -⟩, ⟨-, g1, -, g2, -⟩, -⟩ := r
  exact m_goAll (la := o.1) (k := o.2.1) (lean := o.2.2.1) (snow := o.2.2.2.1) (pu := fun h => μ.1 92 (10 + 2 * h)) (sm := smellW (μ.1 92) (zP (μ.1 92))) (st := fun j => o.2.2.2.2.1 ||| restW (μ.1 92) (zA (μ.1 92)) j) (f0 := o.2.2.2.2.2) ⟨g2, w4, fun h hh => rfl, fun p hp => p7 p (by omega), p2, p3⟩ hAM hEX p0 p1 w0 g1 hlaw (fun v hv => by rw [p4, p8 v (by omega)]) hEU p5 hn kk
theorem m_lay {n : Nat} {w : Nat → Int32} {μ : qa_M} {Q : qa_M → Prop} (hw : μ.1 92 = w) (r : RZ w) (hn : 40 < n)
    (kk : ∀ μ', μ'.2 = μ.2 → (∀ b j, b ≠ 91 → b ≠ 98 → b ≠ 99 → b ≠ 100 → μ'.1 b j = μ.1 b j) → (∀ j, (j < 18 ∨ 25 ≤ j) → μ'.1 91 j = μ.1 91 j) → MS μ' w (oT w) → Q μ') : wX9_asItIs n μ Q := by
  subst hw
  refine m_asItIs r.WOK hn (fun μ' ⟨a1, a2, a3, a4, a5, a6, a7, a8, a9, a10, a11⟩ => kk μ' a1 a2 a3 ⟨a6, ?_, a4, a5, a8.1, Or.inl ⟨a8.2.1, a8.2.2, rfl⟩, a9, a10, a11⟩)
  rw [a7]
  exact r.1.2.2.1
