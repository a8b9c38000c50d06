def onlyA (a : Nat) (μ μ' : qa_M) : Prop := μ'.2 = μ.2 ∧ ∀ b j, b ≠ a → μ'.1 b j = μ.1 b j
theorem onlyA.rf (a : Nat) (μ : qa_M) : onlyA a μ μ := ⟨rfl, fun _ _ _ => rfl⟩
theorem onlyA.tr {a : Nat} {μ μ1 μ2 : qa_M} (h : onlyA a μ μ1) (h' : onlyA a μ1 μ2) : onlyA a μ μ2 := ⟨h'.1.trans h.1, fun b j hb => (h'.2 b j hb).trans (h.2 b j hb)⟩
theorem onlyA.put {a : Nat} {μ μ1 : qa_M} (h : onlyA a μ μ1) (j : Nat) (x : Int32) : onlyA a μ (qa_uI μ1 a j x) := h.tr ⟨rfl, fun b j hb => uIn _ _ (fun e => hb e.1)⟩
theorem sc.onl {a : Nat} {μ μ1 μ2 : qa_M} (h : sc μ μ1) (o : onlyA a μ1 μ2) (ha : a = 31 ∨ (38 ≤ a ∧ a ≤ 45) ∨ (96 ≤ a ∧ a ≤ 109)) : sc μ μ2 := h.tr ⟨by rw [o.1], fun b j h1 h2 h3 h4 => o.2 b j (by omega), ⟨o.2 _ _ (by omega), o.2 _ _ (by omega), o.2 _ _ (by omega)⟩, fun b j _ _ => by rw [o.1]⟩
theorem s_fill {n a N : Nat} {x : Int32} {μ : qa_M} {Q : qa_M → Prop} (hN : N < 2 ^ 31) (hn : N < n) (kk : ∀ μ', onlyA a μ μ' → (∀ j, j < N → μ'.1 a j = x) → Q μ') : wJ7_fill_53178 n a N x μ Q := by
  unfold wJ7_fill_53178
  rw [nmM]
  refine inv_loop (fun n i s => wJ7_fill_53178_5 n a N x i (nI N) s Q) N (fun i μ' => onlyA a μ μ' ∧ ∀ j, j < i → μ'.1 a j = x) ?_ ?_ N 0 μ n (by omega) (by omega) ⟨onlyA.rf a μ, fun j hj => absurd hj (Nat.not_lt_zero j)⟩
  · intro n s ⟨h1, h2⟩
    show wJ7_fill_53178_5 (n + 1) _ _ _ _ _ _ _
    rw [wJ7_fill_53178_5]
    exact ⟨fun _ => kk s h1 h2, fun h => absurd (nI_le (Nat.le_refl N) hN) h⟩
  · intro n i s hi ⟨h1, h2⟩ ih
    show wJ7_fill_53178_5 (n + 1) _ _ _ _ _ _ _
    rw [wJ7_fill_53178_5]
    refine ⟨fun h => absurd h (nI_ge hi hN), fun _ => ⟨inN hi hN, ?_⟩⟩
    rw [nmM, cl (by omega), nI1]
    refine ih _ ⟨h1.put i x, fun j hj => ?_⟩
    by_cases e : j = i
    · rw [e, uIs]
    · rw [uIn _ _ (fun q => e q.2)]; exact h2 j (by omega)
theorem btf (s : Int32) (k : Nat) : (s >>> (nI k &&& 31)) &&& 1 = bt s k := rfl
theorem lowN : ∀ H, H ≤ 8 → ((1 : Int32) <<< (nI H &&& 31)) - 1 = nI (2 ^ H - 1) := by decide
theorem shN : ∀ H, H ≤ 8 → (1 : Int32) <<< (nI H &&& 31) = nI (2 ^ H) := by decide
theorem pw1 {H : Nat} (h : H ≤ 8) : 1 ≤ 2 ^ H ∧ 2 ^ H ≤ 256 := ⟨Nat.one_le_two_pow, Nat.pow_le_pow_right (by decide) h⟩
/-- force of a week, without those of a set -/
def gW (pp : Nat → Nat → Int32) (lean : Int32) (v : Nat) (set : Int32) (h : Nat) : Int32 := if bt set h = 0 then (if bt lean h = 1 then -(pp v h) else pp v h) else 0
def FWv (pp : Nat → Nat → Int32) (lean : Int32) (H v : Nat) (set : Int32) : Int32 := itr (fun h s => s + gW pp lean v set h) 0 H 0
theorem force_wo {H v : Nat} {pu sm : Nat → Int32} {lean snow set : Int32} {st : Nat → Int32} {f : Nat → Nat} : yForce H pu sm lean snow (fun _ => st v ||| set) f v = FWv (fun v h => yPush H pu sm snow st f v h) lean H v set := by
  unfold yForce FWv
  refine itr_congr H 0 0 (fun h s _ hh => ?_)
  unfold gW ySg
  rcases bt01 set h with e | e
  · have q : yPush H pu sm snow (fun _ => st v ||| set) f v h = yPush H pu sm snow st f v h := by
      unfold yPush
      rw [bt_or, e, or0]
    rw [if_pos e, q]
  · have q : yPush H pu sm snow (fun _ => st v ||| set) f v h = 0 := by
      unfold yPush
      rw [bt_or, e, or_1 (bt01 _ h), if_pos (Or.inl rfl)]
    have ne : ¬ bt set h = 0 := by rw [e]; decide
    rw [q, if_neg ne]
    split <;> rfl
theorem FWv_congr {p1 p2 : Nat → Nat → Int32} {lean set : Int32} {H v : Nat} (h : ∀ h, p1 v h = p2 v h) : FWv p1 lean H v set = FWv p2 lean H v set := by
  unfold FWv
  refine itr_congr H 0 0 (fun k s _ hk => ?_)
  unfold gW
  rw [h k]
theorem xl_without {n v : Nat} {H W : Nat} {pl : Nat → Nat → Nat} {pp : Nat → Nat → Int32} {fo tu su sm : Nat → Int32} {μ : qa_M} {Q : Int32 → qa_M → Prop} (E : XE μ (μ.2.2 1 2) 33 34 35 36 H W pl pp fo tu su sm) {lean set : Int32} {K : Int32 → Int32 → qa_M → Prop} (hv : v < W) (hl : μ.1 (μ.2.2 1 2) 9 = lean) (hn : 25 < n) : wX8_turnWithout_5 n (nI v) set 0 0 μ K Q ↔ K (nI v) (itr (fun h s => s + gW pp lean v set h) 0 (H) 0) μ := by
  obtain ⟨W20, H8, hW, hH, plt, hpl, hpp, hfo, htu, hsu, hsm⟩ := E
  have hpl0 : ∀ h, h < H → μ.1 (33) h = nI (pl 0 h) := fun h hh => by
    have := hpl 0 (Nat.zero_le W) h hh
    rwa [Nat.zero_mul, Nat.zero_add] at this
  refine for_iff 0 (fun n i s => wX8_turnWithout_5 n (nI v) set s i μ K Q) (fun s => K (nI v) s μ) (H) (fun h s => s + gW pp lean v set h) (fun _ _ => True) ?_ ?_ (fun _ _ _ _ => trivial) (H) 0 0 n (by omega) (by omega) trivial
  · intro n s hn hs
    simp (disch := omega) only [wX8_turnWithout_5, s_effort, s_spot, s_spot0, s_lowBits, hW, hH, hpl, hpl0, hpp, hfo, htu, hsu, hsm, nle, nlt, nI1, cl, inN, s_abs2, not_true_eq_false, not_false_eq_true, false_implies, true_implies, and_true, true_and, and_self, nmM, if_true, if_false, or0, Int32.add_zero, forall_const, Nat.le_refl, Nat.lt_irrefl, Nat.lt_succ_self, s_bitOf, s_signed, hl, btf, gW]
  · intro n i s hn hi hs
    have hi' : ¬ H ≤ i := by omega
    by_cases hc0 : bt set i = 0 <;> by_cases hc1 : bt lean i = 1 <;> simp (disch := omega) only [wX8_turnWithout_5, s_effort, s_spot, s_spot0, s_lowBits, hW, hH, hpl, hpl0, hpp, hfo, htu, hsu, hsm, nle, nlt, nI1, cl, inN, s_abs2, not_true_eq_false, not_false_eq_true, false_implies, true_implies, and_true, true_and, and_self, nmM, if_true, if_false, or0, Int32.add_zero, forall_const, Nat.le_refl, Nat.lt_irrefl, Nat.lt_succ_self, s_bitOf, s_signed, hl, btf, gW, hi', hc0, hc1]
theorem x_without {n v k : Nat} {la lean set : Int32} {H W : Nat} {pl : Nat → Nat → Nat} {pp : Nat → Nat → Int32} {fo tu su sm : Nat → Int32} {μ : qa_M} {Q : Int32 → qa_M → Prop} (E : XE μ (μ.2.2 1 2) 33 34 35 36 H W pl pp fo tu su sm) (hv : v < W) (hla : μ.1 (μ.2.2 1 2) 2 = la) (hhe : μ.1 (μ.2.2 1 2) 3 = nI k) (hl : μ.1 (μ.2.2 1 2) 9 = lean) (hk : 1 ≤ k ∧ k ≤ 30) (hlaw : la = 0 ∨ la = 1 ∨ la = 2 ∨ la = 3) (hn : 25 < n) : wX8_turnWithout n (nI v) set μ Q ↔ Q (yTurn H la (nI k) v (FWv pp lean H v set)) μ := by
  unfold wX8_turnWithout
  rw [xl_without E hv hl hn, hla, hhe, E.2.2.2.1, s_turnBy hk hlaw (by have := E.1; omega) E.2.1]
  exact Iff.rfl
/-- how far it turns in a week, without those of a set -/
def TWv (w : Nat → Int32) (v : Nat) (set : Int32) : Int32 := yTurn (zH w) (w 1) (nI (zK w)) v (FWv (ypp w (oT w)) (leanW w) (zH w) v set)
theorem TWv_rng {w : Nat → Int32} (r : RZ w) (hW : 0 < zW w) (v : Nat) (set : Int32) : -320 ≤ (TWv w v set).toInt ∧ (TWv w v set).toInt ≤ 320 := by
  have hH : zH w ≤ 8 := r.2.1.2.2.2.1
  have q := sum_rng (g := gW (ypp w (oT w)) (leanW w) v set) hH (fun h hh => by
    unfold gW
    split
    · exact sg_rng (ypp_rng r v h hh)
    · decide) (zH w) (Nat.le_refl _)
  unfold TWv
  exact turn_rng hH (r.law hW).1 (by unfold FWv; omega) (by unfold FWv; omega)
theorem m_without {n v : Nat} {set : Int32} {w : Nat → Int32} {μ : qa_M} {Q : Int32 → qa_M → Prop} (r : RZ w) (hw : μ.1 92 = w) (M : MS μ w (oT w)) (hpl : ∀ h, h < zH w → μ.1 101 (v * 8 + h) = nI (yp w (oT w) v h)) (hv : v < zW w) (hn : 25 < n) (k : ∀ μ', onlyA 102 μ μ' → Q (TWv w v set) μ') : wX9_forceOf n (nI v) set μ (fun r9 μ9 => wX9_turnBy n r9 (nI v) μ9 Q) := by
  obtain ⟨m1, m2, m3, m4, m5, m6, m7, m8, m9⟩ := M
  have W20 := r.2.1.2.1
  have H8 := r.2.1.2.2.2.1
  have w4 : μ.1 92 4 = nI (zH w) := by rw [hw]; exact r.1.2.2.2.1
  refine m_force (H := zH w) (pu := fun h => w (10 + 2 * h)) (sm := smellW w (zP w)) (lean := leanW w) (snow := snowW w (zS w)) (st := fun _ => ((0 : Int32) ||| restW w (zA w) v) ||| set) (f := yp w (oT w) v) ⟨H8, w4, fun h _ => by rw [hw], fun p hp => m8 p (by omega), m3, m4⟩ (by rw [m5, m9 v (by omega)]; rfl) (by omega) (by omega) hpl (fun h hh => yp_lt r (Or.inl rfl) v h hh) (fun μ' o' _ => ?_)
  have o2 : onlyA 102 μ μ' := ⟨o'.1, fun b j hb => o'.2.1 b j hb⟩
  refine m_turnBy (la := w 1) (k := zK w) (H := zH w) (r.law (by omega)).1 (by rw [o2.2 _ _ (by omega)]; exact m1) (by rw [o2.2 _ _ (by omega)]; exact m2) H8 (by rw [o2.2 _ _ (by omega)]; exact w4) (by omega) ?_
  have e := force_wo (H := zH w) (v := v) (pu := fun h => w (10 + 2 * h)) (sm := smellW w (zP w)) (lean := leanW w) (snow := snowW w (zS w)) (set := set) (st := fun j => (0 : Int32) ||| restW w (zA w) j) (f := yp w (oT w) v)
  have k := k μ' o2
  unfold TWv at k
  rw [show FWv (ypp w (oT w)) (leanW w) (zH w) v set = FWv (fun v' h => yPush (zH w) (fun h => w (10 + 2 * h)) (smellW w (zP w)) (snowW w (zS w)) (fun j => (0 : Int32) ||| restW w (zA w) j) (yp w (oT w) v) v' h) (leanW w) (zH w) v set from FWv_congr (fun _ => rfl), ← e] at k
  exact k
def styF (TW : Nat → Int32) (q : Int32) (i : Nat) (s : Option Nat) : Option Nat := s.elim (if TW i = q then some i else none) (fun p => if bcN p ≤ bcN i then some p else if TW i = q then some i else some p)
theorem sty_lt {TW : Nat → Int32} {q : Int32} {i B : Nat} {s : Option Nat} (hi : i < B) (hs : ∀ p, s = some p → p < B) : ∀ p, styF TW q i s = some p → p < B := by
  intro p e
  cases s with
  | none =>
    simp only [styF, Option.elim] at e
    split at e
    · cases e; exact hi
    · cases e
  | some z =>
    have hz := hs z rfl
    simp only [styF, Option.elim] at e
    split at e
    · cases e; exact hz
    · split at e
      · cases e; exact hi
      · cases e; exact hz
theorem xl_stay {n v k B : Nat} {la lean q : Int32} {H W : Nat} {pl : Nat → Nat → Nat} {pp : Nat → Nat → Int32} {fo tu su sm : Nat → Int32} {μ : qa_M} {Q : Int32 → qa_M → Prop} (E : XE μ (μ.2.2 1 2) 33 34 35 36 H W pl pp fo tu su sm) (hB : B = 2 ^ H) (hv : v < W) (hla : μ.1 (μ.2.2 1 2) 2 = la) (hhe : μ.1 (μ.2.2 1 2) 3 = nI k) (hl : μ.1 (μ.2.2 1 2) 9 = lean) (hk : 1 ≤ k ∧ k ≤ 30) (hlaw : la = 0 ∨ la = 1 ∨ la = 2 ∨ la = 3) (hn : 400 < n) : wX8_fewestStaying n (nI v) q μ Q ↔ Q (oI (itr (styF (fun i => yTurn H la (nI k) v (FWv pp lean H v (nI i))) q) 0 B none)) μ := by
  have E0 := E
  obtain ⟨W20, H8, hW, hH, plt, hpl, hpp, hfo, htu, hsu, hsm⟩ := E
  have hpl0 : ∀ h, h < H → μ.1 (33) h = nI (pl 0 h) := fun h hh => by
    have := hpl 0 (Nat.zero_le W) h hh
    rwa [Nat.zero_mul, Nat.zero_add] at this
  have b1 := pw1 H8
  rw [← hB] at b1
  have lw : ((1 : Int32) <<< (nI H &&& 31)) - 1 = nI (B - 1) := by rw [lowN H H8, hB]
  refine for_iff 30 (fun n i (s : Option Nat) => wX8_fewestStaying_5 n (nI v) q (oI s) i μ Q) (fun s => Q (oI s) μ) B (styF (fun i => yTurn H la (nI k) v (FWv pp lean H v (nI i))) q) (fun _ s => ∀ p, s = some p → p < B) ?_ ?_ (fun i s hi hs => sty_lt hi hs) B 0 none n (by omega) (by omega) (fun p e => nomatch e)
  · intro n s hn hs
    have c : B - 1 < B := by omega
    simp (disch := omega) only [wX8_fewestStaying_5, s_lowBits, lw, c, s_effort, s_spot, s_spot0, s_lowBits, hW, hH, hpl, hpl0, hpp, hfo, htu, hsu, hsm, nle, nlt, nI1, cl, inN, s_abs2, not_true_eq_false, not_false_eq_true, false_implies, true_implies, and_true, true_and, and_self, nmM, if_true, if_false, or0, Int32.add_zero, forall_const, Nat.le_refl, Nat.lt_irrefl, Nat.lt_succ_self, one_ne, zero_ne1, nI_z]
  · intro n i s hn hi hs
    have hi' : ¬ B - 1 < i := by omega
    cases s with
    | none =>
      by_cases hc : yTurn H la (nI k) v (FWv pp lean H v (nI i)) = q <;> simp (disch := omega) only [wX8_fewestStaying_5, s_lowBits, lw, hi', oI, wX8_fewestStaying_37, wX8_fewestStaying_42, x_without E0 hv hla hhe hl hk hlaw, styF, Option.elim, hc, s_effort, s_spot, s_spot0, s_lowBits, hW, hH, hpl, hpl0, hpp, hfo, htu, hsu, hsm, nle, nlt, nI1, cl, inN, s_abs2, not_true_eq_false, not_false_eq_true, false_implies, true_implies, and_true, true_and, and_self, nmM, if_true, if_false, or0, Int32.add_zero, forall_const, Nat.le_refl, Nat.lt_irrefl, Nat.lt_succ_self, one_ne, zero_ne1, nI_z]
    | some p =>
      have hp : p < B := hs p rfl
      have bp := bcN_le p
      have bi := bcN_le i
      by_cases hd : bcN p ≤ bcN i
      · simp (disch := omega) only [wX8_fewestStaying_5, s_lowBits, lw, hi', oI, neg1_ne, s_bitCount, hd, wX8_fewestStaying_42, styF, Option.elim, s_effort, s_spot, s_spot0, s_lowBits, hW, hH, hpl, hpl0, hpp, hfo, htu, hsu, hsm, nle, nlt, nI1, cl, inN, s_abs2, not_true_eq_false, not_false_eq_true, false_implies, true_implies, and_true, true_and, and_self, nmM, if_true, if_false, or0, Int32.add_zero, forall_const, Nat.le_refl, Nat.lt_irrefl, Nat.lt_succ_self, one_ne, zero_ne1, nI_z]
      · by_cases hc : yTurn H la (nI k) v (FWv pp lean H v (nI i)) = q <;> simp (disch := omega) only [wX8_fewestStaying_5, s_lowBits, lw, hi', oI, neg1_ne, s_bitCount, hd, wX8_fewestStaying_37, wX8_fewestStaying_42, x_without E0 hv hla hhe hl hk hlaw, styF, Option.elim, hc, s_effort, s_spot, s_spot0, s_lowBits, hW, hH, hpl, hpl0, hpp, hfo, htu, hsu, hsm, nle, nlt, nI1, cl, inN, s_abs2, not_true_eq_false, not_false_eq_true, false_implies, true_implies, and_true, true_and, and_self, nmM, if_true, if_false, or0, Int32.add_zero, forall_const, Nat.le_refl, Nat.lt_irrefl, Nat.lt_succ_self, one_ne, zero_ne1, nI_z]
theorem ms_stay {n v B : Nat} {q : Int32} {w : Nat → Int32} {μ : qa_M} {Q : Int32 → qa_M → Prop} (r : RZ w) (hw : μ.1 92 = w) (M : MS μ w (oT w)) (hB : B = 2 ^ zH w) (hpl : ∀ h, h < zH w → μ.1 101 (v * 8 + h) = nI (yp w (oT w) v h)) (hv : v < zW w) (hn : 400 < n) (k : ∀ μ', onlyA 102 μ μ' → Q (oI (itr (styF (fun i => TWv w v (nI i)) q) 0 B none)) μ') : wX9_stayOf n (nI v) q μ Q := by
  have H8 := r.2.1.2.2.2.1
  have b1 := pw1 H8
  rw [← hB] at b1
  have lw : (1 : Int32) <<< (nI (zH w) &&& 31) = nI B := by rw [shN _ H8, hB]
  have keep : ∀ {μ1 : qa_M}, onlyA 102 μ μ1 → μ1.1 92 = w ∧ μ1.1 92 4 = nI (zH w) ∧ MS μ1 w (oT w) ∧ ∀ h, h < zH w → μ1.1 101 (v * 8 + h) = nI (yp w (oT w) v h) := by
    intro μ1 o1
    have e92 : μ1.1 92 = w := by rw [← hw]; exact funext (fun j => o1.2 92 j (by omega))
    obtain ⟨m1, m2, m3, m4, m5, m6, m7, m8, m9⟩ := M
    have e91 : ∀ j, μ1.1 91 j = μ.1 91 j := fun j => o1.2 _ _ (by omega)
    exact ⟨e92, by rw [e92]; exact r.1.2.2.2.1, ⟨by rw [e91]; exact m1, by rw [e91]; exact m2, by rw [e91]; exact m3, by rw [e91]; exact m4, by rw [e91]; exact m5, by rw [e91, e91]; exact m6, fun p hp => by rw [o1.2 _ _ (by omega)]; exact m7 p hp, fun p hp => by rw [o1.2 _ _ (by omega)]; exact m8 p hp, fun p hp => by rw [o1.2 _ _ (by omega)]; exact m9 p hp⟩, fun h hh => by rw [o1.2 _ _ (by omega)]; exact hpl h hh⟩
  unfold wX9_stayOf
  refine inv_loopF 60 (fun n i (σ : Option Nat × qa_M) => wX9_stayOf_5 n (nI v) q (oI σ.1) i σ.2 Q) B (fun i σ => σ.1 = itr (styF (fun i => TWv w v (nI i)) q) 0 i none ∧ (∀ p, σ.1 = some p → p < B) ∧ onlyA 102 μ σ.2) ?_ ?_ B 0 (none, μ) n (by omega) (by omega) ⟨rfl, (fun p e => nomatch e), onlyA.rf _ _⟩
  · intro n ⟨s, μ1⟩ hm ⟨e1, e2, o1⟩
    obtain ⟨k1, k2, k3, k4⟩ := keep o1
    dsimp only at e1 e2 o1 k1 k2 k3 k4 ⊢
    simp (disch := omega) only [wX9_stayOf_5, s_mhouses, k2, lw, nle, not_true_eq_false, not_false_eq_true, false_implies, true_implies, and_true, true_and, and_self, nmM, if_true, if_false, or0, Int32.add_zero, forall_const, Nat.le_refl, Nat.lt_irrefl, Nat.lt_succ_self, one_ne, zero_ne1, nI_z]
    rw [e1]
    exact k μ1 o1
  · intro n i ⟨s, μ1⟩ hm hi ⟨e1, e2, o1⟩ ih
    obtain ⟨k1, k2, k3, k4⟩ := keep o1
    dsimp only at e1 e2 o1 k1 k2 k3 k4 ⊢
    have hi' : ¬ B ≤ i := by omega
    have stp : itr (styF (fun i => TWv w v (nI i)) q) 0 (i + 1) none = styF (fun i => TWv w v (nI i)) q i s := by rw [itr_succ, Nat.zero_add, e1]
    have try1 : ∀ μ2, onlyA 102 μ μ2 → (∀ μ3, onlyA 102 μ2 μ3 → (TWv w v (nI i) = q → styF (fun i => TWv w v (nI i)) q i s = some i) ∧ (¬ TWv w v (nI i) = q → styF (fun i => TWv w v (nI i)) q i s = s)) → wX9_stayOf_36 n (nI v) q (oI s) (nI i) μ2 (fun v1 v2 v3 v4 μk => wX9_stayOf_5 n v1 v2 v3 v4 μk Q) Q := by
      intro μ2 o2 hx
      obtain ⟨j1, j2, j3, j4⟩ := keep o2
      unfold wX9_stayOf_36
      refine m_without r j1 j3 j4 hv (by omega) (fun μ3 o3 => ?_)
      obtain ⟨x1, x2⟩ := hx μ3 o3
      rw [nI1]
      refine ⟨fun h => ?_, fun h => ?_⟩
      · exact ih (s, μ3) ⟨by rw [stp, x2 h], e2, o2.tr o3⟩
      · exact ih (some i, μ3) ⟨by rw [stp, x1 h], fun p e => by cases e; exact hi, o2.tr o3⟩
    cases s with
    | none =>
      simp (disch := omega) only [wX9_stayOf_5, s_mhouses, k2, lw, nle, hi', oI, not_true_eq_false, not_false_eq_true, false_implies, true_implies, and_true, true_and, and_self, nmM, if_true, if_false, or0, Int32.add_zero, forall_const, Nat.le_refl, Nat.lt_irrefl, Nat.lt_succ_self, one_ne, zero_ne1, nI_z]
      refine try1 μ1 o1 (fun μ3 o3 => ⟨fun h => ?_, fun h => ?_⟩)
      · simp only [styF, Option.elim, h, if_true]
      · simp only [styF, Option.elim, h, if_false]
    | some p =>
      have hp : p < B := e2 p rfl
      have bp := bcN_le p
      have bi := bcN_le i
      simp (disch := omega) only [wX9_stayOf_5, s_mhouses, k2, lw, nle, hi', oI, neg1_ne, s_bits, nlt, not_true_eq_false, not_false_eq_true, false_implies, true_implies, and_true, true_and, and_self, nmM, if_true, if_false, or0, Int32.add_zero, forall_const, Nat.le_refl, Nat.lt_irrefl, Nat.lt_succ_self, one_ne, zero_ne1, nI_z]
      refine ⟨fun h => ?_, fun h => ?_⟩
      · have hd : ¬ bcN p ≤ bcN i := by omega
        refine try1 μ1 o1 (fun μ3 o3 => ⟨fun h => ?_, fun h => ?_⟩)
        · simp only [styF, Option.elim, hd, h, if_true, if_false]
        · simp only [styF, Option.elim, hd, h, if_false]
      · have hd : bcN p ≤ bcN i := by omega
        rw [nI1]
        refine ih (some p, μ1) ⟨by rw [stp]; simp only [styF, Option.elim, hd, if_true], e2, o1⟩
