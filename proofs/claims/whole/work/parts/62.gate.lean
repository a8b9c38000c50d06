def fpb (pl : Nat → Nat → Nat) (f : Nat → Int64) (h j : Nat) : Bool := decide ((nI (pl (f (2 * j)).toInt32.toNatClampNeg h)).toInt64 = f (2 * j + 1))
def gtB (pl : Nat → Nat → Nat) (f : Nat → Int64) (p H : Nat) : Int32 := itr (fun h s => if alls (fpb pl f h) 0 p = true then s ||| ((1 : Int32) <<< (nI h &&& 31)) else s) 0 H 0
theorem gd_q {f : Nat → Int64} {p W i : Nat} {B C : Int} (gd : alls (prP f (W : Int) B C) 0 p = true) (hW : W ≤ 20) (hi : i < p) : ∃ q, q ≤ W ∧ (f (2 * i)).toInt32 = nI q := by
  have g := alls_mem p 0 gd i (by omega) (by omega)
  unfold prP at g
  rw [decide_eq_true_eq] at g
  exact q64 (A := W) g.1.1 g.1.2 (by omega)
theorem x_fitsPlaces {n s p h y H W : Nat} {B C : Int} {f : Nat → Int64} {pl : Nat → Nat → Nat} {μ : qa_M} {Q : Int32 → qa_M → Prop} (S : SN μ s (2 * p) f) (hW : W ≤ 20) (hH : H ≤ 8) (hh : h < H) (gd : alls (prP f (W : Int) B C) 0 p = true) (ht : ∀ v, v ≤ W → ∀ h, h < H → μ.1 (y + 1) (v * 8 + h) = nI (pl v h)) (hn : 40 < n) : wX3_fitsPlaces n (83 + 2 * s) y (nI h) μ Q ↔ if alls (fpb pl f h) 0 p = true then Q 1 μ else Q 0 μ := by
  obtain ⟨⟨h0, h1⟩, h2, h3, h4, h5⟩ := S
  unfold wX3_fitsPlaces
  refine alls_iff 0 (fun n i => wX3_fitsPlaces_2 n (83 + 2 * s) y (nI h) i μ Q) (Q 1 μ) (Q 0 μ) p _ ?_ ?_ p 0 n (by omega) (by omega)
  · intro n _
    show wX3_fitsPlaces_2 (n + 1) _ _ _ _ _ _ ↔ _
    rw [wX3_fitsPlaces_2, h2, nI1, nle _ _ (by omega) (by omega)]
    simp only [show 2 * p ≤ 2 * p + 1 by omega, not_true_eq_false, not_false_eq_true, false_implies, true_implies, and_true, true_and, and_self, nmM, if_true, if_false, or0, Int32.add_zero, forall_const, one_ne, zero_ne1, nz1, nz0, nI_z, cl, inN, Nat.le_refl, Nat.lt_irrefl, Nat.lt_succ_self, Bool.false_eq_true]
  · intro n i _ hi
    show wX3_fitsPlaces_2 (n + 1) _ _ _ _ _ _ ↔ _
    have e1 : μ.2.1 (83 + 2 * s + 1) (2 * i) = f (2 * i) := h4 _ (by omega)
    have e2 : μ.2.1 (83 + 2 * s + 1) (2 * i + 1) = f (2 * i + 1) := h4 _ (by omega)
    obtain ⟨q, q1, q2⟩ := gd_q gd hW hi
    have e3 := ht q q1 h hh
    have q0 : ¬ 2 * p ≤ 2 * i + 1 := by omega
    rw [wX3_fitsPlaces_2, h2, nI1, nle _ _ (by omega) (by omega)]
    have eb : fpb pl f h i = decide ((nI (pl q h)).toInt64 = f (2 * i + 1)) := by unfold fpb; rw [q2, cl (by omega)]
    rw [eb]
    simp (disch := omega) only [q0, e1, e2, q2, s_spot, e3, nI1, nI2, lg_cmp_eq, not_true_eq_false, not_false_eq_true, false_implies, true_implies, and_true, true_and, and_self, nmM, if_true, if_false, or0, Int32.add_zero, forall_const, one_ne, zero_ne1, nz1, nz0, nI_z, cl, inN, Nat.le_refl, Nat.lt_irrefl, Nat.lt_succ_self, Bool.false_eq_true]
    by_cases c1 : (nI (pl q h)).toInt64 = f (2 * i + 1)
    · rw [ifd_p c1]; simp only [c1, not_true_eq_false, not_false_eq_true, false_implies, true_implies, and_true, true_and, and_self, nmM, if_true, if_false, or0, Int32.add_zero, forall_const, one_ne, zero_ne1, nz1, nz0, nI_z, cl, inN, Nat.le_refl, Nat.lt_irrefl, Nat.lt_succ_self, Bool.false_eq_true]
    · rw [ifd_n c1]; simp only [c1, not_true_eq_false, not_false_eq_true, false_implies, true_implies, and_true, true_and, and_self, nmM, if_true, if_false, or0, Int32.add_zero, forall_const, one_ne, zero_ne1, nz1, nz0, nI_z, cl, inN, Nat.le_refl, Nat.lt_irrefl, Nat.lt_succ_self, Bool.false_eq_true]
theorem x_gateBits {n s p y H W : Nat} {B C : Int} {f : Nat → Int64} {pl : Nat → Nat → Nat} {μ : qa_M} {Q : Int32 → qa_M → Prop} (S : SN μ s (2 * p) f) (hW : W ≤ 20) (hH : H ≤ 8) (hT : μ.1 (μ.2.2 1 2) 5 = nI H) (gd : alls (prP f (W : Int) B C) 0 p = true) (ht : ∀ v, v ≤ W → ∀ h, h < H → μ.1 (y + 1) (v * 8 + h) = nI (pl v h)) (hn : 60 < n) : wX8_gateBits n (83 + 2 * s) y μ Q ↔ Q (gtB pl f p H) μ := by
  unfold wX8_gateBits gtB
  refine for_iff 45 (fun n i (z : Int32) => wX8_gateBits_5 n (83 + 2 * s) y z i μ Q) (fun z => Q z μ) H (fun h s => if alls (fpb pl f h) 0 p = true then s ||| ((1 : Int32) <<< (nI h &&& 31)) else s) (fun _ _ => True) ?_ ?_ (fun _ _ _ _ => trivial) H 0 0 n (by omega) (by omega) trivial
  · intro n z _ _
    show wX8_gateBits_5 (n + 1) _ _ _ _ _ _ ↔ _
    simp (disch := omega) only [wX8_gateBits_5, hT, nle, not_true_eq_false, not_false_eq_true, false_implies, true_implies, and_true, true_and, and_self, nmM, if_true, if_false, or0, Int32.add_zero, forall_const, one_ne, zero_ne1, nz1, nz0, nI_z, cl, inN, Nat.le_refl, Nat.lt_irrefl, Nat.lt_succ_self, Bool.false_eq_true]
  · intro n i z hm hi _
    show wX8_gateBits_5 (n + 1) _ _ _ _ _ _ ↔ _
    have hi' : ¬ H ≤ i := by omega
    simp (disch := omega) only [wX8_gateBits_5, hT, nle, hi', nI1, x_fitsPlaces S hW hH hi gd ht, not_true_eq_false, not_false_eq_true, false_implies, true_implies, and_true, true_and, and_self, nmM, if_true, if_false, or0, Int32.add_zero, forall_const, one_ne, zero_ne1, nz1, nz0, nI_z, cl, inN, Nat.le_refl, Nat.lt_irrefl, Nat.lt_succ_self, Bool.false_eq_true]
    by_cases c : alls (fpb pl f i) 0 p = true <;> simp only [c, not_true_eq_false, not_false_eq_true, false_implies, true_implies, and_true, true_and, and_self, nmM, if_true, if_false, or0, Int32.add_zero, forall_const, one_ne, zero_ne1, nz1, nz0, nI_z, cl, inN, Nat.le_refl, Nat.lt_irrefl, Nat.lt_succ_self, Bool.false_eq_true]
theorem ml_gate {n s p h H W : Nat} {x : Int32} {B C : Int} {f : Nat → Int64} {pl : Nat → Nat → Nat} {μ : qa_M} {K : Int32 → Int32 → Int32 → Int32 → qa_M → Prop} {Q : Int32 → qa_M → Prop} (S : SN μ s (2 * p) f) (hW : W ≤ 20) (hH : H ≤ 8) (hh : h < H) (gd : alls (prP f (W : Int) B C) 0 p = true) (ht : ∀ v, v ≤ W → ∀ h, h < H → μ.1 101 (v * 8 + h) = nI (pl v h)) (hn : 40 < n) : wX9_gateOf_22 n (nI s) x (nI h) 1 0 μ K Q ↔ K (nI s) x (nI h) (if alls (fpb pl f h) 0 p = true then 1 else 0) μ := by
  have m60 := S.1.2
  have hs := S.1.1
  have h3 := S.2.2.1
  refine (flag_iff 0 (fun n b i => wX9_gateOf_22 n (nI s) x (nI h) b i μ K Q) (fun b => K (nI s) x (nI h) b μ) p (fpb pl f h) ?_ ?_ ?_ p 0 n (by omega) (by omega)).1
  · intro n b _
    show wX9_gateOf_22 (n + 1) _ _ _ _ _ _ _ _ ↔ _
    rw [wX9_gateOf_22, cl (by omega), h3, nle _ _ (by omega) (by omega)]
    simp (disch := omega) only [not_true_eq_false, not_false_eq_true, false_implies, true_implies, and_true, true_and, and_self, nmM, if_true, if_false, or0, Int32.add_zero, forall_const, one_ne, zero_ne1, nz1, nz0, nI_z, cl, inN, Nat.le_refl, Nat.lt_irrefl, Nat.lt_succ_self, Bool.false_eq_true]
  · intro n i _ hi
    show wX9_gateOf_22 (n + 1) _ _ _ _ _ _ _ _ ↔ _
    obtain ⟨q, q1, q2⟩ := gd_q gd hW hi
    have e3 := ht q q1 h hh
    have q0 : ¬ 2 * p ≤ 2 * i := by omega
    rw [wX9_gateOf_22, cl (by omega), h3, nle _ _ (by omega) (by omega)]
    have eb : fpb pl f h i = decide ((nI (pl q h)).toInt64 = f (2 * i + 1)) := by unfold fpb; rw [q2, cl (by omega)]
    rw [eb]
    simp (disch := omega) only [q0, m_number S, q2, s_placeOf, e3, nI1, nI2, lg_cmp_eq, wX9_gateOf_69, wX9_gateOf_70, not_true_eq_false, not_false_eq_true, false_implies, true_implies, and_true, true_and, and_self, nmM, if_true, if_false, or0, Int32.add_zero, forall_const, one_ne, zero_ne1, nz1, nz0, nI_z, cl, inN, Nat.le_refl, Nat.lt_irrefl, Nat.lt_succ_self, Bool.false_eq_true]
    by_cases c1 : (nI (pl q h)).toInt64 = f (2 * i + 1)
    · rw [ifd_p c1]; simp only [c1, not_true_eq_false, not_false_eq_true, false_implies, true_implies, and_true, true_and, and_self, nmM, if_true, if_false, or0, Int32.add_zero, forall_const, one_ne, zero_ne1, nz1, nz0, nI_z, cl, inN, Nat.le_refl, Nat.lt_irrefl, Nat.lt_succ_self, Bool.false_eq_true]
    · rw [ifd_n c1]; simp only [c1, not_true_eq_false, not_false_eq_true, false_implies, true_implies, and_true, true_and, and_self, nmM, if_true, if_false, or0, Int32.add_zero, forall_const, one_ne, zero_ne1, nz1, nz0, nI_z, cl, inN, Nat.le_refl, Nat.lt_irrefl, Nat.lt_succ_self, Bool.false_eq_true]
  · intro n i _ hi
    show wX9_gateOf_22 (n + 1) _ _ _ _ _ _ _ _ ↔ _
    have q0 : ¬ 2 * p ≤ 2 * i := by omega
    rw [wX9_gateOf_22, cl (by omega), h3, nle _ _ (by omega) (by omega)]
    simp (disch := omega) only [q0, nI2, wX9_gateOf_69, wX9_gateOf_70, not_true_eq_false, not_false_eq_true, false_implies, true_implies, and_true, true_and, and_self, nmM, if_true, if_false, or0, Int32.add_zero, forall_const, one_ne, zero_ne1, nz1, nz0, nI_z, cl, inN, Nat.le_refl, Nat.lt_irrefl, Nat.lt_succ_self, Bool.false_eq_true]
theorem m_gate8 {n s p H W : Nat} {B C : Int} {f : Nat → Int64} {pl : Nat → Nat → Nat} {μ : qa_M} {Q : Int32 → qa_M → Prop} (S : SN μ s (2 * p) f) (hW : W ≤ 20) (hH : H ≤ 8) (h4 : μ.1 92 4 = nI H) (gd : alls (prP f (W : Int) B C) 0 p = true) (ht : ∀ v, v ≤ W → ∀ h, h < H → μ.1 101 (v * 8 + h) = nI (pl v h)) (hn : 60 < n) : wX9_gateOf_8 n (nI s) 0 0 μ Q ↔ Q (gtB pl f p H) μ := by
  unfold gtB
  refine for_iff 45 (fun n i (z : Int32) => wX9_gateOf_8 n (nI s) z i μ Q) (fun z => Q z μ) H (fun h s => if alls (fpb pl f h) 0 p = true then s ||| ((1 : Int32) <<< (nI h &&& 31)) else s) (fun _ _ => True) ?_ ?_ (fun _ _ _ _ => trivial) H 0 0 n (by omega) (by omega) trivial
  · intro n z _ _
    show wX9_gateOf_8 (n + 1) _ _ _ _ _ ↔ _
    simp (disch := omega) only [wX9_gateOf_8, s_mhouses, h4, nle, not_true_eq_false, not_false_eq_true, false_implies, true_implies, and_true, true_and, and_self, nmM, if_true, if_false, or0, Int32.add_zero, forall_const, one_ne, zero_ne1, nz1, nz0, nI_z, cl, inN, Nat.le_refl, Nat.lt_irrefl, Nat.lt_succ_self, Bool.false_eq_true]
  · intro n i z hm hi _
    show wX9_gateOf_8 (n + 1) _ _ _ _ _ ↔ _
    have hi' : ¬ H ≤ i := by omega
    simp (disch := omega) only [wX9_gateOf_8, wX9_gateOf_91, s_mhouses, h4, nle, hi', nI1, ml_gate S hW hH hi gd ht, not_true_eq_false, not_false_eq_true, false_implies, true_implies, and_true, true_and, and_self, nmM, if_true, if_false, or0, Int32.add_zero, forall_const, one_ne, zero_ne1, nz1, nz0, nI_z, cl, inN, Nat.le_refl, Nat.lt_irrefl, Nat.lt_succ_self, Bool.false_eq_true]
    by_cases c : alls (fpb pl f i) 0 p = true <;> simp only [c, not_true_eq_false, not_false_eq_true, false_implies, true_implies, and_true, true_and, and_self, nmM, if_true, if_false, or0, Int32.add_zero, forall_const, one_ne, zero_ne1, nz1, nz0, nI_z, cl, inN, Nat.le_refl, Nat.lt_irrefl, Nat.lt_succ_self, Bool.false_eq_true]
theorem refG {n : Nat} {v : Int32} {w : Nat → Int32} {μ : qa_M} {Q : Int32 → qa_M → Prop} (T : TZ μ (μ.2.2 1 2) w) : wX8_refusePairs n v (μ.1 (μ.2.2 1 2) 1) 0 ((μ.1 (μ.2.2 1 2) 5) - 1) μ Q = wX8_refusePairs n v (nI (zW w)) 0 (nI (zH w) - 1) μ Q := by
  rw [T.1.2.1, T.1.2.2.2.2.2.1]
theorem GOOD.g {μ : qa_M} {w : Nat → Int32} {v : Int32} {s p : Nat} {f : Nat → Int64} (r : RZ w) (D : GOOD μ w v (zW w) 0 ((zH w : Int) - 1) s p f) : GOOD μ w v (nI (zW w)).toInt (0 : Int32).toInt (nI (zH w) - 1).toInt s p f := by
  have := r.2.1.2.1
  rw [Hm1 r, nI_toInt (by omega)]; exact D
theorem BAD.g {μ : qa_M} {w : Nat → Int32} {v c : Int32} (r : RZ w) (D : BAD μ w v (zW w) 0 ((zH w : Int) - 1) c) : BAD μ w v (nI (zW w)).toInt (0 : Int32).toInt (nI (zH w) - 1).toInt c := by
  have := r.2.1.2.1
  rw [Hm1 r, nI_toInt (by omega)]; exact D
def lwB (w : Nat → Int32) (f : Nat → Int64) (p i : Nat) : Int32 := itr (fun l s => if gtB (yp w (oL w (nI l))) f p (zH w) = 0 then s else s ||| ((1 : Int32) <<< (nI l &&& 31))) 0 i 0
theorem xs_laws {n s p : Nat} {f : Nat → Int64} {w : Nat → Int32} {μ : qa_M} {Q : Int32 → qa_M → Prop} (I : INV μ) (hw : μ.1 92 = w) (S : SN μ s (2 * p) f) (gd : alls (prP f (zW w) 0 ((zH w : Int) - 1)) 0 p = true) (hn : 300 < n) (k : ∀ μ', sc μ μ' → Q (lwB w f p 4) μ') : wX8_laws_34 n (nI s) 0 0 μ Q := by
  obtain ⟨r, T, E, G⟩ := I.facts hw
  have hs := S.1.1
  have H8 := r.2.1.2.2.2.1
  have W20 := r.2.1.2.1
  refine inv_loopF 100 (fun n i (σ : Int32 × qa_M) => wX8_laws_34 n (nI s) σ.1 i σ.2 Q) 4 (fun i σ => σ.1 = lwB w f p i ∧ sc μ σ.2) ?_ ?_ 4 0 (0, μ) n (by omega) (by omega) ⟨rfl, sc.rf μ⟩
  · intro n ⟨v1, μ1⟩ hm ⟨e1, s⟩
    dsimp only at e1 s ⊢
    simp (disch := omega) only [wX8_laws_34, l4, nle, not_true_eq_false, not_false_eq_true, false_implies, true_implies, and_true, true_and, and_self, nmM, if_true, if_false, or0, Int32.add_zero, forall_const, one_ne, zero_ne1, nz1, nz0, nI_z, cl, inN, Nat.le_refl, Nat.lt_irrefl, Nat.lt_succ_self, Bool.false_eq_true]
    rw [e1]
    exact k μ1 s
  · intro n i ⟨v1, μ1⟩ hm hi ⟨e1, s1⟩ ih
    dsimp only at e1 s1 ⊢
    have hi' : ¬ 4 ≤ i := by omega
    simp (disch := omega) only [wX8_laws_34, l4, nle, hi', not_true_eq_false, not_false_eq_true, false_implies, true_implies, and_true, true_and, and_self, nmM, if_true, if_false, or0, Int32.add_zero, forall_const, one_ne, zero_ne1, nz1, nz0, nI_z, cl, inN, Nat.le_refl, Nat.lt_irrefl, Nat.lt_succ_self, Bool.false_eq_true]
    refine x_law I hw s1 (lawN hi) (by omega) (fun μ2 s2 E2 G2 => ?_)
    simp (disch := omega) only [x_gateBits (y := 37) (pl := yp w (oL w (nI i))) (S.sc s2) W20 H8 E2.2.2.2.1 gd E2.2.2.2.2.2.1, nI1, not_true_eq_false, not_false_eq_true, false_implies, true_implies, and_true, true_and, and_self, nmM, if_true, if_false, or0, Int32.add_zero, forall_const, one_ne, zero_ne1, nz1, nz0, nI_z, cl, inN, Nat.le_refl, Nat.lt_irrefl, Nat.lt_succ_self, Bool.false_eq_true]
    have stp : lwB w f p (i + 1) = if gtB (yp w (oL w (nI i))) f p (zH w) = 0 then v1 else v1 ||| ((1 : Int32) <<< (nI i &&& 31)) := by rw [e1]; unfold lwB; rw [itr_succ, Nat.zero_add]
    exact ⟨fun h => ih (_, μ2) ⟨by rw [stp, if_pos h], s2⟩, fun h => ih (_, μ2) ⟨by rw [stp, if_neg h], s2⟩⟩
theorem ms_laws {n s p : Nat} {f : Nat → Int64} {w : Nat → Int32} {μ0 μ : qa_M} {Q : Int32 → qa_M → Prop} (r : RZ w) (hw : μ0.1 92 = w) (s0 : sc μ0 μ) (S : SN μ0 s (2 * p) f) (gd : alls (prP f (zW w) 0 ((zH w : Int) - 1)) 0 p = true) (M0 : MS μ w (oL w (nI 0))) (hn : 300 < n) (k : ∀ μ', sc μ0 μ' → Q (lwB w f p 4) μ') : wX9_laws_19 n (nI s) 0 μ Q := by
  have hs := S.1.1
  have H8 := r.2.1.2.2.2.1
  have W20 := r.2.1.2.1
  refine inv_loopF 100 (fun n _ (σ : Int32 × qa_M) => wX9_laws_19 n (nI s) σ.1 σ.2 Q) 4 (fun i σ => σ.1 = lwB w f p i ∧ sc μ0 σ.2 ∧ MS σ.2 w (oL w (nI i))) ?_ ?_ 4 0 (0, μ) n (by omega) (by omega) ⟨rfl, s0, M0⟩
  · intro n ⟨v1, μ1⟩ hm ⟨e1, s, M⟩
    dsimp only at e1 s M ⊢
    have e20 : μ1.1 91 20 = nI 4 := M.1
    simp (disch := omega) only [wX9_laws_19, e20, l4, nle, not_true_eq_false, not_false_eq_true, false_implies, true_implies, and_true, true_and, and_self, nmM, if_true, if_false, or0, Int32.add_zero, forall_const, one_ne, zero_ne1, nz1, nz0, nI_z, cl, inN, Nat.le_refl, Nat.lt_irrefl, Nat.lt_succ_self, Bool.false_eq_true]
    rw [e1]
    exact k μ1 s
  · intro n i ⟨v1, μ1⟩ hm hi ⟨e1, s1, M1⟩ ih
    dsimp only at e1 s1 M1 ⊢
    have e20 : μ1.1 91 20 = nI i := M1.1
    have hi' : ¬ 4 ≤ i := by omega
    simp (disch := omega) only [wX9_laws_19, wX9_gateOf, e20, l4, nle, hi', not_true_eq_false, not_false_eq_true, false_implies, true_implies, and_true, true_and, and_self, nmM, if_true, if_false, or0, Int32.add_zero, forall_const, one_ne, zero_ne1, nz1, nz0, nI_z, cl, inN, Nat.le_refl, Nat.lt_irrefl, Nat.lt_succ_self, Bool.false_eq_true]
    refine m_try (o := oL w (nI i)) r hw s1 M1 (fun hW => (r.law hW).1) (by omega) (fun μ2 s2 h2 M2 o2 E2 => ?_)
    obtain ⟨-, -, hW2, hH2, -, hpl2, -⟩ := id E2
    have f20 : μ2.1 91 20 = nI i := M2.1
    simp (disch := omega) only [m_gate8 (pl := yp w (oL w (nI i))) (S.sc s2) W20 H8 hH2 gd hpl2, wX9_laws_46, f20, nI1, not_true_eq_false, not_false_eq_true, false_implies, true_implies, and_true, true_and, and_self, nmM, if_true, if_false, or0, Int32.add_zero, forall_const, one_ne, zero_ne1, nz1, nz0, nI_z, cl, inN, Nat.le_refl, Nat.lt_irrefl, Nat.lt_succ_self, Bool.false_eq_true]
    have stp : lwB w f p (i + 1) = if gtB (yp w (oL w (nI i))) f p (zH w) = 0 then v1 else v1 ||| ((1 : Int32) <<< (nI i &&& 31)) := by rw [e1]; unfold lwB; rw [itr_succ, Nat.zero_add]
    exact ⟨fun h => ih (_, _) ⟨by rw [stp, if_pos h], s2.put91 20 _ (by omega), M2.law (nI (i + 1))⟩, fun h => ih (_, _) ⟨by rw [stp, if_neg h], s2.put91 20 _ (by omega), M2.law (nI (i + 1))⟩⟩
theorem c_59 {Ln n : Nat} {xs : Nat → Int32} {K : Int32 → qa_M → Prop} {i : Int32} {μ : qa_M} (I : INV μ) (hn : 2000 ≤ n) (k : ∀ μ', INV μ' → K (i + 6) μ') (v1 : vp_in (i + 1) Ln) (v2 : vp_in (i + 2) Ln) (v3 : vp_in (i + 3) Ln) (v4 : vp_in (i + 4) Ln) (v5 : vp_in (i + 5) Ln) : wLc_59 Ln xs n K i μ := by
  unfold wLc_59
  simp only [v1, v2, v3, v4, v5, true_and]
  generalize xs (i + 1).toNatClampNeg = a
  obtain ⟨w, hw⟩ : ∃ w, μ.1 92 = w := ⟨_, rfl⟩
  obtain ⟨r, T, E, G⟩ := I.facts hw
  obtain ⟨r1, r2, r3, r4⟩ := r.n0
  have L8 := G.1
  have N1 := r.2.1.1
  obtain ⟨W20, H8, hW, hH, plt, hpl, hpp, hfo, htu, hsu, hsm⟩ := id E
  rcases slot_dec I w a (zW w) 0 ((zH w : Int) - 1) with ⟨c, D⟩ | ⟨s, p, f, D⟩
  · obtain ⟨c0, c1⟩ := bad_neg D
    simp only [wX8_gate, refG T, x_bad r T (show 50 < n by omega) (D.g r), c0, not_true_eq_false, not_false_eq_true, false_implies, true_implies, and_true, true_and, and_self, nmM, if_true, if_false, or0, Int32.add_zero, forall_const, one_ne, zero_ne1, nz1, nz0, nI_z, cl, inN, Nat.le_refl, Nat.lt_irrefl, Nat.lt_succ_self, Bool.false_eq_true]
    simp only [wX9_gate]
    refine m_badG r hw (by omega) D ?_
    simp only [c1, not_true_eq_false, not_false_eq_true, false_implies, true_implies, and_true, true_and, and_self, nmM, if_true, if_false, or0, Int32.add_zero, forall_const, one_ne, zero_ne1, nz1, nz0, nI_z, cl, inN, Nat.le_refl, Nat.lt_irrefl, Nat.lt_succ_self, Bool.false_eq_true]
    exact k μ I
  · obtain ⟨rfl, gT, S, gd⟩ := id D
    have hs := S.1.1
    simp (disch := omega) only [wX8_gate, refG T, x_good r T (show 50 < n by omega) (D.g r), x_gateBits (y := 32) (pl := yp w (oT w)) S W20 H8 hH gd hpl, not_true_eq_false, not_false_eq_true, false_implies, true_implies, and_true, true_and, and_self, nmM, if_true, if_false, or0, Int32.add_zero, forall_const, one_ne, zero_ne1, nz1, nz0, nI_z, cl, inN, Nat.le_refl, Nat.lt_irrefl, Nat.lt_succ_self, Bool.false_eq_true]
    simp only [wX9_gate]
    refine m_goodG r hw (by omega) D (fun m hm => ?_)
    refine m_lay hw r (by omega) (fun μ1 a1 a2 a3 M1 => ?_)
    have s1 : sc μ μ1 := (sc.rf μ).lay a1 a2 a3
    simp only [z_le, wX9_gateOf, not_true_eq_false, not_false_eq_true, false_implies, true_implies, and_true, true_and, and_self, nmM, if_true, if_false, or0, Int32.add_zero, forall_const, one_ne, zero_ne1, nz1, nz0, nI_z, cl, inN, Nat.le_refl, Nat.lt_irrefl, Nat.lt_succ_self, Bool.false_eq_true]
    refine m_try (o := oT w) r hw s1 M1 (fun hW => (r.law hW).1) (by omega) (fun μ2 s2 h2 M2 o2 E2 => ?_)
    obtain ⟨-, -, hW2, hH2, -, hpl2, -⟩ := id E2
    simp (disch := omega) only [m_gate8 (pl := yp w (oT w)) (S.sc s2) W20 H8 hH2 gd hpl2, not_true_eq_false, not_false_eq_true, false_implies, true_implies, and_true, true_and, and_self, nmM, if_true, if_false, or0, Int32.add_zero, forall_const, one_ne, zero_ne1, nz1, nz0, nI_z, cl, inN, Nat.le_refl, Nat.lt_irrefl, Nat.lt_succ_self, Bool.false_eq_true]
    exact k μ2 (I.sc s2)
theorem c_60 {Ln n : Nat} {xs : Nat → Int32} {K : Int32 → qa_M → Prop} {i : Int32} {μ : qa_M} (I : INV μ) (hn : 2000 ≤ n) (k : ∀ μ', INV μ' → K (i + 6) μ') (v1 : vp_in (i + 1) Ln) (v2 : vp_in (i + 2) Ln) (v3 : vp_in (i + 3) Ln) (v4 : vp_in (i + 4) Ln) (v5 : vp_in (i + 5) Ln) : wLc_60 Ln xs n K i μ := by
  unfold wLc_60
  simp only [v1, v2, v3, v4, v5, true_and]
  generalize xs (i + 1).toNatClampNeg = a
  obtain ⟨w, hw⟩ : ∃ w, μ.1 92 = w := ⟨_, rfl⟩
  obtain ⟨r, T, E, G⟩ := I.facts hw
  obtain ⟨r1, r2, r3, r4⟩ := r.n0
  have L8 := G.1
  have N1 := r.2.1.1
  obtain ⟨W20, H8, hW, hH, plt, hpl, hpp, hfo, htu, hsu, hsm⟩ := id E
  rcases slot_dec I w a (zW w) 0 ((zH w : Int) - 1) with ⟨c, D⟩ | ⟨s, p, f, D⟩
  · obtain ⟨c0, c1⟩ := bad_neg D
    simp only [wX8_laws, refG T, x_bad r T (show 50 < n by omega) (D.g r), c0, not_true_eq_false, not_false_eq_true, false_implies, true_implies, and_true, true_and, and_self, nmM, if_true, if_false, or0, Int32.add_zero, forall_const, one_ne, zero_ne1, nz1, nz0, nI_z, cl, inN, Nat.le_refl, Nat.lt_irrefl, Nat.lt_succ_self, Bool.false_eq_true]
    simp only [wX9_laws]
    refine m_badG r hw (by omega) D ?_
    simp only [c1, not_true_eq_false, not_false_eq_true, false_implies, true_implies, and_true, true_and, and_self, nmM, if_true, if_false, or0, Int32.add_zero, forall_const, one_ne, zero_ne1, nz1, nz0, nI_z, cl, inN, Nat.le_refl, Nat.lt_irrefl, Nat.lt_succ_self, Bool.false_eq_true]
    exact k μ I
  · obtain ⟨rfl, gT, S, gd⟩ := id D
    have hs := S.1.1
    simp (disch := omega) only [wX8_laws, refG T, x_good r T (show 50 < n by omega) (D.g r), not_true_eq_false, not_false_eq_true, false_implies, true_implies, and_true, true_and, and_self, nmM, if_true, if_false, or0, Int32.add_zero, forall_const, one_ne, zero_ne1, nz1, nz0, nI_z, cl, inN, Nat.le_refl, Nat.lt_irrefl, Nat.lt_succ_self, Bool.false_eq_true]
    refine xs_laws I hw S gd (by omega) (fun μ1 s1 => ?_)
    have hw1 := s1.w.trans hw
    simp only [wX9_laws]
    refine m_goodG r hw1 (by omega) ⟨rfl, gT, S.sc s1, gd⟩ (fun m hm => ?_)
    refine m_lay hw1 r (by omega) (fun μ2 a1 a2 a3 M2 => ?_)
    have s2 : sc μ1 μ2 := (sc.rf μ1).lay a1 a2 a3
    simp only [z_le, not_true_eq_false, not_false_eq_true, false_implies, true_implies, and_true, true_and, and_self, nmM, if_true, if_false, or0, Int32.add_zero, forall_const, one_ne, zero_ne1, nz1, nz0, nI_z, cl, inN, Nat.le_refl, Nat.lt_irrefl, Nat.lt_succ_self, Bool.false_eq_true]
    refine ms_laws r hw1 (s2.put91 20 _ (by omega)) (S.sc s1) gd (M2.law (nI 0)) (by omega) (fun μ3 s3 => ?_)
    simp only [not_true_eq_false, not_false_eq_true, false_implies, true_implies, and_true, true_and, and_self, nmM, if_true, if_false, or0, Int32.add_zero, forall_const, one_ne, zero_ne1, nz1, nz0, nI_z, cl, inN, Nat.le_refl, Nat.lt_irrefl, Nat.lt_succ_self, Bool.false_eq_true]
    exact k μ3 ((I.sc s1).sc s3)
