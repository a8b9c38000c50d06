/-! m reads a line -/
theorem c5n : (5 : Int32).toNatClampNeg = 5 := rfl
theorem c6n : (6 : Int32).toNatClampNeg = 6 := rfl
theorem c7n : (7 : Int32).toNatClampNeg = 7 := rfl
theorem c9n : (9 : Int32).toNatClampNeg = 9 := rfl
def mf (μ μ' : qa_M) : Prop := μ'.2 = μ.2 ∧ ∀ b j, b ≠ 97 → ¬ (b = 91 ∧ 8 ≤ j ∧ j ≤ 13) → μ'.1 b j = μ.1 b j
theorem mf.rf (μ : qa_M) : mf μ μ := ⟨rfl, fun _ _ _ _ => rfl⟩
theorem mf.tr {μ μ1 μ2 : qa_M} (h : mf μ μ1) (h' : mf μ1 μ2) : mf μ μ2 := ⟨h'.1.trans h.1, fun b j h1 h2 => (h'.2 b j h1 h2).trans (h.2 b j h1 h2)⟩
theorem mf.oc {μ μ1 μ2 : qa_M} (h : mf μ μ1) (o : oc 91 8 13 μ1 μ2) : mf μ μ2 := h.tr ⟨o.1, fun b j _ h2 => o.2 b j h2⟩
theorem mf.put {μ μ1 : qa_M} (h : mf μ μ1) (j : Nat) (x : Int32) : mf μ (qa_uI μ1 97 j x) := h.tr ⟨rfl, fun c k h1 h2 => uIn _ _ (fun e => h1 e.1)⟩
theorem GM.put {f : Nat → Int32} {T : Nat} {s : Tk} {μ : qa_M} (G : GM f T μ s) (j : Nat) (x : Int32) : GM f T (qa_uI μ 97 j x) s := by
  obtain ⟨⟨g1, g2, g3⟩, ⟨s1, s2, s3, s4⟩, o, g4, g5⟩ := G
  exact ⟨⟨g1, (uIn _ _ (by omega)).trans g2, fun j hj => ⟨(uIn _ _ (by omega)).trans (g3 j hj).1, (g3 j hj).2⟩⟩, ⟨(uIn _ _ (by omega)).trans s1, (uIn _ _ (by omega)).trans s2, (uIn _ _ (by omega)).trans s3, fun c => (uIn _ _ (by omega)).trans (s4 c)⟩, o, (uIn _ _ (by omega)).trans g4, (uIn _ _ (by omega)).trans g5⟩
theorem BM.put {k pl : Nat} {μ : qa_M} (B : BM μ k pl) (j : Nat) (x : Int32) : BM (qa_uI μ 97 j x) k pl := ⟨(uIn _ _ (by omega)).trans B.1, B.2.1, (uIn _ _ (by omega)).trans B.2.2⟩
/-- m's new town -/
def MW (μ : qa_M) (w : Nat → Int32) : Prop := ∀ j, j < 114 → μ.1 97 j = w j
theorem MW.put {μ : qa_M} {w : Nat → Int32} (h : MW μ w) (k : Nat) (x : Int32) : MW (qa_uI μ 97 k x) (upd w k x) := fun j hj => by
  by_cases c : j = k
  · rw [c, uIs, ups]
  · rw [uIn _ _ (fun e => c e.2), upn _ _ c]; exact h j hj
theorem MW.oc {μ μ' : qa_M} {w : Nat → Int32} (h : MW μ w) (o : oc 91 8 13 μ μ') : MW μ' w := fun j hj => (o.2 _ _ (by omega)).trans (h j hj)
section MR
variable {f : Nat → Int32} {T n v : Nat} {s : Tk} {w : Nat → Int32} {wd : List Int32} {μ0 μ : qa_M} {Q : qa_M → Prop} {R : Int32 → qa_M → Prop} {er : Nat → Nat → Prop} {k pl : Nat}
theorem m_is1 (hv : v < 30) (hw : qa_txt.getD v [] = wd) (G : GM f T μ s) (hn : 820 < n) (hb : isw f wd s = true) : wX9_is n v μ R ↔ R 1 μ := by
  subst hw
  rw [m_is hv G.1 G.2.1 G.2.2.1 G.2.2.2.1 (by omega), if_pos hb]
theorem m_is0 (hv : v < 30) (hw : qa_txt.getD v [] = wd) (G : GM f T μ s) (hn : 820 < n) (hb : isw f wd s = false) : wX9_is n v μ R ↔ R 0 μ := by
  subst hw
  rw [m_is hv G.1 G.2.1 G.2.2.1 G.2.2.2.1 (by omega), if_neg (by rw [hb]; decide)]
theorem m_takes0 (hv : v < 30) (hw : qa_txt.getD v [] = wd) (G : GM f T μ s) (hn : 820 < n) (hb : isw f wd s = false) : wX9_takes n v μ R ↔ R 0 μ := by
  unfold wX9_takes
  rw [m_is0 hv hw G hn hb]
  exact ⟨fun h => (h.1 rfl).2, fun h => ⟨fun _ => ⟨rfl, h⟩, fun e => absurd rfl e⟩⟩
theorem m_takes1 (hv : v < 30) (hw : qa_txt.getD v [] = wd) (G : GM f T μ s) (hn : 820 < n) (hb : isw f wd s = true) (kk : ∀ μ', oc 91 8 13 μ μ' → GM f T μ' (rdT f T s.2.2.1) → R 1 μ') : wX9_takes n v μ R := by
  unfold wX9_takes
  rw [m_is1 hv hw G hn hb]
  exact ⟨fun e => absurd e (by decide), fun _ => m_step G hn (fun μ' o G' => ⟨rfl, kk μ' o G'⟩)⟩
theorem m_21b (b0 : ¬ μ.1 91 12 = 0) : wX9_readLine_21 n μ Q ↔ Q (qa_uI μ 97 9 (μ.1 97 9 + 1)) := by
  unfold wX9_readLine_21 wX9_readLine_41 wX9_readLine_52
  rw [mb_good b0, mb_good b0, nmM]
  exact ⟨fun h => (h.1 rfl).1 rfl, fun h => ⟨fun _ => ⟨fun _ => h, fun e => absurd rfl e⟩, fun e => absurd rfl e⟩⟩
theorem m_fin {N : Nat} {ok : Tk → Prop} {w' : Nat → Int32} (e9 : μ.1 97 9 = nI N) (G : GM f T μ s) (hn : 820 < n) (h : pSemi f T s er ok) (hw : MW (qa_uI μ 97 9 (nI (N + 1))) w') (kb : ∀ k pl μ', er k pl → mf μ μ' → BM μ' k pl → Q μ') (kg : ∀ s' μ', ok s' → mf μ μ' → GM f T μ' s' → MW μ' w' → Q μ') : wX9_readLine_21 n μ Q := by
  have o4 := G.2.2.1.2.2.2
  unfold wX9_readLine_21
  unfold pSemi at h
  rw [m_good G.2.2.2.1, G.2.1.1, l3, neq _ _ (by omega) (by omega)]
  refine ⟨fun e => absurd e (by decide), fun _ => ⟨fun c => ?_, fun c => ?_⟩⟩
  · rw [if_pos c] at h
    unfold wX9_readLine_41
    rw [m_good G.2.2.2.1]
    refine ⟨fun e => absurd e (by decide), fun _ => m_step G hn (fun μ1 o1 G1 => ?_)⟩
    unfold wX9_readLine_52
    have e91 : μ1.1 97 9 = nI N := by rw [o1.2 _ _ (by omega)]; exact e9
    rw [nmM, c9n, e91, nI1]
    refine kg _ _ h (((mf.rf _).oc o1).put _ _) (G1.put _ _) (fun j hj => ?_)
    rw [← hw j hj, uI1, uI1, o1.2 _ _ (by omega)]
  · rw [if_neg c] at h
    refine m_errs (k := 1) G (by omega) (fun μ1 o1 B1 => ?_)
    unfold wX9_readLine_41 wX9_readLine_52
    rw [mb_good B1.nz, nmM]
    exact ⟨fun _ => kb _ _ _ h (((mf.rf _).oc o1).put _ _) (B1.put _ _), fun e => absurd rfl e⟩
theorem mb_w {F : qa_M → Prop} {j : Nat} {lo hi : Int32} (hv : v < 30) (hn : 820 < n) (X : mf μ0 μ) (B : BM μ k pl) (kk : ∀ μ', mf μ0 μ' → BM μ' k pl → F μ') : wX9_told n v lo hi μ (fun r μ8 => ∀ μ9, μ9 = qa_uI μ8 97 j r → F μ9) := by
  rw [mb_told hv B.nz hn, nmM]
  exact kk _ (X.put _ _) (B.put _ _)
theorem m_first {ok : Tk → (Nat → Int32) → Prop} (G : GM f T μ s) (e9 : μ.1 97 9 = nI (zN w)) (W : MW μ w) (hn : 820 < n) (h : pTown f T s w er ok) (kb : ∀ k pl μ', er k pl → mf μ μ' → BM μ' k pl → Q μ') (kg : ∀ s' w' μ', ok s' w' → mf μ μ' → GM f T μ' s' → MW μ' w' → Q μ') : wX9_readFirst n μ (fun μ11 => wX9_readLine_21 n μ11 Q) := by
  unfold wX9_readFirst
  unfold pTown at h
  have bad : ∀ k pl μ', er k pl → mf μ μ' → BM μ' k pl → wX9_readLine_21 n μ' Q := fun k pl μ' e X B => (m_21b B.nz).mpr (kb k pl _ e (X.put _ _) (B.put _ _))
  refine m_needs (by omega) rfl G hn h (fun k pl μ1 e o1 B1 => ?_) (fun s1 μ1 h1 o1 G1 => ?_)
  · exact mb_w (by omega) hn ((mf.rf _).oc o1) B1 (fun μ3 x3 B3 => mb_w (by omega) hn x3 B3 (fun μ5 x5 B5 => mb_w (by omega) hn x5 B5 (fun μ7 x7 B7 => mb_w (by omega) hn x7 B7 (fun μ9 x9 B9 => bad _ _ _ e x9 B9))))
  have x1 : mf μ μ1 := (mf.rf _).oc o1
  refine m_told (by omega) rfl (by decide) (by decide) (by omega) G1 hn h1 (fun k pl μ2 e o2 B2 => ?_) (fun a s2 μ2 h2 a1 a2 o2 G2 => ?_)
  · rw [nmM]
    exact mb_w (by omega) hn ((x1.oc o2).put _ _) (B2.put _ _) (fun μ5 x5 B5 => mb_w (by omega) hn x5 B5 (fun μ7 x7 B7 => mb_w (by omega) hn x7 B7 (fun μ9 x9 B9 => bad _ _ _ e x9 B9)))
  rw [nmM]
  have x3 := (x1.oc o2).put (0 : Int32).toNatClampNeg (nI a)
  refine m_told (by omega) rfl (by decide) (by decide) (by omega) (G2.put (0 : Int32).toNatClampNeg (nI a)) hn h2 (fun k pl μ4 e o4 B4 => ?_) (fun b s4 μ4 h4 b1 b2 o4 G4 => ?_)
  · rw [nmM]
    exact mb_w (by omega) hn ((x3.oc o4).put _ _) (B4.put _ _) (fun μ7 x7 B7 => mb_w (by omega) hn x7 B7 (fun μ9 x9 B9 => bad _ _ _ e x9 B9))
  rw [nmM]
  have x5 := (x3.oc o4).put (1 : Int32).toNatClampNeg (nI b)
  refine m_told (by omega) rfl (by decide) (by decide) (by omega) (G4.put (1 : Int32).toNatClampNeg (nI b)) hn h4 (fun k pl μ6 e o6 B6 => ?_) (fun c s6 μ6 h6 c1 c2 o6 G6 => ?_)
  · rw [nmM]
    exact mb_w (by omega) hn ((x5.oc o6).put _ _) (B6.put _ _) (fun μ9 x9 B9 => bad _ _ _ e x9 B9)
  rw [nmM]
  have x7 := (x5.oc o6).put (2 : Int32).toNatClampNeg (nI c)
  refine m_told (by omega) rfl (by decide) (by decide) (by omega) (G6.put (2 : Int32).toNatClampNeg (nI c)) hn h6 (fun k pl μ8 e o8 B8 => ?_) (fun d s8 μ8 h8 d1 d2 o8 G8 => ?_)
  · rw [nmM]
    exact bad _ _ _ e ((x7.oc o8).put _ _) (B8.put _ _)
  rw [nmM]
  have x9 := (x7.oc o8).put (3 : Int32).toNatClampNeg (nI d)
  have W9 := ((((((((W.oc o1).oc o2).put (0 : Int32).toNatClampNeg (nI a)).oc o4).put (1 : Int32).toNatClampNeg (nI b)).oc o6).put (2 : Int32).toNatClampNeg (nI c)).oc o8).put (3 : Int32).toNatClampNeg (nI d)
  refine m_fin (N := zN w) (w' := uT w a b c d) ?_ (G8.put _ _) hn h8 (W9.put 9 _) (fun k pl μ' e x B => kb k pl μ' e (x9.tr x) B) (fun s' μ' h' x' G' X' => kg s' _ μ' h' (x9.tr x') G' X')
  simp (disch := omega) only [c0n, c1n, c2n, c3n, uIn, o8.2, o6.2, o4.2, o2.2, o1.2]
  exact e9
theorem isw_hd {i : Nat} (h : isw f (wX i) s = true) (hl : 0 < (wX i).length) : f s.2.1 = (wX i).getD 0 0 := by
  rw [isw_yes (isw_1 h)] at h
  generalize wX i = wd at h hl
  obtain ⟨m, hm⟩ : ∃ m, wd.length = m + 1 := ⟨wd.length - 1, by omega⟩
  rw [hm, rdQ] at h
  by_cases c : f (s.2.1 + 0) = wd.getD 0 0
  · exact c
  · rw [if_neg c] at h
    exact absurd h (by decide)
theorem isw_x {i j : Nat} (h : isw f (wX i) s = true) (hi : 0 < (wX i).length) (hj : 0 < (wX j).length) (hne : (wX i).getD 0 0 ≠ (wX j).getD 0 0) : isw f (wX j) s = false := by
  cases c : isw f (wX j) s with
  | false => rfl
  | true => exact absurd ((isw_hd h hi).symm.trans (isw_hd c hj)) hne
theorem m_fullH {H : Nat} (G : GM f T μ s) (hn : 820 < n) (b1 : isw f (wX 5) s = true) (b2 : isw f (wX 8) s = false) (b3 : isw f (wX 11) s = false) (b4 : isw f (wX 13) s = false) (e : μ.1 97 4 = nI H) (hH : H ≤ 8) : wX9_isFull n μ R ↔ if H < 8 then R 0 μ else R 1 μ := by
  unfold wX9_isFull wX9_isFull_20 wX9_isFull_42 wX9_isFull_62
  rw [m_is1 (v := 20) (by omega) rfl G hn b1, m_is0 (v := 21) (by omega) rfl G hn b2, m_is0 (v := 22) (by omega) rfl G hn b3, m_is0 (v := 23) (by omega) rfl G hn b4, c4n, e]
  by_cases c : H < 8
  · have q : (nI H = 8) = False := eq_false (by rw [l8, neq _ _ (by omega) (by omega)]; omega)
    simp only [q, if_pos c, not_true_eq_false, not_false_eq_true, false_implies, true_implies, and_true, true_and, and_self, nmM, if_true, if_false, or0, Int32.add_zero, forall_const, one_ne, zero_ne1, nz1, nz0, nI_z, cl, inN, Nat.le_refl, Nat.lt_irrefl, Nat.lt_succ_self, Bool.false_eq_true]
  · have q : (nI H = 8) = True := eq_true (by rw [l8, neq _ _ (by omega) (by omega)]; omega)
    simp only [q, if_neg c, not_true_eq_false, not_false_eq_true, false_implies, true_implies, and_true, true_and, and_self, nmM, if_true, if_false, or0, Int32.add_zero, forall_const, one_ne, zero_ne1, nz1, nz0, nI_z, cl, inN, Nat.le_refl, Nat.lt_irrefl, Nat.lt_succ_self, Bool.false_eq_true]
theorem m_fullP {H : Nat} (G : GM f T μ s) (hn : 820 < n) (b1 : isw f (wX 5) s = false) (b2 : isw f (wX 8) s = true) (b3 : isw f (wX 11) s = false) (b4 : isw f (wX 13) s = false) (e : μ.1 97 5 = nI H) (hH : H ≤ 10) : wX9_isFull n μ R ↔ if H < 10 then R 0 μ else R 1 μ := by
  unfold wX9_isFull wX9_isFull_20 wX9_isFull_42 wX9_isFull_62
  rw [m_is0 (v := 20) (by omega) rfl G hn b1, m_is1 (v := 21) (by omega) rfl G hn b2, m_is0 (v := 22) (by omega) rfl G hn b3, m_is0 (v := 23) (by omega) rfl G hn b4, c5n, e]
  by_cases c : H < 10
  · have q : (nI H = 10) = False := eq_false (by rw [l10, neq _ _ (by omega) (by omega)]; omega)
    simp only [q, if_pos c, not_true_eq_false, not_false_eq_true, false_implies, true_implies, and_true, true_and, and_self, nmM, if_true, if_false, or0, Int32.add_zero, forall_const, one_ne, zero_ne1, nz1, nz0, nI_z, cl, inN, Nat.le_refl, Nat.lt_irrefl, Nat.lt_succ_self, Bool.false_eq_true]
  · have q : (nI H = 10) = True := eq_true (by rw [l10, neq _ _ (by omega) (by omega)]; omega)
    simp only [q, if_neg c, not_true_eq_false, not_false_eq_true, false_implies, true_implies, and_true, true_and, and_self, nmM, if_true, if_false, or0, Int32.add_zero, forall_const, one_ne, zero_ne1, nz1, nz0, nI_z, cl, inN, Nat.le_refl, Nat.lt_irrefl, Nat.lt_succ_self, Bool.false_eq_true]
theorem m_fullS {H : Nat} (G : GM f T μ s) (hn : 820 < n) (b1 : isw f (wX 5) s = false) (b2 : isw f (wX 8) s = false) (b3 : isw f (wX 11) s = true) (b4 : isw f (wX 13) s = false) (e : μ.1 97 6 = nI H) (hH : H ≤ 4) : wX9_isFull n μ R ↔ if H < 4 then R 0 μ else R 1 μ := by
  unfold wX9_isFull wX9_isFull_20 wX9_isFull_42 wX9_isFull_62
  rw [m_is0 (v := 20) (by omega) rfl G hn b1, m_is0 (v := 21) (by omega) rfl G hn b2, m_is1 (v := 22) (by omega) rfl G hn b3, m_is0 (v := 23) (by omega) rfl G hn b4, c6n, e]
  by_cases c : H < 4
  · have q : (nI H = 4) = False := eq_false (by rw [l4, neq _ _ (by omega) (by omega)]; omega)
    simp only [q, if_pos c, not_true_eq_false, not_false_eq_true, false_implies, true_implies, and_true, true_and, and_self, nmM, if_true, if_false, or0, Int32.add_zero, forall_const, one_ne, zero_ne1, nz1, nz0, nI_z, cl, inN, Nat.le_refl, Nat.lt_irrefl, Nat.lt_succ_self, Bool.false_eq_true]
  · have q : (nI H = 4) = True := eq_true (by rw [l4, neq _ _ (by omega) (by omega)]; omega)
    simp only [q, if_neg c, not_true_eq_false, not_false_eq_true, false_implies, true_implies, and_true, true_and, and_self, nmM, if_true, if_false, or0, Int32.add_zero, forall_const, one_ne, zero_ne1, nz1, nz0, nI_z, cl, inN, Nat.le_refl, Nat.lt_irrefl, Nat.lt_succ_self, Bool.false_eq_true]
theorem m_fullL {H : Nat} (G : GM f T μ s) (hn : 820 < n) (b1 : isw f (wX 5) s = false) (b2 : isw f (wX 8) s = false) (b3 : isw f (wX 11) s = false) (b4 : isw f (wX 13) s = true) (e : μ.1 97 7 = nI H) (hH : H ≤ 8) : wX9_isFull n μ R ↔ if H < 8 then R 0 μ else R 1 μ := by
  unfold wX9_isFull wX9_isFull_20 wX9_isFull_42 wX9_isFull_62
  rw [m_is0 (v := 20) (by omega) rfl G hn b1, m_is0 (v := 21) (by omega) rfl G hn b2, m_is0 (v := 22) (by omega) rfl G hn b3, m_is1 (v := 23) (by omega) rfl G hn b4, c7n, e]
  by_cases c : H < 8
  · have q : (nI H = 8) = False := eq_false (by rw [l8, neq _ _ (by omega) (by omega)]; omega)
    simp only [q, if_pos c, not_true_eq_false, not_false_eq_true, false_implies, true_implies, and_true, true_and, and_self, nmM, if_true, if_false, or0, Int32.add_zero, forall_const, one_ne, zero_ne1, nz1, nz0, nI_z, cl, inN, Nat.le_refl, Nat.lt_irrefl, Nat.lt_succ_self, Bool.false_eq_true]
  · have q : (nI H = 8) = True := eq_true (by rw [l8, neq _ _ (by omega) (by omega)]; omega)
    simp only [q, if_neg c, not_true_eq_false, not_false_eq_true, false_implies, true_implies, and_true, true_and, and_self, nmM, if_true, if_false, or0, Int32.add_zero, forall_const, one_ne, zero_ne1, nz1, nz0, nI_z, cl, inN, Nat.le_refl, Nat.lt_irrefl, Nat.lt_succ_self, Bool.false_eq_true]
theorem mb_63 (b0 : ¬ μ.1 91 12 = 0) : wX9_readNext_63 n μ Q ↔ Q μ := by
  unfold wX9_readNext_63
  rw [mb_good b0]
  exact ⟨fun h => h.2 rfl, fun h => ⟨fun e => absurd rfl e, fun _ => h⟩⟩
theorem mb_51 (b0 : ¬ μ.1 91 12 = 0) (hn : 820 < n) : wX9_readNext_51 n μ Q ↔ Q μ := by
  unfold wX9_readNext_51 wX9_isFull wX9_isFull_20 wX9_isFull_42 wX9_isFull_62
  rw [mb_is (v := 20) (by omega) b0 (by omega), mb_is (v := 21) (by omega) b0 (by omega), mb_is (v := 22) (by omega) b0 (by omega), mb_is (v := 23) (by omega) b0 (by omega)]
  simp only [mb_63 b0, not_true_eq_false, not_false_eq_true, false_implies, true_implies, and_true, true_and, and_self, nmM, if_true, if_false, or0, Int32.add_zero, forall_const, one_ne, zero_ne1, nz1, nz0, nI_z, cl, inN, Nat.le_refl, Nat.lt_irrefl, Nat.lt_succ_self, Bool.false_eq_true]
theorem m_128 {H : Nat} {x : Int32} (e4 : μ.1 97 4 = nI H) (hH : H < 8) : wX9_readNext_128 n x (nI (11 + 2 * H)) μ Q ↔ Q (qa_uI (qa_uI μ 97 (11 + 2 * H) x) 97 4 (nI (H + 1))) := by
  unfold wX9_readNext_128
  simp (disch := omega) only [nmM, c4n, cl, inN, uIn, e4, nI1, true_and]
theorem m_house {ok : Tk → (Nat → Int32) → Prop} (G : GM f T μ s) (e9 : μ.1 97 9 = nI (zN w)) (e4 : μ.1 97 4 = nI (zH w)) (W : MW μ w) (c : zH w < 8) (b1 : isw f (wX 5) s = true) (hn : 820 < n) (h : pHouse f T s w er ok) (kb : ∀ k pl μ', er k pl → mf μ μ' → BM μ' k pl → Q μ') (kg : ∀ s' w' μ', ok s' w' → mf μ μ' → GM f T μ' s' → MW μ' w' → Q μ') : wX9_readNext_63 n μ (fun μ11 => wX9_readLine_21 n μ11 Q) := by
  have bad : ∀ k pl μ', er k pl → mf μ μ' → BM μ' k pl → wX9_readLine_21 n μ' Q := fun k pl μ' e X B => (m_21b B.nz).mpr (kb k pl _ e (X.put _ _) (B.put _ _))
  unfold wX9_readNext_63
  unfold pHouse at h
  rw [if_pos c] at h
  rw [m_good G.2.2.2.1]
  refine ⟨fun _ => m_takes1 (by omega) rfl G hn b1 (fun μ1 o1 G1 => ⟨fun e => absurd e (by decide), fun _ => ?_⟩), fun e => absurd e (by decide)⟩
  have e41 : μ1.1 97 4 = nI (zH w) := by rw [o1.2 _ _ (by omega)]; exact e4
  have ix : (10 : Int32) + 2 * nI (zH w) = nI (10 + 2 * zH w) := by rw [l10, l2, pk_mul, nI_add]
  have iy : nI (10 + 2 * zH w) + 1 = nI (11 + 2 * zH w) := by rw [nI1]; congr 1; omega
  rw [nmM, c4n, e41, ix, iy]
  have x1 : mf μ μ1 := (mf.rf _).oc o1
  refine m_told (by omega) rfl (by decide) (by decide) (by omega) G1 hn h (fun k pl μ2 e o2 B2 => ⟨inN (by omega) (by omega), ?_⟩) (fun a s2 μ2 h2 a1 a2 o2 G2 => ⟨inN (by omega) (by omega), ?_⟩)
  · have e42 : μ2.1 97 4 = nI (zH w) := by rw [o2.2 _ _ (by omega)]; exact e41
    have B3 := B2.put (10 + 2 * zH w) (0 : Int32)
    rw [nmM, cl (by omega), mb_takes (by omega) B3.nz hn]
    refine ⟨fun _ => ?_, fun e => absurd rfl e⟩
    rw [m_128 ((uIn _ _ (by omega)).trans e42) c]
    exact bad _ _ _ e ((((x1.oc o2).put _ _).put _ _).put _ _) ((B3.put _ _).put _ _)
  rw [nmM, cl (by omega)]
  have x3 := (x1.oc o2).put (10 + 2 * zH w) (nI a)
  have W3 := ((W.oc o1).oc o2).put (10 + 2 * zH w) (nI a)
  have G3 := G2.put (10 + 2 * zH w) (nI a)
  have e43 : (qa_uI μ2 97 (10 + 2 * zH w) (nI a)).1 97 4 = nI (zH w) := by
    rw [uIn _ _ (by omega), o2.2 _ _ (by omega)]; exact e41
  have e93 : (qa_uI μ2 97 (10 + 2 * zH w) (nI a)).1 97 9 = nI (zN w) := by
    rw [uIn _ _ (by omega), o2.2 _ _ (by omega), o1.2 _ _ (by omega)]; exact e9
  generalize qa_uI μ2 97 (10 + 2 * zH w) (nI a) = μ3 at x3 W3 G3 e43 e93
  by_cases q : isw f (wX 7) s2 = true
  · rw [if_pos q] at h2
    refine m_takes1 (by omega) rfl G3 hn q (fun μ4 o4 G4 => ⟨fun e => absurd e (by decide), fun _ => ?_⟩)
    rw [m_128 ((o4.2 _ _ (by omega)).trans e43) c]
    have x5 := ((x3.oc o4).put (11 + 2 * zH w) (1 : Int32)).put 4 (nI (zH w + 1))
    refine m_fin (N := zN w) (w' := uH w a 1) ?_ ((G4.put _ _).put _ _) hn h2 ((((W3.oc o4).put (11 + 2 * zH w) (1 : Int32)).put 4 (nI (zH w + 1))).put 9 _) (fun k pl μ' e x B => kb k pl μ' e (x5.tr x) B) (fun s' μ' h' x' G' X' => kg s' _ μ' h' (x5.tr x') G' X')
    rw [uIn _ _ (by omega), uIn _ _ (by omega), o4.2 _ _ (by omega)]
    exact e93
  · rw [if_neg q] at h2
    rw [m_takes0 (v := 25) (by omega) rfl G3 hn (Bool.eq_false_iff.mpr q)]
    refine ⟨fun _ => ?_, fun e => absurd rfl e⟩
    rw [m_128 e43 c]
    have x5 := (x3.put (11 + 2 * zH w) (0 : Int32)).put 4 (nI (zH w + 1))
    refine m_fin (N := zN w) (w' := uH w a 0) ?_ ((G3.put _ _).put _ _) hn h2 (((W3.put (11 + 2 * zH w) (0 : Int32)).put 4 (nI (zH w + 1))).put 9 _) (fun k pl μ' e x B => kb k pl μ' e (x5.tr x) B) (fun s' μ' h' x' G' X' => kg s' _ μ' h' (x5.tr x') G' X')
    rw [uIn _ _ (by omega), uIn _ _ (by omega)]
    exact e93
theorem m_place {ok : Tk → (Nat → Int32) → Prop} (G : GM f T μ s) (e9 : μ.1 97 9 = nI (zN w)) (e5 : μ.1 97 5 = nI (zP w)) (W : MW μ w) (c : zP w < 10) (b1 : isw f (wX 5) s = false) (b2 : isw f (wX 8) s = true) (hn : 820 < n) (h : pPlace f T s w er ok) (kb : ∀ k pl μ', er k pl → mf μ μ' → BM μ' k pl → Q μ') (kg : ∀ s' w' μ', ok s' w' → mf μ μ' → GM f T μ' s' → MW μ' w' → Q μ') : wX9_readNext_63 n μ (fun μ11 => wX9_readLine_21 n μ11 Q) := by
  have bad : ∀ k pl μ', er k pl → mf μ μ' → BM μ' k pl → wX9_readLine_21 n μ' Q := fun k pl μ' e X B => (m_21b B.nz).mpr (kb k pl _ e (X.put _ _) (B.put _ _))
  unfold wX9_readNext_63
  unfold pPlace at h
  rw [if_pos c] at h
  rw [m_good G.2.2.2.1, m_takes0 (v := 20) (by omega) rfl G hn b1]
  refine ⟨fun _ => ⟨fun _ => m_takes1 (by omega) rfl G hn b2 (fun μ1 o1 G1 => ⟨fun e => absurd e (by decide), fun _ => ?_⟩), fun e => absurd rfl e⟩, fun e => absurd e (by decide)⟩
  have e51 : μ1.1 97 5 = nI (zP w) := by rw [o1.2 _ _ (by omega)]; exact e5
  have ix : (26 : Int32) + 3 * nI (zP w) = nI (26 + 3 * zP w) := by rw [show (26 : Int32) = nI 26 from rfl, l3, pk_mul, nI_add]
  have iy : nI (26 + 3 * zP w) + 1 = nI (27 + 3 * zP w) := by rw [nI1]; congr 1; omega
  have iz : nI (26 + 3 * zP w) + 2 = nI (28 + 3 * zP w) := by rw [l2, nI_add]; congr 1; omega
  rw [nmM, c5n, e51, ix, iy, iz]
  have x1 : mf μ μ1 := (mf.rf _).oc o1
  refine m_num (by decide) (by decide) (by omega) G1 hn h (fun k pl μ2 e o2 B2 => ⟨inN (by omega) (by omega), ?_⟩) (fun p s2 μ2 h2 p1 p2 o2 G2 => ⟨inN (by omega) (by omega), ?_⟩)
  · rw [nmM, mb_told (by omega) (B2.put _ _).nz hn, nmM, mb_told (by omega) ((B2.put _ _).put _ _).nz hn, nmM, nmM]
    exact ⟨inN (by omega) (by omega), inN (by omega) (by omega), bad _ _ _ e (((((x1.oc o2).put _ _).put _ _).put _ _).put _ _) ((((B2.put _ _).put _ _).put _ _).put _ _)⟩
  rw [nmM, cl (by omega)]
  have x3 := (x1.oc o2).put (26 + 3 * zP w) (nI p)
  refine m_told (by omega) rfl (by decide) (by decide) (by omega) (G2.put (26 + 3 * zP w) (nI p)) hn h2 (fun k pl μ4 e o4 B4 => ⟨inN (by omega) (by omega), ?_⟩) (fun a s4 μ4 h4 a1 a2 o4 G4 => ⟨inN (by omega) (by omega), ?_⟩)
  · rw [nmM, mb_told (by omega) (B4.put _ _).nz hn, nmM, nmM]
    exact ⟨inN (by omega) (by omega), bad _ _ _ e ((((x3.oc o4).put _ _).put _ _).put _ _) (((B4.put _ _).put _ _).put _ _)⟩
  rw [nmM, cl (by omega)]
  have x5 := (x3.oc o4).put (27 + 3 * zP w) (nI a)
  refine m_told (by omega) rfl (by decide) (by decide) (by omega) (G4.put (27 + 3 * zP w) (nI a)) hn h4 (fun k pl μ6 e o6 B6 => ⟨inN (by omega) (by omega), ?_⟩) (fun b s6 μ6 h6 b1' b2' o6 G6 => ⟨inN (by omega) (by omega), ?_⟩)
  · rw [nmM, nmM]
    exact bad _ _ _ e (((x5.oc o6).put _ _).put _ _) ((B6.put _ _).put _ _)
  rw [nmM, nmM, cl (by omega)]
  have e57 : (qa_uI μ6 97 (28 + 3 * zP w) (nI b)).1 97 5 = nI (zP w) := by
    simp (disch := omega) only [uIn, o6.2, o4.2, o2.2]
    exact e51
  rw [e57, nI1]
  have x7 := ((x5.oc o6).put (28 + 3 * zP w) (nI b)).put 5 (nI (zP w + 1))
  refine m_fin (N := zN w) (w' := uP w p a b) ?_ ((G6.put _ _).put _ _) hn h6 (((((((((W.oc o1).oc o2).put (26 + 3 * zP w) (nI p)).oc o4).put (27 + 3 * zP w) (nI a)).oc o6).put (28 + 3 * zP w) (nI b)).put 5 (nI (zP w + 1))).put 9 _) (fun k pl μ' e x B => kb k pl μ' e (x7.tr x) B) (fun s' μ' h' x' G' X' => kg s' _ μ' h' (x7.tr x') G' X')
  simp (disch := omega) only [uIn, o6.2, o4.2, o2.2, o1.2]
  exact e9
theorem m_snow {ok : Tk → (Nat → Int32) → Prop} (G : GM f T μ s) (e9 : μ.1 97 9 = nI (zN w)) (e6 : μ.1 97 6 = nI (zS w)) (W : MW μ w) (c : zS w < 4) (b1 : isw f (wX 5) s = false) (b2 : isw f (wX 8) s = false) (b3 : isw f (wX 11) s = true) (hn : 820 < n) (h : pSnow f T s w er ok) (kb : ∀ k pl μ', er k pl → mf μ μ' → BM μ' k pl → Q μ') (kg : ∀ s' w' μ', ok s' w' → mf μ μ' → GM f T μ' s' → MW μ' w' → Q μ') : wX9_readNext_63 n μ (fun μ11 => wX9_readLine_21 n μ11 Q) := by
  have bad : ∀ k pl μ', er k pl → mf μ μ' → BM μ' k pl → wX9_readLine_21 n μ' Q := fun k pl μ' e X B => (m_21b B.nz).mpr (kb k pl _ e (X.put _ _) (B.put _ _))
  unfold wX9_readNext_63
  unfold pSnow at h
  rw [if_pos c] at h
  rw [m_good G.2.2.2.1, m_takes0 (v := 20) (by omega) rfl G hn b1, m_takes0 (v := 21) (by omega) rfl G hn b2]
  refine ⟨fun _ => ⟨fun _ => ⟨fun _ => m_takes1 (by omega) rfl G hn b3 (fun μ1 o1 G1 => ⟨fun e => absurd e (by decide), fun _ => ?_⟩), fun e => absurd rfl e⟩, fun e => absurd rfl e⟩, fun e => absurd e (by decide)⟩
  have e61 : μ1.1 97 6 = nI (zS w) := by rw [o1.2 _ _ (by omega)]; exact e6
  have ix : (56 : Int32) + nI (zS w) = nI (56 + zS w) := by rw [show (56 : Int32) = nI 56 from rfl, nI_add]
  rw [c6n, e61, ix]
  have x1 : mf μ μ1 := (mf.rf _).oc o1
  refine m_told (by omega) rfl (by decide) (by decide) (by omega) G1 hn h (fun k pl μ2 e o2 B2 => ⟨inN (by omega) (by omega), ?_⟩) (fun a s2 μ2 h2 a1 a2 o2 G2 => ⟨inN (by omega) (by omega), ?_⟩)
  · rw [nmM, nmM]
    exact bad _ _ _ e (((x1.oc o2).put _ _).put _ _) ((B2.put _ _).put _ _)
  rw [nmM, nmM, cl (by omega)]
  have e63 : (qa_uI μ2 97 (56 + zS w) (nI a)).1 97 6 = nI (zS w) := by
    rw [uIn _ _ (by omega), o2.2 _ _ (by omega)]; exact e61
  rw [e63, nI1]
  have x3 := ((x1.oc o2).put (56 + zS w) (nI a)).put 6 (nI (zS w + 1))
  refine m_fin (N := zN w) (w' := uS w a) ?_ ((G2.put _ _).put _ _) hn h2 (((((W.oc o1).oc o2).put (56 + zS w) (nI a)).put 6 (nI (zS w + 1))).put 9 _) (fun k pl μ' e x B => kb k pl μ' e (x3.tr x) B) (fun s' μ' h' x' G' X' => kg s' _ μ' h' (x3.tr x') G' X')
  simp (disch := omega) only [uIn, o2.2, o1.2]
  exact e9
theorem m_lett {ok : Tk → (Nat → Int32) → Prop} (G : GM f T μ s) (e9 : μ.1 97 9 = nI (zN w)) (e4 : μ.1 97 4 = nI (zH w)) (e7 : μ.1 97 7 = nI (zL w)) (W : MW μ w) (hH : zH w ≤ 8) (c : zL w < 8) (b1 : isw f (wX 5) s = false) (b2 : isw f (wX 8) s = false) (b3 : isw f (wX 11) s = false) (hn : 820 < n) (h : pLett f T s w er ok) (kb : ∀ k pl μ', er k pl → mf μ μ' → BM μ' k pl → Q μ') (kg : ∀ s' w' μ', ok s' w' → mf μ μ' → GM f T μ' s' → MW μ' w' → Q μ') : wX9_readNext_63 n μ (fun μ11 => wX9_readLine_21 n μ11 Q) := by
  have bad : ∀ k pl μ', er k pl → mf μ μ' → BM μ' k pl → wX9_readLine_21 n μ' Q := fun k pl μ' e X B => (m_21b B.nz).mpr (kb k pl _ e (X.put _ _) (B.put _ _))
  unfold wX9_readNext_63
  unfold pLett at h
  rw [if_pos c] at h
  rw [m_good G.2.2.2.1, m_takes0 (v := 20) (by omega) rfl G hn b1, m_takes0 (v := 21) (by omega) rfl G hn b2, m_takes0 (v := 22) (by omega) rfl G hn b3]
  refine ⟨fun _ => ⟨fun _ => ⟨fun _ => ⟨fun _ => m_step G hn (fun μ1 o1 G1 => ?_), fun e => absurd rfl e⟩, fun e => absurd rfl e⟩, fun e => absurd rfl e⟩, fun e => absurd e (by decide)⟩
  have e71 : μ1.1 97 7 = nI (zL w) := by rw [o1.2 _ _ (by omega)]; exact e7
  have e41 : μ1.1 97 4 = nI (zH w) := by rw [o1.2 _ _ (by omega)]; exact e4
  have ix : (60 : Int32) + 3 * nI (zL w) = nI (60 + 3 * zL w) := by rw [show (60 : Int32) = nI 60 from rfl, l3, pk_mul, nI_add]
  have iy : nI (60 + 3 * zL w) + 1 = nI (61 + 3 * zL w) := by rw [nI1]; congr 1; omega
  have iz : nI (60 + 3 * zL w) + 2 = nI (62 + 3 * zL w) := by rw [l2, nI_add]; congr 1; omega
  rw [nmM, c7n, e71, c4n, e41, ix, iy, iz]
  have x1 : mf μ μ1 := (mf.rf _).oc o1
  refine m_num (by decide) (pk_sub_toInt (b := 1) (by omega) (by decide)) (by omega) G1 hn h (fun k pl μ2 e o2 B2 => ⟨inN (by omega) (by omega), ?_⟩) (fun p s2 μ2 h2 p1 p2 o2 G2 => ⟨inN (by omega) (by omega), ?_⟩)
  · rw [nmM, mb_told (by omega) (B2.put _ _).nz hn, nmM, mb_told (by omega) ((B2.put _ _).put _ _).nz hn, nmM, nmM]
    exact ⟨inN (by omega) (by omega), inN (by omega) (by omega), bad _ _ _ e (((((x1.oc o2).put _ _).put _ _).put _ _).put _ _) ((((B2.put _ _).put _ _).put _ _).put _ _)⟩
  rw [nmM, cl (by omega)]
  have x3 := (x1.oc o2).put (60 + 3 * zL w) (nI p)
  refine m_told (by omega) rfl (by decide) (by decide) (by omega) (G2.put (60 + 3 * zL w) (nI p)) hn h2 (fun k pl μ4 e o4 B4 => ⟨inN (by omega) (by omega), ?_⟩) (fun a s4 μ4 h4 a1 a2 o4 G4 => ⟨inN (by omega) (by omega), ?_⟩)
  · rw [nmM, mb_told (by omega) (B4.put _ _).nz hn, nmM, nmM]
    exact ⟨inN (by omega) (by omega), bad _ _ _ e ((((x3.oc o4).put _ _).put _ _).put _ _) (((B4.put _ _).put _ _).put _ _)⟩
  rw [nmM, cl (by omega)]
  have x5 := (x3.oc o4).put (61 + 3 * zL w) (nI a)
  refine m_told (by omega) rfl (by decide) (by decide) (by omega) (G4.put (61 + 3 * zL w) (nI a)) hn h4 (fun k pl μ6 e o6 B6 => ⟨inN (by omega) (by omega), ?_⟩) (fun b s6 μ6 h6 b1' b2' o6 G6 => ⟨inN (by omega) (by omega), ?_⟩)
  · rw [nmM, nmM]
    exact bad _ _ _ e (((x5.oc o6).put _ _).put _ _) ((B6.put _ _).put _ _)
  rw [nmM, nmM, cl (by omega)]
  have e77 : (qa_uI μ6 97 (62 + 3 * zL w) (nI b)).1 97 7 = nI (zL w) := by
    simp (disch := omega) only [uIn, o6.2, o4.2, o2.2]
    exact e71
  rw [e77, nI1]
  have x7 := ((x5.oc o6).put (62 + 3 * zL w) (nI b)).put 7 (nI (zL w + 1))
  refine m_fin (N := zN w) (w' := uL w p a b) ?_ ((G6.put _ _).put _ _) hn h6 (((((((((W.oc o1).oc o2).put (60 + 3 * zL w) (nI p)).oc o4).put (61 + 3 * zL w) (nI a)).oc o6).put (62 + 3 * zL w) (nI b)).put 7 (nI (zL w + 1))).put 9 _) (fun k pl μ' e x B => kb k pl μ' e (x7.tr x) B) (fun s' μ' h' x' G' X' => kg s' _ μ' h' (x7.tr x') G' X')
  simp (disch := omega) only [uIn, o6.2, o4.2, o2.2, o1.2]
  exact e9
theorem m_full3 {X : Prop} [Decidable X] (G : GM f T μ s) (hf : ∀ R : Int32 → qa_M → Prop, wX9_isFull n μ R ↔ if X then R 0 μ else R 1 μ) (k1 : X → wX9_readNext_63 n μ Q) (k0 : ¬ X → ∀ μ', oc 91 8 13 μ μ' → BM μ' 3 s.2.1 → Q μ') : wX9_readNext_51 n μ Q := by
  unfold wX9_readNext_51
  rw [hf]
  by_cases c : X
  · rw [if_pos c]
    exact ⟨fun _ => k1 c, fun e => absurd rfl e⟩
  · rw [if_neg c]
    refine ⟨fun e => absurd e (by decide), fun _ => m_errs (k := 3) G (by omega) (fun μ1 o1 B1 => ?_)⟩
    rw [mb_63 B1.nz]
    exact k0 c μ1 o1 B1
theorem m_line {ok : Tk → (Nat → Int32) → Prop} (G : GM f T μ s) (r : RZ w) (W : MW μ w) (hn : 820 < n) (h : pLine f T s w er ok) (kb : ∀ k pl μ', er k pl → mf μ μ' → BM μ' k pl → Q μ') (kg : ∀ s' w' μ', ok s' w' → mf μ μ' → GM f T μ' s' → MW μ' w' → Q μ') : wX9_readLine n μ Q := by
  have bad : ∀ k pl μ', er k pl → mf μ μ' → BM μ' k pl → wX9_readLine_21 n μ' Q := fun k pl μ' e X B => (m_21b B.nz).mpr (kb k pl _ e (X.put _ _) (B.put _ _))
  obtain ⟨⟨a1, a2, a3, a4, a5, a6, a7, a8⟩, ⟨q1, q2, q3, q4, q5, q6, q7, q8⟩, -⟩ := r
  have e9 : μ.1 97 9 = nI (zN w) := (W 9 (by omega)).trans a1
  have e4 : μ.1 97 4 = nI (zH w) := (W 4 (by omega)).trans a4
  have e5 : μ.1 97 5 = nI (zP w) := (W 5 (by omega)).trans a5
  have e6 : μ.1 97 6 = nI (zS w) := (W 6 (by omega)).trans a6
  have e7 : μ.1 97 7 = nI (zL w) := (W 7 (by omega)).trans a7
  unfold wX9_readLine
  unfold pLine at h
  rw [c9n, e9, nI_z (by omega)]
  refine ⟨fun c => ?_, fun c => ?_⟩
  · rw [if_neg c] at h
    unfold wX9_readNext wX9_readNext_36 wX9_readNext_41
    by_cases b1 : isw f (wX 5) s = true
    · have b2 := isw_x (j := 8) b1 (by decide) (by decide) (by decide)
      have b3 := isw_x (j := 11) b1 (by decide) (by decide) (by decide)
      have b4 := isw_x (j := 13) b1 (by decide) (by decide) (by decide)
      rw [if_pos b1] at h
      rw [m_is1 (v := 20) (by omega) rfl G hn b1]
      refine ⟨fun _ => ⟨fun _ => ?_, fun e => absurd e (by decide)⟩, fun e => absurd e (by decide)⟩
      refine m_full3 G (fun R => m_fullH G hn b1 b2 b3 b4 e4 q4) (fun c => m_house G e9 e4 W c b1 hn h kb kg) (fun c μ1 o1 B1 => ?_)
      unfold pHouse at h
      rw [if_neg c] at h
      exact bad _ _ _ h ((mf.rf _).oc o1) B1
    rw [if_neg b1] at h
    have b1 := Bool.eq_false_iff.mpr b1
    rw [m_is0 (v := 20) (by omega) rfl G hn b1]
    refine ⟨fun e => absurd rfl e, fun _ => ?_⟩
    by_cases b2 : isw f (wX 8) s = true
    · have b3 := isw_x (j := 11) b2 (by decide) (by decide) (by decide)
      have b4 := isw_x (j := 13) b2 (by decide) (by decide) (by decide)
      rw [if_pos b2] at h
      rw [m_is1 (v := 21) (by omega) rfl G hn b2]
      refine ⟨fun _ => ⟨fun _ => ?_, fun e => absurd e (by decide)⟩, fun e => absurd e (by decide)⟩
      refine m_full3 G (fun R => m_fullP G hn b1 b2 b3 b4 e5 q5) (fun c => m_place G e9 e5 W c b1 b2 hn h kb kg) (fun c μ1 o1 B1 => ?_)
      unfold pPlace at h
      rw [if_neg c] at h
      exact bad _ _ _ h ((mf.rf _).oc o1) B1
    rw [if_neg b2] at h
    have b2 := Bool.eq_false_iff.mpr b2
    rw [m_is0 (v := 21) (by omega) rfl G hn b2]
    refine ⟨fun e => absurd rfl e, fun _ => ?_⟩
    by_cases b3 : isw f (wX 11) s = true
    · have b4 := isw_x (j := 13) b3 (by decide) (by decide) (by decide)
      rw [if_pos b3] at h
      rw [m_is1 (v := 22) (by omega) rfl G hn b3]
      refine ⟨fun _ => ⟨fun _ => ?_, fun e => absurd e (by decide)⟩, fun e => absurd e (by decide)⟩
      refine m_full3 G (fun R => m_fullS G hn b1 b2 b3 b4 e6 q6) (fun c => m_snow G e9 e6 W c b1 b2 b3 hn h kb kg) (fun c μ1 o1 B1 => ?_)
      unfold pSnow at h
      rw [if_neg c] at h
      exact bad _ _ _ h ((mf.rf _).oc o1) B1
    rw [if_neg b3] at h
    have b3 := Bool.eq_false_iff.mpr b3
    rw [m_is0 (v := 22) (by omega) rfl G hn b3]
    refine ⟨fun e => absurd rfl e, fun _ => ?_⟩
    by_cases b4 : isw f (wX 13) s = true
    · rw [if_pos b4] at h
      rw [m_is1 (v := 23) (by omega) rfl G hn b4]
      refine ⟨fun e => absurd e (by decide), fun _ => ⟨fun _ => ?_, fun e => absurd e (by decide)⟩⟩
      refine m_full3 G (fun R => m_fullL G hn b1 b2 b3 b4 e7 q7) (fun c => m_lett G e9 e4 e7 W q4 c b1 b2 b3 hn h kb kg) (fun c μ1 o1 B1 => ?_)
      unfold pLett at h
      rw [if_neg c] at h
      exact bad _ _ _ h ((mf.rf _).oc o1) B1
    rw [if_neg b4] at h
    have b4 := Bool.eq_false_iff.mpr b4
    rw [m_is0 (v := 23) (by omega) rfl G hn b4]
    refine ⟨fun _ => ⟨fun e => absurd rfl e, fun _ => ?_⟩, fun e => absurd rfl e⟩
    refine m_errs (k := 1) G (by omega) (fun μ1 o1 B1 => ?_)
    rw [mb_51 B1.nz hn]
    exact bad _ _ _ h ((mf.rf _).oc o1) B1
  · rw [if_pos c] at h
    exact m_first G e9 W hn h kb kg
end MR
