/-! m goes a step on -/
def TPM (μ : qa_M) (f : Nat → Int32) (T : Nat) : Prop := T ≤ 800 ∧ μ.1 91 7 = nI T ∧ ∀ j, j < T → μ.1 95 j = f j ∧ isB (f j)
theorem TPM.oc {μ μ' : qa_M} {f : Nat → Int32} {T lo hi : Nat} (h : TPM μ f T) (o : oc 91 lo hi μ μ') (hl : 7 < lo) : TPM μ' f T := by
  refine ⟨h.1, ?_, fun j hj => ?_⟩
  · rw [o.2 _ _ (by omega)]; exact h.2.1
  · rw [o.2 _ _ (by omega)]; exact h.2.2 j hj
def rdE (f : Nat → Int32) (T p : Nat) : Int32 := if p < T then nI (rdC (f p)) else -1
theorem s_see {n p T : Nat} {f : Nat → Int32} {μ : qa_M} {Q : Int32 → qa_M → Prop} (h : TPM μ f T) (hp : p ≤ T) : wX9_see n (nI p) μ Q ↔ Q (rdE f T p) μ := by
  obtain ⟨h8, e7, hb⟩ := h
  unfold wX9_see rdE
  rw [e7, nle T p (by omega) (by omega), cl (by omega)]
  by_cases c : p < T
  · obtain ⟨b1, b2⟩ := hb p c
    rw [if_pos c, b1, b2.code.2.1]
    exact ⟨fun q => (q.2 (by omega)).2, fun q => ⟨fun g => absurd g (by omega), fun _ => ⟨inN (by omega) (by omega), q⟩⟩⟩
  · rw [if_neg c]
    exact ⟨fun q => q.1 (by omega), fun q => ⟨fun _ => q, fun g => absurd (show T ≤ p by omega) g⟩⟩
theorem rdE_eq {T p k : Nat} {f : Nat → Int32} {μ : qa_M} (h : TPM μ f T) (hk : k < 256) : (rdE f T p = nI k) = (p < T ∧ rdC (f p) = k) := propext (by
  unfold rdE
  by_cases c : p < T
  · have := (h.2.2 p c).2.code.1
    rw [if_pos c, neq _ _ (by omega) (by omega)]
    exact ⟨fun e => ⟨c, e⟩, fun e => e.2⟩
  · rw [if_neg c, fa_eq, nI_toInt (by omega), show (-1 : Int32).toInt = -1 from rfl]
    exact ⟨fun e => by omega, fun e => absurd e.1 c⟩)
theorem rdE_end {T p : Nat} {f : Nat → Int32} {μ : qa_M} (h : TPM μ f T) : (rdE f T p = -1) = (¬ p < T) := propext (by
  unfold rdE
  by_cases c : p < T
  · have := (h.2.2 p c).2.code.1
    rw [if_pos c, neg1_ne (by omega)]
    exact ⟨fun e => e.elim, fun e => e c⟩
  · rw [if_neg c]
    exact ⟨fun _ => c, fun _ => rfl⟩)
theorem s_inE {n T p : Nat} {f : Nat → Int32} {μ : qa_M} {Q : Int32 → qa_M → Prop} (h : TPM μ f T) {A B : Int64} {a b : Nat} (hA : A.toInt = (a : Int)) (hB : B.toInt = (b : Int)) : wX9_in n (rdE f T p).toInt64 A B μ Q ↔ Q (qb (p < T ∧ a ≤ rdC (f p) ∧ rdC (f p) ≤ b)) μ := by
  rw [s_in, hA, hB, Int32.toInt_toInt64, qb_iff (d := (p < T ∧ a ≤ rdC (f p) ∧ rdC (f p) ≤ b))]
  unfold rdE
  by_cases c : p < T
  · have := (h.2.2 p c).2.code.1
    rw [if_pos c, nI_toInt (by omega)]
    omega
  · rw [if_neg c, show (-1 : Int32).toInt = -1 from rfl]
    omega
theorem m_skip {f : Nat → Int32} {T : Nat} {K0 Q : qa_M → Prop} : ∀ (k p n : Nat) (μ : qa_M), TPM μ f T → p ≤ T → T ≤ p + k → k < n → μ.1 91 8 = nI p → (∀ μ', oc 91 8 8 μ μ' → μ'.1 91 8 = nI (rdRun rdS f T k p) → K0 μ') → wX9_advance_0 n μ K0 Q := by
  intro k
  induction k with
  | zero =>
    intro p n μ h hp hT hn e4 kk
    obtain ⟨n, rfl⟩ : ∃ m, n = m + 1 := ⟨n - 1, by omega⟩
    have q32 : (rdE f T p = 32) = (p < T ∧ rdC (f p) = 32) := rdE_eq (k := 32) h (by omega)
    have q10 : (rdE f T p = 10) = (p < T ∧ rdC (f p) = 10) := rdE_eq (k := 10) h (by omega)
    rw [wX9_advance_0, e4, s_see h hp, q32, e4, s_see h hp, q10]
    exact ⟨fun e => absurd e.1 (by omega), fun _ => ⟨fun _ => kk μ (oc.rf _ _ _ _) e4, fun e => absurd e.1 (by omega)⟩⟩
  | succ k ih =>
    intro p n μ h hp hT hn e4 kk
    obtain ⟨n, rfl⟩ : ∃ m, n = m + 1 := ⟨n - 1, by omega⟩
    have q32 : (rdE f T p = 32) = (p < T ∧ rdC (f p) = 32) := rdE_eq (k := 32) h (by omega)
    have q10 : (rdE f T p = 10) = (p < T ∧ rdC (f p) = 10) := rdE_eq (k := 10) h (by omega)
    have go : p < T → rdC (f p) = 32 ∨ rdC (f p) = 10 → wX9_advance_26 n μ (fun μk => wX9_advance_0 n μk K0 Q) Q := by
      intro c s
      unfold wX9_advance_26
      rw [nmM, e4, nI1]
      have o1 : oc 91 8 8 μ (qa_uI μ 91 8 (nI (p + 1))) := (oc.rf _ _ _ _).put _ (by omega)
      refine ih (p + 1) n _ (h.oc o1 (by omega)) (by omega) (by omega) (by omega) (uIs _ _ _ _) (fun μ' o' e' => kk μ' (o1.tr o') ?_)
      rw [rdRun_yes k p ⟨c, rdS_t.mpr s⟩]
      exact e'
    rw [wX9_advance_0, e4, s_see h hp, q32, e4, s_see h hp, q10]
    refine ⟨fun e => go e.1 (Or.inl e.2), fun e => ⟨fun e' => kk μ (oc.rf _ _ _ _) ?_, fun e' => go e'.1 (Or.inr e'.2)⟩⟩
    rw [rdRun_no _ _ (fun g => (rdS_t.mp g.2).elim (fun s => e ⟨g.1, s⟩) (fun s => e' ⟨g.1, s⟩))]
    exact e4
theorem m_word {f : Nat → Int32} {T : Nat} {Q : qa_M → Prop} : ∀ (k p n : Nat) (μ : qa_M), TPM μ f T → p ≤ T → T ≤ p + k → k < n → μ.1 91 8 = nI p → (∀ μ', oc 91 8 10 μ μ' → μ'.1 91 9 = μ.1 91 9 → μ'.1 91 10 = 1 → μ'.1 91 8 = nI (rdRun rdL f T k p) → Q μ') → wX9_advance_83 n μ Q := by
  intro k
  induction k with
  | zero =>
    intro p n μ h hp hT hn e4 kk
    obtain ⟨n, rfl⟩ : ∃ m, n = m + 1 := ⟨n - 1, by omega⟩
    rw [wX9_advance_83, e4, s_see h hp, s_inE h (a := 97) (b := 122) rfl rfl, qb_0]
    refine ⟨fun _ => ?_, fun e => absurd (fun g => absurd g.1 (by omega)) e⟩
    rw [nmM]
    exact kk _ ((oc.rf _ _ _ _).put _ (by omega)) (uIn _ _ (by omega)) (uIs _ _ _ _) ((uIn _ _ (by omega)).trans e4)
  | succ k ih =>
    intro p n μ h hp hT hn e4 kk
    obtain ⟨n, rfl⟩ : ∃ m, n = m + 1 := ⟨n - 1, by omega⟩
    rw [wX9_advance_83, e4, s_see h hp, s_inE h (a := 97) (b := 122) rfl rfl, qb_0]
    refine ⟨fun s => ?_, fun s => ?_⟩
    · rw [nmM]
      refine kk _ ((oc.rf _ _ _ _).put _ (by omega)) (uIn _ _ (by omega)) (uIs _ _ _ _) ((uIn _ _ (by omega)).trans ?_)
      rw [rdRun_no _ _ (fun e => s ⟨e.1, rdL_t.mp e.2⟩)]
      exact e4
    · have s' : p < T ∧ 97 ≤ rdC (f p) ∧ rdC (f p) ≤ 122 := Decidable.not_not.mp s
      rw [nmM, e4, nI1]
      have o1 : oc 91 8 10 μ (qa_uI μ 91 8 (nI (p + 1))) := (oc.rf _ _ _ _).put _ (by omega)
      refine ih (p + 1) n _ (h.oc o1 (by omega)) (by omega) (by omega) (by omega) (uIs _ _ _ _) (fun μ' o' a1 a2 e' => kk μ' (o1.tr o') (a1.trans (uIn _ _ (by omega))) a2 ?_)
      rw [rdRun_yes k p ⟨s'.1, rdL_t.mpr s'.2⟩]
      exact e'
theorem rd_min' {C v c : Nat} (hC : C ≤ 1000000) (h : 48 ≤ c ∧ c ≤ 57) : (if (10 * nI (min C v) + nI c) - 48 < nI C then (10 * nI (min C v) + nI c) - 48 else nI C) = nI (min C (10 * v + (c - 48))) := by
  rw [Int32.mul_comm]
  exact rd_min hC h
theorem m_numb {f : Nat → Int32} {T : Nat} {Q : qa_M → Prop} : ∀ (k p v n : Nat) (μ : qa_M), TPM μ f T → p ≤ T → T ≤ p + k → k < n → μ.1 91 8 = nI p → μ.1 91 11 = nI (min 99999 v) → (∀ μ', oc 91 8 11 μ μ' → μ'.1 91 9 = μ.1 91 9 → μ'.1 91 10 = 2 → μ'.1 91 8 = nI (rdRun rdD f T k p) → μ'.1 91 11 = nI (min 99999 (rdV f T k p v)) → Q μ') → wX9_advance_144 n μ Q := by
  intro k
  induction k with
  | zero =>
    intro p v n μ h hp hT hn e4 e6 kk
    obtain ⟨n, rfl⟩ : ∃ m, n = m + 1 := ⟨n - 1, by omega⟩
    rw [wX9_advance_144, e4, s_see h hp, s_inE h (a := 48) (b := 57) rfl rfl, qb_0]
    refine ⟨fun _ => ?_, fun e => absurd (fun g => absurd g.1 (by omega)) e⟩
    rw [nmM]
    exact kk _ ((oc.rf _ _ _ _).put _ (by omega)) (uIn _ _ (by omega)) (uIs _ _ _ _) ((uIn _ _ (by omega)).trans e4) ((uIn _ _ (by omega)).trans e6)
  | succ k ih =>
    intro p v n μ h hp hT hn e4 e6 kk
    obtain ⟨n, rfl⟩ : ∃ m, n = m + 1 := ⟨n - 1, by omega⟩
    rw [wX9_advance_144, e4, s_see h hp, s_inE h (a := 48) (b := 57) rfl rfl, qb_0]
    refine ⟨fun s => ?_, fun s => ?_⟩
    · rw [nmM]
      refine kk _ ((oc.rf _ _ _ _).put _ (by omega)) (uIn _ _ (by omega)) (uIs _ _ _ _) ((uIn _ _ (by omega)).trans ?_) ((uIn _ _ (by omega)).trans ?_)
      · rw [rdRun_no _ _ (fun e => s ⟨e.1, rdD_t.mp e.2⟩)]
        exact e4
      · rw [rdV_no _ _ _ (fun e => s ⟨e.1, rdD_t.mp e.2⟩)]
        exact e6
    · have s' : p < T ∧ 48 ≤ rdC (f p) ∧ rdC (f p) ≤ 57 := Decidable.not_not.mp s
      have ee : rdE f T p = nI (rdC (f p)) := if_pos s'.1
      rw [e4, s_see h hp, ee, e6, s_min]
      have em := rd_min' (C := 99999) (v := v) (by omega) s'.2
      rw [show (99999 : Int32) = nI 99999 from rfl, em, nmM, nmM]
      have o1 : oc 91 8 11 μ (qa_uI μ 91 11 (nI (min 99999 (10 * v + (rdC (f p) - 48))))) := (oc.rf _ _ _ _).put _ (by omega)
      rw [uIn _ _ (by omega), e4, nI1]
      have o2 := o1.put (j := 8) (nI (p + 1)) (by omega)
      refine ih (p + 1) (10 * v + (rdC (f p) - 48)) n _ (h.oc o2 (by omega)) (by omega) (by omega) (by omega) (uIs _ _ _ _) ((uIn _ _ (by omega)).trans (uIs _ _ _ _)) (fun μ' o' a1 a2 e' e'' => kk μ' (o2.tr o') (a1.trans ((uIn _ _ (by omega)).trans (uIn _ _ (by omega)))) a2 ?_ ?_)
      · rw [rdRun_yes k p ⟨s'.1, rdD_t.mpr s'.2⟩]
        exact e'
      · rw [rdV_yes k p v ⟨s'.1, rdD_t.mpr s'.2⟩]
        exact e''
def SM (μ : qa_M) (s : Tk) : Prop := μ.1 91 10 = nI s.1 ∧ μ.1 91 9 = nI s.2.1 ∧ μ.1 91 8 = nI s.2.2.1 ∧ (s.1 = 2 → μ.1 91 11 = nI (min 99999 s.2.2.2))
theorem m_adv0 {f : Nat → Int32} {T p n : Nat} {μ : qa_M} {Q : qa_M → Prop} (h : TPM μ f T) (hp : p ≤ T) (hn : 810 < n) (e5 : μ.1 91 8 = nI p) (kk : ∀ μ', oc 91 8 11 μ μ' → SM μ' (rdT f T p) → Q μ') : wX9_advance n μ Q := by
  have h8 := h.1
  unfold wX9_advance
  refine m_skip T p n _ h hp (by omega) (by omega) e5 (fun μ1 q1 e4 => ?_)
  have o2 : oc 91 8 11 μ μ1 := q1.wide (by omega) (by omega)
  have ha := rdRun_le (q := rdS) (f := f) T p hp
  unfold rdT at kk
  generalize rdRun rdS f T T p = a at e4 ha kk
  rw [nmM, e4]
  have o3 := o2.put (j := 9) (nI a) (by omega)
  have t3 := h.oc o3 (by omega)
  have f4 : (qa_uI μ1 91 9 (nI a)).1 91 9 = nI a := uIs _ _ _ _
  have f5 : (qa_uI μ1 91 9 (nI a)).1 91 8 = nI a := (uIn _ _ (by omega)).trans e4
  generalize qa_uI μ1 91 9 (nI a) = μ2 at o3 t3 f4 f5
  have q59 : (rdE f T a = 59) = (a < T ∧ rdC (f a) = 59) := rdE_eq (k := 59) t3 (by omega)
  rw [f5, s_see t3 ha, rdE_end t3, s_inE t3 (a := 97) (b := 122) rfl rfl, qb_0, s_inE t3 (a := 48) (b := 57) rfl rfl, qb_0, q59]
  refine ⟨fun c => ⟨fun s => ⟨fun d => ⟨fun g => ?_, fun g => ?_⟩, fun d => ?_⟩, fun s => ?_⟩, fun c => ?_⟩
  · have c := Decidable.not_not.mp c
    unfold wX9_advance_226
    rw [nmM, nmM, uIn _ _ (by omega), f5, nI1]
    refine kk _ ((o3.put _ (by omega)).put _ (by omega)) ?_
    unfold rdA
    rw [if_pos c, if_neg (fun e => s ⟨c, rdL_t.mp e⟩), if_neg (fun e => d ⟨c, rdD_t.mp e⟩), if_neg (fun e => g ⟨c, e⟩)]
    exact ⟨(uIn _ _ (by omega)).trans (uIs _ _ _ _), (uIn _ _ (by omega)).trans ((uIn _ _ (by omega)).trans f4), uIs _ _ _ _, fun e => by simp at e⟩
  · have c := Decidable.not_not.mp c
    unfold wX9_advance_226
    rw [nmM, nmM, uIn _ _ (by omega), f5, nI1]
    refine kk _ ((o3.put _ (by omega)).put _ (by omega)) ?_
    unfold rdA
    rw [if_pos c, if_neg (fun e => s ⟨c, rdL_t.mp e⟩), if_neg (fun e => d ⟨c, rdD_t.mp e⟩), if_pos g.2]
    exact ⟨(uIn _ _ (by omega)).trans (uIs _ _ _ _), (uIn _ _ (by omega)).trans ((uIn _ _ (by omega)).trans f4), uIs _ _ _ _, fun e => by simp at e⟩
  · have c := Decidable.not_not.mp c
    have d' := Decidable.not_not.mp d
    rw [nmM]
    have o4 := o3.put (j := 11) (0 : Int32) (by omega)
    refine m_numb T a 0 n _ (h.oc o4 (by omega)) ha (by omega) (by omega) ((uIn _ _ (by omega)).trans f5) (uIs _ _ _ _) (fun μ3 o5 g1 g2 g3 g4 => ?_)
    refine kk _ (o4.tr o5) ?_
    unfold rdA
    rw [if_pos c, if_neg (fun e => s ⟨c, rdL_t.mp e⟩), if_pos (rdD_t.mpr d'.2)]
    exact ⟨g2, g1.trans ((uIn _ _ (by omega)).trans f4), g3, fun _ => g4⟩
  · have c := Decidable.not_not.mp c
    have s' := Decidable.not_not.mp s
    refine m_word T a n _ t3 ha (by omega) (by omega) f5 (fun μ3 o5 g1 g2 g3 => ?_)
    refine kk _ (o3.tr (o5.wide (by omega) (by omega))) ?_
    unfold rdA
    rw [if_pos c, if_pos (rdL_t.mpr s'.2)]
    exact ⟨g2, g1.trans f4, g3, fun e => by simp at e⟩
  · rw [nmM]
    refine kk _ (o3.put _ (by omega)) ?_
    unfold rdA
    rw [if_neg c]
    exact ⟨uIs _ _ _ _, (uIn _ _ (by omega)).trans f4, (uIn _ _ (by omega)).trans f5, fun e => by simp at e⟩
