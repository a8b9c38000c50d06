/-! words -/
def rdQ (f : Nat → Int32) (wd : List Int32) (a : Nat) : Nat → Nat → Bool
  | _, 0 => true
  | i, k + 1 => if f (a + i) = wd.getD i 0 then rdQ f wd a (i + 1) k else false
def isw (f : Nat → Int32) (wd : List Int32) (s : Tk) : Bool := decide (s.1 = 1 ∧ s.2.2.1 = s.2.1 + wd.length) && rdQ f wd s.2.1 0 wd.length
theorem isw_no {f : Nat → Int32} {wd : List Int32} {s : Tk} (h : ¬ (s.1 = 1 ∧ s.2.2.1 = s.2.1 + wd.length)) : isw f wd s = false := by
  unfold isw
  rw [decide_eq_false h, Bool.false_and]
theorem isw_yes {f : Nat → Int32} {wd : List Int32} {s : Tk} (h : s.1 = 1 ∧ s.2.2.1 = s.2.1 + wd.length) : isw f wd s = rdQ f wd s.2.1 0 wd.length := by
  unfold isw
  rw [decide_eq_true h, Bool.true_and]
theorem isw_1 {f : Nat → Int32} {wd : List Int32} {s : Tk} (h : isw f wd s = true) : s.1 = 1 ∧ s.2.2.1 = s.2.1 + wd.length := by
  unfold isw at h
  rw [Bool.and_eq_true, decide_eq_true_iff] at h
  exact h.1
set_option maxRecDepth 10000 in
theorem tx_ok : ∀ v, v < 30 → ((qa_txt.getD v []).length < 10 ∧ 0 < (qa_txt.getD v []).length ∧ ∀ i, i < (qa_txt.getD v []).length → ((((qa_txt.getD v []).getD i 0) &&& (255 : Int32)).toUInt32 % 65536).toInt32 = (qa_txt.getD v []).getD i 0) := by decide +kernel
theorem shr0 : ∀ k, k < 10 → nI k >>> ((0 : Int32) &&& 31) = nI k := by decide +kernel
theorem s_len {n v : Nat} {μ : qa_M} {Q : Int32 → qa_M → Prop} (hv : v < 30) : wJ0_length_8abf5 n v μ Q ↔ Q (nI (qa_txt.getD v []).length) μ := by
  show Q (nI (qa_txt.getD v []).length >>> ((0 : Int32) &&& 31)) μ ↔ _
  rw [shr0 _ (tx_ok v hv).1]
theorem s_char {n v i : Nat} {μ : qa_M} {Q : Int32 → qa_M → Prop} (hv : v < 30) (hi : i < (qa_txt.getD v []).length) : wJ0_charAt_5068e n v (nI i) μ Q ↔ Q ((qa_txt.getD v []).getD i 0) μ := by
  have h10 := (tx_ok v hv).1
  have ec := (tx_ok v hv).2.2 i hi
  unfold wJ0_charAt_5068e wJ0_isLatin1_aae02 wJ1_charAt_3b067 wJ0_checkIndex_df160 wJ3_checkIndex_8e157
  rw [nlt i _ (by omega) (by omega), cl (by omega)]
  constructor
  · intro h
    have h2 := ((h.2 (by decide)).2 (nI_pos (by omega))).1 hi
    rw [ec] at h2
    exact h2.2.2.2
  · intro h
    refine ⟨fun e => absurd e (by decide), fun _ => ⟨fun e => absurd e (nI_pos (by omega)), fun _ => ⟨fun _ => ⟨inN hi (by omega), pk_nc _, pk_nc _, ?_⟩, fun e => absurd hi e⟩⟩⟩
    rw [ec]
    exact h
theorem m_good {n : Nat} {μ : qa_M} {R : Int32 → qa_M → Prop} (g0 : μ.1 91 12 = 0) : wX9_good n μ R ↔ R 1 μ := by
  unfold wX9_good
  exact ⟨fun h => h.2 g0, fun h => ⟨fun e => absurd g0 e, fun _ => h⟩⟩
theorem mb_good {n : Nat} {μ : qa_M} {R : Int32 → qa_M → Prop} (b0 : ¬ μ.1 91 12 = 0) : wX9_good n μ R ↔ R 0 μ := by
  unfold wX9_good
  exact ⟨fun h => h.1 b0, fun h => ⟨fun _ => h, fun e => absurd e b0⟩⟩
section WD
variable {f : Nat → Int32} {T v : Nat} {μ : qa_M} {Q : Int32 → qa_M → Prop}
theorem x_isw28 {a : Nat} (hv : v < 30) (h : TPX μ f T) (e4 : μ.1 2 4 = nI a) (ha : a + (qa_txt.getD v []).length ≤ T) : ∀ (k i n : Nat), i + k = (qa_txt.getD v []).length → k < n → (wX2_isWord_28 n v (nI i) μ Q ↔ Q (if rdQ f (qa_txt.getD v []) a i k = true then 1 else 0) μ) := by
  have h10 := (tx_ok v hv).1
  obtain ⟨h8, -, hb⟩ := h
  intro k
  induction k with
  | zero =>
    intro i n hi hn
    obtain ⟨n, rfl⟩ : ∃ m, n = m + 1 := ⟨n - 1, by omega⟩
    rw [wX2_isWord_28, s_len hv, nle _ _ (by omega) (by omega)]
    exact ⟨fun q => q.1 (by omega), fun q => ⟨fun _ => q, fun g => absurd (show (qa_txt.getD v []).length ≤ i by omega) g⟩⟩
  | succ k ih =>
    intro i n hi hn
    obtain ⟨n, rfl⟩ : ∃ m, n = m + 1 := ⟨n - 1, by omega⟩
    rw [wX2_isWord_28, s_len hv, nle _ _ (by omega) (by omega), e4, nI_add, cl (by omega), (hb (a + i) (by omega)).1, s_char hv (by omega), nI1, ih (i + 1) n (by omega) (by omega), rdQ]
    by_cases c : f (a + i) = (qa_txt.getD v []).getD i 0
    · rw [if_pos c]
      exact ⟨fun q => (q.2 (by omega)).2.1 c, fun q => ⟨fun g => absurd g (by omega), fun _ => ⟨inN (by omega) (by omega), fun _ => q, fun g => absurd c g⟩⟩⟩
    · rw [if_neg c]
      exact ⟨fun q => (q.2 (by omega)).2.2 c, fun q => ⟨fun g => absurd g (by omega), fun _ => ⟨inN (by omega) (by omega), fun g => absurd g c, fun _ => q⟩⟩⟩
theorem x_isw {s : Tk} {n : Nat} (hv : v < 30) (h : TPX μ f T) (S : SX μ s) (o : okT T s) (hn : 20 < n) : wX2_isWord n v μ Q ↔ Q (if isw f (qa_txt.getD v []) s = true then 1 else 0) μ := by
  have h10 := (tx_ok v hv).1
  obtain ⟨s1, s2, s3, -⟩ := S
  obtain ⟨o1, o2, o3, o4⟩ := o
  have h8 := h.1
  unfold wX2_isWord
  rw [s_len hv, s1, s3, s2, pk_sub o1, neq _ _ (by omega) (by omega), l1, neq _ _ (by omega) (by omega)]
  by_cases c : s.1 = 1 ∧ s.2.2.1 = s.2.1 + (qa_txt.getD v []).length
  · rw [isw_yes c]
    have := x_isw28 (Q := Q) hv h s2 (by omega) (qa_txt.getD v []).length 0 n (by omega) (by omega)
    exact ⟨fun q => this.mp ((q.2 c.1).1 (by omega)), fun q => ⟨fun g => absurd c.1 g, fun _ => ⟨fun _ => this.mpr q, fun g => absurd (show s.2.2.1 - s.2.1 = (qa_txt.getD v []).length by omega) g⟩⟩⟩
  · rw [isw_no c]
    by_cases c1 : s.1 = 1
    · have c2 : ¬ s.2.2.1 - s.2.1 = (qa_txt.getD v []).length := fun e => c ⟨c1, by omega⟩
      exact ⟨fun q => (q.2 c1).2 c2, fun q => ⟨fun g => absurd c1 g, fun _ => ⟨fun g => absurd g c2, fun _ => q⟩⟩⟩
    · exact ⟨fun q => q.1 c1, fun q => ⟨fun _ => q, fun g => absurd g c1⟩⟩
theorem m_is39_0 {n : Nat} {x : Int32} (hv : v < 30) : wX9_is_39 (n + 1) v 0 x μ Q ↔ Q 0 μ := by
  rw [wX9_is_39, s_len hv]
  constructor
  · intro q
    by_cases c : nI (qa_txt.getD v []).length ≤ x
    · exact (q.1 c).2
    · exact ((q.2 c).1 rfl).2
  · intro q
    exact ⟨fun _ => ⟨rfl, q⟩, fun _ => ⟨fun _ => ⟨rfl, q⟩, fun g => absurd rfl g⟩⟩
theorem m_is39 {a : Nat} (hv : v < 30) (h : TPM μ f T) (e4 : μ.1 91 9 = nI a) (ha : a + (qa_txt.getD v []).length ≤ T) : ∀ (k i n : Nat), i + k = (qa_txt.getD v []).length → k + 1 < n → (wX9_is_39 n v 1 (nI i) μ Q ↔ Q (if rdQ f (qa_txt.getD v []) a i k = true then 1 else 0) μ) := by
  have h10 := (tx_ok v hv).1
  obtain ⟨h8, -, hb⟩ := h
  intro k
  induction k with
  | zero =>
    intro i n hi hn
    obtain ⟨n, rfl⟩ : ∃ m, n = m + 1 := ⟨n - 1, by omega⟩
    rw [wX9_is_39, s_len hv, nle _ _ (by omega) (by omega)]
    exact ⟨fun q => (q.1 (by omega)).2, fun q => ⟨fun _ => ⟨rfl, q⟩, fun g => absurd (show (qa_txt.getD v []).length ≤ i by omega) g⟩⟩
  | succ k ih =>
    intro i n hi hn
    obtain ⟨n, rfl⟩ : ∃ m, n = m + 1 := ⟨n - 1, by omega⟩
    have z0 : wX9_is_75 n v (nI i) 0 μ (fun v1 v2 v3 μk => wX9_is_39 n v1 v2 v3 μk Q) Q ↔ Q 0 μ := by
      obtain ⟨n, rfl⟩ : ∃ m, n = m + 1 := ⟨n - 1, by omega⟩
      exact m_is39_0 hv
    have z1 : wX9_is_75 n v (nI i) 1 μ (fun v1 v2 v3 μk => wX9_is_39 n v1 v2 v3 μk Q) Q ↔ Q (if rdQ f (qa_txt.getD v []) a (i + 1) k = true then 1 else 0) μ := by
      rw [← ih (i + 1) n (by omega) (by omega), ← nI1]
      exact Iff.rfl
    rw [wX9_is_39, s_len hv, nle _ _ (by omega) (by omega), e4, nI_add, cl (by omega), (hb (a + i) (by omega)).1, s_char hv (by omega), z0, z1, rdQ]
    by_cases c : f (a + i) = (qa_txt.getD v []).getD i 0
    · rw [if_pos c]
      exact ⟨fun q => ((q.2 (by omega)).2 (by decide)).2.2 c, fun q => ⟨fun g => absurd g (by omega), fun _ => ⟨fun g => absurd g (by decide), fun _ => ⟨inN (by omega) (by omega), fun g => absurd c g, fun _ => q⟩⟩⟩⟩
    · rw [if_neg c]
      exact ⟨fun q => ((q.2 (by omega)).2 (by decide)).2.1 c, fun q => ⟨fun g => absurd g (by omega), fun _ => ⟨fun g => absurd g (by decide), fun _ => ⟨inN (by omega) (by omega), fun _ => q, fun g => absurd g c⟩⟩⟩⟩
theorem m_is35 {n : Nat} (hv : v < 30) (hn : 0 < n) : wX9_is_35 n v μ Q ↔ Q 0 μ := by
  obtain ⟨n, rfl⟩ : ∃ m, n = m + 1 := ⟨n - 1, by omega⟩
  exact m_is39_0 hv
theorem m_is {s : Tk} {n : Nat} (hv : v < 30) (h : TPM μ f T) (S : SM μ s) (o : okT T s) (g0 : μ.1 91 12 = 0) (hn : 20 < n) : wX9_is n v μ Q ↔ Q (if isw f (qa_txt.getD v []) s = true then 1 else 0) μ := by
  have h10 := (tx_ok v hv).1
  obtain ⟨s1, s2, s3, -⟩ := S
  obtain ⟨o1, o2, o3, o4⟩ := o
  have h8 := h.1
  unfold wX9_is
  rw [m_good g0, s_len hv, s1, s3, s2, pk_sub o1, neq _ _ (by omega) (by omega), l1, neq _ _ (by omega) (by omega), m_is35 hv (by omega)]
  by_cases c : s.1 = 1 ∧ s.2.2.1 = s.2.1 + (qa_txt.getD v []).length
  · rw [isw_yes c]
    have : wX9_is_36 n v (nI 1) μ Q ↔ _ := m_is39 (Q := Q) hv h s2 (by omega) (qa_txt.getD v []).length 0 n (by omega) (by omega)
    exact ⟨fun q => this.mp (((q.2 (by decide)).2 c.1).2 (by omega)), fun q => ⟨fun g => absurd g (by decide), fun _ => ⟨fun g => absurd c.1 g, fun _ => ⟨fun g => absurd (show s.2.2.1 - s.2.1 = (qa_txt.getD v []).length by omega) g, fun _ => this.mpr q⟩⟩⟩⟩
  · rw [isw_no c]
    by_cases c1 : s.1 = 1
    · have c2 : ¬ s.2.2.1 - s.2.1 = (qa_txt.getD v []).length := fun e => c ⟨c1, by omega⟩
      exact ⟨fun q => ((q.2 (by decide)).2 c1).1 c2, fun q => ⟨fun g => absurd g (by decide), fun _ => ⟨fun g => absurd c1 g, fun _ => ⟨fun _ => q, fun g => absurd g c2⟩⟩⟩⟩
    · exact ⟨fun q => (q.2 (by decide)).1 c1, fun q => ⟨fun g => absurd g (by decide), fun _ => ⟨fun _ => q, fun g => absurd g c1⟩⟩⟩
theorem mb_is {n : Nat} (hv : v < 30) (b0 : ¬ μ.1 91 12 = 0) (hn : 20 < n) : wX9_is n v μ Q ↔ Q 0 μ := by
  unfold wX9_is
  rw [mb_good b0, m_is35 hv (by omega)]
  exact ⟨fun q => q.1 rfl, fun q => ⟨fun _ => q, fun g => absurd rfl g⟩⟩
end WD
/-! the grammar's pieces, in abstract -/
section PZ
variable {ρ : Type} (f : Nat → Int32) (T : Nat)
def pWord (wd : List Int32) (s : Tk) (er : Nat → Nat → ρ) (ok : Tk → ρ) : ρ := if isw f wd s = true then ok (rdT f T s.2.2.1) else er 1 s.2.1
def pNum (lo hi : Nat) (s : Tk) (er : Nat → Nat → ρ) (ok : Nat → Tk → ρ) : ρ := if s.1 = 2 then (if lo ≤ s.2.2.2 ∧ s.2.2.2 < hi then ok s.2.2.2 (rdT f T s.2.2.1) else er 2 s.2.1) else er 1 s.2.1
def pTold (wd : List Int32) (lo hi : Nat) (s : Tk) (er : Nat → Nat → ρ) (ok : Nat → Tk → ρ) : ρ := pWord f T wd s er (fun s => pNum f T lo hi s er ok)
def pSemi (s : Tk) (er : Nat → Nat → ρ) (ok : Tk → ρ) : ρ := if s.1 = 3 then ok (rdT f T s.2.2.1) else er 1 s.2.1
end PZ
/-! x: pieces -/
def GX (f : Nat → Int32) (T : Nat) (μ : qa_M) (s : Tk) : Prop := TPX μ f T ∧ SX μ s ∧ okT T s ∧ μ.1 2 7 = 0 ∧ μ.1 2 8 = -1
def BX (μ : qa_M) (k pl : Nat) : Prop := μ.1 2 7 = nI k ∧ (k = 1 ∨ k = 2 ∨ k = 3) ∧ μ.1 2 8 = nI pl
theorem BX.nz {μ : qa_M} {k pl : Nat} (h : BX μ k pl) : ¬ μ.1 2 7 = 0 := by
  obtain ⟨h1, h2, -⟩ := h
  rw [h1, nI_z (by omega)]
  omega
section PX
variable {f : Nat → Int32} {T n v : Nat} {s : Tk} {wd : List Int32} {μ : qa_M} {Q : qa_M → Prop} {R : Int32 → qa_M → Prop} {er : Nat → Nat → Prop} {k pl : Nat}
theorem x_step (G : GX f T μ s) (hn : 820 < n) (kk : ∀ μ', oc 2 3 8 μ μ' → GX f T μ' (rdT f T s.2.2.1) → Q μ') : wX2_step n μ Q := by
  obtain ⟨g1, g2, g3, g4, g5⟩ := G
  refine x_step0 g1 g3.2.1 (by omega) g2.2.2.1 (fun μ' o S => kk μ' (o.wide (by omega) (by omega)) ⟨g1.oc o (by omega), S, (rdT_ok g3.2.1).1, ?_, ?_⟩)
  · rw [o.2 _ _ (by omega)]; exact g4
  · rw [o.2 _ _ (by omega)]; exact g5
theorem x_fail (G : GX f T μ s) (hk : k = 1 ∨ k = 2 ∨ k = 3) (kk : ∀ μ', oc 2 3 8 μ μ' → BX μ' k s.2.1 → Q μ') : wX2_fail n (nI k) μ Q := by
  obtain ⟨g1, g2, g3, g4, g5⟩ := G
  unfold wX2_fail
  rw [nmM, nmM, uIn _ _ (by omega), g2.2.1]
  exact ⟨fun e => absurd g4 e, fun _ => kk _ (((oc.rf _ _ _ _).put _ (by omega)).put _ (by omega)) ⟨(uIn _ _ (by omega)).trans (uIs _ _ _ _), hk, uIs _ _ _ _⟩⟩
theorem x_tw {ok : Tk → Prop} (hv : v < 30) (hw : qa_txt.getD v [] = wd) (G : GX f T μ s) (hn : 820 < n) (h : pWord f T wd s er ok) (kb : ∀ k pl μ', er k pl → oc 2 3 8 μ μ' → BX μ' k pl → Q μ') (kg : ∀ s' μ', ok s' → oc 2 3 8 μ μ' → GX f T μ' s' → Q μ') : wX2_takeWord n v μ Q := by
  subst hw
  unfold wX2_takeWord
  unfold pWord at h
  rw [x_isw hv G.1 G.2.1 G.2.2.1 (by omega)]
  refine ⟨fun _ => ?_, fun e => absurd G.2.2.2.1 e⟩
  by_cases c : isw f (qa_txt.getD v []) s = true
  · rw [if_pos c] at h
    rw [if_pos c]
    exact ⟨fun e => absurd e (by decide), fun _ => x_step G hn (fun μ' o G' => kg _ μ' h o G')⟩
  · rw [if_neg c] at h
    rw [if_neg c]
    exact ⟨fun _ => x_fail (k := 1) G (Or.inl rfl) (fun μ' o B => kb _ _ μ' h o B), fun e => absurd rfl e⟩
theorem x_tn {ok : Nat → Tk → Prop} {lo hi : Nat} {v1 v2 : Int32} (h1 : v1 = nI lo) (h2 : v2.toInt = (hi : Int) - 1) (hl : lo ≤ 1000 ∧ hi ≤ 1000) (G : GX f T μ s) (hn : 820 < n) (h : pNum f T lo hi s er ok) (kb : ∀ k pl μ', er k pl → oc 2 3 8 μ μ' → BX μ' k pl → R v1 μ') (kg : ∀ v s' μ', ok v s' → lo ≤ v → v < hi → oc 2 3 8 μ μ' → GX f T μ' s' → R (nI v) μ') : wX2_takeNumber n v1 v2 μ R := by
  unfold wX2_takeNumber
  unfold pNum at h
  refine ⟨fun _ => ?_, fun e => absurd G.2.2.2.1 e⟩
  have o4 := G.2.2.1.2.2.2
  rw [G.2.1.1, l2, neq _ _ (by omega) (by omega)]
  by_cases c : s.1 = 2
  · rw [if_pos c] at h
    refine ⟨fun _ => ?_, fun e => absurd c e⟩
    rw [G.2.1.2.2.2 c, fa_lt, fa_le, h2, h1, nI_toInt (by omega), nI_toInt (by omega)]
    by_cases r : lo ≤ s.2.2.2 ∧ s.2.2.2 < hi
    · rw [if_pos r] at h
      have em : min 1000000 s.2.2.2 = s.2.2.2 := by omega
      rw [em, nmM]
      exact ⟨fun e => absurd e (by omega), fun _ => ⟨fun _ => x_step G hn (fun μ' o G' => kg _ _ μ' h r.1 r.2 o G'), fun e => absurd (show (s.2.2.2 : Int) ≤ (hi : Int) - 1 by omega) e⟩⟩
    · rw [if_neg r] at h
      have go : wX2_fail n (2 : Int32) μ (fun μ4 => R (nI lo) μ4) := x_fail (k := 2) G (by omega) (fun μ' o B => by rw [← h1]; exact kb _ _ μ' h o B)
      exact ⟨fun _ => go, fun e => ⟨fun e' => absurd (show lo ≤ s.2.2.2 ∧ s.2.2.2 < hi by omega) r, fun _ => go⟩⟩
  · rw [if_neg c] at h
    exact ⟨fun e => absurd e c, fun _ => x_fail (k := 1) G (by omega) (fun μ' o B => kb _ _ μ' h o B)⟩
theorem xb_tw (b0 : ¬ μ.1 2 7 = 0) : wX2_takeWord n v μ Q ↔ Q μ := by
  unfold wX2_takeWord
  exact ⟨fun h => h.2 b0, fun h => ⟨fun e => absurd e b0, fun _ => h⟩⟩
theorem xb_tn {v1 v2 : Int32} (b0 : ¬ μ.1 2 7 = 0) : wX2_takeNumber n v1 v2 μ R ↔ R v1 μ := by
  unfold wX2_takeNumber
  exact ⟨fun h => h.2 b0, fun h => ⟨fun e => absurd e b0, fun _ => h⟩⟩
theorem xb_tno {v1 v2 : Int32} (b0 : ¬ μ.1 2 7 = 0) : wX2_takeNumberOf n v v1 v2 μ R ↔ R v1 μ := by
  unfold wX2_takeNumberOf
  rw [xb_tw b0, xb_tn b0]
theorem xb_semi (b0 : ¬ μ.1 2 7 = 0) : wX2_takeSemicolon n μ Q ↔ Q μ := by
  unfold wX2_takeSemicolon
  exact ⟨fun h => h.2 b0, fun h => ⟨fun e => absurd e b0, fun _ => h⟩⟩
theorem x_tno {ok : Nat → Tk → Prop} {lo hi : Nat} {v1 v2 : Int32} (hv : v < 30) (hw : qa_txt.getD v [] = wd) (h1 : v1 = nI lo) (h2 : v2.toInt = (hi : Int) - 1) (hl : lo ≤ 1000 ∧ hi ≤ 1000) (G : GX f T μ s) (hn : 820 < n) (h : pTold f T wd lo hi s er ok) (kb : ∀ k pl μ', er k pl → oc 2 3 8 μ μ' → BX μ' k pl → R v1 μ') (kg : ∀ v s' μ', ok v s' → lo ≤ v → v < hi → oc 2 3 8 μ μ' → GX f T μ' s' → R (nI v) μ') : wX2_takeNumberOf n v v1 v2 μ R := by
  unfold wX2_takeNumberOf
  unfold pTold at h
  refine x_tw hv hw G hn h (fun k pl μ' e o B => ?_) (fun s1 μ1 h' o1 G1 => ?_)
  · rw [xb_tn B.nz]
    exact kb k pl μ' e o B
  · exact x_tn h1 h2 hl G1 hn h' (fun k pl μ' e o B => kb k pl μ' e (o1.tr o) B) (fun v s' μ' e a b o G' => kg v s' μ' e a b (o1.tr o) G')
theorem x_semi {ok : Tk → Prop} (G : GX f T μ s) (hn : 820 < n) (h : pSemi f T s er ok) (kb : ∀ k pl μ', er k pl → oc 2 3 8 μ μ' → BX μ' k pl → Q μ') (kg : ∀ s' μ', ok s' → oc 2 3 8 μ μ' → GX f T μ' s' → Q μ') : wX2_takeSemicolon n μ Q := by
  unfold wX2_takeSemicolon
  unfold pSemi at h
  have o4 := G.2.2.1.2.2.2
  refine ⟨fun _ => ?_, fun e => absurd G.2.2.2.1 e⟩
  rw [G.2.1.1, l3, neq _ _ (by omega) (by omega)]
  by_cases c : s.1 = 3
  · rw [if_pos c] at h
    exact ⟨fun e => absurd c e, fun _ => x_step G hn (fun μ' o G' => kg _ μ' h o G')⟩
  · rw [if_neg c] at h
    exact ⟨fun _ => x_fail (k := 1) G (by omega) (fun μ' o B => kb _ _ μ' h o B), fun e => absurd e c⟩
end PX
/-! m: pieces -/
def GM (f : Nat → Int32) (T : Nat) (μ : qa_M) (s : Tk) : Prop := TPM μ f T ∧ SM μ s ∧ okT T s ∧ μ.1 91 12 = 0 ∧ μ.1 91 13 = -1
def BM (μ : qa_M) (k pl : Nat) : Prop := μ.1 91 12 = nI k ∧ (k = 1 ∨ k = 2 ∨ k = 3) ∧ μ.1 91 13 = nI pl
theorem BM.nz {μ : qa_M} {k pl : Nat} (h : BM μ k pl) : ¬ μ.1 91 12 = 0 := by
  obtain ⟨h1, h2, -⟩ := h
  rw [h1, nI_z (by omega)]
  omega
section PM
variable {f : Nat → Int32} {T n v : Nat} {s : Tk} {wd : List Int32} {μ : qa_M} {Q : qa_M → Prop} {R : Int32 → qa_M → Prop} {er : Nat → Nat → Prop} {k pl : Nat}
theorem m_step (G : GM f T μ s) (hn : 820 < n) (kk : ∀ μ', oc 91 8 13 μ μ' → GM f T μ' (rdT f T s.2.2.1) → Q μ') : wX9_advance n μ Q := by
  obtain ⟨g1, g2, g3, g4, g5⟩ := G
  refine m_adv0 g1 g3.2.1 (by omega) g2.2.2.1 (fun μ' o S => kk μ' (o.wide (by omega) (by omega)) ⟨g1.oc o (by omega), S, (rdT_ok g3.2.1).1, ?_, ?_⟩)
  · rw [o.2 _ _ (by omega)]; exact g4
  · rw [o.2 _ _ (by omega)]; exact g5
theorem m_errs (G : GM f T μ s) (hk : k = 1 ∨ k = 2 ∨ k = 3) (kk : ∀ μ', oc 91 8 13 μ μ' → BM μ' k s.2.1 → Q μ') : wX9_errs n (nI k) μ Q := by
  obtain ⟨g1, g2, g3, g4, g5⟩ := G
  unfold wX9_errs
  rw [m_good g4, nmM, nmM, uIn _ _ (by omega), g2.2.1]
  exact ⟨fun _ => kk _ (((oc.rf _ _ _ _).put _ (by omega)).put _ (by omega)) ⟨(uIn _ _ (by omega)).trans (uIs _ _ _ _), hk, uIs _ _ _ _⟩, fun e => absurd e (by decide)⟩
theorem mb_errs {x : Int32} (b0 : ¬ μ.1 91 12 = 0) : wX9_errs n x μ Q ↔ Q μ := by
  unfold wX9_errs
  rw [mb_good b0]
  exact ⟨fun h => h.2 rfl, fun h => ⟨fun e => absurd rfl e, fun _ => h⟩⟩
theorem m_takes (hv : v < 30) (hw : qa_txt.getD v [] = wd) (G : GM f T μ s) (hn : 820 < n) (k0 : isw f wd s = false → R 0 μ) (k1 : isw f wd s = true → ∀ μ', oc 91 8 13 μ μ' → GM f T μ' (rdT f T s.2.2.1) → R 1 μ') : wX9_takes n v μ R := by
  subst hw
  unfold wX9_takes
  rw [m_is hv G.1 G.2.1 G.2.2.1 G.2.2.2.1 (by omega)]
  by_cases c : isw f (qa_txt.getD v []) s = true
  · rw [if_pos c]
    exact ⟨fun e => absurd e (by decide), fun _ => m_step G hn (fun μ' o G' => ⟨rfl, k1 c μ' o G'⟩)⟩
  · rw [if_neg c]
    exact ⟨fun _ => ⟨rfl, k0 (Bool.eq_false_iff.mpr c)⟩, fun e => absurd rfl e⟩
theorem mb_takes (hv : v < 30) (b0 : ¬ μ.1 91 12 = 0) (hn : 820 < n) : wX9_takes n v μ R ↔ R 0 μ := by
  unfold wX9_takes
  rw [mb_is hv b0 (by omega)]
  exact ⟨fun h => (h.1 rfl).2, fun h => ⟨fun _ => ⟨rfl, h⟩, fun e => absurd rfl e⟩⟩
theorem m_needs {ok : Tk → Prop} (hv : v < 30) (hw : qa_txt.getD v [] = wd) (G : GM f T μ s) (hn : 820 < n) (h : pWord f T wd s er ok) (kb : ∀ k pl μ', er k pl → oc 91 8 13 μ μ' → BM μ' k pl → Q μ') (kg : ∀ s' μ', ok s' → oc 91 8 13 μ μ' → GM f T μ' s' → Q μ') : wX9_needs n v μ Q := by
  unfold wX9_needs
  unfold pWord at h
  refine m_takes hv hw G hn (fun c => ?_) (fun c μ' o G' => ?_)
  · rw [if_neg (by rw [c]; decide)] at h
    exact ⟨fun e => absurd rfl e, fun _ => m_errs (k := 1) G (Or.inl rfl) (fun μ' o B => kb _ _ μ' h o B)⟩
  · rw [if_pos c] at h
    exact ⟨fun _ => kg _ μ' h o G', fun e => absurd e (by decide)⟩
theorem mb_needs (hv : v < 30) (b0 : ¬ μ.1 91 12 = 0) (hn : 820 < n) : wX9_needs n v μ Q ↔ Q μ := by
  unfold wX9_needs
  rw [mb_takes hv b0 hn, mb_errs b0]
  exact ⟨fun h => h.2 rfl, fun h => ⟨fun e => absurd rfl e, fun _ => h⟩⟩
theorem mb_num20 {v1 v2 : Int32} (b0 : ¬ μ.1 91 12 = 0) : wX9_number_20 n v1 v2 μ R ↔ R 0 μ := by
  unfold wX9_number_20 wX9_number_47
  rw [mb_good b0, mb_good b0]
  exact ⟨fun h => (h.1 rfl).2 rfl, fun h => ⟨fun _ => ⟨fun e => absurd rfl e, fun _ => h⟩, fun e => absurd rfl e⟩⟩
theorem mb_num {v1 v2 : Int32} (b0 : ¬ μ.1 91 12 = 0) : wX9_number n v1 v2 μ R ↔ R 0 μ := by
  unfold wX9_number
  rw [mb_good b0, mb_num20 b0]
  exact ⟨fun h => h.1 rfl, fun h => ⟨fun _ => h, fun e => absurd rfl e⟩⟩
theorem mb_told {v1 v2 : Int32} (hv : v < 30) (b0 : ¬ μ.1 91 12 = 0) (hn : 820 < n) : wX9_told n v v1 v2 μ R ↔ R 0 μ := by
  unfold wX9_told
  rw [mb_needs hv b0 hn, mb_num b0]
theorem m_num {ok : Nat → Tk → Prop} {lo hi : Nat} {v1 v2 : Int32} (h1 : v1.toInt = (lo : Int)) (h2 : v2.toInt = (hi : Int) - 1) (hl : lo ≤ 1000 ∧ hi ≤ 1000) (G : GM f T μ s) (hn : 820 < n) (h : pNum f T lo hi s er ok) (kb : ∀ k pl μ', er k pl → oc 91 8 13 μ μ' → BM μ' k pl → R 0 μ') (kg : ∀ v s' μ', ok v s' → lo ≤ v → v < hi → oc 91 8 13 μ μ' → GM f T μ' s' → R (nI v) μ') : wX9_number n v1 v2 μ R := by
  unfold wX9_number
  unfold pNum at h
  have o4 := G.2.2.1.2.2.2
  rw [m_good G.2.2.2.1, G.2.1.1, l2, neq _ _ (by omega) (by omega)]
  refine ⟨fun e => absurd e (by decide), fun _ => ⟨fun c => ?_, fun c => ?_⟩⟩
  · rw [if_pos c] at h
    unfold wX9_number_20
    rw [m_good G.2.2.2.1]
    refine ⟨fun e => absurd e (by decide), fun _ => ?_⟩
    rw [s_in, Int32.toInt_toInt64, Int32.toInt_toInt64, Int32.toInt_toInt64, h1, h2, G.2.1.2.2.2 c, nI_toInt (by omega), qb_0]
    by_cases r : lo ≤ s.2.2.2 ∧ s.2.2.2 < hi
    · rw [if_pos r] at h
      refine ⟨fun _ => ?_, fun e => absurd (by omega) e⟩
      unfold wX9_number_47
      rw [m_good G.2.2.2.1, G.2.1.2.2.2 c, nmM, show min 99999 s.2.2.2 = s.2.2.2 by omega]
      exact ⟨fun _ => m_step G hn (fun μ' o G' => kg _ _ μ' h r.1 r.2 o G'), fun e => absurd e (by decide)⟩
    · rw [if_neg r] at h
      refine ⟨fun e => absurd (fun q => r (by omega)) e, fun _ => ?_⟩
      refine m_errs (k := 2) G (by omega) (fun μ' o B => ?_)
      have b0 := B.nz
      unfold wX9_number_47
      rw [mb_good b0]
      exact ⟨fun e => absurd rfl e, fun _ => kb _ _ μ' h o B⟩
  · rw [if_neg c] at h
    refine m_errs (k := 1) G (by omega) (fun μ' o B => ?_)
    rw [mb_num20 B.nz]
    exact kb _ _ μ' h o B
theorem m_told {ok : Nat → Tk → Prop} {lo hi : Nat} {v1 v2 : Int32} (hv : v < 30) (hw : qa_txt.getD v [] = wd) (h1 : v1.toInt = (lo : Int)) (h2 : v2.toInt = (hi : Int) - 1) (hl : lo ≤ 1000 ∧ hi ≤ 1000) (G : GM f T μ s) (hn : 820 < n) (h : pTold f T wd lo hi s er ok) (kb : ∀ k pl μ', er k pl → oc 91 8 13 μ μ' → BM μ' k pl → R 0 μ') (kg : ∀ v s' μ', ok v s' → lo ≤ v → v < hi → oc 91 8 13 μ μ' → GM f T μ' s' → R (nI v) μ') : wX9_told n v v1 v2 μ R := by
  unfold wX9_told
  unfold pTold at h
  refine m_needs hv hw G hn h (fun k pl μ' e o B => ?_) (fun s1 μ1 h' o1 G1 => ?_)
  · rw [mb_num B.nz]
    exact kb k pl μ' e o B
  · exact m_num h1 h2 hl G1 hn h' (fun k pl μ' e o B => kb k pl μ' e (o1.tr o) B) (fun v s' μ' e a b o G' => kg v s' μ' e a b (o1.tr o) G')
end PM
