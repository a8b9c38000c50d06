/-! bytes of the tape, as codes -/
def isB (x : Int32) : Prop := ∃ b : Int8, x = b.toInt32
def rdC (x : Int32) : Nat := (x &&& 255).toNatClampNeg
theorem by_all : ∀ n, n < 256 → (((Int8.ofNat n).toInt32 &&& 255) = nI n ∧ (Int8.ofNat n).toInt32.toInt = if n < 128 then (n : Int) else (n : Int) - 256) := by decide +kernel
theorem i8_nat (b : Int8) : ∃ n, n < 256 ∧ b = Int8.ofNat n := ⟨b.toBitVec.toNat, b.toBitVec.isLt, Int8.toBitVec_inj.mp (BitVec.eq_of_toNat_eq (by
  show b.toBitVec.toNat = (BitVec.ofNat 8 b.toBitVec.toNat).toNat
  rw [BitVec.toNat_ofNat, Nat.mod_eq_of_lt b.toBitVec.isLt]))⟩
theorem isB.code {x : Int32} (h : isB x) : rdC x < 256 ∧ x &&& 255 = nI (rdC x) ∧ x.toInt = if rdC x < 128 then (rdC x : Int) else (rdC x : Int) - 256 := by
  obtain ⟨b, rfl⟩ := h
  obtain ⟨n, hn, rfl⟩ := i8_nat b
  obtain ⟨h1, h2⟩ := by_all n hn
  have e : rdC (Int8.ofNat n).toInt32 = n := by unfold rdC; rw [h1, cl (by omega)]
  rw [e]
  exact ⟨hn, h1, h2⟩
theorem isB.eq {x : Int32} (h : isB x) {k : Nat} (hk : k < 128) : (x = nI k) = (rdC x = k) := propext (by
  rw [fa_eq, nI_toInt (by omega), h.code.2.2]
  have := h.code.1
  split <;> omega)
theorem isB.num {x : Int32} (h : isB x) (hk : rdC x < 128) : x = nI (rdC x) := by
  rw [h.eq hk]
/-! the reader's steps, in abstract -/
def rdS (c : Nat) : Bool := decide (c = 32 ∨ c = 10)
def rdL (c : Nat) : Bool := decide (97 ≤ c ∧ c ≤ 122)
def rdD (c : Nat) : Bool := decide (48 ≤ c ∧ c ≤ 57)
theorem rdS_t {c : Nat} : rdS c = true ↔ c = 32 ∨ c = 10 := decide_eq_true_iff
theorem rdL_t {c : Nat} : rdL c = true ↔ 97 ≤ c ∧ c ≤ 122 := decide_eq_true_iff
theorem rdD_t {c : Nat} : rdD c = true ↔ 48 ≤ c ∧ c ≤ 57 := decide_eq_true_iff
def rdK (c : Nat) : Nat := if rdL c = true then 1 else if rdD c = true then 2 else if c = 59 then 3 else 4
theorem two_if {A B R S : Prop} : ((A → R) ∧ (¬ A → ((B → R) ∧ (¬ B → S)))) ↔ ((A ∨ B → R) ∧ (¬ (A ∨ B) → S)) := by
  by_cases a : A <;> by_cases b : B <;> simp [a, b]
theorem s_k28 {n : Nat} {x : Int32} {μ : qa_M} {Q : Int32 → qa_M → Prop} (h : isB x) : wX2_kindOf_28 n x μ Q ↔ Q (nI (if rdC x = 59 then 3 else 4)) μ := by
  have q59 : (x = 59) = (rdC x = 59) := h.eq (k := 59) (by omega)
  unfold wX2_kindOf_28
  rw [q59]
  by_cases g : rdC x = 59
  · rw [if_pos g]
    exact ⟨fun e => e.2 g, fun e => ⟨fun q => absurd g q, fun _ => e⟩⟩
  · rw [if_neg g]
    exact ⟨fun e => e.1 g, fun e => ⟨fun _ => e, fun q => absurd q g⟩⟩
theorem s_k14 {n : Nat} {x : Int32} {μ : qa_M} {Q : Int32 → qa_M → Prop} (h : isB x) : wX2_kindOf_14 n x μ Q ↔ Q (nI (if rdD (rdC x) = true then 2 else if rdC x = 59 then 3 else 4)) μ := by
  have q : (x < 48 ∨ (57 : Int32) < x) ↔ ¬ rdD (rdC x) = true := by
    rw [rdD_t, fa_lt, fa_lt, h.code.2.2, show (48 : Int32).toInt = 48 from rfl, show (57 : Int32).toInt = 57 from rfl]
    have := h.code.1
    split <;> omega
  unfold wX2_kindOf_14
  refine two_if.trans ?_
  rw [q, s_k28 h]
  by_cases d : rdD (rdC x) = true
  · rw [if_pos d]
    exact ⟨fun e => e.2 (fun z => z d), fun e => ⟨fun z => absurd d z, fun _ => e⟩⟩
  · rw [if_neg d]
    exact ⟨fun e => e.1 d, fun e => ⟨fun _ => e, fun z => absurd d z⟩⟩
theorem s_kind {n : Nat} {x : Int32} {μ : qa_M} {Q : Int32 → qa_M → Prop} (h : isB x) : wX2_kindOf n x μ Q ↔ Q (nI (rdK (rdC x))) μ := by
  have q : (x < 97 ∨ (122 : Int32) < x) ↔ ¬ rdL (rdC x) = true := by
    rw [rdL_t, fa_lt, fa_lt, h.code.2.2, show (97 : Int32).toInt = 97 from rfl, show (122 : Int32).toInt = 122 from rfl]
    have := h.code.1
    split <;> omega
  unfold wX2_kindOf rdK
  refine two_if.trans ?_
  rw [q, s_k14 h]
  by_cases d : rdL (rdC x) = true
  · rw [if_pos d]
    exact ⟨fun e => e.2 (fun z => z d), fun e => ⟨fun z => absurd d z, fun _ => e⟩⟩
  · rw [if_neg d]
    exact ⟨fun e => e.1 d, fun e => ⟨fun _ => e, fun z => absurd d z⟩⟩
theorem rdK_rng (c : Nat) : rdK c ≤ 4 := by unfold rdK; split <;> (try split) <;> (try split) <;> omega
theorem rdK_1 (c : Nat) : rdK c = 1 ↔ rdL c = true := by
  unfold rdK
  by_cases l : rdL c = true
  · rw [if_pos l]; exact ⟨fun _ => l, fun _ => rfl⟩
  · rw [if_neg l]
    refine ⟨fun e => ?_, fun e => absurd e l⟩
    split at e
    · omega
    · split at e <;> omega
theorem rdL_D {c : Nat} (h : rdD c = true) : ¬ rdL c = true := fun e => by
  have h := rdD_t.mp h
  have e := rdL_t.mp e
  omega
theorem rdK_2 (c : Nat) : rdK c = 2 ↔ rdD c = true := by
  unfold rdK
  by_cases d : rdD c = true
  · rw [if_neg (rdL_D d), if_pos d]; exact ⟨fun _ => d, fun _ => rfl⟩
  · rw [if_neg d]
    refine ⟨fun e => ?_, fun e => absurd e d⟩
    split at e
    · omega
    · split at e <;> omega
def rdRun (q : Nat → Bool) (f : Nat → Int32) (T : Nat) : Nat → Nat → Nat
  | 0, p => p
  | k + 1, p => if p < T ∧ q (rdC (f p)) = true then rdRun q f T k (p + 1) else p
def rdV (f : Nat → Int32) (T : Nat) : Nat → Nat → Nat → Nat
  | 0, _, v => v
  | k + 1, p, v => if p < T ∧ rdD (rdC (f p)) = true then rdV f T k (p + 1) (10 * v + (rdC (f p) - 48)) else v
theorem rdRun_no {q : Nat → Bool} {f : Nat → Int32} {T : Nat} (k p : Nat) (h : ¬ (p < T ∧ q (rdC (f p)) = true)) : rdRun q f T k p = p := by
  cases k with
  | zero => rfl
  | succ k => rw [rdRun, if_neg h]
theorem rdRun_yes {q : Nat → Bool} {f : Nat → Int32} {T : Nat} (k p : Nat) (h : p < T ∧ q (rdC (f p)) = true) : rdRun q f T (k + 1) p = rdRun q f T k (p + 1) := by
  rw [rdRun, if_pos h]
theorem rdV_no {f : Nat → Int32} {T : Nat} (k p v : Nat) (h : ¬ (p < T ∧ rdD (rdC (f p)) = true)) : rdV f T k p v = v := by
  cases k with
  | zero => rfl
  | succ k => rw [rdV, if_neg h]
theorem rdV_yes {f : Nat → Int32} {T : Nat} (k p v : Nat) (h : p < T ∧ rdD (rdC (f p)) = true) : rdV f T (k + 1) p v = rdV f T k (p + 1) (10 * v + (rdC (f p) - 48)) := by
  rw [rdV, if_pos h]
theorem rdRun_ge {q : Nat → Bool} {f : Nat → Int32} {T : Nat} : ∀ k p, p ≤ rdRun q f T k p
  | 0, p => Nat.le_refl p
  | k + 1, p => by
    by_cases h : p < T ∧ q (rdC (f p)) = true
    · rw [rdRun_yes k p h]
      have := rdRun_ge (q := q) (f := f) (T := T) k (p + 1)
      omega
    · rw [rdRun_no (k + 1) p h]
      exact Nat.le_refl p
theorem rdRun_le {q : Nat → Bool} {f : Nat → Int32} {T : Nat} : ∀ k p, p ≤ T → rdRun q f T k p ≤ T
  | 0, p, hp => hp
  | k + 1, p, hp => by
    by_cases h : p < T ∧ q (rdC (f p)) = true
    · rw [rdRun_yes k p h]
      exact rdRun_le k (p + 1) h.1
    · rw [rdRun_no (k + 1) p h]
      exact hp
theorem rdRun_lt {q : Nat → Bool} {f : Nat → Int32} {T p : Nat} (h : p < T ∧ q (rdC (f p)) = true) : p < rdRun q f T T p := by
  obtain ⟨k, hk⟩ : ∃ k, T = k + 1 := ⟨T - 1, by omega⟩
  have e : rdRun q f T T p = rdRun q f T k (p + 1) := by
    have := rdRun_yes (q := q) (f := f) (T := T) k p h
    rw [← hk] at this
    exact this
  rw [e]
  have := rdRun_ge (q := q) (f := f) (T := T) k (p + 1)
  omega
/-- a token: its kind, where it begins, where it ends, its number -/
abbrev Tk : Type := Nat × Nat × Nat × Nat
def rdA (f : Nat → Int32) (T a : Nat) : Tk :=
  if a < T then
    if rdL (rdC (f a)) = true then (1, a, rdRun rdL f T T a, 0)
    else if rdD (rdC (f a)) = true then (2, a, rdRun rdD f T T a, rdV f T T a 0)
    else if rdC (f a) = 59 then (3, a, a + 1, 0) else (4, a, a + 1, 0)
  else (0, a, a, 0)
def rdT (f : Nat → Int32) (T p : Nat) : Tk := rdA f T (rdRun rdS f T T p)
def okT (T : Nat) (s : Tk) : Prop := s.2.1 ≤ s.2.2.1 ∧ s.2.2.1 ≤ T ∧ (s.1 ≠ 0 → s.2.1 < s.2.2.1) ∧ s.1 ≤ 4
theorem rdA_ok {f : Nat → Int32} {T a : Nat} (ha : a ≤ T) : okT T (rdA f T a) ∧ (rdA f T a).2.1 = a := by
  unfold rdA
  by_cases c : a < T
  · rw [if_pos c]
    by_cases c1 : rdL (rdC (f a)) = true
    · rw [if_pos c1]
      exact ⟨⟨rdRun_ge _ _, rdRun_le _ _ ha, fun _ => rdRun_lt ⟨c, c1⟩, by omega⟩, rfl⟩
    · rw [if_neg c1]
      by_cases c2 : rdD (rdC (f a)) = true
      · rw [if_pos c2]
        exact ⟨⟨rdRun_ge _ _, rdRun_le _ _ ha, fun _ => rdRun_lt ⟨c, c2⟩, by omega⟩, rfl⟩
      · rw [if_neg c2]
        by_cases c3 : rdC (f a) = 59
        · rw [if_pos c3]
          exact ⟨⟨Nat.le_succ a, c, fun _ => Nat.lt_succ_self a, by omega⟩, rfl⟩
        · rw [if_neg c3]
          exact ⟨⟨Nat.le_succ a, c, fun _ => Nat.lt_succ_self a, by omega⟩, rfl⟩
  · rw [if_neg c]
    exact ⟨⟨Nat.le_refl a, ha, fun h => absurd rfl h, by omega⟩, rfl⟩
/-- a step on: never back, and on where there is a token -/
theorem rdT_ok {f : Nat → Int32} {T p : Nat} (hp : p ≤ T) : okT T (rdT f T p) ∧ p ≤ (rdT f T p).2.2.1 ∧ ((rdT f T p).1 ≠ 0 → p < (rdT f T p).2.2.1) := by
  have h := rdA_ok (f := f) (rdRun_le (q := rdS) (f := f) T p hp)
  have g := rdRun_ge (q := rdS) (f := f) (T := T) T p
  refine ⟨h.1, ?_, fun n => ?_⟩
  · have := h.1.1
    have := h.2
    unfold rdT
    omega
  · have := h.1.2.2.1 n
    have := h.2
    unfold rdT
    omega
/-! cells of one place alone -/
def oc (a lo hi : Nat) (μ μ' : qa_M) : Prop := μ'.2 = μ.2 ∧ ∀ b j, ¬ (b = a ∧ lo ≤ j ∧ j ≤ hi) → μ'.1 b j = μ.1 b j
theorem oc.rf (a lo hi : Nat) (μ : qa_M) : oc a lo hi μ μ := ⟨rfl, fun _ _ _ => rfl⟩
theorem oc.tr {a lo hi : Nat} {μ μ1 μ2 : qa_M} (h : oc a lo hi μ μ1) (h' : oc a lo hi μ1 μ2) : oc a lo hi μ μ2 := ⟨h'.1.trans h.1, fun b j hb => (h'.2 b j hb).trans (h.2 b j hb)⟩
theorem oc.put {a lo hi : Nat} {μ μ1 : qa_M} (h : oc a lo hi μ μ1) {j : Nat} (x : Int32) (hj : lo ≤ j ∧ j ≤ hi) : oc a lo hi μ (qa_uI μ1 a j x) := h.tr ⟨rfl, fun b i hb => uIn _ _ (fun e => hb (by rw [e.1, e.2]; exact ⟨rfl, hj⟩))⟩
theorem oc.wide {a lo hi lo' hi' : Nat} {μ μ1 : qa_M} (h : oc a lo hi μ μ1) (h1 : lo' ≤ lo) (h2 : hi ≤ hi') : oc a lo' hi' μ μ1 := ⟨h.1, fun b j hb => h.2 b j (fun e => hb ⟨e.1, by omega, by omega⟩)⟩
/-! x goes a step on -/
def TPX (μ : qa_M) (f : Nat → Int32) (T : Nat) : Prop := T ≤ 800 ∧ μ.1 2 1 = nI T ∧ ∀ j, j < T → μ.1 15 j = f j ∧ isB (f j)
theorem TPX.oc {μ μ' : qa_M} {f : Nat → Int32} {T lo hi : Nat} (h : TPX μ f T) (o : oc 2 lo hi μ μ') (hl : 1 < lo) : TPX μ' f T := by
  refine ⟨h.1, ?_, fun j hj => ?_⟩
  · rw [o.2 _ _ (by omega)]; exact h.2.1
  · rw [o.2 _ _ (by omega)]; exact h.2.2 j hj
theorem x_skip {f : Nat → Int32} {T : Nat} {K0 Q : qa_M → Prop} : ∀ (k p n : Nat) (μ : qa_M), TPX μ f T → p ≤ T → T ≤ p + k → k < n → μ.1 2 4 = nI p → (∀ μ', oc 2 4 4 μ μ' → μ'.1 2 4 = nI (rdRun rdS f T k p) → K0 μ') → wX2_step_8 n μ K0 Q := by
  intro k
  induction k with
  | zero =>
    intro p n μ h hp hT hn e4 kk
    obtain ⟨n, rfl⟩ : ∃ m, n = m + 1 := ⟨n - 1, by omega⟩
    obtain ⟨h8, e1, -⟩ := h
    have c : T ≤ p := by omega
    rw [wX2_step_8, e4, e1, nle T p (by omega) (by omega)]
    exact ⟨fun _ => kk μ (oc.rf _ _ _ _) e4, fun h => absurd c h⟩
  | succ k ih =>
    intro p n μ h hp hT hn e4 kk
    obtain ⟨n, rfl⟩ : ∃ m, n = m + 1 := ⟨n - 1, by omega⟩
    obtain ⟨h8, e1, hb⟩ := id h
    by_cases c : p < T
    · obtain ⟨b1, b2⟩ := hb p c
      have q32 : (f p = 32) = (rdC (f p) = 32) := b2.eq (k := 32) (by omega)
      have q10 : (f p = 10) = (rdC (f p) = 10) := b2.eq (k := 10) (by omega)
      have go : rdC (f p) = 32 ∨ rdC (f p) = 10 → wX2_step_47 n μ (fun μk => wX2_step_8 n μk K0 Q) Q := by
        intro s
        unfold wX2_step_47
        rw [nmM, e4, nI1]
        have o1 : oc 2 4 4 μ (qa_uI μ 2 4 (nI (p + 1))) := (oc.rf _ _ _ _).put _ (by omega)
        refine ih (p + 1) n _ (h.oc o1 (by omega)) (by omega) (by omega) (by omega) (uIs _ _ _ _) (fun μ' o' e' => kk μ' (o1.tr o') ?_)
        rw [rdRun_yes k p ⟨c, rdS_t.mpr s⟩]
        exact e'
      rw [wX2_step_8, e4, e1, nle T p (by omega) (by omega), cl (by omega), b1, q32, q10]
      refine ⟨fun h => absurd h (by omega), fun _ => ⟨inN (by omega) (by omega), fun s => go (Or.inl s), fun s => ⟨inN (by omega) (by omega), fun s' => ?_, fun s' => go (Or.inr s')⟩⟩⟩
      refine kk μ (oc.rf _ _ _ _) ?_
      rw [rdRun_no _ _ (fun e => (rdS_t.mp e.2).elim s s')]
      exact e4
    · have c' : T ≤ p := by omega
      rw [wX2_step_8, e4, e1, nle T p (by omega) (by omega)]
      refine ⟨fun _ => kk μ (oc.rf _ _ _ _) ?_, fun h => absurd c' h⟩
      rw [rdRun_no _ _ (fun e => c e.1)]
      exact e4
theorem x_word {f : Nat → Int32} {T : Nat} {Q : qa_M → Prop} : ∀ (k p n : Nat) (μ : qa_M), TPX μ f T → p ≤ T → T ≤ p + k → k < n → μ.1 2 3 = nI 1 → μ.1 2 5 = nI p → (∀ μ', oc 2 5 5 μ μ' → μ'.1 2 5 = nI (rdRun rdL f T k p) → Q μ') → wX2_step_131 n μ Q := by
  intro k
  induction k with
  | zero =>
    intro p n μ h hp hT hn e3 e4 kk
    obtain ⟨n, rfl⟩ : ∃ m, n = m + 1 := ⟨n - 1, by omega⟩
    obtain ⟨h8, e1, -⟩ := h
    have c : T ≤ p := by omega
    rw [wX2_step_131, e4, e1, nle T p (by omega) (by omega)]
    exact ⟨fun _ => kk μ (oc.rf _ _ _ _) e4, fun h => absurd c h⟩
  | succ k ih =>
    intro p n μ h hp hT hn e3 e4 kk
    obtain ⟨n, rfl⟩ : ∃ m, n = m + 1 := ⟨n - 1, by omega⟩
    obtain ⟨h8, e1, hb⟩ := id h
    by_cases c : p < T
    · obtain ⟨b1, b2⟩ := hb p c
      have kr := rdK_rng (rdC (f p))
      rw [wX2_step_131, e4, e1, nle T p (by omega) (by omega), cl (by omega), b1, s_kind b2, e3, neq _ _ (by omega) (by omega), rdK_1]
      refine ⟨fun h => absurd h (by omega), fun _ => ⟨inN (by omega) (by omega), fun s => ?_, fun s => ⟨fun _ => ?_, fun z => absurd z (by decide)⟩⟩⟩
      · refine kk μ (oc.rf _ _ _ _) ?_
        rw [rdRun_no _ _ (fun e => s e.2)]
        exact e4
      · unfold wX2_step_198
        rw [nmM, e4, nI1]
        have o1 : oc 2 5 5 μ (qa_uI μ 2 5 (nI (p + 1))) := (oc.rf _ _ _ _).put _ (by omega)
        refine ih (p + 1) n _ (h.oc o1 (by omega)) (by omega) (by omega) (by omega) ((uIn _ _ (by omega)).trans e3) (uIs _ _ _ _) (fun μ' o' e' => kk μ' (o1.tr o') ?_)
        rw [rdRun_yes k p ⟨c, s⟩]
        exact e'
    · have c' : T ≤ p := by omega
      rw [wX2_step_131, e4, e1, nle T p (by omega) (by omega)]
      refine ⟨fun _ => kk μ (oc.rf _ _ _ _) ?_, fun h => absurd c' h⟩
      rw [rdRun_no _ _ (fun e => c e.1)]
      exact e4
theorem rd_min {C v c : Nat} (hC : C ≤ 1000000) (h : 48 ≤ c ∧ c ≤ 57) : (if (nI (min C v) * 10 + nI c) - 48 < nI C then (nI (min C v) * 10 + nI c) - 48 else nI C) = nI (min C (10 * v + (c - 48))) := by
  have e : (nI (min C v) * 10 + nI c) - 48 = nI (min C v * 10 + c - 48) := by
    rw [l10, pk_mul, nI_add, show (48 : Int32) = nI 48 from rfl, pk_sub (by omega)]
  rw [e]
  by_cases g : min C v * 10 + c - 48 < C
  · rw [if_pos (by rw [nlt _ _ (by omega) (by omega)]; exact g)]
    congr 1
    omega
  · rw [if_neg (by rw [nlt _ _ (by omega) (by omega)]; exact g)]
    congr 1
    omega
theorem x_numb {f : Nat → Int32} {T : Nat} {Q : qa_M → Prop} : ∀ (k p v n : Nat) (μ : qa_M), TPX μ f T → p ≤ T → T ≤ p + k → k < n → μ.1 2 3 = nI 2 → μ.1 2 5 = nI p → μ.1 2 6 = nI (min 1000000 v) → (∀ μ', oc 2 5 6 μ μ' → μ'.1 2 5 = nI (rdRun rdD f T k p) → μ'.1 2 6 = nI (min 1000000 (rdV f T k p v)) → Q μ') → wX2_step_131 n μ Q := by
  intro k
  induction k with
  | zero =>
    intro p v n μ h hp hT hn e3 e4 e6 kk
    obtain ⟨n, rfl⟩ : ∃ m, n = m + 1 := ⟨n - 1, by omega⟩
    obtain ⟨h8, e1, -⟩ := h
    have c : T ≤ p := by omega
    rw [wX2_step_131, e4, e1, nle T p (by omega) (by omega)]
    exact ⟨fun _ => kk μ (oc.rf _ _ _ _) e4 e6, fun h => absurd c h⟩
  | succ k ih =>
    intro p v n μ h hp hT hn e3 e4 e6 kk
    obtain ⟨n, rfl⟩ : ∃ m, n = m + 1 := ⟨n - 1, by omega⟩
    obtain ⟨h8, e1, hb⟩ := id h
    by_cases c : p < T
    · obtain ⟨b1, b2⟩ := hb p c
      have kr := rdK_rng (rdC (f p))
      rw [wX2_step_131, e4, e1, nle T p (by omega) (by omega), cl (by omega), b1, s_kind b2, e3, neq _ _ (by omega) (by omega), rdK_2]
      refine ⟨fun h => absurd h (by omega), fun _ => ⟨inN (by omega) (by omega), fun s => ?_, fun s => ⟨fun z => absurd (by decide) z, fun _ => ⟨?_, ?_⟩⟩⟩⟩
      · refine kk μ (oc.rf _ _ _ _) ?_ ?_
        · rw [rdRun_no _ _ (fun e => s e.2)]
          exact e4
        · rw [rdV_no _ _ _ (fun e => s e.2)]
          exact e6
      · rw [e4]; exact inN (by omega) (by omega)
      · have s' : 48 ≤ rdC (f p) ∧ rdC (f p) ≤ 57 := rdD_t.mp s
        have fp : f p = nI (rdC (f p)) := b2.num (by omega)
        rw [e4, cl (by omega), b1, e6, s_min, fp]
        have em := rd_min (C := 1000000) (v := v) (by omega) s'
        rw [show (1000000 : Int32) = nI 1000000 from rfl, em, nmM]
        unfold wX2_step_198
        rw [nmM]
        have o1 : oc 2 5 6 μ (qa_uI μ 2 6 (nI (min 1000000 (10 * v + (rdC (f p) - 48))))) := (oc.rf _ _ _ _).put _ (by omega)
        rw [uIn _ _ (by omega), e4, nI1]
        have o2 := o1.put (j := 5) (nI (p + 1)) (by omega)
        refine ih (p + 1) (10 * v + (rdC (f p) - 48)) n _ (h.oc o2 (by omega)) (by omega) (by omega) (by omega) ((uIn _ _ (by omega)).trans ((uIn _ _ (by omega)).trans e3)) (uIs _ _ _ _) ((uIn _ _ (by omega)).trans (uIs _ _ _ _)) (fun μ' o' e' e'' => kk μ' (o2.tr o') ?_ ?_)
        · rw [rdRun_yes k p ⟨c, s⟩]
          exact e'
        · rw [rdV_yes k p v ⟨c, s⟩]
          exact e''
    · have c' : T ≤ p := by omega
      rw [wX2_step_131, e4, e1, nle T p (by omega) (by omega)]
      refine ⟨fun _ => kk μ (oc.rf _ _ _ _) ?_ ?_, fun h => absurd c' h⟩
      · rw [rdRun_no _ _ (fun e => c e.1)]
        exact e4
      · rw [rdV_no _ _ _ (fun e => c e.1)]
        exact e6
theorem x_101a {n k : Nat} {μ : qa_M} {Q : qa_M → Prop} (hk : k = 0 ∨ k = 1 ∨ k = 2) (h : wX2_step_131 n (qa_uI μ 2 3 (nI k)) Q) : wX2_step_101 n (nI k) μ Q := by
  unfold wX2_step_101
  rw [nmM, uIs]
  refine ⟨fun z => absurd z ?_, fun _ => ⟨fun _ => h, fun z => absurd z ?_⟩⟩
  · rcases hk with rfl | rfl | rfl <;> decide
  · rcases hk with rfl | rfl | rfl <;> decide
theorem x_101b {n k : Nat} {μ : qa_M} {Q : qa_M → Prop} (hk : k = 3 ∨ k = 4) (h : Q (qa_uI (qa_uI μ 2 3 (nI k)) 2 5 (μ.1 2 5 + 1))) : wX2_step_101 n (nI k) μ Q := by
  unfold wX2_step_101 wX2_step_120
  rw [nmM, uIs, nmM, uIn (b := 2) (j := 5) _ _ (by omega)]
  rcases hk with rfl | rfl
  · exact ⟨fun _ => h, fun z => absurd (by decide) z⟩
  · exact ⟨fun z => absurd z (by decide), fun _ => ⟨fun z => absurd (by decide) z, fun _ => h⟩⟩
def SX (μ : qa_M) (s : Tk) : Prop := μ.1 2 3 = nI s.1 ∧ μ.1 2 4 = nI s.2.1 ∧ μ.1 2 5 = nI s.2.2.1 ∧ (s.1 = 2 → μ.1 2 6 = nI (min 1000000 s.2.2.2))
theorem x_step0 {f : Nat → Int32} {T p n : Nat} {μ : qa_M} {Q : qa_M → Prop} (h : TPX μ f T) (hp : p ≤ T) (hn : 810 < n) (e5 : μ.1 2 5 = nI p) (kk : ∀ μ', oc 2 3 6 μ μ' → SX μ' (rdT f T p) → Q μ') : wX2_step n μ Q := by
  have h8 := h.1
  unfold wX2_step
  rw [nmM, e5]
  have o1 : oc 2 3 6 μ (qa_uI μ 2 4 (nI p)) := (oc.rf _ _ _ _).put _ (by omega)
  refine x_skip T p n _ (h.oc o1 (by omega)) hp (by omega) (by omega) (uIs _ _ _ _) (fun μ1 q1 e4 => ?_)
  have o2 := o1.tr (q1.wide (lo' := 3) (hi' := 6) (by omega) (by omega))
  have ha := rdRun_le (q := rdS) (f := f) T p hp
  unfold rdT at kk
  generalize rdRun rdS f T T p = a at e4 ha kk
  rw [nmM, e4, nmM]
  have o3 := (o2.put (j := 5) (nI a) (by omega)).put (j := 6) (0 : Int32) (by omega)
  have t3 := h.oc o3 (by omega)
  have f4 : (qa_uI (qa_uI μ1 2 5 (nI a)) 2 6 0).1 2 4 = nI a := (uIn _ _ (by omega)).trans ((uIn _ _ (by omega)).trans e4)
  have f5 : (qa_uI (qa_uI μ1 2 5 (nI a)) 2 6 0).1 2 5 = nI a := (uIn _ _ (by omega)).trans (uIs _ _ _ _)
  have f6 : (qa_uI (qa_uI μ1 2 5 (nI a)) 2 6 0).1 2 6 = 0 := uIs _ _ _ _
  generalize qa_uI (qa_uI μ1 2 5 (nI a)) 2 6 0 = μ2 at o3 t3 f4 f5 f6
  obtain ⟨-, f1, hb⟩ := id t3
  rw [f4, f1, nle T a (by omega) (by omega)]
  refine ⟨fun c => ?_, fun c => ⟨inN (by omega) (by omega), ?_⟩⟩
  · refine x_101a (k := 0) (Or.inl rfl) ?_
    have o4 := o3.put (j := 3) (nI 0) (by omega)
    have g1 : (qa_uI μ2 2 3 (nI 0)).1 2 1 = nI T := (uIn _ _ (by omega)).trans f1
    have g5 : (qa_uI μ2 2 3 (nI 0)).1 2 5 = nI a := (uIn _ _ (by omega)).trans f5
    obtain ⟨m, rfl⟩ : ∃ m, n = m + 1 := ⟨n - 1, by omega⟩
    rw [wX2_step_131, g1, g5, nle T a (by omega) (by omega)]
    refine ⟨fun _ => kk _ o4 ?_, fun z => absurd c z⟩
    unfold rdA
    rw [if_neg (by omega)]
    exact ⟨uIs _ _ _ _, (uIn _ _ (by omega)).trans f4, g5, fun e => by simp at e⟩
  · have c : a < T := by omega
    obtain ⟨b1, b2⟩ := hb a c
    rw [cl (by omega), b1, s_kind b2]
    unfold rdA at kk
    rw [if_pos c] at kk
    unfold rdK
    by_cases l : rdL (rdC (f a)) = true
    · rw [if_pos l] at kk ⊢
      refine x_101a (k := 1) (Or.inr (Or.inl rfl)) ?_
      have o4 := o3.put (j := 3) (nI 1) (by omega)
      refine x_word T a n _ (h.oc o4 (by omega)) ha (by omega) (by omega) (uIs _ _ _ _) ((uIn _ _ (by omega)).trans f5) (fun μ3 o5 g1 => ?_)
      refine kk _ (o4.tr (o5.wide (by omega) (by omega))) ?_
      exact ⟨(o5.2 _ _ (by omega)).trans (uIs _ _ _ _), (o5.2 _ _ (by omega)).trans ((uIn _ _ (by omega)).trans f4), g1, fun e => by simp at e⟩
    · rw [if_neg l] at kk ⊢
      by_cases d : rdD (rdC (f a)) = true
      · rw [if_pos d] at kk ⊢
        refine x_101a (k := 2) (Or.inr (Or.inr rfl)) ?_
        have o4 := o3.put (j := 3) (nI 2) (by omega)
        refine x_numb T a 0 n _ (h.oc o4 (by omega)) ha (by omega) (by omega) (uIs _ _ _ _) ((uIn _ _ (by omega)).trans f5) ((uIn _ _ (by omega)).trans f6) (fun μ3 o5 g1 g2 => ?_)
        refine kk _ (o4.tr (o5.wide (by omega) (by omega))) ?_
        exact ⟨(o5.2 _ _ (by omega)).trans (uIs _ _ _ _), (o5.2 _ _ (by omega)).trans ((uIn _ _ (by omega)).trans f4), g1, fun _ => g2⟩
      · rw [if_neg d] at kk ⊢
        by_cases g : rdC (f a) = 59
        · rw [if_pos g] at kk ⊢
          refine x_101b (k := 3) (Or.inl rfl) ?_
          rw [f5, nI1]
          refine kk _ ((o3.put _ (by omega)).put _ (by omega)) ?_
          exact ⟨(uIn _ _ (by omega)).trans (uIs _ _ _ _), (uIn _ _ (by omega)).trans ((uIn _ _ (by omega)).trans f4), uIs _ _ _ _, fun e => by simp at e⟩
        · rw [if_neg g] at kk ⊢
          refine x_101b (k := 4) (Or.inr rfl) ?_
          rw [f5, nI1]
          refine kk _ ((o3.put _ (by omega)).put _ (by omega)) ?_
          exact ⟨(uIn _ _ (by omega)).trans (uIs _ _ _ _), (uIn _ _ (by omega)).trans ((uIn _ _ (by omega)).trans f4), uIs _ _ _ _, fun e => by simp at e⟩
