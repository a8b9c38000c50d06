theorem tw31 {t : Nat} (h : qa_tw t) : t ≠ 31 := by rcases h with rfl | rfl | rfl | rfl | rfl <;> decide
def onlyP (μ μ' : qa_M) : Prop := μ'.2 = μ.2 ∧ ∀ b j, b ≠ 31 → μ'.1 b j = μ.1 b j
theorem x_asTold {n t : Nat} {w : Nat → Int32} {μ : qa_M} {Q : qa_M → Prop} (ht : qa_tw t) (T : TZ μ t w) (kk : ∀ μ', onlyP μ μ' → PLN μ' w (zW w) (oT w) → Q μ') : wX1_asTold n t μ Q := by
  have h31 := tw31 ht
  obtain ⟨⟨a0, a1, a2, a3, a4, a5, a6, a7, a8, a9, a10⟩, -⟩ := T
  unfold wX1_asTold
  simp only [nmM, uI1, h31, false_and, if_false]
  refine kk _ ⟨rfl, fun b j hb => ?_⟩ ⟨?_, ?_, ?_, ?_, ?_, Or.inl ⟨?_, rfl⟩, ?_⟩
  · simp only [uI1, hb, false_and, if_false]
  · simp only [uI1]; exact a2
  · simp only [uI1]; exact a3
  · simp only [uI1]; exact a9
  · simp only [uI1]; exact a10
  · simp only [uI1]; rfl
  · simp only [uI1]; rfl
  · simp only [uI1]; exact a1
section PU
variable {μ : qa_M} {w : Nat → Int32} {U : Nat} {o : OV}
theorem PLN.law (P : PLN μ w U o) (x : Int32) : PLN (qa_uI μ 31 0 x) w U (x, o.2) := by
  obtain ⟨p0, p1, p2, p3, p4, p5, p7⟩ := P
  exact ⟨uIs _ _ _ _, p1, p2, p3, p4, p5, p7⟩
theorem PLN.heavy (P : PLN μ w U o) (h : Nat) : PLN (qa_uI μ 31 1 (nI h)) w U (o.1, h, o.2.2) := by
  obtain ⟨p0, p1, p2, p3, p4, p5, p7⟩ := P
  exact ⟨p0, uIs _ _ _ _, p2, p3, p4, p5, p7⟩
theorem PLN.lean (P : PLN μ w U o) (x : Int32) : PLN (qa_uI μ 31 2 x) w U (o.1, o.2.1, x, o.2.2.2) := by
  obtain ⟨p0, p1, p2, p3, p4, p5, p7⟩ := P
  exact ⟨p0, p1, uIs _ _ _ _, p3, p4, p5, p7⟩
theorem PLN.snow (P : PLN μ w U o) (x : Int32) : PLN (qa_uI μ 31 3 x) w U (o.1, o.2.1, o.2.2.1, x, o.2.2.2.2) := by
  obtain ⟨p0, p1, p2, p3, p4, p5, p7⟩ := P
  exact ⟨p0, p1, p2, uIs _ _ _ _, p4, p5, p7⟩
theorem PLN.stay (P : PLN μ w U o) (x : Int32) : PLN (qa_uI μ 31 4 x) w U (o.1, o.2.1, o.2.2.1, o.2.2.2.1, x, o.2.2.2.2.2) := by
  obtain ⟨p0, p1, p2, p3, p4, p5, p7⟩ := P
  exact ⟨p0, p1, p2, p3, uIs _ _ _ _, p5, p7⟩
theorem PLN.first (P : PLN μ w U o) {a b : Nat} (ha : a < zH w) (hb : b < zH w) : PLN (qa_uI (qa_uI μ 31 5 (nI a)) 31 6 (nI b)) w U (o.1, o.2.1, o.2.2.1, o.2.2.2.1, o.2.2.2.2.1, swp a b id) := by
  obtain ⟨p0, p1, p2, p3, p4, p5, p7⟩ := P
  exact ⟨p0, p1, p2, p3, p4, Or.inr ⟨a, b, ha, hb, rfl, uIs _ _ _ _, rfl⟩, p7⟩
theorem PLN.til (P : PLN μ w U o) (x : Nat) : PLN (qa_uI μ 31 7 (nI x)) w x o := by
  obtain ⟨p0, p1, p2, p3, p4, p5, p7⟩ := P
  exact ⟨p0, p1, p2, p3, p4, p5, uIs _ _ _ _⟩
theorem MS.law (P : MS μ w o) (x : Int32) : MS (qa_uI μ 91 20 x) w (x, o.2) := by
  obtain ⟨p0, p1, p2, p3, p4, p5, p6, p7, p8⟩ := P
  exact ⟨uIs _ _ _ _, p1, p2, p3, p4, p5, p6, p7, p8⟩
theorem MS.heavy (P : MS μ w o) (h : Nat) : MS (qa_uI μ 91 21 (nI h)) w (o.1, h, o.2.2) := by
  obtain ⟨p0, p1, p2, p3, p4, p5, p6, p7, p8⟩ := P
  exact ⟨p0, uIs _ _ _ _, p2, p3, p4, p5, p6, p7, p8⟩
theorem MS.lean (P : MS μ w o) (x : Int32) : MS (qa_uI μ 91 18 x) w (o.1, o.2.1, x, o.2.2.2) := by
  obtain ⟨p0, p1, p2, p3, p4, p5, p6, p7, p8⟩ := P
  exact ⟨p0, p1, uIs _ _ _ _, p3, p4, p5, p6, p7, p8⟩
theorem MS.snow (P : MS μ w o) (x : Int32) : MS (qa_uI μ 91 19 x) w (o.1, o.2.1, o.2.2.1, x, o.2.2.2.2) := by
  obtain ⟨p0, p1, p2, p3, p4, p5, p6, p7, p8⟩ := P
  exact ⟨p0, p1, p2, uIs _ _ _ _, p4, p5, p6, p7, p8⟩
theorem MS.stay (P : MS μ w o) (x : Int32) : MS (qa_uI μ 91 22 x) w (o.1, o.2.1, o.2.2.1, o.2.2.2.1, x, o.2.2.2.2.2) := by
  obtain ⟨p0, p1, p2, p3, p4, p5, p6, p7, p8⟩ := P
  exact ⟨p0, p1, p2, p3, uIs _ _ _ _, p5, p6, p7, p8⟩
theorem MS.first (P : MS μ w o) {a b : Nat} (ha : a < zH w) (hb : b < zH w) : MS (qa_uI (qa_uI μ 91 23 (nI a)) 91 24 (nI b)) w (o.1, o.2.1, o.2.2.1, o.2.2.2.1, o.2.2.2.2.1, swp a b id) := by
  obtain ⟨p0, p1, p2, p3, p4, p5, p6, p7, p8⟩ := P
  exact ⟨p0, p1, p2, p3, p4, Or.inr ⟨a, b, ha, hb, rfl, uIs _ _ _ _, rfl⟩, p6, p7, p8⟩
/-- what no override touches -/
theorem MS.other (P : MS μ w o) {b : Nat} (j : Nat) (x : Int32) (hb : (b ≠ 91 ∨ j < 18 ∨ 24 < j) ∧ b ≠ 98 ∧ b ≠ 99 ∧ b ≠ 100) : MS (qa_uI μ b j x) w o := by
  obtain ⟨p0, p1, p2, p3, p4, p5, p6, p7, p8⟩ := P
  have e91 : ∀ j', 18 ≤ j' → j' ≤ 24 → (qa_uI μ b j x).1 91 j' = μ.1 91 j' := fun j' h1 h2 => uIn _ _ (fun e => by omega)
  exact ⟨by rw [e91 _ (by omega) (by omega)]; exact p0, by rw [e91 _ (by omega) (by omega)]; exact p1, by rw [e91 _ (by omega) (by omega)]; exact p2, by rw [e91 _ (by omega) (by omega)]; exact p3, by rw [e91 _ (by omega) (by omega)]; exact p4, by rw [e91 _ (by omega) (by omega), e91 _ (by omega) (by omega)]; exact p5, fun p hp => by rw [uIn _ _ (fun e => by omega)]; exact p6 p hp, fun p hp => by rw [uIn _ _ (fun e => by omega)]; exact p7 p hp, fun p hp => by rw [uIn _ _ (fun e => by omega)]; exact p8 p hp⟩
end PU
theorem sc.pln {μ μ1 μ2 : qa_M} (h : sc μ μ1) (o : onlyP μ1 μ2) : sc μ μ2 := h.tr ⟨by rw [o.1], fun b j h1 h2 h3 h4 => o.2 b j h1, ⟨o.2 _ _ (by omega), o.2 _ _ (by omega), o.2 _ _ (by omega)⟩, fun b j _ _ => by rw [o.1]⟩
theorem INV.tw {μ : qa_M} (I : INV μ) : qa_tw (μ.2.2 1 2) := I.1.2.1
/-- x tries a year -/
theorem x_try {n U : Nat} {w : Nat → Int32} {o : OV} {μ0 μ : qa_M} {Q : qa_M → Prop} (I : INV μ0) (hw : μ0.1 92 = w) (s : sc μ0 μ) (P : PLN μ w U o) (hU : U ≤ zW w) (hlaw : 0 < U → (1 ≤ o.2.1 ∧ o.2.1 ≤ 30) ∧ (o.1 = 0 ∨ o.1 = 1 ∨ o.1 = 2 ∨ o.1 = 3)) (hn : 60 < n)
    (kk : ∀ μ', sc μ0 μ' → YR μ' 38 39 40 41 U w o → Q μ') : wX7_follow n 37 (μ.2.2 1 2) μ Q := by
  have I' := I.sc s
  have hw' : μ.1 92 = w := s.w.trans hw
  obtain ⟨r, T, -, -⟩ := I'.facts hw'
  exact x_year I'.tw (Or.inr rfl) r T P hU hlaw hn (fun μ' o' Y => kk μ' (s.tr' o') Y)
/-- m tries a year -/
theorem m_try {n : Nat} {w : Nat → Int32} {o : OV} {μ0 μ : qa_M} {Q : qa_M → Prop} (r : RZ w) (hw : μ0.1 92 = w) (s : sc μ0 μ) (M : MS μ w o) (hk : 0 < zW w → (1 ≤ o.2.1 ∧ o.2.1 ≤ 30)) (hn : 60 < n)
    (kk : ∀ μ', sc μ0 μ' → μ'.1 92 = w → MS μ' w o → onlyY 101 102 103 104 μ μ' → ME μ' (zH w) (zW w) (yp w o) (ypp w o) (yfo w o) (ytu w o) (sunW w (zP w)) (smellW w (zP w)) → Q μ') : wX9_goAll n μ Q := by
  have hw' : μ.1 92 = w := s.w.trans hw
  refine m_year hw' r M hk hn (fun μ2 o2 y2 => ?_)
  have s2 := s.yr o2
  have h2 : μ2.1 92 = w := s2.w.trans hw
  obtain ⟨m1, m2, m3, m4, m5, m6, m7, m8, m9⟩ := M
  have e91 : ∀ j, μ2.1 91 j = μ.1 91 j := fun j => o2.2 _ _ (by omega) (by omega) (by omega) (by omega)
  have M2 : MS μ2 w o := ⟨by rw [e91]; exact m1, by rw [e91]; exact m2, by rw [e91]; exact m3, by rw [e91]; exact m4, by rw [e91]; exact m5, by rw [e91, e91]; exact m6, fun p hp => by rw [o2.2 _ _ (by omega) (by omega) (by omega) (by omega)]; exact m7 p hp, fun p hp => by rw [o2.2 _ _ (by omega) (by omega) (by omega) (by omega)]; exact m8 p hp, fun p hp => by rw [o2.2 _ _ (by omega) (by omega) (by omega) (by omega)]; exact m9 p hp⟩
  refine kk μ2 s2 h2 M2 o2 (MEZ.of r h2 M2 y2 ?_)
  rcases m6 with ⟨-, -, e⟩ | ⟨a, b, ha, hb, -, -, e⟩
  · exact Or.inl e
  · exact Or.inr ⟨a, b, ha, hb, e⟩
/-- bounds of sun -/
theorem aSun_rng {pl : Nat → Nat → Nat} {su : Nat → Int32} (hs : ∀ p, ∃ s, s ≤ 20 ∧ su p = nI s) (h k : Nat) (hk : k ≤ 20) : ∃ q, q ≤ 420 ∧ aSun pl su h k = nI q := by
  have : ∀ m, m ≤ 21 → ∃ q, q ≤ 20 * m ∧ itr (fun j s => s + su (pl j h)) 0 m 0 = nI q := by
    intro m
    induction m with
    | zero => exact fun _ => ⟨0, by omega, rfl⟩
    | succ m ih =>
      intro hm
      obtain ⟨q, q1, q2⟩ := ih (by omega)
      obtain ⟨s, s1, s2⟩ := hs (pl m h)
      refine ⟨q + s, by omega, ?_⟩
      rw [itr_succ, Nat.zero_add, q2, s2, nI_add]
  obtain ⟨q, q1, q2⟩ := this (k + 1) (by omega)
  exact ⟨q, by omega, q2⟩
theorem span_rng {pl : Nat → Nat → Nat} {su : Nat → Int32} (hs : ∀ p, ∃ s, s ≤ 20 ∧ su p = nI s) (H k : Nat) (hk : k ≤ 20) : -420 ≤ (spanV (fun h => aSun pl su h k) H).toInt ∧ (spanV (fun h => aSun pl su h k) H).toInt ≤ 420 := by
  unfold spanV
  split
  · decide
  · obtain ⟨a, a1, a2⟩ := aSun_rng (pl := pl) hs (topI (fun h => aSun pl su h k) H) k hk
    obtain ⟨b, b1, b2⟩ := aSun_rng (pl := pl) hs (lowI (fun h => aSun pl su h k) H) k hk
    have e1 : (nI a).toInt = a := nI_toInt (by omega)
    have e2 : (nI b).toInt = b := nI_toInt (by omega)
    show -420 ≤ (aSun pl su (topI (fun h => aSun pl su h k) H) k - aSun pl su (lowI (fun h => aSun pl su h k) H) k).toInt ∧ (aSun pl su (topI (fun h => aSun pl su h k) H) k - aSun pl su (lowI (fun h => aSun pl su h k) H) k).toInt ≤ 420
    rw [a2, b2, fb_subI (by omega) (by omega)]
    omega
def bcX (v : Int32) : Int32 :=
  let x1 := (v - ((v.toUInt32 >>> ((1 : Int32).toUInt32 &&& Int32.toUInt32 31)).toInt32 &&& (1431655765 : Int32)))
  let x2 := ((x1 &&& (858993459 : Int32)) + ((x1.toUInt32 >>> ((2 : Int32).toUInt32 &&& Int32.toUInt32 31)).toInt32 &&& (858993459 : Int32)))
  let x3 := ((x2 + (x2.toUInt32 >>> ((4 : Int32).toUInt32 &&& Int32.toUInt32 31)).toInt32) &&& (252645135 : Int32))
  let x4 := (x3 + (x3.toUInt32 >>> ((8 : Int32).toUInt32 &&& Int32.toUInt32 31)).toInt32)
  let x5 := (x4 + (x4.toUInt32 >>> ((16 : Int32).toUInt32 &&& Int32.toUInt32 31)).toInt32)
  x5 &&& (63 : Int32)
/-- bits set, of 8 -/
def bcN (k : Nat) : Nat := k % 2 + k / 2 % 2 + k / 4 % 2 + k / 8 % 2 + k / 16 % 2 + k / 32 % 2 + k / 64 % 2 + k / 128 % 2
theorem bcX_eq : ∀ k, k < 256 → bcX (nI k) = nI (bcN k) := by decide +kernel
theorem bcM_eq : ∀ k, k < 256 → itr (fun j s => s + ((nI k >>> (nI j &&& 31)) &&& 1)) 0 20 0 = nI (bcN k) := by decide +kernel
theorem bcN_le (k : Nat) : bcN k ≤ 8 := by
  unfold bcN
  omega
theorem s_bitCount {n k : Nat} {μ : qa_M} {Q : Int32 → qa_M → Prop} (hk : k < 256) : wJ6_bitCount_0f7a4 n (nI k) μ Q ↔ Q (nI (bcN k)) μ := by
  rw [← bcX_eq k hk]
  unfold wJ6_bitCount_0f7a4
  simp only [nmM]
  exact Iff.rfl
theorem s_bits {n k : Nat} {μ : qa_M} {Q : Int32 → qa_M → Prop} (hk : k < 256) (hn : 25 < n) : wX9_bits n (nI k) μ Q ↔ Q (nI (bcN k)) μ := by
  rw [← bcM_eq k hk]
  unfold wX9_bits
  refine for_iff 0 (fun n i s => wX9_bits_4 n (nI k) s i μ Q) (fun s => Q s μ) 20 (fun j s => s + ((nI k >>> (nI j &&& 31)) &&& 1)) (fun _ _ => True) ?_ ?_ (fun _ _ _ _ => trivial) 20 0 0 n (by omega) (by omega) trivial
  · intro n s _ _
    show wX9_bits_4 (n + 1) _ _ _ _ _ ↔ _
    rw [wX9_bits_4]
    exact ⟨fun h => h.1 (by decide), fun h => ⟨fun _ => h, fun z => absurd (by decide) z⟩⟩
  · intro n i s _ hi _
    show wX9_bits_4 (n + 1) _ _ _ _ _ ↔ _
    rw [wX9_bits_4, l20, nle _ _ (by decide) (by omega)]
    simp only [show ¬ 20 ≤ i by omega, not_false_eq_true, false_implies, true_implies, true_and, nmM, nI1]
theorem bit8 : ∀ j, j < 8 → (1 : Int32) <<< (nI j &&& 31) = nI (2 ^ j) := by decide
theorem or256 {a b : Nat} (ha : a < 256) (hb : b < 256) : a ||| b < 256 := Nat.or_lt_two_pow (n := 8) ha hb
theorem pow256 {j : Nat} (h : j < 8) : 2 ^ j < 256 := Nat.pow_lt_pow_right (m := j) (n := 8) (by decide) h
theorem rgs_rng {pl : Nat → Nat → Nat} {W : Nat} {lh lp lw : Nat → Nat} {L : Nat} (hL : L ≤ 8) : ∃ k, k < 256 ∧ rgs pl W lh lp lw L = nI k := by
  refine itr_inv (fun _ (x : Int32) => ∃ k, k < 256 ∧ x = nI k) L 0 0 ⟨0, by omega, rfl⟩ (fun j x _ hj hx => ?_)
  obtain ⟨k, k1, rfl⟩ := hx
  split
  · exact ⟨k, k1, rfl⟩
  · rw [bit8 j (by omega), fa_or]
    exact ⟨_, or256 k1 (pow256 (by omega)), rfl⟩
