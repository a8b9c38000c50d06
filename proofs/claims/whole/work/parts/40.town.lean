/-- a town as m writes it, in order: its numbers -/
def RG (w : Nat → Int32) (ln wk k H np ns nl na : Nat) : Prop :=
  (w 9 = nI ln ∧ w 0 = nI wk ∧ w 2 = nI k ∧ w 4 = nI H ∧ w 5 = nI np ∧ w 6 = nI ns ∧ w 7 = nI nl ∧ w 8 = nI na) ∧
  (ln < 1000 ∧ wk ≤ 20 ∧ k ≤ 30 ∧ H ≤ 8 ∧ np ≤ 10 ∧ ns ≤ 4 ∧ nl ≤ 8 ∧ na ≤ 30) ∧
  ((∃ o, o ≤ 10 ∧ w 3 = nI o) ∧ (w 1 = 0 ∨ w 1 = 1 ∨ w 1 = 2 ∨ w 1 = 3) ∧ (0 < ln → 1 ≤ wk ∧ 1 ≤ k) ∧ (ln = 0 → wk = 0 ∧ H = 0 ∧ nl = 0)) ∧
  ((∀ h, h < H → (∃ p, p ≤ 40 ∧ w (10 + 2 * h) = nI p) ∧ (w (11 + 2 * h) = 0 ∨ w (11 + 2 * h) = 1)) ∧ (∀ h, H ≤ h → h < 8 → w (11 + 2 * h) = 0)) ∧
  (∀ i, i < np → (∃ p, p < 8 ∧ w (26 + 3 * i) = nI p) ∧ (∃ s, s ≤ 20 ∧ w (27 + 3 * i) = nI s) ∧ ∃ s, s ≤ 20 ∧ w (28 + 3 * i) = nI s) ∧
  (∀ i, i < ns → ∃ s, s < 20 ∧ w (56 + i) = nI s) ∧
  (∀ i, i < nl → (∃ h, h < H ∧ w (60 + 3 * i) = nI h) ∧ (∃ p, p < 8 ∧ w (61 + 3 * i) = nI p) ∧ ∃ v, v < 20 ∧ w (62 + 3 * i) = nI v) ∧
  ∀ i, i < na → (∃ h v, h < H ∧ v < wk ∧ w (84 + i) = nI (10000 + 100 * h + v)) ∨ ∃ a b v, a < H ∧ b < H ∧ a ≠ b ∧ v < wk ∧ w (84 + i) = nI (1000 * a + 100 * b + v)
def exW (w : Nat → Int32) (i : Nat) : Option (Nat × Nat × Nat) := if (w (84 + i)).toNatClampNeg < 10000 then some ((w (84 + i)).toNatClampNeg / 1000, (w (84 + i)).toNatClampNeg / 100 % 10, (w (84 + i)).toNatClampNeg % 100) else none
theorem exW_swap {w : Nat → Int32} {i a b v : Nat} (ha : a < 8) (hb : b < 8) (hv : v < 20) (h : w (84 + i) = nI (1000 * a + 100 * b + v)) : exW w i = some (a, b, v) := by
  unfold exW
  rw [h, cl (by omega), if_pos (by omega)]
  congr 1
  refine Prod.ext (by show _ / 1000 = a; omega) (Prod.ext (by show _ / 100 % 10 = b; omega) (by show _ % 100 = v; omega))
theorem exW_rest {w : Nat → Int32} {i h v : Nat} (hh : h < 8) (hv : v < 20) (e : w (84 + i) = nI (10000 + 100 * h + v)) : exW w i = none := by
  unfold exW
  rw [e, cl (by omega), if_neg (by omega)]
/-- weeks of swaps, as bits -/
def swapW (w : Nat → Int32) (k : Nat) : Int32 := itr (fun i s => match exW w i with
  | some q => s ||| ((1 : Int32) <<< (nI q.2.2 &&& 31))
  | none => s) 0 k 0
/-- a town as x keeps it at t -/
def TX (μ : qa_M) (t : Nat) (w : Nat → Int32) (ln wk k H np ns nl na : Nat) : Prop :=
  (μ.1 t 0 = nI ln ∧ μ.1 t 1 = nI wk ∧ μ.1 t 2 = w 1 ∧ μ.1 t 3 = nI k ∧ μ.1 t 4 = w 3 ∧ μ.1 t 5 = nI H ∧ μ.1 t 6 = nI np ∧ μ.1 t 7 = nI ns ∧ μ.1 t 8 = nI nl ∧ μ.1 t 9 = leanW w ∧ μ.1 t 10 = snowW w ns) ∧
  ((∀ h, h < H → μ.1 (t + 1) h = w (10 + 2 * h)) ∧ (∀ p, p < 8 → μ.1 (t + 2) p = sunW w np p) ∧ (∀ p, p < 8 → μ.1 (t + 3) p = smellW w np p)) ∧
  (∀ i, i < nl → μ.1 (t + 4) i = w (60 + 3 * i) ∧ μ.1 (t + 5) i = w (61 + 3 * i) ∧ μ.1 (t + 6) i = w (62 + 3 * i)) ∧
  (μ.1 (t + 7) 0 = nI na ∧ μ.1 (t + 7) 5 = swapW w na ∧ (∀ j, j < 20 → μ.1 (t + 11) j = restW w na j)) ∧
  ∀ i, i < na → (∃ h v, h < H ∧ v < wk ∧ w (84 + i) = nI (10000 + 100 * h + v) ∧ μ.1 (t + 8) i = nI h ∧ μ.1 (t + 9) i = -1 ∧ μ.1 (t + 10) i = nI v) ∨ ∃ a b v, a < H ∧ b < H ∧ a ≠ b ∧ v < wk ∧ w (84 + i) = nI (1000 * a + 100 * b + v) ∧ μ.1 (t + 8) i = nI a ∧ μ.1 (t + 9) i = nI b ∧ μ.1 (t + 10) i = nI v
theorem TX.mono {μ μ' : qa_M} {t : Nat} {w w' : Nat → Int32} {ln wk k H np ns nl na : Nat} (h : TX μ t w ln wk k H np ns nl na) (e : ∀ j x, j ≤ 11 → μ'.1 (t + j) x = μ.1 (t + j) x) (ew : w' = w) : TX μ' t w' ln wk k H np ns nl na := by
  subst ew
  obtain ⟨⟨a0, a1, a2, a3, a4, a5, a6, a7, a8, a9, a10⟩, ⟨b1, b2, b3⟩, c, ⟨d1, d2, d3⟩, f⟩ := h
  have e0 : ∀ x, μ'.1 t x = μ.1 t x := fun x => e 0 x (by omega)
  refine ⟨⟨by rw [e0]; exact a0, by rw [e0]; exact a1, by rw [e0]; exact a2, by rw [e0]; exact a3, by rw [e0]; exact a4, by rw [e0]; exact a5, by rw [e0]; exact a6, by rw [e0]; exact a7, by rw [e0]; exact a8, by rw [e0]; exact a9, by rw [e0]; exact a10⟩, ⟨fun h hh => by rw [e 1 _ (by omega)]; exact b1 h hh, fun h hh => by rw [e 2 _ (by omega)]; exact b2 h hh, fun h hh => by rw [e 3 _ (by omega)]; exact b3 h hh⟩, fun i hi => ⟨by rw [e 4 _ (by omega)]; exact (c i hi).1, by rw [e 5 _ (by omega)]; exact (c i hi).2.1, by rw [e 6 _ (by omega)]; exact (c i hi).2.2⟩, ⟨by rw [e 7 _ (by omega)]; exact d1, by rw [e 7 _ (by omega)]; exact d2, fun j hj => by rw [e 11 _ (by omega)]; exact d3 j hj⟩, fun i hi => ?_⟩
  rw [e 8 _ (by omega), e 9 _ (by omega), e 10 _ (by omega)]
  exact f i hi
/-! bits -/
theorem bt_or (a b : Int32) (k : Nat) : bt (a ||| b) k = bt a k ||| bt b k := by
  unfold bt
  apply Int32.toBitVec_inj.mp
  simp only [Int32.toBitVec_and, Int32.toBitVec_or, Int32.toBitVec_shiftRight, BitVec.sshiftRight_or_distrib, BitVec.sshiftRight_eq']
  generalize BitVec.sshiftRight a.toBitVec _ = x
  generalize BitVec.sshiftRight b.toBitVec _ = y
  ext i
  simp [Bool.and_or_distrib_right]
theorem bt_one : ∀ k, k < 32 → bt ((1 : Int32) <<< (nI k &&& 31)) k = 1 := by decide
