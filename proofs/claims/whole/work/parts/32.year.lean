theorem ixX (w h : Nat) : (nI w * (8 : Int32)) + nI h = nI (w * 8 + h) := by rw [l8, pk_mul, nI_add]
theorem ixM (w h : Nat) : ((8 : Int32) * nI w) + nI h = nI (w * 8 + h) := by rw [l8, pk_mul, nI_add, Nat.mul_comm]
theorem inN {k N : Nat} (h : k < N) (hN : N < 2 ^ 31) : vp_in (nI k) N := vp_in_nI h hN
section SY
variable {n : Nat} {μ : qa_M} {Q : Int32 → qa_M → Prop}
theorem s_spot {v h w : Nat} (hh : w * 8 + h < 168) : wX7_spot n v (nI h) (nI w) μ Q ↔ Q (μ.1 (v + 1) (w * 8 + h)) μ := by
  unfold wX7_spot
  rw [ixX, cl (by omega)]
  exact ⟨fun q => q.2, fun q => ⟨inN hh (by decide), q⟩⟩
theorem s_effort {v h w : Nat} (hh : w * 8 + h < 160) : wX7_effort n v (nI h) (nI w) μ Q ↔ Q (μ.1 (v + 2) (w * 8 + h)) μ := by
  unfold wX7_effort
  rw [ixX, cl (by omega)]
  exact ⟨fun q => q.2, fun q => ⟨inN hh (by decide), q⟩⟩
theorem s_placeOf {h w : Nat} (hh : w * 8 + h < 168) : wX9_placeOf n (nI h) (nI w) μ Q ↔ Q (μ.1 101 (w * 8 + h)) μ := by
  unfold wX9_placeOf
  rw [ixM, cl (by omega)]
  exact ⟨fun q => q.2, fun q => ⟨inN hh (by decide), q⟩⟩
theorem s_pushOf {h w : Nat} (hh : w * 8 + h < 160) : wX9_pushOf n (nI h) (nI w) μ Q ↔ Q (μ.1 102 (w * 8 + h)) μ := by
  unfold wX9_pushOf
  rw [ixM, cl (by omega)]
  exact ⟨fun q => q.2, fun q => ⟨inN hh (by decide), q⟩⟩
end SY
/-! ===== the year, as a value ===== -/
def bt (s : Int32) (k : Nat) : Int32 := (s >>> (nI k &&& 31)) &&& 1
theorem and1 (x : Int32) : x &&& 1 = 0 ∨ x &&& 1 = 1 := by
  obtain ⟨j, hj, e⟩ := pk_andE x (m := 1) 1 (by decide)
  rw [e]
  have : j = 0 ∨ j = 1 := by omega
  rcases this with rfl | rfl
  · left; rfl
  · right; rfl
theorem bt01 (s : Int32) (k : Nat) : bt s k = 0 ∨ bt s k = 1 := and1 _
theorem bt_n0 {s : Int32} {k : Nat} : ¬ bt s k = 0 ↔ bt s k = 1 := by
  rcases bt01 s k with h | h <;> rw [h] <;> decide
theorem bt_n1 {s : Int32} {k : Nat} : ¬ bt s k = 1 ↔ bt s k = 0 := by
  rcases bt01 s k with h | h <;> rw [h] <;> decide
def swp (a b : Nat) (f : Nat → Nat) : Nat → Nat := fun h => if h = b then f a else if h = a then f b else f h
/-- v modulo H, as a place -/
def ov (v : Int32) (H : Nat) : Int32 := if 0 ≤ v - v / nI H * nI H then v - v / nI H * nI H else v - v / nI H * nI H + nI H
section YV
variable (H : Nat) (pu sm : Nat → Int32) (la he lean snow : Int32) (st : Nat → Int32) (ac : Nat) (ex : Nat → Option (Nat × Nat × Nat))
def yPush (f : Nat → Nat) (w h : Nat) : Int32 := if bt (st w) h = 1 ∨ (bt snow w = 1 ∧ ¬ f h = 0 ∧ ¬ f h = H - 1) then 0 else if 0 < pu h - sm (f h) then pu h - sm (f h) else 0
def ySg (f : Nat → Nat) (w h : Nat) : Int32 := if bt lean h = 1 then -(yPush H pu sm snow st f w h) else yPush H pu sm snow st f w h
def yForce (f : Nat → Nat) (w : Nat) : Int32 := itr (fun h s => s + ySg H pu sm lean snow st f w h) 0 H 0
def yTurn (w : Nat) (F : Int32) : Int32 := if la = 1 then (if F < he then (if -he < F then 0 else -1) else 1) else if la = 2 then (if H = 0 then 0 else ov F H) else if la = 3 ∧ w % 2 = 1 then 0 else F / he
def yNext (f : Nat → Nat) (t : Int32) : Nat → Nat := fun h => (ov (nI (f h) + t) H).toNatClampNeg
def yEx1 (w i : Nat) (f : Nat → Nat) : Nat → Nat := match ex i with
  | some q => if q.2.2 = w then swp q.1 q.2.1 f else f
  | none => f
def yEx (w : Nat) (f : Nat → Nat) : Nat → Nat := itr (yEx1 ex w) 0 ac f
def yPL (f0 : Nat → Nat) : Nat → (Nat → Nat)
  | 0 => yEx ac ex 0 f0
  | w + 1 => yEx ac ex (w + 1) (yNext H (yPL f0 w) (yTurn H la he w (yForce H pu sm lean snow st (yPL f0 w) w)))
end YV
/-- a row of places -/
def ROW (μ : qa_M) (a w H : Nat) (f : Nat → Nat) : Prop := ∀ h, h < H → μ.1 a (w * 8 + h) = nI (f h)
/-- nothing has changed but cell a, and there only the row w -/
def onlyR (a w : Nat) (μ μ' : qa_M) : Prop := μ'.2 = μ.2 ∧ (∀ b j, b ≠ a → μ'.1 b j = μ.1 b j) ∧ ∀ j, (j < w * 8 ∨ w * 8 + 8 ≤ j) → μ'.1 a j = μ.1 a j
theorem onlyR.rf (a w : Nat) (μ : qa_M) : onlyR a w μ μ := ⟨rfl, fun _ _ _ => rfl, fun _ _ => rfl⟩
theorem onlyR.tr {a w : Nat} {μ μ1 μ2 : qa_M} (h : onlyR a w μ μ1) (h' : onlyR a w μ1 μ2) : onlyR a w μ μ2 := ⟨h'.1.trans h.1, fun b j hb => (h'.2.1 b j hb).trans (h.2.1 b j hb), fun j hj => (h'.2.2 j hj).trans (h.2.2 j hj)⟩
theorem onlyR.put (a w k : Nat) (hk : k < 8) (μ : qa_M) (x : Int32) : onlyR a w μ (qa_uI μ a (w * 8 + k) x) := ⟨rfl, fun b j hb => uIn _ _ (fun e => hb e.1), fun j hj => uIn _ _ (fun e => by omega)⟩
theorem ROW_swp {μ : qa_M} {a w H : Nat} {f : Nat → Nat} (h : ROW μ a w H f) {p q : Nat} (hp : p < H) (hq : q < H) : ROW (qa_uI (qa_uI μ a (w * 8 + p) (μ.1 a (w * 8 + q))) a (w * 8 + q) (μ.1 a (w * 8 + p))) a w H (swp p q f) := by
  intro k hk
  unfold swp
  rw [uI1]
  by_cases e1 : k = q
  · rw [if_pos ⟨rfl, by rw [e1]⟩, if_pos e1]; exact h p hp
  · rw [if_neg (fun e => e1 (by omega)), uI1, if_neg e1]
    by_cases e2 : k = p
    · rw [if_pos ⟨rfl, by rw [e2]⟩, if_pos e2]; exact h q hq
    · rw [if_neg (fun e => e2 (by omega)), if_neg e2]; exact h k hk
