theorem qa_PP_1_2 {P : Nat → Nat → Nat} (h : qa_PP P) {t : Nat} (ht : qa_tw t) : qa_PP (qa_u1 P 1 2 t) := by
  refine ⟨fun q hq => ?_, ?_, ?_, ?_⟩
  · rw [qa_u1_ne]
    · exact h.1 q hq
    · exact fun e => absurd (List.all_eq_true.mp (by decide +kernel : qa_ptab.all (fun q => !(q.1 == 1 && q.2.1 == 2)) = true) q hq) (by simp [e.1, e.2])
  · rw [qa_u1_same]; exact ht
  · rw [qa_u1_ne _ _ (by decide)]; exact h.2.2.1
  · rw [qa_u1_ne _ _ (by decide)]; exact h.2.2.2
theorem qa_PP_1_3 {P : Nat → Nat → Nat} (h : qa_PP P) {t : Nat} (ht : qa_tw t) : qa_PP (qa_u1 P 1 3 t) := by
  refine ⟨fun q hq => ?_, ?_, ?_, ?_⟩
  · rw [qa_u1_ne]
    · exact h.1 q hq
    · exact fun e => absurd (List.all_eq_true.mp (by decide +kernel : qa_ptab.all (fun q => !(q.1 == 1 && q.2.1 == 3)) = true) q hq) (by simp [e.1, e.2])
  · rw [qa_u1_ne _ _ (by decide)]; exact h.2.1
  · rw [qa_u1_same]; exact ht
  · rw [qa_u1_ne _ _ (by decide)]; exact h.2.2.2
theorem qa_PP_27_2 {P : Nat → Nat → Nat} (h : qa_PP P) {t : Nat} (ht : qa_tw t) : qa_PP (qa_u1 P 27 2 t) := by
  refine ⟨fun q hq => ?_, ?_, ?_, ?_⟩
  · rw [qa_u1_ne]
    · exact h.1 q hq
    · exact fun e => absurd (List.all_eq_true.mp (by decide +kernel : qa_ptab.all (fun q => !(q.1 == 27 && q.2.1 == 2)) = true) q hq) (by simp [e.1, e.2])
  · rw [qa_u1_ne _ _ (by decide)]; exact h.2.1
  · rw [qa_u1_ne _ _ (by decide)]; exact h.2.2.1
  · rw [qa_u1_same]; exact ht
theorem qa_iom8 (x : Int32) : x + Int32.ofInt (-8) = x + (-8 : Int32) := rfl
theorem qa_iom2 (x : Int32) : x + Int32.ofInt (-2) = x + (-2 : Int32) := rfl
theorem qa_iom1 (x : Int32) : x + Int32.ofInt (-1) = x + (-1 : Int32) := rfl
theorem qa_io1 (x : Int32) : x + Int32.ofInt (1) = x + (1 : Int32) := rfl
theorem qa_io2 (x : Int32) : x + Int32.ofInt (2) = x + (2 : Int32) := rfl
