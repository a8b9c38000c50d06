theorem qa_ofWF {l : Launch} {y : MethodName} {ws ws' : List Cond} {rm : Room} {Pc : Array Value → State → Prop} {Qc : Array Value → State → Outcome → State → Prop} {mc ms : Nat} {free : Addr → Prop} {cc : ByteArray} {maxL : Nat} {ret : Option FieldType}
    (hy : plainFor y = true) (hw : ws = Cond.code y cc maxL ret :: ws')
    (body : ∀ p e s m args below meth c s₁, BodyLoose p l y (headSpec ws rm) cc maxL ret e s m args below meth c s₁ → c.maxLocals = maxL → Pc args s →
      W p l e (headSpec ws rm).room s m args below meth c s.heap [] 0 0 (MQ below Qc args s mc ms free) (entryFrame m args maxL)) : Met l y ws rm Pc Qc mc ms free := by
  refine MetFree.of_bodySF (code := cc) (maxLocals := maxL) (ret := ret) hy ?_ ?_
  · intro args s m h hn
    obtain ⟨meth, c, h1, h2, h3, h4, h5, h6, -, -⟩ := Cond.code_spec hn (atoms_spec (ws := ws) h _ (by rw [hw]; exact List.mem_cons_self))
    exact ⟨meth, c, h1, h2, h3, h4, h5, h6⟩
  · intro p e s m args below meth c s₁ B hml hP _
    have hh0 : s₁.heap = s.heap := by rw [B.state]; rfl
    obtain ⟨t, a1, o, b1, b2, b3⟩ := body p e s m args below meth c s₁ B hml hP s₁ hh0 (Stand.of_body B)
    exact ⟨t, o, a1, b1, b2, ⟨b3.1, b3.2⟩⟩
/-- a contract out of the walk from the entry -/
theorem qa_ofGF {l : Launch} {y : MethodName} {cc : ByteArray} {nL : Nat} {ret : Option FieldType} {d mc ms : Nat} {av : List Value} {N : Nat} {μ : qa_M} {Q : Option Value → Nat → qa_M → Prop} (hy : plainFor y = true) (hn : (qa_ent av).length ≤ nL)
    (h : qa_G l y cc nL ret d mc ms Q 0 0 0 (qa_ents nL av) [] N μ) : qa_Met l y cc nL ret d mc ms av N μ Q := by
  intro D ca ad B
  refine qa_ofWF (cc := cc) (maxL := nL) (ret := ret) hy rfl ?_
  intro p e s m args below meth c s₁ Bd hml hv
  obtain ⟨rfl, hW, hK, hR⟩ := hv
  have hts := atoms_spec (ws := Cond.code y cc nL ret :: qa_tb) Bd.pre
  have hown : s.vm.findClass y.cls = some m.cls := findClass_of_methodNamed Bd.named
  have hin : meth.name = y.name := (name_of_methodNamed Bd.named Bd.method).1
  have hl := lv_entry (av.map (qa_cv ad)) (n := nL) (by rw [qa_ent_len]; exact hn)
  rw [lg_entry_eq]
  refine h p e s m _ below meth c D ca ad B s.heap [] _ ⟨Bd.exec, Bd.bytes, Bd.returns, hml, hown, fun w hw => hts w (List.mem_cons_of_mem _ hw), hK, Bd.notSynchronized, hin, by rw [hW.1]; omega, hR⟩ trivial hW va_S.rf ⟨hl.1, hl.2.1, ?_, ?_⟩
  · unfold qa_ents
    rw [List.length_append, List.length_replicate]
    omega
  · intro i v hi
    unfold qa_ents at hi
    by_cases hlt : i < (qa_ent av).length
    · rw [List.getElem?_append_left hlt] at hi
      have h2 := qa_ent_at ad av i v hi
      rw [List.getElem?_toArray, List.getElem?_append_left (by rw [qa_ent_len]; exact hlt)]
      exact h2
    · rw [List.getElem?_append_right (by omega)] at hi
      have := List.eq_of_mem_replicate (List.mem_of_getElem? hi)
      cases this
theorem qa_PP_1_2 {P : Nat → Nat → Nat} (h : qa_PP P) {t : Nat} (ht : qa_tw t) : qa_PP (qa_u1 P 1 2 t) := by
  refine ⟨fun q hq => ?_, ?_, ?_⟩
  · rw [qa_u1_ne]
    · exact h.1 q hq
    · exact fun e => absurd (List.all_eq_true.mp (by decide +kernel : qa_ptab.all (fun q => !(q.1 == 1 && q.2.1 == 2)) = true) q hq) (by simp [e.1, e.2])
  · rw [qa_u1_same]; exact ht
  · rw [qa_u1_ne _ _ (by decide)]; exact h.2.2
theorem qa_PP_2_2 {P : Nat → Nat → Nat} (h : qa_PP P) {t : Nat} (ht : qa_tw t) : qa_PP (qa_u1 P 2 2 t) := by
  refine ⟨fun q hq => ?_, ?_, ?_⟩
  · rw [qa_u1_ne]
    · exact h.1 q hq
    · exact fun e => absurd (List.all_eq_true.mp (by decide +kernel : qa_ptab.all (fun q => !(q.1 == 2 && q.2.1 == 2)) = true) q hq) (by simp [e.1, e.2])
  · rw [qa_u1_ne _ _ (by decide)]; exact h.2.1
  · rw [qa_u1_same]; exact ht
theorem qa_iom8 (x : Int32) : x + Int32.ofInt (-8) = x + (-8 : Int32) := rfl
theorem qa_iom2 (x : Int32) : x + Int32.ofInt (-2) = x + (-2 : Int32) := rfl
theorem qa_iom1 (x : Int32) : x + Int32.ofInt (-1) = x + (-1 : Int32) := rfl
theorem qa_io1 (x : Int32) : x + Int32.ofInt (1) = x + (1 : Int32) := rfl
theorem qa_io2 (x : Int32) : x + Int32.ofInt (2) = x + (2 : Int32) := rfl
theorem qa_io6 (x : Int32) : x + Int32.ofInt (6) = x + (6 : Int32) := rfl
