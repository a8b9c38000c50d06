theorem qe_str {args : Array Value} {s : State} {own : String} {k : Nat} {bs : List Int32} {A : Nat → Prop} (hl : bs.length < 2 ^ 31) (h1 : (Cond.exactly (.string own k) "java/lang/String").before args s = true) (h2 : (Cond.eq (.field (.string own k) "java/lang/String" "coder" "B") (.int 0)).before args s = true) (h3 : (Cond.arrayOf (.field (.string own k) "java/lang/String" "value" "[B") .byte).before args s = true) (h4 : (Cond.eq (.length (.field (.string own k) "java/lang/String" "value" "[B")) (.int (Int32.ofNat bs.length))).before args s = true) (h5 : ∀ j : Nat, j < bs.length → (Cond.eq (.elem (.field (.string own k) "java/lang/String" "value" "[B") (.int (Int32.ofNat j))) (.int (bs.getD j 0))).before args s = true) (hA : ∀ a : Nat, a < s.heap.size → ¬ A a) :
    ∃ q : Nat × Nat, (Term.string own k).eval args s none [] s = some (.ref q.1) ∧ va_O "java/lang/String" q.1 A s s.heap ∧ va_OF "java/lang/String" "coder" "B" (.int 0) q.1 A s s.heap ∧ va_OF "java/lang/String" "value" "[B" (.ref q.2) q.1 A s s.heap ∧ va_T .byte q.2 bs.length (fun j => .int (bs.getD j 0)) A s s.heap := by
  obtain ⟨a, c, cA, kA, q1, q2, q3, q4, q5, q6, -⟩ := Cond.exactly_spec (args := args) (first := s) (o := none) (s := s) (idx := []) (t := .string own k) (cls := "java/lang/String") h1
  obtain ⟨t, ht, hT⟩ := va_Tof (f := fun j => .int (bs.getD j 0)) (A := A) hl h3 (va_eqt h4) (fun j hj => va_eqt (h5 j hj)) hA
  exact ⟨(a, t), q1, ⟨cA, q3, q5, by rw [q6]; exact q2, hA a (Array.getElem?_eq_some_iff.mp q3).1⟩, vk_OFof q1 (va_eqt h2) hA, vk_OFof q1 ht hA, hT⟩
def qe_fl : List Cond := flatC (Jvm.Cond.and given_1 narrow_1)
/-- the j-th word of the start, by its place -/
def qe_sw (i : Nat) : String × Nat := (qa_strs.map (fun q => (q.1, q.2.1))).getD i ("", 0)
def qe_ws (i : Nat) : List Cond := [Cond.exactly (.string (qe_sw i).1 (qe_sw i).2) "java/lang/String", Cond.eq (.field (.string (qe_sw i).1 (qe_sw i).2) "java/lang/String" "coder" "B") (.int 0), Cond.arrayOf (.field (.string (qe_sw i).1 (qe_sw i).2) "java/lang/String" "value" "[B") .byte, Cond.eq (.length (.field (.string (qe_sw i).1 (qe_sw i).2) "java/lang/String" "value" "[B")) (.int (Int32.ofNat (qa_txt.getD i []).length))] ++ (List.range (qa_txt.getD i []).length).map (fun j => Cond.eq (.elem (.field (.string (qe_sw i).1 (qe_sw i).2) "java/lang/String" "value" "[B") (.int (Int32.ofNat j))) (.int ((qa_txt.getD i []).getD j 0)))
set_option maxRecDepth 100000 in
theorem qe_at0 : (qe_fl.drop 41).take 8 = qe_ws 0 := by decide +kernel
set_option maxRecDepth 100000 in
theorem qe_at1 : (qe_fl.drop 49).take 9 = qe_ws 1 := by decide +kernel
set_option maxRecDepth 100000 in
theorem qe_at2 : (qe_fl.drop 58).take 7 = qe_ws 2 := by decide +kernel
set_option maxRecDepth 100000 in
theorem qe_at3 : (qe_fl.drop 65).take 9 = qe_ws 3 := by decide +kernel
set_option maxRecDepth 100000 in
theorem qe_at4 : (qe_fl.drop 74).take 8 = qe_ws 4 := by decide +kernel
set_option maxRecDepth 100000 in
theorem qe_at5 : (qe_fl.drop 82).take 9 = qe_ws 5 := by decide +kernel
set_option maxRecDepth 100000 in
theorem qe_at6 : (qe_fl.drop 91).take 8 = qe_ws 6 := by decide +kernel
set_option maxRecDepth 100000 in
theorem qe_at7 : (qe_fl.drop 99).take 9 = qe_ws 7 := by decide +kernel
set_option maxRecDepth 100000 in
theorem qe_at8 : (qe_fl.drop 108).take 9 = qe_ws 8 := by decide +kernel
set_option maxRecDepth 100000 in
theorem qe_at9 : (qe_fl.drop 117).take 7 = qe_ws 9 := by decide +kernel
set_option maxRecDepth 100000 in
theorem qe_at10 : (qe_fl.drop 124).take 9 = qe_ws 10 := by decide +kernel
set_option maxRecDepth 100000 in
theorem qe_at11 : (qe_fl.drop 133).take 8 = qe_ws 11 := by decide +kernel
set_option maxRecDepth 100000 in
theorem qe_at12 : (qe_fl.drop 141).take 6 = qe_ws 12 := by decide +kernel
set_option maxRecDepth 100000 in
theorem qe_at13 : (qe_fl.drop 147).take 10 = qe_ws 13 := by decide +kernel
set_option maxRecDepth 100000 in
theorem qe_at14 : (qe_fl.drop 157).take 6 = qe_ws 14 := by decide +kernel
set_option maxRecDepth 100000 in
theorem qe_at15 : (qe_fl.drop 163).take 8 = qe_ws 15 := by decide +kernel
set_option maxRecDepth 100000 in
theorem qe_at16 : (qe_fl.drop 172).take 9 = qe_ws 16 := by decide +kernel
set_option maxRecDepth 100000 in
theorem qe_at17 : (qe_fl.drop 182).take 7 = qe_ws 17 := by decide +kernel
set_option maxRecDepth 100000 in
theorem qe_at18 : (qe_fl.drop 190).take 9 = qe_ws 18 := by decide +kernel
set_option maxRecDepth 100000 in
theorem qe_at19 : (qe_fl.drop 200).take 8 = qe_ws 19 := by decide +kernel
set_option maxRecDepth 100000 in
theorem qe_at20 : (qe_fl.drop 209).take 9 = qe_ws 20 := by decide +kernel
set_option maxRecDepth 100000 in
theorem qe_at21 : (qe_fl.drop 219).take 9 = qe_ws 21 := by decide +kernel
set_option maxRecDepth 100000 in
theorem qe_at22 : (qe_fl.drop 229).take 8 = qe_ws 22 := by decide +kernel
set_option maxRecDepth 100000 in
theorem qe_at23 : (qe_fl.drop 238).take 10 = qe_ws 23 := by decide +kernel
set_option maxRecDepth 100000 in
theorem qe_at24 : (qe_fl.drop 249).take 8 = qe_ws 24 := by decide +kernel
set_option maxRecDepth 100000 in
theorem qe_at25 : (qe_fl.drop 258).take 9 = qe_ws 25 := by decide +kernel
set_option maxRecDepth 100000 in
theorem qe_at26 : (qe_fl.drop 268).take 7 = qe_ws 26 := by decide +kernel
set_option maxRecDepth 100000 in
theorem qe_at27 : (qe_fl.drop 276).take 9 = qe_ws 27 := by decide +kernel
set_option maxRecDepth 100000 in
theorem qe_at28 : (qe_fl.drop 286).take 6 = qe_ws 28 := by decide +kernel
set_option maxRecDepth 100000 in
theorem qe_at29 : (qe_fl.drop 293).take 6 = qe_ws 29 := by decide +kernel
theorem qe_in (i : Nat) (hi : i < 30) : ∃ o n, (qe_fl.drop o).take n = qe_ws i := by
  match i, hi with
  | 0, _ => exact ⟨_, _, qe_at0⟩
  | 1, _ => exact ⟨_, _, qe_at1⟩
  | 2, _ => exact ⟨_, _, qe_at2⟩
  | 3, _ => exact ⟨_, _, qe_at3⟩
  | 4, _ => exact ⟨_, _, qe_at4⟩
  | 5, _ => exact ⟨_, _, qe_at5⟩
  | 6, _ => exact ⟨_, _, qe_at6⟩
  | 7, _ => exact ⟨_, _, qe_at7⟩
  | 8, _ => exact ⟨_, _, qe_at8⟩
  | 9, _ => exact ⟨_, _, qe_at9⟩
  | 10, _ => exact ⟨_, _, qe_at10⟩
  | 11, _ => exact ⟨_, _, qe_at11⟩
  | 12, _ => exact ⟨_, _, qe_at12⟩
  | 13, _ => exact ⟨_, _, qe_at13⟩
  | 14, _ => exact ⟨_, _, qe_at14⟩
  | 15, _ => exact ⟨_, _, qe_at15⟩
  | 16, _ => exact ⟨_, _, qe_at16⟩
  | 17, _ => exact ⟨_, _, qe_at17⟩
  | 18, _ => exact ⟨_, _, qe_at18⟩
  | 19, _ => exact ⟨_, _, qe_at19⟩
  | 20, _ => exact ⟨_, _, qe_at20⟩
  | 21, _ => exact ⟨_, _, qe_at21⟩
  | 22, _ => exact ⟨_, _, qe_at22⟩
  | 23, _ => exact ⟨_, _, qe_at23⟩
  | 24, _ => exact ⟨_, _, qe_at24⟩
  | 25, _ => exact ⟨_, _, qe_at25⟩
  | 26, _ => exact ⟨_, _, qe_at26⟩
  | 27, _ => exact ⟨_, _, qe_at27⟩
  | 28, _ => exact ⟨_, _, qe_at28⟩
  | 29, _ => exact ⟨_, _, qe_at29⟩
  | i + 30, h => omega
set_option maxRecDepth 100000 in
theorem qe_len : ((List.range 30).all (fun i => decide ((qa_txt.getD i []).length < 2 ^ 31))) = true := by decide +kernel
theorem qe_all {args : Array Value} {s : State} (hgv : (Jvm.Cond.and given_1 narrow_1).before args s = true) {i : Nat} (hi : i < 30) : ∀ w ∈ qe_ws i, w.before args s = true := fun w hw => by
  have h1 : w ∈ qe_fl := by
    obtain ⟨o, n, e⟩ := qe_in i hi
    rw [← e] at hw
    exact List.mem_of_mem_drop (List.mem_of_mem_take hw)
  exact flat_of_before _ hgv w h1
theorem qe_strs {args : Array Value} {s : State} {A : Nat → Prop} (hgv : (Jvm.Cond.and given_1 narrow_1).before args s = true) (hA : ∀ a : Nat, a < s.heap.size → ¬ A a) (i : Nat) : ∃ q : Nat × Nat, i < 30 → ((Term.string (qe_sw i).1 (qe_sw i).2).eval args s none [] s = some (.ref q.1) ∧ va_O "java/lang/String" q.1 A s s.heap ∧ va_OF "java/lang/String" "coder" "B" (.int 0) q.1 A s s.heap ∧ va_OF "java/lang/String" "value" "[B" (.ref q.2) q.1 A s s.heap ∧ va_T .byte q.2 (qa_txt.getD i []).length (fun j => .int ((qa_txt.getD i []).getD j 0)) A s s.heap) := by
  by_cases hi : i < 30
  · have h := qe_all hgv hi
    obtain ⟨q, hq⟩ := qe_str (own := (qe_sw i).1) (k := (qe_sw i).2) (bs := qa_txt.getD i []) (A := A) (of_decide_eq_true (List.all_eq_true.mp qe_len i (List.mem_range.mpr hi))) (h _ (by unfold qe_ws; simp)) (h _ (by unfold qe_ws; simp)) (h _ (by unfold qe_ws; simp)) (h _ (by unfold qe_ws; simp)) (fun j hj => h _ (by
      unfold qe_ws
      exact List.mem_append_right _ (List.mem_map.mpr ⟨j, List.mem_range.mpr hj, rfl⟩))) hA
    exact ⟨q, fun _ => hq⟩
  · exact ⟨(0, 0), fun h => absurd h hi⟩
set_option maxRecDepth 100000 in
theorem qe_refs : (qa_strs.all (fun q => decide (Cond.stringRef q.1 q.2.1 q.2.2.1 ∈ lw_tbl) && decide (q.2.2.2 < 30) && decide (qe_sw q.2.2.2 = (q.1, q.2.1)))) = true := by decide +kernel
set_option maxRecDepth 100000 in
theorem qe_nest : (qa_nest.all (fun q => decide (Cond.methodLinkNest q.1 q.2.1 q.2.2 "PivotStreet" ∈ lw_tbl))) = true := by decide +kernel
set_option maxRecDepth 100000 in
theorem qe_fac : ((List.range 9).all (fun j => decide (Cond.eq (.elem (.static "PivotStreet" "FACTORIALS" "[I") (.int (Int32.ofNat j))) (.int (qa_fac.getD j 0)) ∈ qe_fl))) = true := by decide +kernel
set_option maxRecDepth 100000 in
theorem qa_mi_PP : qa_PP qa_mi.2.2 := ⟨by decide +kernel, by unfold qa_tw; decide +kernel, by unfold qa_tw; decide +kernel⟩
def qe_ad (b t4 t5 : Nat) (q : Nat → Nat × Nat) (B : Nat) : Nat → Nat := fun r => if r < 1000 then B + r else if r = 6000 then b else if r = 5000 then t5 else if r = 4000 then t4 else if r < 3000 then (q (r - 2000)).1 else (q (r - 3000)).2
theorem qe_ca {s : State} {args : Array Value} (hp : ∀ ty ∈ ([.int, .byte, .boolean, .long, .short] : List FieldType), (Cond.arrayClass ty).before args s = true) (h1 : va_AO "PivotStreet$Town" s) (h2 : va_AO "PivotStreet$Row" s) : ∃ ca : FieldType → ClassId, ∀ ty ∈ qa_ets, ArrOfT s (ca ty) ty ∧ va_RA s (ca ty) ty := by
  have prim : ∀ ty ∈ ([.int, .byte, .boolean, .long, .short] : List FieldType), ∃ cA : ClassId, ArrOfT s cA ty ∧ va_RA s cA ty := by
    intro ty hty
    obtain ⟨cA, kA, comp, f1, f2, f3⟩ := Cond.arrayClass_spec (hp ty hty)
    refine ⟨cA, fun N z => ⟨(fun k h => by cases h), kA, f2, comp, f3⟩, ?_⟩
    simp only [List.mem_cons, List.not_mem_nil, or_false] at hty
    rcases hty with rfl | rfl | rfl | rfl | rfl <;> exact f1
  have objs : ∀ Cn, va_AO Cn s → ∃ cA : ClassId, ArrOfT s cA (.object Cn) ∧ va_RA s cA (.object Cn) := by
    intro Cn h
    obtain ⟨comp, cA, kA, g1, g2, g3, g4, g5⟩ := Cond.arrayOver_spec h
    exact ⟨cA, fun N z => ⟨(fun k h => by cases h), kA, g3, comp, g4⟩, kA, comp, g3, g4, g1, g5⟩
  have all : ∀ ty : FieldType, ∃ cA : ClassId, ty ∈ qa_ets → ArrOfT s cA ty ∧ va_RA s cA ty := by
    intro ty
    by_cases hty : ty ∈ qa_ets
    · simp only [qa_ets, List.mem_cons, List.not_mem_nil, or_false] at hty
      rcases hty with rfl | rfl | rfl | rfl | rfl | rfl | rfl
      · obtain ⟨c, h⟩ := prim .int (by simp); exact ⟨c, fun _ => h⟩
      · obtain ⟨c, h⟩ := prim .byte (by simp); exact ⟨c, fun _ => h⟩
      · obtain ⟨c, h⟩ := prim .boolean (by simp); exact ⟨c, fun _ => h⟩
      · obtain ⟨c, h⟩ := prim .long (by simp); exact ⟨c, fun _ => h⟩
      · obtain ⟨c, h⟩ := prim .short (by simp); exact ⟨c, fun _ => h⟩
      · obtain ⟨c, h⟩ := objs _ h1; exact ⟨c, fun _ => h⟩
      · obtain ⟨c, h⟩ := objs _ h2; exact ⟨c, fun _ => h⟩
    · exact ⟨0, fun h => absurd h hty⟩
  obtain ⟨ca, hca⟩ := Classical.axiomOfChoice all
  exact ⟨ca, fun ty h => hca ty h⟩
theorem qe_D {s : State} {args : Array Value} (hts : ∀ w ∈ qa_tb, w.before args s = true) : ∃ D : va_G, ∀ (k : Nat) (q : vw_C), vwCl[k]? = some q → u_Kn s q.1 q.2.1 q.2.2 (D.1 k) (D.2 k) := by
  have one : ∀ {ci : Nat} {C : String} {T : u_T} {N n : Nat}, qa_CF ci C T N → Cond.instantiable C n ∈ qa_tb → ∃ cd : ClassId × (Nat → Nat), ∀ q : vw_C, vwCl[ci]? = some q → u_Kn s q.1 q.2.1 q.2.2 cd.1 cd.2 := by
    intro ci C T N n h hi
    obtain ⟨c, iS, hK⟩ := u_known hts h.2.1 (hts _ hi)
    exact ⟨(c, iS), fun q hq => by rw [h.1] at hq; cases hq; exact hK⟩
  have all : ∀ k : Nat, ∃ cd : ClassId × (Nat → Nat), ∀ q : vw_C, vwCl[k]? = some q → u_Kn s q.1 q.2.1 q.2.2 cd.1 cd.2 := by
    intro k
    match k with
    | 0 => exact one qa_cf0 lin_0
    | 1 => exact one qa_cf1 lin_1
    | 2 => exact one qa_cf2 lin_2
    | 3 => exact one qa_cf3 lin_3
    | 4 => exact one qa_cf4 lin_4
    | 5 => exact one qa_cf5 lin_5
    | 6 => exact one qa_cf6 lin_6
    | 7 => exact one qa_cf7 lin_7
    | 8 => exact one qa_cf8 lin_8
    | 9 => exact one qa_cf9 lin_9
    | k + 10 => exact ⟨(0, fun _ => 0), fun q hq => by simp [vwCl] at hq⟩
  obtain ⟨cd, h⟩ := Classical.axiomOfChoice all
  exact ⟨(fun k => (cd k).1, fun k => (cd k).2), fun k q hq => h k q hq⟩

def R_law : String := "PivotStreetLaw"
def lw_P (b : Addr) (xs : List Int32) (args : Array Value) (s : State) : Prop := args = #[.ref b] ∧ s.IntsAt b xs ∧ xs.length ≤ 3072 ∧ (Jvm.Cond.and given_1 narrow_1).before args s = true
def lw_Q (_ : Array Value) (s : State) (o : Outcome) (t : State) : Prop := o = .returned (some (.int 1)) ∧ Framed s o t [] 600000 7302250
def lw_Z (below : List Frame) (a : Array Value) (s : State) : State → Prop := fun t => ∃ o, t.status = .running ∧ Ended t below o ∧ lw_Q a s o t
/-- the law's own end, with 1 on the stack, nothing written that was there before, its room as the claim has it -/
theorem lw_ret {p : Program} {l : Launch} {e : Env} {s : State} {m : MethodId} {below : List Frame} {meth : Method} {c : Code} {b : Nat} (hx : p.tables.exec = Jvm.exec) (hb : c.code = code) (hr : meth.sig.returnType = ret) (hlocks : meth.locks = false) {pc : Nat} {H : Heap} {ls : Array Slot} (hdg : decode code pc = .ok (.ireturn, 1)) : W p l e room_1 s m #[Value.ref b] below meth c H [] 600000 7302250 (lw_Z below #[Value.ref b] s) (F0 m pc ls [.int 1]) := by
  intro T hT X
  obtain ⟨fs, hret, hrun, hended, hW, hframe⟩ := X.leave (v := some (.int 1)) (hlocks := hlocks) (fun h => by rw [hr] at h; cases h)
  have hmeth' : T.vm.method? m = some meth := X.method'
  refine ⟨T.setFrames fs, ?_, .returned (some (.int 1)), hrun, hended, rfl, ⟨_, rfl⟩, hW, hframe⟩
  jvm_step X.here [X.here.top, hx, hb, hdg, hmeth', hr, ret, narrow_b1]
  (try refine ⟨rfl, ?_⟩); (try refine ⟨rfl, ?_⟩)
  first | (intro acts; rw [hret _ acts rfl rfl rfl]) | rw [hret _ _ rfl rfl rfl]
  exact Steps.refl _
/-- what holds at the law's entry: the machine, the code, the tables' words (any of lw_tbl by 'hts w (by decide +kernel)'), the script of L ints xs at the cell b, what the Statement gives of the start (any of its parts by flat_of_before) -/
def lw_At (p : Program) (s : State) (m : MethodId) (meth : Method) (c : Code) (b L : Nat) (xs : Nat → Int32) : Prop :=
  p.tables.exec = Jvm.exec ∧ c.code = code ∧ meth.sig.returnType = ret ∧ c.maxLocals = 4 ∧ s.vm.findClass R_law = some m.cls ∧ (∀ w ∈ lw_tbl, w.before #[Value.ref b] s = true) ∧ va_X b L xs s s.heap ∧ b < s.heap.size ∧ meth.locks = false ∧ (Jvm.Cond.and given_1 narrow_1).before #[Value.ref b] s = true

set_option maxHeartbeats 4000000 in
set_option maxRecDepth 100000 in
/-- THE LAW, from its entry -/
theorem whole_start {p : Program} {e : Env} {s : State} {m : MethodId} {below : List Frame} {meth : Method} {c : Code} (l : Launch) (hflags : l.flags = flags0) {b L : Nat} {xs : Nat → Int32} (hL : L ≤ 3072) (C0 : lw_At p s m meth c b L xs) : W p l e room_1 s m #[Value.ref b] below meth c s.heap [] 0 0 (lw_Z below #[Value.ref b] s) (entryFrame m ([Value.ref b] : List Value).toArray 4) := by
  obtain ⟨hx, hb, hr, hml, hown, hts, hX, hbl, hlocks, hgv⟩ := id C0
  have hts' : ∀ w ∈ qa_tb, w.before #[Value.ref b] s = true := fun w hw => hts w (List.mem_filter.mp hw).1
  obtain ⟨B, hB⟩ : ∃ B, B + 1 = s.heap.size := ⟨s.heap.size - 1, by omega⟩
  have hA : ∀ a : Nat, a < s.heap.size → ¬ (fun q : Nat => B < q) a := fun a h => by show ¬ B < a; omega
  have hfl : ∀ w ∈ qe_fl, w.before #[Value.ref b] s = true := flat_of_before _ hgv
  obtain ⟨D, hD⟩ := qe_D hts'
  have hao1 : va_AO "PivotStreet$Town" s := va_AO.of (hts (.arrayOver (.object "PivotStreet$Town")) (by decide +kernel))
  have hao2 : va_AO "PivotStreet$Row" s := va_AO.of (hts (.arrayOver (.object "PivotStreet$Row")) (by decide +kernel))
  obtain ⟨ca, hca⟩ := qe_ca (args := #[Value.ref b]) (fun ty hty => by
    simp only [List.mem_cons, List.not_mem_nil, or_false] at hty
    rcases hty with rfl | rfl | rfl | rfl | rfl
    · exact hts' _ lac_int
    · exact hts' _ lac_byte
    · exact hts' _ lac_boolean
    · exact hts' _ lac_long
    · exact hts' _ lac_short) hao1 hao2
  obtain ⟨q, hq⟩ := Classical.axiomOfChoice (qe_strs (A := fun q => B < q) hgv hA)
  obtain ⟨t4, ht4, hT4⟩ := va_Tof (args := #[Value.ref b]) (s := s) (tm := .static "PivotStreet" "FACTORIALS" "[I") (ty := .int) (N := 9) (f := fun j => .int (qa_fac.getD j 0)) (A := fun q => B < q) (by decide) (hfl _ (by decide +kernel)) (va_eqt (z := Int32.ofNat 9) (hfl _ (by decide +kernel))) (fun j hj => va_eqt (hfl _ (of_decide_eq_true (List.all_eq_true.mp qe_fac j (List.mem_range.mpr hj))))) hA
  have hZ4 := va_Zof (hts (.laysStatic "PivotStreet" "FACTORIALS" "[I") (by decide +kernel)) (hts (.initialized "PivotStreet") (by decide +kernel)) ht4 hA
  have hZc := va_Zof (hts (.laysStatic "java/lang/String" "COMPACT_STRINGS" "Z") (by decide +kernel)) (hts (.initialized "java/lang/String") (by decide +kernel)) (va_eqi (z := 1) (hfl (Cond.eq (.static "java/lang/String" "COMPACT_STRINGS" "Z") (.int 1)) (by decide +kernel))) hA
  have hZb := va_Zqof (hts (.laysStatic "jdk/internal/util/Preconditions" "SIOOBE_FORMATTER" "Ljava/util/function/BiFunction;") (by decide +kernel)) (hts (.initialized "jdk/internal/util/Preconditions") (by decide +kernel)) (hfl (Cond.isRef (.static "jdk/internal/util/Preconditions" "SIOOBE_FORMATTER" "Ljava/util/function/BiFunction;")) (by decide +kernel)) hA
  obtain ⟨t5, ht5⟩ : ∃ t5 : Nat, va_Z "jdk/internal/util/Preconditions" "SIOOBE_FORMATTER" "Ljava/util/function/BiFunction;" .null (fun q => B < q) s s.heap ∨ va_Z "jdk/internal/util/Preconditions" "SIOOBE_FORMATTER" "Ljava/util/function/BiFunction;" (.ref t5) (fun q => B < q) s s.heap := by
    rcases hZb with h | ⟨t, h⟩
    · exact ⟨0, Or.inl h⟩
    · exact ⟨t, Or.inr h⟩
  have a2 : ∀ i, i < 30 → qe_ad b t4 t5 q B (2000 + i) = (q i).1 := fun i hi => by
    unfold qe_ad
    rw [if_neg (by omega), if_neg (by omega), if_neg (by omega), if_neg (by omega), if_pos (by omega)]
    congr 2; omega
  have a3 : ∀ i, i < 30 → qe_ad b t4 t5 q B (3000 + i) = (q i).2 := fun i hi => by
    unfold qe_ad
    rw [if_neg (by omega), if_neg (by omega), if_neg (by omega), if_neg (by omega), if_neg (by omega)]
    congr 2; omega
  have hRO : qa_RO (qe_ad b t4 t5 q B) B s s.heap := by
    refine ⟨hZ4, hT4, hZc, fun i hi => ?_, fun z hz => ?_, fun z hz => ?_, hao1, hao2, ht5⟩
    · rw [a2 i hi, a3 i hi]
      exact (hq i hi).2
    · have h1 := List.all_eq_true.mp qe_refs z hz
      simp only [Bool.and_eq_true, decide_eq_true_eq] at h1
      rw [a2 _ h1.1.2]
      refine vk_R.of (A := #[Value.ref b]) (hts _ h1.1.1) ?_
      have h2 := (hq _ h1.1.2).1
      rw [h1.2] at h2
      exact h2
    · exact va_Nw.of rfl (hts _ (of_decide_eq_true (List.all_eq_true.mp qe_nest z hz)))
  have hK : va_K D vwCl (qa_tys ca) s := ⟨hD, fun k z hz => by
    unfold qa_tys at hz
    rw [List.getElem?_map] at hz
    cases hty : qa_ets[k]? with
    | none => rw [hty] at hz; cases hz
    | some ty =>
      rw [hty] at hz
      cases hz
      exact hca ty (List.mem_of_getElem? hty)⟩
  obtain ⟨n, hn⟩ := law_pure L xs hL
  have hl := lv_entry ([.ref b]) (n := 4) (Nat.le_of_ble_eq_true rfl)
  rw [lg_entry_eq]
  have main := tL0 l (nm := meth.name) (tL l (nm := meth.name) n 0 qa_mi qa_mi_PP hn) p e s m #[Value.ref b] below meth c D ca (qe_ad b t4 t5 q B) B s.heap [] ((lg_sl ([.ref b]) ++ List.replicate (4 - (lg_sl ([.ref b])).length) Slot.unset).toArray) ⟨hx, hb, hr, hml, hown, hts', hK, hlocks, rfl, by omega, hRO⟩ ⟨hB, hX, hbl⟩ ⟨by omega, by decide, fun r hr => by unfold qe_ad; rw [if_pos hr], fun k h1 h2 => by omega⟩ va_S.rf ⟨hl.1, hl.2.1, rfl, fun i v hi => ?_⟩
  · exact main
  · match i, hi with
    | 0, hi => simp at hi; subst hi; rfl
    | 1, hi => simp at hi
    | 2, hi => simp at hi
    | 3, hi => simp at hi
    | i + 4, hi => simp at hi

-- ===== YOUR PART ENDS =====
set_option maxHeartbeats 4000000 in
theorem lw_walk (l : Launch) (hflags : l.flags = flags0) (b : Addr) (xs : List Int32) : MetFree l x (headSpec (Jvm.Cond.code x code maxLocals ret :: tables_1) room_1) (lw_P b xs) (fun _ _ _ _ _ => True) lw_Q := by
  refine MetFree.of_bodyS (code := code) (maxLocals := maxLocals) (ret := ret) (by decide) ?_ ?_
  · intro args s m h hn
    obtain ⟨meth, c, h1, h2, h3, h4, h5, h6, -, -⟩ := Cond.code_spec hn (atoms_spec (ws := Jvm.Cond.code x code maxLocals ret :: tables_1) h _ List.mem_cons_self)
    exact ⟨meth, c, h1, h2, h3, h4, h5, h6⟩
  · intro p e s m args below meth c s₁ B hml0 hP _
    obtain ⟨rfl, hx, hbd, hgv⟩ := hP
    obtain ⟨scr, harrAt, hlist, hof, hsmall⟩ := hx
    obtain ⟨hcb, hkn, -, -⟩ := State.arrayAt?_spec harrAt
    have hown : s.vm.findClass R_law = some m.cls := findClass_of_methodNamed B.named
    have hts0 : ∀ c ∈ (Jvm.Cond.code x code maxLocals ret :: tables_1), c.before #[Value.ref b] s = true := atoms_spec (ws := Jvm.Cond.code x code maxLocals ret :: tables_1) B.pre
    have hts : ∀ w ∈ lw_tbl, w.before #[Value.ref b] s = true := k2_hts_sels lw_privs (fun w hw => hts0 w (List.mem_cons_of_mem _ hw)) lw_privs_ok
    have hml : c.maxLocals = 4 := B.maxLocals_eq (hts0 _ List.mem_cons_self)
    have X₀ : Stand p l e room_1 s m #[Value.ref b] below meth c s₁ [] 0 0 := Stand.of_body B
    have hh0 : s₁.heap = s.heap := by rw [B.state]; rfl
    have hsz : scr.slots.size = xs.length := by rw [← Array.length_toList, hlist, List.length_map]
    have hval : ∀ j : Nat, j < xs.length → scr.slots[j]? = some (.int (xs.getD j 0)) := fun j hj => by
      rw [← Array.getElem?_toList, hlist]
      simp [hj]
    have hbl : b < s.heap.size := (Array.getElem?_eq_some_iff.mp hcb).1
    have hX : va_X b xs.length (fun j => xs.getD j 0) s s.heap := ⟨scr, hcb, hof, hkn, hsz, hval⟩
    have K : W p l e room_1 s m #[Value.ref b] below meth c s₁.heap [] 0 0 (lw_Z below #[Value.ref b] s) (entryFrame m ([Value.ref b] : List Value).toArray 4) := by
      rw [hh0]
      exact whole_start l hflags hbd ⟨B.exec, B.bytes, B.returns, hml, hown, hts, hX, hbl, B.notSynchronized, hgv⟩
    obtain ⟨t, a1, o, b1, b2, b3⟩ := K s₁ rfl X₀
    exact ⟨t, o, a1, b1, b2, b3⟩
theorem lw_pre_spec {args : Array Value} {s : State} (h : (Jvm.Cond.and given_1 narrow_1).before args s = true) (hr : rest_1_c.before args s = true) : ∃ (b : Addr) (xs : List Int32), lw_P b xs args s := by
  have hs := flat_of_before _ h
  have hq := flat_of_before _ hr
  have hc : (Cond.count 1).before args s = true := hs _ (by decide +kernel)
  have harr : (Cond.arrayOf (.arg 0) .int).before args s = true := hs _ (by decide +kernel)
  have hle : (Cond.le (.length (.arg 0)) (.int 3072)).before args s = true := hs _ (by decide +kernel)
  have hlen : (Cond.isInt (.length (.arg 0))).before args s = true := hq _ (by decide +kernel)
  have hall : (Cond.all (.arg 0) (.isInt (.elem (.arg 0) (.index 0)))).before args s = true := hq _ (by decide +kernel)
  obtain ⟨b, xs, hb, hx⟩ := State.ints_of_pre rfl harr hlen hall
  have hsm : xs.length < 2 ^ 31 := hx.choose_spec.2.2.2
  have hev : (Term.length (.arg 0)).eval args s none [] s = some (.int xs.length.toInt32) := hx.length_eval hb
  have hv := Cond.le_ints hev (show (Term.int 3072).eval args s none [] s = some (.int 3072) from rfl)
  have hd : xs.length.toInt32 ≤ 3072 := by
    simpa [Cond.before, Cond.holds, hv] using hle
  have hN : xs.length ≤ 3072 := (Int32.ofNat_le_ofNat hsm (by decide)).mp (show Int32.ofNat xs.length ≤ Int32.ofNat 3072 from hd)
  exact ⟨b, xs, Cond.one_arg hc (show args[0]? = some (.ref b) from hb), hx, hN, h⟩
theorem lw_comes (l : Launch) (hflags : l.flags = flags0) : Comes l x (Jvm.Cond.code x code maxLocals ret :: tables_1) room_1 (fun tb e args s => Calls_1 tb e args s ∧ rest_1 tb e args s ∧ Pre_1 tb e args s)
    (fun _ _ args s o t => lw_Q args s o t) := by
  intro p e ha hc hk s m args below hf hfit hheap happ hpre
  obtain ⟨b, xs, hP⟩ := lw_pre_spec hpre.2.2 hpre.2.1
  obtain ⟨k, o, h1, h2, h3, hQ⟩ := lw_walk l hflags b xs p e ha hc hk s m args below hf ((Spec.applies_iff_loose hf).mp happ).1 hP trivial
  exact ⟨k, o, h1, h2, h3, hQ⟩
theorem lw_frame {s t : State} {o : Outcome} {args : Array Value} (h : Framed s o t [] 600000 7302250) :
    Framed s o t (fieldLocs frame_1_writes args s ++ arrayLocs frame_1_arrays args s ++ staticLocs frame_1_statics s) 600000 7302250 := h
theorem lw_limb (L : Cond) (hL : ∀ (args : Array Value) (s t : State), L.after args s (.returned (some (.int 1))) t = true) :
    ArmFor flags0 classFile x code maxLocals ret World_1 tables_1 room_1 Calls_1 rest_1 Pre_1
      (fun tb e a s o t => postC L tb e a s o t ∧ Framed s o t (fieldLocs frame_1_writes a s ++ arrayLocs frame_1_arrays a s ++ staticLocs frame_1_statics s) 600000 7302250) := by
  intro l hflags _ _ p e ha hc hk s m args below hf hfit hheap happ hpre
  obtain ⟨k, o, h1, h2, h3, rfl, hF⟩ := lw_comes l hflags p e ha hc hk s m args below hf hfit hheap happ hpre
  exact ⟨k, _, h1, h2, h3, hL args s _, lw_frame hF⟩
theorem i_vc : Claimed_1_1 ∧ Claimed_1_2 := ⟨lw_limb limb_1_1 (fun args s t => by simp [limb_1_1, Cond.after, Cond.holds, Cond.value]), lw_limb limb_1_2 (fun args s t => Cond.after_iff.mpr (by
  first | (rw [show limb_1_2 = Cond.eq .result (.int 1) from rfl, Cond.eq_ints (x := 1) (y := 1) rfl rfl]; simp; done) | (simp [limb_1_2, Cond.value, Term.eval]; done)))⟩

