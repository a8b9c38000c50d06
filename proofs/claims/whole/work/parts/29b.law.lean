def lw_PZ (below : List Frame) (s : State) : State → Prop := fun t => ∃ o, t.status = .running ∧ Ended t below o ∧ o = .returned (some (.int 1)) ∧ Framed s o t [] 600000 7302250
def qa_XL (Ln : Nat) (xs : Nat → Int32) : State → (Nat → Nat) → Nat → Prop := fun s ad B => B + 1 = s.heap.size ∧ va_X (ad 6000) Ln xs s s.heap ∧ ad 6000 < s.heap.size
def qa_EL : State → Array Value → List Frame → va_G → (FieldType → ClassId) → (Nat → Nat) → Nat → State → Prop := fun s _ below _ _ _ _ => lw_PZ below s
abbrev qa_yL (nm : String) : MethodName := ⟨RL, nm, ""⟩
abbrev qa_LG (l : Launch) (nm : String) (Ln : Nat) (xs : Nat → Int32) (cells slots pc : Nat) (L : List (Option Value)) (st : List Value) (N : Nat) (μ : qa_M) : Prop := qa_GG l (qa_yL nm) cL_law 4 ret room_1 (qa_XL Ln xs) qa_EL cells slots pc L st N μ
section QL
variable {l : Launch} {nm : String} {Ln : Nat} {xs : Nat → Int32} {cells slots pc : Nat} {L : List (Option Value)} {st : List Value} {N : Nat} {μ : qa_M}
theorem qa_lret1 (hd : decode cL_law pc = .ok (.ireturn, 1)) (hc : cells ≤ 600000 ∧ slots ≤ 7302250) : qa_LG l nm Ln xs cells slots pc L [.int 1] N μ := by
  intro p e s m args below meth c D ca ad B H locs ls C hX hW hS hl
  refine va_forget (fun q hq => by have := hS.2.2 q hq; have := hX.1; omega) ?_
  refine W.widen (k := 600000) (n := 7302250) hc.1 hc.2 ?_
  have hlocks := C.2.2.2.2.2.2.2.1
  have hr := C.2.2.1
  have hx := C.1
  have hb := C.2.1
  have K : W p l e room_1 s m args below meth c H [] 600000 7302250 (lw_PZ below s) (F0 m pc ls [.int 1]) := by
   intro T hT X
   obtain ⟨fs, hret, hrun, hended, hW, hframe⟩ := X.leave (v := some (.int 1)) (hlocks := hlocks) (fun h => by rw [hr] at h; cases h)
   have hmeth' : T.vm.method? m = some meth := X.method'
   refine ⟨T.setFrames fs, ?_, .returned (some (.int 1)), hrun, hended, rfl, ⟨_, rfl⟩, hW, hframe⟩
   jvm_step X.here [X.here.top, hx, hb, hd, hmeth', hr, ret, narrow_b1]
   (try refine ⟨rfl, ?_⟩); (try refine ⟨rfl, ?_⟩)
   first | (intro acts; rw [hret _ acts rfl rfl rfl]) | rw [hret _ _ rfl rfl rfl]
   exact Steps.refl _
  exact K
theorem qa_sld {i : Int32} (hd : decode cL_law pc = .ok (.iaload, 1)) (hin : vp_in i Ln) (kk : qa_LG l nm Ln xs cells slots (pc + 1) L (.int (xs i.toNatClampNeg) :: st) N μ) : qa_LG l nm Ln xs cells slots pc L (.int i :: .ref 6000 :: st) N μ := by
  intro p e s m args below meth c D ca ad B H locs ls C hX hW hS hl
  exact va_sld C.1 C.2.1 hX.2.1 hX.2.2 (by have := hX.1; have := hX.2.2; omega) hS hin hd (kk p e s m args below meth c D ca ad B H locs ls C hX hW hS hl)
theorem qa_slen (hd : decode cL_law pc = .ok (.arraylength, 1)) (kk : qa_LG l nm Ln xs cells slots (pc + 1) L (.int (nI Ln) :: st) N μ) : qa_LG l nm Ln xs cells slots pc L (.ref 6000 :: st) N μ := by
  intro p e s m args below meth c D ca ad B H locs ls C hX hW hS hl
  exact va_slen C.1 C.2.1 hX.2.1 hX.2.2 (by have := hX.1; have := hX.2.2; omega) hS hd (kk p e s m args below meth c D ca ad B H locs ls C hX hW hS hl)
end QL
def wLc_0 (Ln : Nat) (xs : Nat → Int32) (n : Nat) (K : Int32 → qa_M → Prop) (i : Int32) (μ0 : qa_M) : Prop := vp_in (i + (1 : Int32)) Ln ∧ vp_in (i + (2 : Int32)) Ln ∧ vp_in (i + (3 : Int32)) Ln ∧ vp_in (i + (4 : Int32)) Ln ∧ vp_in (i + (5 : Int32)) Ln ∧ wX8_feed n (xs (i + (1 : Int32)).toNatClampNeg) (xs (i + (2 : Int32)).toNatClampNeg) (xs (i + (3 : Int32)).toNatClampNeg) (xs (i + (4 : Int32)).toNatClampNeg) (xs (i + (5 : Int32)).toNatClampNeg) μ0 (fun r1 μ1 => vp_in (i + (1 : Int32)) Ln ∧ vp_in (i + (2 : Int32)) Ln ∧ vp_in (i + (3 : Int32)) Ln ∧ vp_in (i + (4 : Int32)) Ln ∧ vp_in (i + (5 : Int32)) Ln ∧ wX9_feed n (xs (i + (1 : Int32)).toNatClampNeg) (xs (i + (2 : Int32)).toNatClampNeg) (xs (i + (3 : Int32)).toNatClampNeg) (xs (i + (4 : Int32)).toNatClampNeg) (xs (i + (5 : Int32)).toNatClampNeg) μ1 (fun r2 μ2 => ((r1 = r2 → K (i + (6 : Int32)) μ2) ∧ (¬ r1 = r2 → False))))
theorem tLc_0 (l : Launch) {nm : String} {Ln : Nat} {xs : Nat → Int32} {n : Nat} {K : Int32 → qa_M → Prop} (ih : ∀ (i : Int32) (μ : qa_M), qa_PP μ.2.2 → K i μ → qa_LG l nm Ln xs 113 17503 18 [some (.ref 6000), some (.ref 1), some (.ref 91), some (.int i)] [] 113 μ) {i : Int32} {μ0 : qa_M} (hp0 : qa_PP μ0.2.2) (h : wLc_0 Ln xs n K i μ0) : qa_LG l nm Ln xs 113 17503 368 [some (.ref 6000), some (.ref 1), some (.ref 91), some (.int i)] [] 113 μ0 := by
  unfold wLc_0 at h
  refine qa_ald1 dL_law_368 ?_
  refine qa_ald0 dL_law_369 ?_
  refine qa_ild3 dL_law_370 ?_
  refine qa_iconst (v := 1) dL_law_371 (by decide) ?_
  refine qa_iadd dL_law_372 ?_
  refine qa_sld dL_law_373 h.1 ?_
  have h := h.2
  refine qa_ald0 dL_law_374 ?_
  refine qa_ild3 dL_law_375 ?_
  refine qa_iconst (v := 2) dL_law_376 (by decide) ?_
  refine qa_iadd dL_law_377 ?_
  refine qa_sld dL_law_378 h.1 ?_
  have h := h.2
  refine qa_ald0 dL_law_379 ?_
  refine qa_ild3 dL_law_380 ?_
  refine qa_iconst (v := 3) dL_law_381 (by decide) ?_
  refine qa_iadd dL_law_382 ?_
  refine qa_sld dL_law_383 h.1 ?_
  have h := h.2
  refine qa_ald0 dL_law_384 ?_
  refine qa_ild3 dL_law_385 ?_
  refine qa_iconst (v := 4) dL_law_386 (by decide) ?_
  refine qa_iadd dL_law_387 ?_
  refine qa_sld dL_law_388 h.1 ?_
  have h := h.2
  refine qa_ald0 dL_law_389 ?_
  refine qa_ild3 dL_law_390 ?_
  refine qa_iconst (v := 5) dL_law_391 (by decide) ?_
  refine qa_iadd dL_law_392 ?_
  refine qa_sld dL_law_393 h.1 ?_
  have h := h.2
  refine qa_V5I dL_law_394 lm_L_13 sh_1 rfl (by decide) (by decide) (Nat.le_of_ble_eq_true rfl) (tX8_feed l hp0 h) (fun r1 μ1 hp1 h => ?_)
  refine qa_ald2 dL_law_397 ?_
  refine qa_ald0 dL_law_398 ?_
  refine qa_ild3 dL_law_399 ?_
  refine qa_iconst (v := 1) dL_law_400 (by decide) ?_
  refine qa_iadd dL_law_401 ?_
  refine qa_sld dL_law_402 h.1 ?_
  have h := h.2
  refine qa_ald0 dL_law_403 ?_
  refine qa_ild3 dL_law_404 ?_
  refine qa_iconst (v := 2) dL_law_405 (by decide) ?_
  refine qa_iadd dL_law_406 ?_
  refine qa_sld dL_law_407 h.1 ?_
  have h := h.2
  refine qa_ald0 dL_law_408 ?_
  refine qa_ild3 dL_law_409 ?_
  refine qa_iconst (v := 3) dL_law_410 (by decide) ?_
  refine qa_iadd dL_law_411 ?_
  refine qa_sld dL_law_412 h.1 ?_
  have h := h.2
  refine qa_ald0 dL_law_413 ?_
  refine qa_ild3 dL_law_414 ?_
  refine qa_iconst (v := 4) dL_law_415 (by decide) ?_
  refine qa_iadd dL_law_416 ?_
  refine qa_sld dL_law_417 h.1 ?_
  have h := h.2
  refine qa_ald0 dL_law_418 ?_
  refine qa_ild3 dL_law_419 ?_
  refine qa_iconst (v := 5) dL_law_420 (by decide) ?_
  refine qa_iadd dL_law_421 ?_
  refine qa_sld dL_law_422 h.1 ?_
  have h := h.2
  refine qa_V5I dL_law_423 lm_L_17 sh_91 rfl (by decide) (by decide) (Nat.le_of_ble_eq_true rfl) (tX9_feed l hp1 h) (fun r2 μ2 hp2 h => ?_)
  refine qa_icmp_eq (tgt := 2510) dL_law_426 (by decide) (fun c3 => ?_) (fun c3 => ?_)
  · have h := h.1 c3
    refine qa_inc3 dL_law_2510 (qa_io6 _) ?_
    refine qa_goto (tgt := 18) dL_law_2513 (by decide) ?_
    exact ih (i + (6 : Int32)) μ2 hp2 h
  · have h := h.2 c3
    refine qa_iconst (v := 0) dL_law_429 (by decide) ?_
    exact False.elim h
def wLc_1 (Ln : Nat) (xs : Nat → Int32) (n : Nat) (K : Int32 → qa_M → Prop) (i : Int32) (μ0 : qa_M) : Prop := vp_in (i + (1 : Int32)) Ln ∧ wX8_end n (xs (i + (1 : Int32)).toNatClampNeg) μ0 (fun r4 μ4 => vp_in (i + (1 : Int32)) Ln ∧ wX9_end n (xs (i + (1 : Int32)).toNatClampNeg) μ4 (fun r5 μ5 => ((r4 = r5 → K (i + (6 : Int32)) μ5) ∧ (¬ r4 = r5 → False))))
theorem tLc_1 (l : Launch) {nm : String} {Ln : Nat} {xs : Nat → Int32} {n : Nat} {K : Int32 → qa_M → Prop} (ih : ∀ (i : Int32) (μ : qa_M), qa_PP μ.2.2 → K i μ → qa_LG l nm Ln xs 113 17503 18 [some (.ref 6000), some (.ref 1), some (.ref 91), some (.int i)] [] 113 μ) {i : Int32} {μ0 : qa_M} (hp0 : qa_PP μ0.2.2) (h : wLc_1 Ln xs n K i μ0) : qa_LG l nm Ln xs 113 17503 431 [some (.ref 6000), some (.ref 1), some (.ref 91), some (.int i)] [] 113 μ0 := by
  unfold wLc_1 at h
  refine qa_ald1 dL_law_431 ?_
  refine qa_ald0 dL_law_432 ?_
  refine qa_ild3 dL_law_433 ?_
  refine qa_iconst (v := 1) dL_law_434 (by decide) ?_
  refine qa_iadd dL_law_435 ?_
  refine qa_sld dL_law_436 h.1 ?_
  have h := h.2
  refine qa_V1I dL_law_437 lm_L_18 sh_1 rfl (by decide) (by decide) (Nat.le_of_ble_eq_true rfl) (tX8_end l hp0 h) (fun r4 μ4 hp4 h => ?_)
  refine qa_ald2 dL_law_440 ?_
  refine qa_ald0 dL_law_441 ?_
  refine qa_ild3 dL_law_442 ?_
  refine qa_iconst (v := 1) dL_law_443 (by decide) ?_
  refine qa_iadd dL_law_444 ?_
  refine qa_sld dL_law_445 h.1 ?_
  have h := h.2
  refine qa_V1I dL_law_446 lm_L_22 sh_91 rfl (by decide) (by decide) (Nat.le_of_ble_eq_true rfl) (tX9_end l hp4 h) (fun r5 μ5 hp5 h => ?_)
  refine qa_icmp_eq (tgt := 2510) dL_law_449 (by decide) (fun c6 => ?_) (fun c6 => ?_)
  · have h := h.1 c6
    refine qa_inc3 dL_law_2510 (qa_io6 _) ?_
    refine qa_goto (tgt := 18) dL_law_2513 (by decide) ?_
    exact ih (i + (6 : Int32)) μ5 hp5 h
  · have h := h.2 c6
    refine qa_iconst (v := 0) dL_law_452 (by decide) ?_
    exact False.elim h
def wLc_2 (Ln : Nat) (xs : Nat → Int32) (n : Nat) (K : Int32 → qa_M → Prop) (i : Int32) (μ0 : qa_M) : Prop := wX8_town n  μ0 (fun r7 μ7 => wX9_town n  μ7 (fun r8 μ8 => ((r7 = r8 → K (i + (6 : Int32)) μ8) ∧ (¬ r7 = r8 → False))))
theorem tLc_2 (l : Launch) {nm : String} {Ln : Nat} {xs : Nat → Int32} {n : Nat} {K : Int32 → qa_M → Prop} (ih : ∀ (i : Int32) (μ : qa_M), qa_PP μ.2.2 → K i μ → qa_LG l nm Ln xs 113 17503 18 [some (.ref 6000), some (.ref 1), some (.ref 91), some (.int i)] [] 113 μ) {i : Int32} {μ0 : qa_M} (hp0 : qa_PP μ0.2.2) (h : wLc_2 Ln xs n K i μ0) : qa_LG l nm Ln xs 113 17503 454 [some (.ref 6000), some (.ref 1), some (.ref 91), some (.int i)] [] 113 μ0 := by
  unfold wLc_2 at h
  refine qa_ald1 dL_law_454 ?_
  refine qa_V0I dL_law_455 lm_L_23 sh_1 rfl (by decide) (by decide) (Nat.le_of_ble_eq_true rfl) (tX8_town l hp0 h) (fun r7 μ7 hp7 h => ?_)
  refine qa_ald2 dL_law_458 ?_
  refine qa_V0I dL_law_459 lm_L_27 sh_91 rfl (by decide) (by decide) (Nat.le_of_ble_eq_true rfl) (tX9_town l hp7 h) (fun r8 μ8 hp8 h => ?_)
  refine qa_icmp_eq (tgt := 2510) dL_law_462 (by decide) (fun c9 => ?_) (fun c9 => ?_)
  · have h := h.1 c9
    refine qa_inc3 dL_law_2510 (qa_io6 _) ?_
    refine qa_goto (tgt := 18) dL_law_2513 (by decide) ?_
    exact ih (i + (6 : Int32)) μ8 hp8 h
  · have h := h.2 c9
    refine qa_iconst (v := 0) dL_law_465 (by decide) ?_
    exact False.elim h
def wLc_3 (Ln : Nat) (xs : Nat → Int32) (n : Nat) (K : Int32 → qa_M → Prop) (i : Int32) (μ0 : qa_M) : Prop := vp_in (i + (1 : Int32)) Ln ∧ wX8_fault n (xs (i + (1 : Int32)).toNatClampNeg) μ0 (fun r10 μ10 => vp_in (i + (1 : Int32)) Ln ∧ wX9_fault n (xs (i + (1 : Int32)).toNatClampNeg) μ10 (fun r11 μ11 => ((r10 = r11 → K (i + (6 : Int32)) μ11) ∧ (¬ r10 = r11 → False))))
theorem tLc_3 (l : Launch) {nm : String} {Ln : Nat} {xs : Nat → Int32} {n : Nat} {K : Int32 → qa_M → Prop} (ih : ∀ (i : Int32) (μ : qa_M), qa_PP μ.2.2 → K i μ → qa_LG l nm Ln xs 113 17503 18 [some (.ref 6000), some (.ref 1), some (.ref 91), some (.int i)] [] 113 μ) {i : Int32} {μ0 : qa_M} (hp0 : qa_PP μ0.2.2) (h : wLc_3 Ln xs n K i μ0) : qa_LG l nm Ln xs 113 17503 467 [some (.ref 6000), some (.ref 1), some (.ref 91), some (.int i)] [] 113 μ0 := by
  unfold wLc_3 at h
  refine qa_ald1 dL_law_467 ?_
  refine qa_ald0 dL_law_468 ?_
  refine qa_ild3 dL_law_469 ?_
  refine qa_iconst (v := 1) dL_law_470 (by decide) ?_
  refine qa_iadd dL_law_471 ?_
  refine qa_sld dL_law_472 h.1 ?_
  have h := h.2
  refine qa_V1I dL_law_473 lm_L_28 sh_1 rfl (by decide) (by decide) (Nat.le_of_ble_eq_true rfl) (tX8_fault l hp0 h) (fun r10 μ10 hp10 h => ?_)
  refine qa_ald2 dL_law_476 ?_
  refine qa_ald0 dL_law_477 ?_
  refine qa_ild3 dL_law_478 ?_
  refine qa_iconst (v := 1) dL_law_479 (by decide) ?_
  refine qa_iadd dL_law_480 ?_
  refine qa_sld dL_law_481 h.1 ?_
  have h := h.2
  refine qa_V1I dL_law_482 lm_L_31 sh_91 rfl (by decide) (by decide) (Nat.le_of_ble_eq_true rfl) (tX9_fault l hp10 h) (fun r11 μ11 hp11 h => ?_)
  refine qa_icmp_eq (tgt := 2510) dL_law_485 (by decide) (fun c12 => ?_) (fun c12 => ?_)
  · have h := h.1 c12
    refine qa_inc3 dL_law_2510 (qa_io6 _) ?_
    refine qa_goto (tgt := 18) dL_law_2513 (by decide) ?_
    exact ih (i + (6 : Int32)) μ11 hp11 h
  · have h := h.2 c12
    refine qa_iconst (v := 0) dL_law_488 (by decide) ?_
    exact False.elim h
def wLc_4 (Ln : Nat) (xs : Nat → Int32) (n : Nat) (K : Int32 → qa_M → Prop) (i : Int32) (μ0 : qa_M) : Prop := vp_in (i + (1 : Int32)) Ln ∧ vp_in (i + (2 : Int32)) Ln ∧ wX8_house n (xs (i + (1 : Int32)).toNatClampNeg) (xs (i + (2 : Int32)).toNatClampNeg) μ0 (fun r13 μ13 => vp_in (i + (1 : Int32)) Ln ∧ vp_in (i + (2 : Int32)) Ln ∧ wX9_house n (xs (i + (1 : Int32)).toNatClampNeg) (xs (i + (2 : Int32)).toNatClampNeg) μ13 (fun r14 μ14 => ((r13 = r14 → K (i + (6 : Int32)) μ14) ∧ (¬ r13 = r14 → False))))
theorem tLc_4 (l : Launch) {nm : String} {Ln : Nat} {xs : Nat → Int32} {n : Nat} {K : Int32 → qa_M → Prop} (ih : ∀ (i : Int32) (μ : qa_M), qa_PP μ.2.2 → K i μ → qa_LG l nm Ln xs 113 17503 18 [some (.ref 6000), some (.ref 1), some (.ref 91), some (.int i)] [] 113 μ) {i : Int32} {μ0 : qa_M} (hp0 : qa_PP μ0.2.2) (h : wLc_4 Ln xs n K i μ0) : qa_LG l nm Ln xs 113 17503 490 [some (.ref 6000), some (.ref 1), some (.ref 91), some (.int i)] [] 113 μ0 := by
  unfold wLc_4 at h
  refine qa_ald1 dL_law_490 ?_
  refine qa_ald0 dL_law_491 ?_
  refine qa_ild3 dL_law_492 ?_
  refine qa_iconst (v := 1) dL_law_493 (by decide) ?_
  refine qa_iadd dL_law_494 ?_
  refine qa_sld dL_law_495 h.1 ?_
  have h := h.2
  refine qa_ald0 dL_law_496 ?_
  refine qa_ild3 dL_law_497 ?_
  refine qa_iconst (v := 2) dL_law_498 (by decide) ?_
  refine qa_iadd dL_law_499 ?_
  refine qa_sld dL_law_500 h.1 ?_
  have h := h.2
  refine qa_V2I dL_law_501 lm_L_32 sh_1 rfl (by decide) (by decide) (Nat.le_of_ble_eq_true rfl) (tX8_house l hp0 h) (fun r13 μ13 hp13 h => ?_)
  refine qa_ald2 dL_law_504 ?_
  refine qa_ald0 dL_law_505 ?_
  refine qa_ild3 dL_law_506 ?_
  refine qa_iconst (v := 1) dL_law_507 (by decide) ?_
  refine qa_iadd dL_law_508 ?_
  refine qa_sld dL_law_509 h.1 ?_
  have h := h.2
  refine qa_ald0 dL_law_510 ?_
  refine qa_ild3 dL_law_511 ?_
  refine qa_iconst (v := 2) dL_law_512 (by decide) ?_
  refine qa_iadd dL_law_513 ?_
  refine qa_sld dL_law_514 h.1 ?_
  have h := h.2
  refine qa_V2I dL_law_515 lm_L_36 sh_91 rfl (by decide) (by decide) (Nat.le_of_ble_eq_true rfl) (tX9_house l hp13 h) (fun r14 μ14 hp14 h => ?_)
  refine qa_icmp_eq (tgt := 2510) dL_law_518 (by decide) (fun c15 => ?_) (fun c15 => ?_)
  · have h := h.1 c15
    refine qa_inc3 dL_law_2510 (qa_io6 _) ?_
    refine qa_goto (tgt := 18) dL_law_2513 (by decide) ?_
    exact ih (i + (6 : Int32)) μ14 hp14 h
  · have h := h.2 c15
    refine qa_iconst (v := 0) dL_law_521 (by decide) ?_
    exact False.elim h
def wLc_5 (Ln : Nat) (xs : Nat → Int32) (n : Nat) (K : Int32 → qa_M → Prop) (i : Int32) (μ0 : qa_M) : Prop := vp_in (i + (1 : Int32)) Ln ∧ vp_in (i + (2 : Int32)) Ln ∧ wX8_place n (xs (i + (1 : Int32)).toNatClampNeg) (xs (i + (2 : Int32)).toNatClampNeg) μ0 (fun r16 μ16 => vp_in (i + (1 : Int32)) Ln ∧ vp_in (i + (2 : Int32)) Ln ∧ wX9_place n (xs (i + (1 : Int32)).toNatClampNeg) (xs (i + (2 : Int32)).toNatClampNeg) μ16 (fun r17 μ17 => ((r16 = r17 → K (i + (6 : Int32)) μ17) ∧ (¬ r16 = r17 → False))))
theorem tLc_5 (l : Launch) {nm : String} {Ln : Nat} {xs : Nat → Int32} {n : Nat} {K : Int32 → qa_M → Prop} (ih : ∀ (i : Int32) (μ : qa_M), qa_PP μ.2.2 → K i μ → qa_LG l nm Ln xs 113 17503 18 [some (.ref 6000), some (.ref 1), some (.ref 91), some (.int i)] [] 113 μ) {i : Int32} {μ0 : qa_M} (hp0 : qa_PP μ0.2.2) (h : wLc_5 Ln xs n K i μ0) : qa_LG l nm Ln xs 113 17503 523 [some (.ref 6000), some (.ref 1), some (.ref 91), some (.int i)] [] 113 μ0 := by
  unfold wLc_5 at h
  refine qa_ald1 dL_law_523 ?_
  refine qa_ald0 dL_law_524 ?_
  refine qa_ild3 dL_law_525 ?_
  refine qa_iconst (v := 1) dL_law_526 (by decide) ?_
  refine qa_iadd dL_law_527 ?_
  refine qa_sld dL_law_528 h.1 ?_
  have h := h.2
  refine qa_ald0 dL_law_529 ?_
  refine qa_ild3 dL_law_530 ?_
  refine qa_iconst (v := 2) dL_law_531 (by decide) ?_
  refine qa_iadd dL_law_532 ?_
  refine qa_sld dL_law_533 h.1 ?_
  have h := h.2
  refine qa_V2I dL_law_534 lm_L_37 sh_1 rfl (by decide) (by decide) (Nat.le_of_ble_eq_true rfl) (tX8_place l hp0 h) (fun r16 μ16 hp16 h => ?_)
  refine qa_ald2 dL_law_537 ?_
  refine qa_ald0 dL_law_538 ?_
  refine qa_ild3 dL_law_539 ?_
  refine qa_iconst (v := 1) dL_law_540 (by decide) ?_
  refine qa_iadd dL_law_541 ?_
  refine qa_sld dL_law_542 h.1 ?_
  have h := h.2
  refine qa_ald0 dL_law_543 ?_
  refine qa_ild3 dL_law_544 ?_
  refine qa_iconst (v := 2) dL_law_545 (by decide) ?_
  refine qa_iadd dL_law_546 ?_
  refine qa_sld dL_law_547 h.1 ?_
  have h := h.2
  refine qa_V2I dL_law_548 lm_L_40 sh_91 rfl (by decide) (by decide) (Nat.le_of_ble_eq_true rfl) (tX9_place l hp16 h) (fun r17 μ17 hp17 h => ?_)
  refine qa_icmp_eq (tgt := 2510) dL_law_551 (by decide) (fun c18 => ?_) (fun c18 => ?_)
  · have h := h.1 c18
    refine qa_inc3 dL_law_2510 (qa_io6 _) ?_
    refine qa_goto (tgt := 18) dL_law_2513 (by decide) ?_
    exact ih (i + (6 : Int32)) μ17 hp17 h
  · have h := h.2 c18
    refine qa_iconst (v := 0) dL_law_554 (by decide) ?_
    exact False.elim h
def wLc_6 (Ln : Nat) (xs : Nat → Int32) (n : Nat) (K : Int32 → qa_M → Prop) (i : Int32) (μ0 : qa_M) : Prop := vp_in (i + (1 : Int32)) Ln ∧ vp_in (i + (2 : Int32)) Ln ∧ wX8_letter n (xs (i + (1 : Int32)).toNatClampNeg) (xs (i + (2 : Int32)).toNatClampNeg) μ0 (fun r19 μ19 => vp_in (i + (1 : Int32)) Ln ∧ vp_in (i + (2 : Int32)) Ln ∧ wX9_letter n (xs (i + (1 : Int32)).toNatClampNeg) (xs (i + (2 : Int32)).toNatClampNeg) μ19 (fun r20 μ20 => ((r19 = r20 → K (i + (6 : Int32)) μ20) ∧ (¬ r19 = r20 → False))))
theorem tLc_6 (l : Launch) {nm : String} {Ln : Nat} {xs : Nat → Int32} {n : Nat} {K : Int32 → qa_M → Prop} (ih : ∀ (i : Int32) (μ : qa_M), qa_PP μ.2.2 → K i μ → qa_LG l nm Ln xs 113 17503 18 [some (.ref 6000), some (.ref 1), some (.ref 91), some (.int i)] [] 113 μ) {i : Int32} {μ0 : qa_M} (hp0 : qa_PP μ0.2.2) (h : wLc_6 Ln xs n K i μ0) : qa_LG l nm Ln xs 113 17503 556 [some (.ref 6000), some (.ref 1), some (.ref 91), some (.int i)] [] 113 μ0 := by
  unfold wLc_6 at h
  refine qa_ald1 dL_law_556 ?_
  refine qa_ald0 dL_law_557 ?_
  refine qa_ild3 dL_law_558 ?_
  refine qa_iconst (v := 1) dL_law_559 (by decide) ?_
  refine qa_iadd dL_law_560 ?_
  refine qa_sld dL_law_561 h.1 ?_
  have h := h.2
  refine qa_ald0 dL_law_562 ?_
  refine qa_ild3 dL_law_563 ?_
  refine qa_iconst (v := 2) dL_law_564 (by decide) ?_
  refine qa_iadd dL_law_565 ?_
  refine qa_sld dL_law_566 h.1 ?_
  have h := h.2
  refine qa_V2I dL_law_567 lm_L_41 sh_1 rfl (by decide) (by decide) (Nat.le_of_ble_eq_true rfl) (tX8_letter l hp0 h) (fun r19 μ19 hp19 h => ?_)
  refine qa_ald2 dL_law_570 ?_
  refine qa_ald0 dL_law_571 ?_
  refine qa_ild3 dL_law_572 ?_
  refine qa_iconst (v := 1) dL_law_573 (by decide) ?_
  refine qa_iadd dL_law_574 ?_
  refine qa_sld dL_law_575 h.1 ?_
  have h := h.2
  refine qa_ald0 dL_law_576 ?_
  refine qa_ild3 dL_law_577 ?_
  refine qa_iconst (v := 2) dL_law_578 (by decide) ?_
  refine qa_iadd dL_law_579 ?_
  refine qa_sld dL_law_580 h.1 ?_
  have h := h.2
  refine qa_V2I dL_law_581 lm_L_44 sh_91 rfl (by decide) (by decide) (Nat.le_of_ble_eq_true rfl) (tX9_letter l hp19 h) (fun r20 μ20 hp20 h => ?_)
  refine qa_icmp_eq (tgt := 2510) dL_law_584 (by decide) (fun c21 => ?_) (fun c21 => ?_)
  · have h := h.1 c21
    refine qa_inc3 dL_law_2510 (qa_io6 _) ?_
    refine qa_goto (tgt := 18) dL_law_2513 (by decide) ?_
    exact ih (i + (6 : Int32)) μ20 hp20 h
  · have h := h.2 c21
    refine qa_iconst (v := 0) dL_law_587 (by decide) ?_
    exact False.elim h
def wLc_7 (Ln : Nat) (xs : Nat → Int32) (n : Nat) (K : Int32 → qa_M → Prop) (i : Int32) (μ0 : qa_M) : Prop := wX8_snows n  μ0 (fun r22 μ22 => wX9_snows n  μ22 (fun r23 μ23 => ((r22 = r23 → K (i + (6 : Int32)) μ23) ∧ (¬ r22 = r23 → False))))
theorem tLc_7 (l : Launch) {nm : String} {Ln : Nat} {xs : Nat → Int32} {n : Nat} {K : Int32 → qa_M → Prop} (ih : ∀ (i : Int32) (μ : qa_M), qa_PP μ.2.2 → K i μ → qa_LG l nm Ln xs 113 17503 18 [some (.ref 6000), some (.ref 1), some (.ref 91), some (.int i)] [] 113 μ) {i : Int32} {μ0 : qa_M} (hp0 : qa_PP μ0.2.2) (h : wLc_7 Ln xs n K i μ0) : qa_LG l nm Ln xs 113 17503 589 [some (.ref 6000), some (.ref 1), some (.ref 91), some (.int i)] [] 113 μ0 := by
  unfold wLc_7 at h
  refine qa_ald1 dL_law_589 ?_
  refine qa_V0I dL_law_590 lm_L_45 sh_1 rfl (by decide) (by decide) (Nat.le_of_ble_eq_true rfl) (tX8_snows l hp0 h) (fun r22 μ22 hp22 h => ?_)
  refine qa_ald2 dL_law_593 ?_
  refine qa_V0I dL_law_594 lm_L_48 sh_91 rfl (by decide) (by decide) (Nat.le_of_ble_eq_true rfl) (tX9_snows l hp22 h) (fun r23 μ23 hp23 h => ?_)
  refine qa_icmp_eq (tgt := 2510) dL_law_597 (by decide) (fun c24 => ?_) (fun c24 => ?_)
  · have h := h.1 c24
    refine qa_inc3 dL_law_2510 (qa_io6 _) ?_
    refine qa_goto (tgt := 18) dL_law_2513 (by decide) ?_
    exact ih (i + (6 : Int32)) μ23 hp23 h
  · have h := h.2 c24
    refine qa_iconst (v := 0) dL_law_600 (by decide) ?_
    exact False.elim h
def wLc_8 (Ln : Nat) (xs : Nat → Int32) (n : Nat) (K : Int32 → qa_M → Prop) (i : Int32) (μ0 : qa_M) : Prop := vp_in (i + (1 : Int32)) Ln ∧ vp_in (i + (2 : Int32)) Ln ∧ wX8_at n (xs (i + (1 : Int32)).toNatClampNeg) (xs (i + (2 : Int32)).toNatClampNeg) μ0 (fun r25 μ25 => vp_in (i + (1 : Int32)) Ln ∧ vp_in (i + (2 : Int32)) Ln ∧ wX9_at n (xs (i + (1 : Int32)).toNatClampNeg) (xs (i + (2 : Int32)).toNatClampNeg) μ25 (fun r26 μ26 => ((r25 = r26 → K (i + (6 : Int32)) μ26) ∧ (¬ r25 = r26 → False))))
theorem tLc_8 (l : Launch) {nm : String} {Ln : Nat} {xs : Nat → Int32} {n : Nat} {K : Int32 → qa_M → Prop} (ih : ∀ (i : Int32) (μ : qa_M), qa_PP μ.2.2 → K i μ → qa_LG l nm Ln xs 113 17503 18 [some (.ref 6000), some (.ref 1), some (.ref 91), some (.int i)] [] 113 μ) {i : Int32} {μ0 : qa_M} (hp0 : qa_PP μ0.2.2) (h : wLc_8 Ln xs n K i μ0) : qa_LG l nm Ln xs 113 17503 602 [some (.ref 6000), some (.ref 1), some (.ref 91), some (.int i)] [] 113 μ0 := by
  unfold wLc_8 at h
  refine qa_ald1 dL_law_602 ?_
  refine qa_ald0 dL_law_603 ?_
  refine qa_ild3 dL_law_604 ?_
  refine qa_iconst (v := 1) dL_law_605 (by decide) ?_
  refine qa_iadd dL_law_606 ?_
  refine qa_sld dL_law_607 h.1 ?_
  have h := h.2
  refine qa_ald0 dL_law_608 ?_
  refine qa_ild3 dL_law_609 ?_
  refine qa_iconst (v := 2) dL_law_610 (by decide) ?_
  refine qa_iadd dL_law_611 ?_
  refine qa_sld dL_law_612 h.1 ?_
  have h := h.2
  refine qa_V2I dL_law_613 lm_L_49 sh_1 rfl (by decide) (by decide) (Nat.le_of_ble_eq_true rfl) (tX8_at l hp0 h) (fun r25 μ25 hp25 h => ?_)
  refine qa_ald2 dL_law_616 ?_
  refine qa_ald0 dL_law_617 ?_
  refine qa_ild3 dL_law_618 ?_
  refine qa_iconst (v := 1) dL_law_619 (by decide) ?_
  refine qa_iadd dL_law_620 ?_
  refine qa_sld dL_law_621 h.1 ?_
  have h := h.2
  refine qa_ald0 dL_law_622 ?_
  refine qa_ild3 dL_law_623 ?_
  refine qa_iconst (v := 2) dL_law_624 (by decide) ?_
  refine qa_iadd dL_law_625 ?_
  refine qa_sld dL_law_626 h.1 ?_
  have h := h.2
  refine qa_V2I dL_law_627 lm_L_52 sh_91 rfl (by decide) (by decide) (Nat.le_of_ble_eq_true rfl) (tX9_at l hp25 h) (fun r26 μ26 hp26 h => ?_)
  refine qa_icmp_eq (tgt := 2510) dL_law_630 (by decide) (fun c27 => ?_) (fun c27 => ?_)
  · have h := h.1 c27
    refine qa_inc3 dL_law_2510 (qa_io6 _) ?_
    refine qa_goto (tgt := 18) dL_law_2513 (by decide) ?_
    exact ih (i + (6 : Int32)) μ26 hp26 h
  · have h := h.2 c27
    refine qa_iconst (v := 0) dL_law_633 (by decide) ?_
    exact False.elim h
def wLc_9 (Ln : Nat) (xs : Nat → Int32) (n : Nat) (K : Int32 → qa_M → Prop) (i : Int32) (μ0 : qa_M) : Prop := vp_in (i + (1 : Int32)) Ln ∧ vp_in (i + (2 : Int32)) Ln ∧ wX8_who n (xs (i + (1 : Int32)).toNatClampNeg) (xs (i + (2 : Int32)).toNatClampNeg) μ0 (fun r28 μ28 => vp_in (i + (1 : Int32)) Ln ∧ vp_in (i + (2 : Int32)) Ln ∧ wX9_who n (xs (i + (1 : Int32)).toNatClampNeg) (xs (i + (2 : Int32)).toNatClampNeg) μ28 (fun r29 μ29 => ((r28 = r29 → K (i + (6 : Int32)) μ29) ∧ (¬ r28 = r29 → False))))
theorem tLc_9 (l : Launch) {nm : String} {Ln : Nat} {xs : Nat → Int32} {n : Nat} {K : Int32 → qa_M → Prop} (ih : ∀ (i : Int32) (μ : qa_M), qa_PP μ.2.2 → K i μ → qa_LG l nm Ln xs 113 17503 18 [some (.ref 6000), some (.ref 1), some (.ref 91), some (.int i)] [] 113 μ) {i : Int32} {μ0 : qa_M} (hp0 : qa_PP μ0.2.2) (h : wLc_9 Ln xs n K i μ0) : qa_LG l nm Ln xs 113 17503 635 [some (.ref 6000), some (.ref 1), some (.ref 91), some (.int i)] [] 113 μ0 := by
  unfold wLc_9 at h
  refine qa_ald1 dL_law_635 ?_
  refine qa_ald0 dL_law_636 ?_
  refine qa_ild3 dL_law_637 ?_
  refine qa_iconst (v := 1) dL_law_638 (by decide) ?_
  refine qa_iadd dL_law_639 ?_
  refine qa_sld dL_law_640 h.1 ?_
  have h := h.2
  refine qa_ald0 dL_law_641 ?_
  refine qa_ild3 dL_law_642 ?_
  refine qa_iconst (v := 2) dL_law_643 (by decide) ?_
  refine qa_iadd dL_law_644 ?_
  refine qa_sld dL_law_645 h.1 ?_
  have h := h.2
  refine qa_V2I dL_law_646 lm_L_53 sh_1 rfl (by decide) (by decide) (Nat.le_of_ble_eq_true rfl) (tX8_who l hp0 h) (fun r28 μ28 hp28 h => ?_)
  refine qa_ald2 dL_law_649 ?_
  refine qa_ald0 dL_law_650 ?_
  refine qa_ild3 dL_law_651 ?_
  refine qa_iconst (v := 1) dL_law_652 (by decide) ?_
  refine qa_iadd dL_law_653 ?_
  refine qa_sld dL_law_654 h.1 ?_
  have h := h.2
  refine qa_ald0 dL_law_655 ?_
  refine qa_ild3 dL_law_656 ?_
  refine qa_iconst (v := 2) dL_law_657 (by decide) ?_
  refine qa_iadd dL_law_658 ?_
  refine qa_sld dL_law_659 h.1 ?_
  have h := h.2
  refine qa_V2I dL_law_660 lm_L_56 sh_91 rfl (by decide) (by decide) (Nat.le_of_ble_eq_true rfl) (tX9_who l hp28 h) (fun r29 μ29 hp29 h => ?_)
  refine qa_icmp_eq (tgt := 2510) dL_law_663 (by decide) (fun c30 => ?_) (fun c30 => ?_)
  · have h := h.1 c30
    refine qa_inc3 dL_law_2510 (qa_io6 _) ?_
    refine qa_goto (tgt := 18) dL_law_2513 (by decide) ?_
    exact ih (i + (6 : Int32)) μ29 hp29 h
  · have h := h.2 c30
    refine qa_iconst (v := 0) dL_law_666 (by decide) ?_
    exact False.elim h
def wLc_10 (Ln : Nat) (xs : Nat → Int32) (n : Nat) (K : Int32 → qa_M → Prop) (i : Int32) (μ0 : qa_M) : Prop := vp_in (i + (1 : Int32)) Ln ∧ vp_in (i + (2 : Int32)) Ln ∧ wX8_pushes n (xs (i + (1 : Int32)).toNatClampNeg) (xs (i + (2 : Int32)).toNatClampNeg) μ0 (fun r31 μ31 => vp_in (i + (1 : Int32)) Ln ∧ vp_in (i + (2 : Int32)) Ln ∧ wX9_pushes n (xs (i + (1 : Int32)).toNatClampNeg) (xs (i + (2 : Int32)).toNatClampNeg) μ31 (fun r32 μ32 => ((r31 = r32 → K (i + (6 : Int32)) μ32) ∧ (¬ r31 = r32 → False))))
theorem tLc_10 (l : Launch) {nm : String} {Ln : Nat} {xs : Nat → Int32} {n : Nat} {K : Int32 → qa_M → Prop} (ih : ∀ (i : Int32) (μ : qa_M), qa_PP μ.2.2 → K i μ → qa_LG l nm Ln xs 113 17503 18 [some (.ref 6000), some (.ref 1), some (.ref 91), some (.int i)] [] 113 μ) {i : Int32} {μ0 : qa_M} (hp0 : qa_PP μ0.2.2) (h : wLc_10 Ln xs n K i μ0) : qa_LG l nm Ln xs 113 17503 668 [some (.ref 6000), some (.ref 1), some (.ref 91), some (.int i)] [] 113 μ0 := by
  unfold wLc_10 at h
  refine qa_ald1 dL_law_668 ?_
  refine qa_ald0 dL_law_669 ?_
  refine qa_ild3 dL_law_670 ?_
  refine qa_iconst (v := 1) dL_law_671 (by decide) ?_
  refine qa_iadd dL_law_672 ?_
  refine qa_sld dL_law_673 h.1 ?_
  have h := h.2
  refine qa_ald0 dL_law_674 ?_
  refine qa_ild3 dL_law_675 ?_
  refine qa_iconst (v := 2) dL_law_676 (by decide) ?_
  refine qa_iadd dL_law_677 ?_
  refine qa_sld dL_law_678 h.1 ?_
  have h := h.2
  refine qa_V2I dL_law_679 lm_L_57 sh_1 rfl (by decide) (by decide) (Nat.le_of_ble_eq_true rfl) (tX8_pushes l hp0 h) (fun r31 μ31 hp31 h => ?_)
  refine qa_ald2 dL_law_682 ?_
  refine qa_ald0 dL_law_683 ?_
  refine qa_ild3 dL_law_684 ?_
  refine qa_iconst (v := 1) dL_law_685 (by decide) ?_
  refine qa_iadd dL_law_686 ?_
  refine qa_sld dL_law_687 h.1 ?_
  have h := h.2
  refine qa_ald0 dL_law_688 ?_
  refine qa_ild3 dL_law_689 ?_
  refine qa_iconst (v := 2) dL_law_690 (by decide) ?_
  refine qa_iadd dL_law_691 ?_
  refine qa_sld dL_law_692 h.1 ?_
  have h := h.2
  refine qa_V2I dL_law_693 lm_L_60 sh_91 rfl (by decide) (by decide) (Nat.le_of_ble_eq_true rfl) (tX9_pushes l hp31 h) (fun r32 μ32 hp32 h => ?_)
  refine qa_icmp_eq (tgt := 2510) dL_law_696 (by decide) (fun c33 => ?_) (fun c33 => ?_)
  · have h := h.1 c33
    refine qa_inc3 dL_law_2510 (qa_io6 _) ?_
    refine qa_goto (tgt := 18) dL_law_2513 (by decide) ?_
    exact ih (i + (6 : Int32)) μ32 hp32 h
  · have h := h.2 c33
    refine qa_iconst (v := 0) dL_law_699 (by decide) ?_
    exact False.elim h
def wLc_11 (Ln : Nat) (xs : Nat → Int32) (n : Nat) (K : Int32 → qa_M → Prop) (i : Int32) (μ0 : qa_M) : Prop := vp_in (i + (1 : Int32)) Ln ∧ wX8_force n (xs (i + (1 : Int32)).toNatClampNeg) μ0 (fun r34 μ34 => vp_in (i + (1 : Int32)) Ln ∧ wX9_force n (xs (i + (1 : Int32)).toNatClampNeg) μ34 (fun r35 μ35 => ((r34 = r35 → K (i + (6 : Int32)) μ35) ∧ (¬ r34 = r35 → False))))
theorem tLc_11 (l : Launch) {nm : String} {Ln : Nat} {xs : Nat → Int32} {n : Nat} {K : Int32 → qa_M → Prop} (ih : ∀ (i : Int32) (μ : qa_M), qa_PP μ.2.2 → K i μ → qa_LG l nm Ln xs 113 17503 18 [some (.ref 6000), some (.ref 1), some (.ref 91), some (.int i)] [] 113 μ) {i : Int32} {μ0 : qa_M} (hp0 : qa_PP μ0.2.2) (h : wLc_11 Ln xs n K i μ0) : qa_LG l nm Ln xs 113 17503 701 [some (.ref 6000), some (.ref 1), some (.ref 91), some (.int i)] [] 113 μ0 := by
  unfold wLc_11 at h
  refine qa_ald1 dL_law_701 ?_
  refine qa_ald0 dL_law_702 ?_
  refine qa_ild3 dL_law_703 ?_
  refine qa_iconst (v := 1) dL_law_704 (by decide) ?_
  refine qa_iadd dL_law_705 ?_
  refine qa_sld dL_law_706 h.1 ?_
  have h := h.2
  refine qa_V1I dL_law_707 lm_L_61 sh_1 rfl (by decide) (by decide) (Nat.le_of_ble_eq_true rfl) (tX8_force l hp0 h) (fun r34 μ34 hp34 h => ?_)
  refine qa_ald2 dL_law_710 ?_
  refine qa_ald0 dL_law_711 ?_
  refine qa_ild3 dL_law_712 ?_
  refine qa_iconst (v := 1) dL_law_713 (by decide) ?_
  refine qa_iadd dL_law_714 ?_
  refine qa_sld dL_law_715 h.1 ?_
  have h := h.2
  refine qa_V1I dL_law_716 lm_L_64 sh_91 rfl (by decide) (by decide) (Nat.le_of_ble_eq_true rfl) (tX9_force l hp34 h) (fun r35 μ35 hp35 h => ?_)
  refine qa_icmp_eq (tgt := 2510) dL_law_719 (by decide) (fun c36 => ?_) (fun c36 => ?_)
  · have h := h.1 c36
    refine qa_inc3 dL_law_2510 (qa_io6 _) ?_
    refine qa_goto (tgt := 18) dL_law_2513 (by decide) ?_
    exact ih (i + (6 : Int32)) μ35 hp35 h
  · have h := h.2 c36
    refine qa_iconst (v := 0) dL_law_722 (by decide) ?_
    exact False.elim h
def wLc_12 (Ln : Nat) (xs : Nat → Int32) (n : Nat) (K : Int32 → qa_M → Prop) (i : Int32) (μ0 : qa_M) : Prop := vp_in (i + (1 : Int32)) Ln ∧ wX8_turn n (xs (i + (1 : Int32)).toNatClampNeg) μ0 (fun r37 μ37 => vp_in (i + (1 : Int32)) Ln ∧ wX9_turn n (xs (i + (1 : Int32)).toNatClampNeg) μ37 (fun r38 μ38 => ((r37 = r38 → K (i + (6 : Int32)) μ38) ∧ (¬ r37 = r38 → False))))
theorem tLc_12 (l : Launch) {nm : String} {Ln : Nat} {xs : Nat → Int32} {n : Nat} {K : Int32 → qa_M → Prop} (ih : ∀ (i : Int32) (μ : qa_M), qa_PP μ.2.2 → K i μ → qa_LG l nm Ln xs 113 17503 18 [some (.ref 6000), some (.ref 1), some (.ref 91), some (.int i)] [] 113 μ) {i : Int32} {μ0 : qa_M} (hp0 : qa_PP μ0.2.2) (h : wLc_12 Ln xs n K i μ0) : qa_LG l nm Ln xs 113 17503 724 [some (.ref 6000), some (.ref 1), some (.ref 91), some (.int i)] [] 113 μ0 := by
  unfold wLc_12 at h
  refine qa_ald1 dL_law_724 ?_
  refine qa_ald0 dL_law_725 ?_
  refine qa_ild3 dL_law_726 ?_
  refine qa_iconst (v := 1) dL_law_727 (by decide) ?_
  refine qa_iadd dL_law_728 ?_
  refine qa_sld dL_law_729 h.1 ?_
  have h := h.2
  refine qa_V1I dL_law_730 lm_L_65 sh_1 rfl (by decide) (by decide) (Nat.le_of_ble_eq_true rfl) (tX8_turn l hp0 h) (fun r37 μ37 hp37 h => ?_)
  refine qa_ald2 dL_law_733 ?_
  refine qa_ald0 dL_law_734 ?_
  refine qa_ild3 dL_law_735 ?_
  refine qa_iconst (v := 1) dL_law_736 (by decide) ?_
  refine qa_iadd dL_law_737 ?_
  refine qa_sld dL_law_738 h.1 ?_
  have h := h.2
  refine qa_V1I dL_law_739 lm_L_68 sh_91 rfl (by decide) (by decide) (Nat.le_of_ble_eq_true rfl) (tX9_turn l hp37 h) (fun r38 μ38 hp38 h => ?_)
  refine qa_icmp_eq (tgt := 2510) dL_law_742 (by decide) (fun c39 => ?_) (fun c39 => ?_)
  · have h := h.1 c39
    refine qa_inc3 dL_law_2510 (qa_io6 _) ?_
    refine qa_goto (tgt := 18) dL_law_2513 (by decide) ?_
    exact ih (i + (6 : Int32)) μ38 hp38 h
  · have h := h.2 c39
    refine qa_iconst (v := 0) dL_law_745 (by decide) ?_
    exact False.elim h
def wLc_13 (Ln : Nat) (xs : Nat → Int32) (n : Nat) (K : Int32 → qa_M → Prop) (i : Int32) (μ0 : qa_M) : Prop := vp_in (i + (1 : Int32)) Ln ∧ wX8_stands n (xs (i + (1 : Int32)).toNatClampNeg) μ0 (fun r40 μ40 => vp_in (i + (1 : Int32)) Ln ∧ wX9_stands n (xs (i + (1 : Int32)).toNatClampNeg) μ40 (fun r41 μ41 => ((r40 = r41 → K (i + (6 : Int32)) μ41) ∧ (¬ r40 = r41 → False))))
theorem tLc_13 (l : Launch) {nm : String} {Ln : Nat} {xs : Nat → Int32} {n : Nat} {K : Int32 → qa_M → Prop} (ih : ∀ (i : Int32) (μ : qa_M), qa_PP μ.2.2 → K i μ → qa_LG l nm Ln xs 113 17503 18 [some (.ref 6000), some (.ref 1), some (.ref 91), some (.int i)] [] 113 μ) {i : Int32} {μ0 : qa_M} (hp0 : qa_PP μ0.2.2) (h : wLc_13 Ln xs n K i μ0) : qa_LG l nm Ln xs 113 17503 747 [some (.ref 6000), some (.ref 1), some (.ref 91), some (.int i)] [] 113 μ0 := by
  unfold wLc_13 at h
  refine qa_ald1 dL_law_747 ?_
  refine qa_ald0 dL_law_748 ?_
  refine qa_ild3 dL_law_749 ?_
  refine qa_iconst (v := 1) dL_law_750 (by decide) ?_
  refine qa_iadd dL_law_751 ?_
  refine qa_sld dL_law_752 h.1 ?_
  have h := h.2
  refine qa_V1I dL_law_753 lm_L_69 sh_1 rfl (by decide) (by decide) (Nat.le_of_ble_eq_true rfl) (tX8_stands l hp0 h) (fun r40 μ40 hp40 h => ?_)
  refine qa_ald2 dL_law_756 ?_
  refine qa_ald0 dL_law_757 ?_
  refine qa_ild3 dL_law_758 ?_
  refine qa_iconst (v := 1) dL_law_759 (by decide) ?_
  refine qa_iadd dL_law_760 ?_
  refine qa_sld dL_law_761 h.1 ?_
  have h := h.2
  refine qa_V1I dL_law_762 lm_L_72 sh_91 rfl (by decide) (by decide) (Nat.le_of_ble_eq_true rfl) (tX9_stands l hp40 h) (fun r41 μ41 hp41 h => ?_)
  refine qa_icmp_eq (tgt := 2510) dL_law_765 (by decide) (fun c42 => ?_) (fun c42 => ?_)
  · have h := h.1 c42
    refine qa_inc3 dL_law_2510 (qa_io6 _) ?_
    refine qa_goto (tgt := 18) dL_law_2513 (by decide) ?_
    exact ih (i + (6 : Int32)) μ41 hp41 h
  · have h := h.2 c42
    refine qa_iconst (v := 0) dL_law_768 (by decide) ?_
    exact False.elim h
def wLc_14 (Ln : Nat) (xs : Nat → Int32) (n : Nat) (K : Int32 → qa_M → Prop) (i : Int32) (μ0 : qa_M) : Prop := wX8_jerk n  μ0 (fun r43 μ43 => wX9_jerk n  μ43 (fun r44 μ44 => ((r43 = r44 → K (i + (6 : Int32)) μ44) ∧ (¬ r43 = r44 → False))))
theorem tLc_14 (l : Launch) {nm : String} {Ln : Nat} {xs : Nat → Int32} {n : Nat} {K : Int32 → qa_M → Prop} (ih : ∀ (i : Int32) (μ : qa_M), qa_PP μ.2.2 → K i μ → qa_LG l nm Ln xs 113 17503 18 [some (.ref 6000), some (.ref 1), some (.ref 91), some (.int i)] [] 113 μ) {i : Int32} {μ0 : qa_M} (hp0 : qa_PP μ0.2.2) (h : wLc_14 Ln xs n K i μ0) : qa_LG l nm Ln xs 113 17503 770 [some (.ref 6000), some (.ref 1), some (.ref 91), some (.int i)] [] 113 μ0 := by
  unfold wLc_14 at h
  refine qa_ald1 dL_law_770 ?_
  refine qa_V0I dL_law_771 lm_L_73 sh_1 rfl (by decide) (by decide) (Nat.le_of_ble_eq_true rfl) (tX8_jerk l hp0 h) (fun r43 μ43 hp43 h => ?_)
  refine qa_ald2 dL_law_774 ?_
  refine qa_V0I dL_law_775 lm_L_76 sh_91 rfl (by decide) (by decide) (Nat.le_of_ble_eq_true rfl) (tX9_jerk l hp43 h) (fun r44 μ44 hp44 h => ?_)
  refine qa_icmp_eq (tgt := 2510) dL_law_778 (by decide) (fun c45 => ?_) (fun c45 => ?_)
  · have h := h.1 c45
    refine qa_inc3 dL_law_2510 (qa_io6 _) ?_
    refine qa_goto (tgt := 18) dL_law_2513 (by decide) ?_
    exact ih (i + (6 : Int32)) μ44 hp44 h
  · have h := h.2 c45
    refine qa_iconst (v := 0) dL_law_781 (by decide) ?_
    exact False.elim h
def wLc_15 (Ln : Nat) (xs : Nat → Int32) (n : Nat) (K : Int32 → qa_M → Prop) (i : Int32) (μ0 : qa_M) : Prop := wX8_still n  μ0 (fun r46 μ46 => wX9_still n  μ46 (fun r47 μ47 => ((r46 = r47 → K (i + (6 : Int32)) μ47) ∧ (¬ r46 = r47 → False))))
theorem tLc_15 (l : Launch) {nm : String} {Ln : Nat} {xs : Nat → Int32} {n : Nat} {K : Int32 → qa_M → Prop} (ih : ∀ (i : Int32) (μ : qa_M), qa_PP μ.2.2 → K i μ → qa_LG l nm Ln xs 113 17503 18 [some (.ref 6000), some (.ref 1), some (.ref 91), some (.int i)] [] 113 μ) {i : Int32} {μ0 : qa_M} (hp0 : qa_PP μ0.2.2) (h : wLc_15 Ln xs n K i μ0) : qa_LG l nm Ln xs 113 17503 783 [some (.ref 6000), some (.ref 1), some (.ref 91), some (.int i)] [] 113 μ0 := by
  unfold wLc_15 at h
  refine qa_ald1 dL_law_783 ?_
  refine qa_V0I dL_law_784 lm_L_77 sh_1 rfl (by decide) (by decide) (Nat.le_of_ble_eq_true rfl) (tX8_still l hp0 h) (fun r46 μ46 hp46 h => ?_)
  refine qa_ald2 dL_law_787 ?_
  refine qa_V0I dL_law_788 lm_L_80 sh_91 rfl (by decide) (by decide) (Nat.le_of_ble_eq_true rfl) (tX9_still l hp46 h) (fun r47 μ47 hp47 h => ?_)
  refine qa_icmp_eq (tgt := 2510) dL_law_791 (by decide) (fun c48 => ?_) (fun c48 => ?_)
  · have h := h.1 c48
    refine qa_inc3 dL_law_2510 (qa_io6 _) ?_
    refine qa_goto (tgt := 18) dL_law_2513 (by decide) ?_
    exact ih (i + (6 : Int32)) μ47 hp47 h
  · have h := h.2 c48
    refine qa_iconst (v := 0) dL_law_794 (by decide) ?_
    exact False.elim h
def wLc_16 (Ln : Nat) (xs : Nat → Int32) (n : Nat) (K : Int32 → qa_M → Prop) (i : Int32) (μ0 : qa_M) : Prop := vp_in (i + (1 : Int32)) Ln ∧ wX8_strongest n (xs (i + (1 : Int32)).toNatClampNeg) μ0 (fun r49 μ49 => vp_in (i + (1 : Int32)) Ln ∧ wX9_strongest n (xs (i + (1 : Int32)).toNatClampNeg) μ49 (fun r50 μ50 => ((r49 = r50 → K (i + (6 : Int32)) μ50) ∧ (¬ r49 = r50 → False))))
theorem tLc_16 (l : Launch) {nm : String} {Ln : Nat} {xs : Nat → Int32} {n : Nat} {K : Int32 → qa_M → Prop} (ih : ∀ (i : Int32) (μ : qa_M), qa_PP μ.2.2 → K i μ → qa_LG l nm Ln xs 113 17503 18 [some (.ref 6000), some (.ref 1), some (.ref 91), some (.int i)] [] 113 μ) {i : Int32} {μ0 : qa_M} (hp0 : qa_PP μ0.2.2) (h : wLc_16 Ln xs n K i μ0) : qa_LG l nm Ln xs 113 17503 796 [some (.ref 6000), some (.ref 1), some (.ref 91), some (.int i)] [] 113 μ0 := by
  unfold wLc_16 at h
  refine qa_ald1 dL_law_796 ?_
  refine qa_ald0 dL_law_797 ?_
  refine qa_ild3 dL_law_798 ?_
  refine qa_iconst (v := 1) dL_law_799 (by decide) ?_
  refine qa_iadd dL_law_800 ?_
  refine qa_sld dL_law_801 h.1 ?_
  have h := h.2
  refine qa_V1I dL_law_802 lm_L_81 sh_1 rfl (by decide) (by decide) (Nat.le_of_ble_eq_true rfl) (tX8_strongest l hp0 h) (fun r49 μ49 hp49 h => ?_)
  refine qa_ald2 dL_law_805 ?_
  refine qa_ald0 dL_law_806 ?_
  refine qa_ild3 dL_law_807 ?_
  refine qa_iconst (v := 1) dL_law_808 (by decide) ?_
  refine qa_iadd dL_law_809 ?_
  refine qa_sld dL_law_810 h.1 ?_
  have h := h.2
  refine qa_V1I dL_law_811 lm_L_84 sh_91 rfl (by decide) (by decide) (Nat.le_of_ble_eq_true rfl) (tX9_strongest l hp49 h) (fun r50 μ50 hp50 h => ?_)
  refine qa_icmp_eq (tgt := 2510) dL_law_814 (by decide) (fun c51 => ?_) (fun c51 => ?_)
  · have h := h.1 c51
    refine qa_inc3 dL_law_2510 (qa_io6 _) ?_
    refine qa_goto (tgt := 18) dL_law_2513 (by decide) ?_
    exact ih (i + (6 : Int32)) μ50 hp50 h
  · have h := h.2 c51
    refine qa_iconst (v := 0) dL_law_817 (by decide) ?_
    exact False.elim h
def wLc_17 (Ln : Nat) (xs : Nat → Int32) (n : Nat) (K : Int32 → qa_M → Prop) (i : Int32) (μ0 : qa_M) : Prop := vp_in (i + (1 : Int32)) Ln ∧ wX8_toil n (xs (i + (1 : Int32)).toNatClampNeg) μ0 (fun r52 μ52 => vp_in (i + (1 : Int32)) Ln ∧ wX9_toil n (xs (i + (1 : Int32)).toNatClampNeg) μ52 (fun r53 μ53 => ((r52 = r53 → K (i + (6 : Int32)) μ53) ∧ (¬ r52 = r53 → False))))
theorem tLc_17 (l : Launch) {nm : String} {Ln : Nat} {xs : Nat → Int32} {n : Nat} {K : Int32 → qa_M → Prop} (ih : ∀ (i : Int32) (μ : qa_M), qa_PP μ.2.2 → K i μ → qa_LG l nm Ln xs 113 17503 18 [some (.ref 6000), some (.ref 1), some (.ref 91), some (.int i)] [] 113 μ) {i : Int32} {μ0 : qa_M} (hp0 : qa_PP μ0.2.2) (h : wLc_17 Ln xs n K i μ0) : qa_LG l nm Ln xs 113 17503 819 [some (.ref 6000), some (.ref 1), some (.ref 91), some (.int i)] [] 113 μ0 := by
  unfold wLc_17 at h
  refine qa_ald1 dL_law_819 ?_
  refine qa_ald0 dL_law_820 ?_
  refine qa_ild3 dL_law_821 ?_
  refine qa_iconst (v := 1) dL_law_822 (by decide) ?_
  refine qa_iadd dL_law_823 ?_
  refine qa_sld dL_law_824 h.1 ?_
  have h := h.2
  refine qa_V1I dL_law_825 lm_L_85 sh_1 rfl (by decide) (by decide) (Nat.le_of_ble_eq_true rfl) (tX8_toil l hp0 h) (fun r52 μ52 hp52 h => ?_)
  refine qa_ald2 dL_law_828 ?_
  refine qa_ald0 dL_law_829 ?_
  refine qa_ild3 dL_law_830 ?_
  refine qa_iconst (v := 1) dL_law_831 (by decide) ?_
  refine qa_iadd dL_law_832 ?_
  refine qa_sld dL_law_833 h.1 ?_
  have h := h.2
  refine qa_V1I dL_law_834 lm_L_88 sh_91 rfl (by decide) (by decide) (Nat.le_of_ble_eq_true rfl) (tX9_toil l hp52 h) (fun r53 μ53 hp53 h => ?_)
  refine qa_icmp_eq (tgt := 2510) dL_law_837 (by decide) (fun c54 => ?_) (fun c54 => ?_)
  · have h := h.1 c54
    refine qa_inc3 dL_law_2510 (qa_io6 _) ?_
    refine qa_goto (tgt := 18) dL_law_2513 (by decide) ?_
    exact ih (i + (6 : Int32)) μ53 hp53 h
  · have h := h.2 c54
    refine qa_iconst (v := 0) dL_law_840 (by decide) ?_
    exact False.elim h
def wLc_18 (Ln : Nat) (xs : Nat → Int32) (n : Nat) (K : Int32 → qa_M → Prop) (i : Int32) (μ0 : qa_M) : Prop := vp_in (i + (1 : Int32)) Ln ∧ vp_in (i + (2 : Int32)) Ln ∧ wX8_sun n (xs (i + (1 : Int32)).toNatClampNeg) (xs (i + (2 : Int32)).toNatClampNeg) μ0 (fun r55 μ55 => vp_in (i + (1 : Int32)) Ln ∧ vp_in (i + (2 : Int32)) Ln ∧ wX9_sun n (xs (i + (1 : Int32)).toNatClampNeg) (xs (i + (2 : Int32)).toNatClampNeg) μ55 (fun r56 μ56 => ((r55 = r56 → K (i + (6 : Int32)) μ56) ∧ (¬ r55 = r56 → False))))
theorem tLc_18 (l : Launch) {nm : String} {Ln : Nat} {xs : Nat → Int32} {n : Nat} {K : Int32 → qa_M → Prop} (ih : ∀ (i : Int32) (μ : qa_M), qa_PP μ.2.2 → K i μ → qa_LG l nm Ln xs 113 17503 18 [some (.ref 6000), some (.ref 1), some (.ref 91), some (.int i)] [] 113 μ) {i : Int32} {μ0 : qa_M} (hp0 : qa_PP μ0.2.2) (h : wLc_18 Ln xs n K i μ0) : qa_LG l nm Ln xs 113 17503 842 [some (.ref 6000), some (.ref 1), some (.ref 91), some (.int i)] [] 113 μ0 := by
  unfold wLc_18 at h
  refine qa_ald1 dL_law_842 ?_
  refine qa_ald0 dL_law_843 ?_
  refine qa_ild3 dL_law_844 ?_
  refine qa_iconst (v := 1) dL_law_845 (by decide) ?_
  refine qa_iadd dL_law_846 ?_
  refine qa_sld dL_law_847 h.1 ?_
  have h := h.2
  refine qa_ald0 dL_law_848 ?_
  refine qa_ild3 dL_law_849 ?_
  refine qa_iconst (v := 2) dL_law_850 (by decide) ?_
  refine qa_iadd dL_law_851 ?_
  refine qa_sld dL_law_852 h.1 ?_
  have h := h.2
  refine qa_V2I dL_law_853 lm_L_89 sh_1 rfl (by decide) (by decide) (Nat.le_of_ble_eq_true rfl) (tX8_sun l hp0 h) (fun r55 μ55 hp55 h => ?_)
  refine qa_ald2 dL_law_856 ?_
  refine qa_ald0 dL_law_857 ?_
  refine qa_ild3 dL_law_858 ?_
  refine qa_iconst (v := 1) dL_law_859 (by decide) ?_
  refine qa_iadd dL_law_860 ?_
  refine qa_sld dL_law_861 h.1 ?_
  have h := h.2
  refine qa_ald0 dL_law_862 ?_
  refine qa_ild3 dL_law_863 ?_
  refine qa_iconst (v := 2) dL_law_864 (by decide) ?_
  refine qa_iadd dL_law_865 ?_
  refine qa_sld dL_law_866 h.1 ?_
  have h := h.2
  refine qa_V2I dL_law_867 lm_L_92 sh_91 rfl (by decide) (by decide) (Nat.le_of_ble_eq_true rfl) (tX9_sun l hp55 h) (fun r56 μ56 hp56 h => ?_)
  refine qa_icmp_eq (tgt := 2510) dL_law_870 (by decide) (fun c57 => ?_) (fun c57 => ?_)
  · have h := h.1 c57
    refine qa_inc3 dL_law_2510 (qa_io6 _) ?_
    refine qa_goto (tgt := 18) dL_law_2513 (by decide) ?_
    exact ih (i + (6 : Int32)) μ56 hp56 h
  · have h := h.2 c57
    refine qa_iconst (v := 0) dL_law_873 (by decide) ?_
    exact False.elim h
def wLc_19 (Ln : Nat) (xs : Nat → Int32) (n : Nat) (K : Int32 → qa_M → Prop) (i : Int32) (μ0 : qa_M) : Prop := wX8_brown n  μ0 (fun r58 μ58 => wX9_brown n  μ58 (fun r59 μ59 => ((r58 = r59 → K (i + (6 : Int32)) μ59) ∧ (¬ r58 = r59 → False))))
theorem tLc_19 (l : Launch) {nm : String} {Ln : Nat} {xs : Nat → Int32} {n : Nat} {K : Int32 → qa_M → Prop} (ih : ∀ (i : Int32) (μ : qa_M), qa_PP μ.2.2 → K i μ → qa_LG l nm Ln xs 113 17503 18 [some (.ref 6000), some (.ref 1), some (.ref 91), some (.int i)] [] 113 μ) {i : Int32} {μ0 : qa_M} (hp0 : qa_PP μ0.2.2) (h : wLc_19 Ln xs n K i μ0) : qa_LG l nm Ln xs 113 17503 875 [some (.ref 6000), some (.ref 1), some (.ref 91), some (.int i)] [] 113 μ0 := by
  unfold wLc_19 at h
  refine qa_ald1 dL_law_875 ?_
  refine qa_V0I dL_law_876 lm_L_93 sh_1 rfl (by decide) (by decide) (Nat.le_of_ble_eq_true rfl) (tX8_brown l hp0 h) (fun r58 μ58 hp58 h => ?_)
  refine qa_ald2 dL_law_879 ?_
  refine qa_V0I dL_law_880 lm_L_96 sh_91 rfl (by decide) (by decide) (Nat.le_of_ble_eq_true rfl) (tX9_brown l hp58 h) (fun r59 μ59 hp59 h => ?_)
  refine qa_icmp_eq (tgt := 2510) dL_law_883 (by decide) (fun c60 => ?_) (fun c60 => ?_)
  · have h := h.1 c60
    refine qa_inc3 dL_law_2510 (qa_io6 _) ?_
    refine qa_goto (tgt := 18) dL_law_2513 (by decide) ?_
    exact ih (i + (6 : Int32)) μ59 hp59 h
  · have h := h.2 c60
    refine qa_iconst (v := 0) dL_law_886 (by decide) ?_
    exact False.elim h
def wLc_20 (Ln : Nat) (xs : Nat → Int32) (n : Nat) (K : Int32 → qa_M → Prop) (i : Int32) (μ0 : qa_M) : Prop := wX8_pale n  μ0 (fun r61 μ61 => wX9_pale n  μ61 (fun r62 μ62 => ((r61 = r62 → K (i + (6 : Int32)) μ62) ∧ (¬ r61 = r62 → False))))
theorem tLc_20 (l : Launch) {nm : String} {Ln : Nat} {xs : Nat → Int32} {n : Nat} {K : Int32 → qa_M → Prop} (ih : ∀ (i : Int32) (μ : qa_M), qa_PP μ.2.2 → K i μ → qa_LG l nm Ln xs 113 17503 18 [some (.ref 6000), some (.ref 1), some (.ref 91), some (.int i)] [] 113 μ) {i : Int32} {μ0 : qa_M} (hp0 : qa_PP μ0.2.2) (h : wLc_20 Ln xs n K i μ0) : qa_LG l nm Ln xs 113 17503 888 [some (.ref 6000), some (.ref 1), some (.ref 91), some (.int i)] [] 113 μ0 := by
  unfold wLc_20 at h
  refine qa_ald1 dL_law_888 ?_
  refine qa_V0I dL_law_889 lm_L_97 sh_1 rfl (by decide) (by decide) (Nat.le_of_ble_eq_true rfl) (tX8_pale l hp0 h) (fun r61 μ61 hp61 h => ?_)
  refine qa_ald2 dL_law_892 ?_
  refine qa_V0I dL_law_893 lm_L_100 sh_91 rfl (by decide) (by decide) (Nat.le_of_ble_eq_true rfl) (tX9_pale l hp61 h) (fun r62 μ62 hp62 h => ?_)
  refine qa_icmp_eq (tgt := 2510) dL_law_896 (by decide) (fun c63 => ?_) (fun c63 => ?_)
  · have h := h.1 c63
    refine qa_inc3 dL_law_2510 (qa_io6 _) ?_
    refine qa_goto (tgt := 18) dL_law_2513 (by decide) ?_
    exact ih (i + (6 : Int32)) μ62 hp62 h
  · have h := h.2 c63
    refine qa_iconst (v := 0) dL_law_899 (by decide) ?_
    exact False.elim h
def wLc_21 (Ln : Nat) (xs : Nat → Int32) (n : Nat) (K : Int32 → qa_M → Prop) (i : Int32) (μ0 : qa_M) : Prop := wX8_span n  μ0 (fun r64 μ64 => wX9_span n  μ64 (fun r65 μ65 => ((r64 = r65 → K (i + (6 : Int32)) μ65) ∧ (¬ r64 = r65 → False))))
theorem tLc_21 (l : Launch) {nm : String} {Ln : Nat} {xs : Nat → Int32} {n : Nat} {K : Int32 → qa_M → Prop} (ih : ∀ (i : Int32) (μ : qa_M), qa_PP μ.2.2 → K i μ → qa_LG l nm Ln xs 113 17503 18 [some (.ref 6000), some (.ref 1), some (.ref 91), some (.int i)] [] 113 μ) {i : Int32} {μ0 : qa_M} (hp0 : qa_PP μ0.2.2) (h : wLc_21 Ln xs n K i μ0) : qa_LG l nm Ln xs 113 17503 901 [some (.ref 6000), some (.ref 1), some (.ref 91), some (.int i)] [] 113 μ0 := by
  unfold wLc_21 at h
  refine qa_ald1 dL_law_901 ?_
  refine qa_V0I dL_law_902 lm_L_101 sh_1 rfl (by decide) (by decide) (Nat.le_of_ble_eq_true rfl) (tX8_span l hp0 h) (fun r64 μ64 hp64 h => ?_)
  refine qa_ald2 dL_law_905 ?_
  refine qa_V0I dL_law_906 lm_L_104 sh_91 rfl (by decide) (by decide) (Nat.le_of_ble_eq_true rfl) (tX9_span l hp64 h) (fun r65 μ65 hp65 h => ?_)
  refine qa_icmp_eq (tgt := 2510) dL_law_909 (by decide) (fun c66 => ?_) (fun c66 => ?_)
  · have h := h.1 c66
    refine qa_inc3 dL_law_2510 (qa_io6 _) ?_
    refine qa_goto (tgt := 18) dL_law_2513 (by decide) ?_
    exact ih (i + (6 : Int32)) μ65 hp65 h
  · have h := h.2 c66
    refine qa_iconst (v := 0) dL_law_912 (by decide) ?_
    exact False.elim h
def wLc_22 (Ln : Nat) (xs : Nat → Int32) (n : Nat) (K : Int32 → qa_M → Prop) (i : Int32) (μ0 : qa_M) : Prop := wX8_home n  μ0 (fun r67 μ67 => wX9_home n  μ67 (fun r68 μ68 => ((r67 = r68 → K (i + (6 : Int32)) μ68) ∧ (¬ r67 = r68 → False))))
theorem tLc_22 (l : Launch) {nm : String} {Ln : Nat} {xs : Nat → Int32} {n : Nat} {K : Int32 → qa_M → Prop} (ih : ∀ (i : Int32) (μ : qa_M), qa_PP μ.2.2 → K i μ → qa_LG l nm Ln xs 113 17503 18 [some (.ref 6000), some (.ref 1), some (.ref 91), some (.int i)] [] 113 μ) {i : Int32} {μ0 : qa_M} (hp0 : qa_PP μ0.2.2) (h : wLc_22 Ln xs n K i μ0) : qa_LG l nm Ln xs 113 17503 914 [some (.ref 6000), some (.ref 1), some (.ref 91), some (.int i)] [] 113 μ0 := by
  unfold wLc_22 at h
  refine qa_ald1 dL_law_914 ?_
  refine qa_V0I dL_law_915 lm_L_105 sh_1 rfl (by decide) (by decide) (Nat.le_of_ble_eq_true rfl) (tX8_home l hp0 h) (fun r67 μ67 hp67 h => ?_)
  refine qa_ald2 dL_law_918 ?_
  refine qa_V0I dL_law_919 lm_L_108 sh_91 rfl (by decide) (by decide) (Nat.le_of_ble_eq_true rfl) (tX9_home l hp67 h) (fun r68 μ68 hp68 h => ?_)
  refine qa_icmp_eq (tgt := 2510) dL_law_922 (by decide) (fun c69 => ?_) (fun c69 => ?_)
  · have h := h.1 c69
    refine qa_inc3 dL_law_2510 (qa_io6 _) ?_
    refine qa_goto (tgt := 18) dL_law_2513 (by decide) ?_
    exact ih (i + (6 : Int32)) μ68 hp68 h
  · have h := h.2 c69
    refine qa_iconst (v := 0) dL_law_925 (by decide) ?_
    exact False.elim h
def wLc_23 (Ln : Nat) (xs : Nat → Int32) (n : Nat) (K : Int32 → qa_M → Prop) (i : Int32) (μ0 : qa_M) : Prop := vp_in (i + (1 : Int32)) Ln ∧ wX8_sees n (xs (i + (1 : Int32)).toNatClampNeg) μ0 (fun r70 μ70 => vp_in (i + (1 : Int32)) Ln ∧ wX9_sees n (xs (i + (1 : Int32)).toNatClampNeg) μ70 (fun r71 μ71 => ((r70 = r71 → K (i + (6 : Int32)) μ71) ∧ (¬ r70 = r71 → False))))
theorem tLc_23 (l : Launch) {nm : String} {Ln : Nat} {xs : Nat → Int32} {n : Nat} {K : Int32 → qa_M → Prop} (ih : ∀ (i : Int32) (μ : qa_M), qa_PP μ.2.2 → K i μ → qa_LG l nm Ln xs 113 17503 18 [some (.ref 6000), some (.ref 1), some (.ref 91), some (.int i)] [] 113 μ) {i : Int32} {μ0 : qa_M} (hp0 : qa_PP μ0.2.2) (h : wLc_23 Ln xs n K i μ0) : qa_LG l nm Ln xs 113 17503 927 [some (.ref 6000), some (.ref 1), some (.ref 91), some (.int i)] [] 113 μ0 := by
  unfold wLc_23 at h
  refine qa_ald1 dL_law_927 ?_
  refine qa_ald0 dL_law_928 ?_
  refine qa_ild3 dL_law_929 ?_
  refine qa_iconst (v := 1) dL_law_930 (by decide) ?_
  refine qa_iadd dL_law_931 ?_
  refine qa_sld dL_law_932 h.1 ?_
  have h := h.2
  refine qa_V1I dL_law_933 lm_L_109 sh_1 rfl (by decide) (by decide) (Nat.le_of_ble_eq_true rfl) (tX8_sees l hp0 h) (fun r70 μ70 hp70 h => ?_)
  refine qa_ald2 dL_law_936 ?_
  refine qa_ald0 dL_law_937 ?_
  refine qa_ild3 dL_law_938 ?_
  refine qa_iconst (v := 1) dL_law_939 (by decide) ?_
  refine qa_iadd dL_law_940 ?_
  refine qa_sld dL_law_941 h.1 ?_
  have h := h.2
  refine qa_V1I dL_law_942 lm_L_112 sh_91 rfl (by decide) (by decide) (Nat.le_of_ble_eq_true rfl) (tX9_sees l hp70 h) (fun r71 μ71 hp71 h => ?_)
  refine qa_icmp_eq (tgt := 2510) dL_law_945 (by decide) (fun c72 => ?_) (fun c72 => ?_)
  · have h := h.1 c72
    refine qa_inc3 dL_law_2510 (qa_io6 _) ?_
    refine qa_goto (tgt := 18) dL_law_2513 (by decide) ?_
    exact ih (i + (6 : Int32)) μ71 hp71 h
  · have h := h.2 c72
    refine qa_iconst (v := 0) dL_law_948 (by decide) ?_
    exact False.elim h
def wLc_24 (Ln : Nat) (xs : Nat → Int32) (n : Nat) (K : Int32 → qa_M → Prop) (i : Int32) (μ0 : qa_M) : Prop := vp_in (i + (1 : Int32)) Ln ∧ vp_in (i + (2 : Int32)) Ln ∧ wX8_when n (xs (i + (1 : Int32)).toNatClampNeg) (xs (i + (2 : Int32)).toNatClampNeg) μ0 (fun r73 μ73 => vp_in (i + (1 : Int32)) Ln ∧ vp_in (i + (2 : Int32)) Ln ∧ wX9_when n (xs (i + (1 : Int32)).toNatClampNeg) (xs (i + (2 : Int32)).toNatClampNeg) μ73 (fun r74 μ74 => ((r73 = r74 → K (i + (6 : Int32)) μ74) ∧ (¬ r73 = r74 → False))))
theorem tLc_24 (l : Launch) {nm : String} {Ln : Nat} {xs : Nat → Int32} {n : Nat} {K : Int32 → qa_M → Prop} (ih : ∀ (i : Int32) (μ : qa_M), qa_PP μ.2.2 → K i μ → qa_LG l nm Ln xs 113 17503 18 [some (.ref 6000), some (.ref 1), some (.ref 91), some (.int i)] [] 113 μ) {i : Int32} {μ0 : qa_M} (hp0 : qa_PP μ0.2.2) (h : wLc_24 Ln xs n K i μ0) : qa_LG l nm Ln xs 113 17503 950 [some (.ref 6000), some (.ref 1), some (.ref 91), some (.int i)] [] 113 μ0 := by
  unfold wLc_24 at h
  refine qa_ald1 dL_law_950 ?_
  refine qa_ald0 dL_law_951 ?_
  refine qa_ild3 dL_law_952 ?_
  refine qa_iconst (v := 1) dL_law_953 (by decide) ?_
  refine qa_iadd dL_law_954 ?_
  refine qa_sld dL_law_955 h.1 ?_
  have h := h.2
  refine qa_ald0 dL_law_956 ?_
  refine qa_ild3 dL_law_957 ?_
  refine qa_iconst (v := 2) dL_law_958 (by decide) ?_
  refine qa_iadd dL_law_959 ?_
  refine qa_sld dL_law_960 h.1 ?_
  have h := h.2
  refine qa_V2I dL_law_961 lm_L_113 sh_1 rfl (by decide) (by decide) (Nat.le_of_ble_eq_true rfl) (tX8_when l hp0 h) (fun r73 μ73 hp73 h => ?_)
  refine qa_ald2 dL_law_964 ?_
  refine qa_ald0 dL_law_965 ?_
  refine qa_ild3 dL_law_966 ?_
  refine qa_iconst (v := 1) dL_law_967 (by decide) ?_
  refine qa_iadd dL_law_968 ?_
  refine qa_sld dL_law_969 h.1 ?_
  have h := h.2
  refine qa_ald0 dL_law_970 ?_
  refine qa_ild3 dL_law_971 ?_
  refine qa_iconst (v := 2) dL_law_972 (by decide) ?_
  refine qa_iadd dL_law_973 ?_
  refine qa_sld dL_law_974 h.1 ?_
  have h := h.2
  refine qa_V2I dL_law_975 lm_L_116 sh_91 rfl (by decide) (by decide) (Nat.le_of_ble_eq_true rfl) (tX9_when l hp73 h) (fun r74 μ74 hp74 h => ?_)
  refine qa_icmp_eq (tgt := 2510) dL_law_978 (by decide) (fun c75 => ?_) (fun c75 => ?_)
  · have h := h.1 c75
    refine qa_inc3 dL_law_2510 (qa_io6 _) ?_
    refine qa_goto (tgt := 18) dL_law_2513 (by decide) ?_
    exact ih (i + (6 : Int32)) μ74 hp74 h
  · have h := h.2 c75
    refine qa_iconst (v := 0) dL_law_981 (by decide) ?_
    exact False.elim h
def wLc_25 (Ln : Nat) (xs : Nat → Int32) (n : Nat) (K : Int32 → qa_M → Prop) (i : Int32) (μ0 : qa_M) : Prop := vp_in (i + (1 : Int32)) Ln ∧ vp_in (i + (2 : Int32)) Ln ∧ vp_in (i + (3 : Int32)) Ln ∧ wX8_apart n (xs (i + (1 : Int32)).toNatClampNeg) (xs (i + (2 : Int32)).toNatClampNeg) (xs (i + (3 : Int32)).toNatClampNeg) μ0 (fun r76 μ76 => vp_in (i + (1 : Int32)) Ln ∧ vp_in (i + (2 : Int32)) Ln ∧ vp_in (i + (3 : Int32)) Ln ∧ wX9_apart n (xs (i + (1 : Int32)).toNatClampNeg) (xs (i + (2 : Int32)).toNatClampNeg) (xs (i + (3 : Int32)).toNatClampNeg) μ76 (fun r77 μ77 => ((r76 = r77 → K (i + (6 : Int32)) μ77) ∧ (¬ r76 = r77 → False))))
theorem tLc_25 (l : Launch) {nm : String} {Ln : Nat} {xs : Nat → Int32} {n : Nat} {K : Int32 → qa_M → Prop} (ih : ∀ (i : Int32) (μ : qa_M), qa_PP μ.2.2 → K i μ → qa_LG l nm Ln xs 113 17503 18 [some (.ref 6000), some (.ref 1), some (.ref 91), some (.int i)] [] 113 μ) {i : Int32} {μ0 : qa_M} (hp0 : qa_PP μ0.2.2) (h : wLc_25 Ln xs n K i μ0) : qa_LG l nm Ln xs 113 17503 983 [some (.ref 6000), some (.ref 1), some (.ref 91), some (.int i)] [] 113 μ0 := by
  unfold wLc_25 at h
  refine qa_ald1 dL_law_983 ?_
  refine qa_ald0 dL_law_984 ?_
  refine qa_ild3 dL_law_985 ?_
  refine qa_iconst (v := 1) dL_law_986 (by decide) ?_
  refine qa_iadd dL_law_987 ?_
  refine qa_sld dL_law_988 h.1 ?_
  have h := h.2
  refine qa_ald0 dL_law_989 ?_
  refine qa_ild3 dL_law_990 ?_
  refine qa_iconst (v := 2) dL_law_991 (by decide) ?_
  refine qa_iadd dL_law_992 ?_
  refine qa_sld dL_law_993 h.1 ?_
  have h := h.2
  refine qa_ald0 dL_law_994 ?_
  refine qa_ild3 dL_law_995 ?_
  refine qa_iconst (v := 3) dL_law_996 (by decide) ?_
  refine qa_iadd dL_law_997 ?_
  refine qa_sld dL_law_998 h.1 ?_
  have h := h.2
  refine qa_V3I dL_law_999 lm_L_117 sh_1 rfl (by decide) (by decide) (Nat.le_of_ble_eq_true rfl) (tX8_apart l hp0 h) (fun r76 μ76 hp76 h => ?_)
  refine qa_ald2 dL_law_1002 ?_
  refine qa_ald0 dL_law_1003 ?_
  refine qa_ild3 dL_law_1004 ?_
  refine qa_iconst (v := 1) dL_law_1005 (by decide) ?_
  refine qa_iadd dL_law_1006 ?_
  refine qa_sld dL_law_1007 h.1 ?_
  have h := h.2
  refine qa_ald0 dL_law_1008 ?_
  refine qa_ild3 dL_law_1009 ?_
  refine qa_iconst (v := 2) dL_law_1010 (by decide) ?_
  refine qa_iadd dL_law_1011 ?_
  refine qa_sld dL_law_1012 h.1 ?_
  have h := h.2
  refine qa_ald0 dL_law_1013 ?_
  refine qa_ild3 dL_law_1014 ?_
  refine qa_iconst (v := 3) dL_law_1015 (by decide) ?_
  refine qa_iadd dL_law_1016 ?_
  refine qa_sld dL_law_1017 h.1 ?_
  have h := h.2
  refine qa_V3I dL_law_1018 lm_L_121 sh_91 rfl (by decide) (by decide) (Nat.le_of_ble_eq_true rfl) (tX9_apart l hp76 h) (fun r77 μ77 hp77 h => ?_)
  refine qa_icmp_eq (tgt := 2510) dL_law_1021 (by decide) (fun c78 => ?_) (fun c78 => ?_)
  · have h := h.1 c78
    refine qa_inc3 dL_law_2510 (qa_io6 _) ?_
    refine qa_goto (tgt := 18) dL_law_2513 (by decide) ?_
    exact ih (i + (6 : Int32)) μ77 hp77 h
  · have h := h.2 c78
    refine qa_iconst (v := 0) dL_law_1024 (by decide) ?_
    exact False.elim h
def wLc_26 (Ln : Nat) (xs : Nat → Int32) (n : Nat) (K : Int32 → qa_M → Prop) (i : Int32) (μ0 : qa_M) : Prop := vp_in (i + (1 : Int32)) Ln ∧ vp_in (i + (2 : Int32)) Ln ∧ wX8_often n (xs (i + (1 : Int32)).toNatClampNeg) (xs (i + (2 : Int32)).toNatClampNeg) μ0 (fun r79 μ79 => vp_in (i + (1 : Int32)) Ln ∧ vp_in (i + (2 : Int32)) Ln ∧ wX9_often n (xs (i + (1 : Int32)).toNatClampNeg) (xs (i + (2 : Int32)).toNatClampNeg) μ79 (fun r80 μ80 => ((r79 = r80 → K (i + (6 : Int32)) μ80) ∧ (¬ r79 = r80 → False))))
theorem tLc_26 (l : Launch) {nm : String} {Ln : Nat} {xs : Nat → Int32} {n : Nat} {K : Int32 → qa_M → Prop} (ih : ∀ (i : Int32) (μ : qa_M), qa_PP μ.2.2 → K i μ → qa_LG l nm Ln xs 113 17503 18 [some (.ref 6000), some (.ref 1), some (.ref 91), some (.int i)] [] 113 μ) {i : Int32} {μ0 : qa_M} (hp0 : qa_PP μ0.2.2) (h : wLc_26 Ln xs n K i μ0) : qa_LG l nm Ln xs 113 17503 1026 [some (.ref 6000), some (.ref 1), some (.ref 91), some (.int i)] [] 113 μ0 := by
  unfold wLc_26 at h
  refine qa_ald1 dL_law_1026 ?_
  refine qa_ald0 dL_law_1027 ?_
  refine qa_ild3 dL_law_1028 ?_
  refine qa_iconst (v := 1) dL_law_1029 (by decide) ?_
  refine qa_iadd dL_law_1030 ?_
  refine qa_sld dL_law_1031 h.1 ?_
  have h := h.2
  refine qa_ald0 dL_law_1032 ?_
  refine qa_ild3 dL_law_1033 ?_
  refine qa_iconst (v := 2) dL_law_1034 (by decide) ?_
  refine qa_iadd dL_law_1035 ?_
  refine qa_sld dL_law_1036 h.1 ?_
  have h := h.2
  refine qa_V2I dL_law_1037 lm_L_122 sh_1 rfl (by decide) (by decide) (Nat.le_of_ble_eq_true rfl) (tX8_often l hp0 h) (fun r79 μ79 hp79 h => ?_)
  refine qa_ald2 dL_law_1040 ?_
  refine qa_ald0 dL_law_1041 ?_
  refine qa_ild3 dL_law_1042 ?_
  refine qa_iconst (v := 1) dL_law_1043 (by decide) ?_
  refine qa_iadd dL_law_1044 ?_
  refine qa_sld dL_law_1045 h.1 ?_
  have h := h.2
  refine qa_ald0 dL_law_1046 ?_
  refine qa_ild3 dL_law_1047 ?_
  refine qa_iconst (v := 2) dL_law_1048 (by decide) ?_
  refine qa_iadd dL_law_1049 ?_
  refine qa_sld dL_law_1050 h.1 ?_
  have h := h.2
  refine qa_V2I dL_law_1051 lm_L_125 sh_91 rfl (by decide) (by decide) (Nat.le_of_ble_eq_true rfl) (tX9_often l hp79 h) (fun r80 μ80 hp80 h => ?_)
  refine qa_icmp_eq (tgt := 2510) dL_law_1054 (by decide) (fun c81 => ?_) (fun c81 => ?_)
  · have h := h.1 c81
    refine qa_inc3 dL_law_2510 (qa_io6 _) ?_
    refine qa_goto (tgt := 18) dL_law_2513 (by decide) ?_
    exact ih (i + (6 : Int32)) μ80 hp80 h
  · have h := h.2 c81
    refine qa_iconst (v := 0) dL_law_1057 (by decide) ?_
    exact False.elim h
def wLc_27 (Ln : Nat) (xs : Nat → Int32) (n : Nat) (K : Int32 → qa_M → Prop) (i : Int32) (μ0 : qa_M) : Prop := vp_in (i + (1 : Int32)) Ln ∧ wX8_nose n (xs (i + (1 : Int32)).toNatClampNeg) μ0 (fun r82 μ82 => vp_in (i + (1 : Int32)) Ln ∧ wX9_nose n (xs (i + (1 : Int32)).toNatClampNeg) μ82 (fun r83 μ83 => ((r82 = r83 → K (i + (6 : Int32)) μ83) ∧ (¬ r82 = r83 → False))))
theorem tLc_27 (l : Launch) {nm : String} {Ln : Nat} {xs : Nat → Int32} {n : Nat} {K : Int32 → qa_M → Prop} (ih : ∀ (i : Int32) (μ : qa_M), qa_PP μ.2.2 → K i μ → qa_LG l nm Ln xs 113 17503 18 [some (.ref 6000), some (.ref 1), some (.ref 91), some (.int i)] [] 113 μ) {i : Int32} {μ0 : qa_M} (hp0 : qa_PP μ0.2.2) (h : wLc_27 Ln xs n K i μ0) : qa_LG l nm Ln xs 113 17503 1059 [some (.ref 6000), some (.ref 1), some (.ref 91), some (.int i)] [] 113 μ0 := by
  unfold wLc_27 at h
  refine qa_ald1 dL_law_1059 ?_
  refine qa_ald0 dL_law_1060 ?_
  refine qa_ild3 dL_law_1061 ?_
  refine qa_iconst (v := 1) dL_law_1062 (by decide) ?_
  refine qa_iadd dL_law_1063 ?_
  refine qa_sld dL_law_1064 h.1 ?_
  have h := h.2
  refine qa_V1I dL_law_1065 lm_L_126 sh_1 rfl (by decide) (by decide) (Nat.le_of_ble_eq_true rfl) (tX8_nose l hp0 h) (fun r82 μ82 hp82 h => ?_)
  refine qa_ald2 dL_law_1068 ?_
  refine qa_ald0 dL_law_1069 ?_
  refine qa_ild3 dL_law_1070 ?_
  refine qa_iconst (v := 1) dL_law_1071 (by decide) ?_
  refine qa_iadd dL_law_1072 ?_
  refine qa_sld dL_law_1073 h.1 ?_
  have h := h.2
  refine qa_V1I dL_law_1074 lm_L_129 sh_91 rfl (by decide) (by decide) (Nat.le_of_ble_eq_true rfl) (tX9_nose l hp82 h) (fun r83 μ83 hp83 h => ?_)
  refine qa_icmp_eq (tgt := 2510) dL_law_1077 (by decide) (fun c84 => ?_) (fun c84 => ?_)
  · have h := h.1 c84
    refine qa_inc3 dL_law_2510 (qa_io6 _) ?_
    refine qa_goto (tgt := 18) dL_law_2513 (by decide) ?_
    exact ih (i + (6 : Int32)) μ83 hp83 h
  · have h := h.2 c84
    refine qa_iconst (v := 0) dL_law_1080 (by decide) ?_
    exact False.elim h
def wLc_28 (Ln : Nat) (xs : Nat → Int32) (n : Nat) (K : Int32 → qa_M → Prop) (i : Int32) (μ0 : qa_M) : Prop := vp_in (i + (1 : Int32)) Ln ∧ wX8_idle n (xs (i + (1 : Int32)).toNatClampNeg) μ0 (fun r85 μ85 => vp_in (i + (1 : Int32)) Ln ∧ wX9_idle n (xs (i + (1 : Int32)).toNatClampNeg) μ85 (fun r86 μ86 => ((r85 = r86 → K (i + (6 : Int32)) μ86) ∧ (¬ r85 = r86 → False))))
theorem tLc_28 (l : Launch) {nm : String} {Ln : Nat} {xs : Nat → Int32} {n : Nat} {K : Int32 → qa_M → Prop} (ih : ∀ (i : Int32) (μ : qa_M), qa_PP μ.2.2 → K i μ → qa_LG l nm Ln xs 113 17503 18 [some (.ref 6000), some (.ref 1), some (.ref 91), some (.int i)] [] 113 μ) {i : Int32} {μ0 : qa_M} (hp0 : qa_PP μ0.2.2) (h : wLc_28 Ln xs n K i μ0) : qa_LG l nm Ln xs 113 17503 1082 [some (.ref 6000), some (.ref 1), some (.ref 91), some (.int i)] [] 113 μ0 := by
  unfold wLc_28 at h
  refine qa_ald1 dL_law_1082 ?_
  refine qa_ald0 dL_law_1083 ?_
  refine qa_ild3 dL_law_1084 ?_
  refine qa_iconst (v := 1) dL_law_1085 (by decide) ?_
  refine qa_iadd dL_law_1086 ?_
  refine qa_sld dL_law_1087 h.1 ?_
  have h := h.2
  refine qa_V1I dL_law_1088 lm_L_130 sh_1 rfl (by decide) (by decide) (Nat.le_of_ble_eq_true rfl) (tX8_idle l hp0 h) (fun r85 μ85 hp85 h => ?_)
  refine qa_ald2 dL_law_1091 ?_
  refine qa_ald0 dL_law_1092 ?_
  refine qa_ild3 dL_law_1093 ?_
  refine qa_iconst (v := 1) dL_law_1094 (by decide) ?_
  refine qa_iadd dL_law_1095 ?_
  refine qa_sld dL_law_1096 h.1 ?_
  have h := h.2
  refine qa_V1I dL_law_1097 lm_L_133 sh_91 rfl (by decide) (by decide) (Nat.le_of_ble_eq_true rfl) (tX9_idle l hp85 h) (fun r86 μ86 hp86 h => ?_)
  refine qa_icmp_eq (tgt := 2510) dL_law_1100 (by decide) (fun c87 => ?_) (fun c87 => ?_)
  · have h := h.1 c87
    refine qa_inc3 dL_law_2510 (qa_io6 _) ?_
    refine qa_goto (tgt := 18) dL_law_2513 (by decide) ?_
    exact ih (i + (6 : Int32)) μ86 hp86 h
  · have h := h.2 c87
    refine qa_iconst (v := 0) dL_law_1103 (by decide) ?_
    exact False.elim h
def wLc_29 (Ln : Nat) (xs : Nat → Int32) (n : Nat) (K : Int32 → qa_M → Prop) (i : Int32) (μ0 : qa_M) : Prop := wX8_backs n  μ0 (fun r88 μ88 => wX9_backs n  μ88 (fun r89 μ89 => ((r88 = r89 → K (i + (6 : Int32)) μ89) ∧ (¬ r88 = r89 → False))))
theorem tLc_29 (l : Launch) {nm : String} {Ln : Nat} {xs : Nat → Int32} {n : Nat} {K : Int32 → qa_M → Prop} (ih : ∀ (i : Int32) (μ : qa_M), qa_PP μ.2.2 → K i μ → qa_LG l nm Ln xs 113 17503 18 [some (.ref 6000), some (.ref 1), some (.ref 91), some (.int i)] [] 113 μ) {i : Int32} {μ0 : qa_M} (hp0 : qa_PP μ0.2.2) (h : wLc_29 Ln xs n K i μ0) : qa_LG l nm Ln xs 113 17503 1105 [some (.ref 6000), some (.ref 1), some (.ref 91), some (.int i)] [] 113 μ0 := by
  unfold wLc_29 at h
  refine qa_ald1 dL_law_1105 ?_
  refine qa_V0I dL_law_1106 lm_L_134 sh_1 rfl (by decide) (by decide) (Nat.le_of_ble_eq_true rfl) (tX8_backs l hp0 h) (fun r88 μ88 hp88 h => ?_)
  refine qa_ald2 dL_law_1109 ?_
  refine qa_V0I dL_law_1110 lm_L_137 sh_91 rfl (by decide) (by decide) (Nat.le_of_ble_eq_true rfl) (tX9_backs l hp88 h) (fun r89 μ89 hp89 h => ?_)
  refine qa_icmp_eq (tgt := 2510) dL_law_1113 (by decide) (fun c90 => ?_) (fun c90 => ?_)
  · have h := h.1 c90
    refine qa_inc3 dL_law_2510 (qa_io6 _) ?_
    refine qa_goto (tgt := 18) dL_law_2513 (by decide) ?_
    exact ih (i + (6 : Int32)) μ89 hp89 h
  · have h := h.2 c90
    refine qa_iconst (v := 0) dL_law_1116 (by decide) ?_
    exact False.elim h
def wLc_30 (Ln : Nat) (xs : Nat → Int32) (n : Nat) (K : Int32 → qa_M → Prop) (i : Int32) (μ0 : qa_M) : Prop := vp_in (i + (1 : Int32)) Ln ∧ vp_in (i + (2 : Int32)) Ln ∧ wX8_beside n (xs (i + (1 : Int32)).toNatClampNeg) (xs (i + (2 : Int32)).toNatClampNeg) μ0 (fun r91 μ91 => vp_in (i + (1 : Int32)) Ln ∧ vp_in (i + (2 : Int32)) Ln ∧ wX9_beside n (xs (i + (1 : Int32)).toNatClampNeg) (xs (i + (2 : Int32)).toNatClampNeg) μ91 (fun r92 μ92 => ((r91 = r92 → K (i + (6 : Int32)) μ92) ∧ (¬ r91 = r92 → False))))
theorem tLc_30 (l : Launch) {nm : String} {Ln : Nat} {xs : Nat → Int32} {n : Nat} {K : Int32 → qa_M → Prop} (ih : ∀ (i : Int32) (μ : qa_M), qa_PP μ.2.2 → K i μ → qa_LG l nm Ln xs 113 17503 18 [some (.ref 6000), some (.ref 1), some (.ref 91), some (.int i)] [] 113 μ) {i : Int32} {μ0 : qa_M} (hp0 : qa_PP μ0.2.2) (h : wLc_30 Ln xs n K i μ0) : qa_LG l nm Ln xs 113 17503 1118 [some (.ref 6000), some (.ref 1), some (.ref 91), some (.int i)] [] 113 μ0 := by
  unfold wLc_30 at h
  refine qa_ald1 dL_law_1118 ?_
  refine qa_ald0 dL_law_1119 ?_
  refine qa_ild3 dL_law_1120 ?_
  refine qa_iconst (v := 1) dL_law_1121 (by decide) ?_
  refine qa_iadd dL_law_1122 ?_
  refine qa_sld dL_law_1123 h.1 ?_
  have h := h.2
  refine qa_ald0 dL_law_1124 ?_
  refine qa_ild3 dL_law_1125 ?_
  refine qa_iconst (v := 2) dL_law_1126 (by decide) ?_
  refine qa_iadd dL_law_1127 ?_
  refine qa_sld dL_law_1128 h.1 ?_
  have h := h.2
  refine qa_V2I dL_law_1129 lm_L_138 sh_1 rfl (by decide) (by decide) (Nat.le_of_ble_eq_true rfl) (tX8_beside l hp0 h) (fun r91 μ91 hp91 h => ?_)
  refine qa_ald2 dL_law_1132 ?_
  refine qa_ald0 dL_law_1133 ?_
  refine qa_ild3 dL_law_1134 ?_
  refine qa_iconst (v := 1) dL_law_1135 (by decide) ?_
  refine qa_iadd dL_law_1136 ?_
  refine qa_sld dL_law_1137 h.1 ?_
  have h := h.2
  refine qa_ald0 dL_law_1138 ?_
  refine qa_ild3 dL_law_1139 ?_
  refine qa_iconst (v := 2) dL_law_1140 (by decide) ?_
  refine qa_iadd dL_law_1141 ?_
  refine qa_sld dL_law_1142 h.1 ?_
  have h := h.2
  refine qa_V2I dL_law_1143 lm_L_141 sh_91 rfl (by decide) (by decide) (Nat.le_of_ble_eq_true rfl) (tX9_beside l hp91 h) (fun r92 μ92 hp92 h => ?_)
  refine qa_icmp_eq (tgt := 2510) dL_law_1146 (by decide) (fun c93 => ?_) (fun c93 => ?_)
  · have h := h.1 c93
    refine qa_inc3 dL_law_2510 (qa_io6 _) ?_
    refine qa_goto (tgt := 18) dL_law_2513 (by decide) ?_
    exact ih (i + (6 : Int32)) μ92 hp92 h
  · have h := h.2 c93
    refine qa_iconst (v := 0) dL_law_1149 (by decide) ?_
    exact False.elim h
def wLc_31 (Ln : Nat) (xs : Nat → Int32) (n : Nat) (K : Int32 → qa_M → Prop) (i : Int32) (μ0 : qa_M) : Prop := vp_in (i + (1 : Int32)) Ln ∧ wX8_all n (xs (i + (1 : Int32)).toNatClampNeg) μ0 (fun r94 μ94 => vp_in (i + (1 : Int32)) Ln ∧ wX9_all n (xs (i + (1 : Int32)).toNatClampNeg) μ94 (fun r95 μ95 => ((r94 = r95 → K (i + (6 : Int32)) μ95) ∧ (¬ r94 = r95 → False))))
theorem tLc_31 (l : Launch) {nm : String} {Ln : Nat} {xs : Nat → Int32} {n : Nat} {K : Int32 → qa_M → Prop} (ih : ∀ (i : Int32) (μ : qa_M), qa_PP μ.2.2 → K i μ → qa_LG l nm Ln xs 113 17503 18 [some (.ref 6000), some (.ref 1), some (.ref 91), some (.int i)] [] 113 μ) {i : Int32} {μ0 : qa_M} (hp0 : qa_PP μ0.2.2) (h : wLc_31 Ln xs n K i μ0) : qa_LG l nm Ln xs 113 17503 1151 [some (.ref 6000), some (.ref 1), some (.ref 91), some (.int i)] [] 113 μ0 := by
  unfold wLc_31 at h
  refine qa_ald1 dL_law_1151 ?_
  refine qa_ald0 dL_law_1152 ?_
  refine qa_ild3 dL_law_1153 ?_
  refine qa_iconst (v := 1) dL_law_1154 (by decide) ?_
  refine qa_iadd dL_law_1155 ?_
  refine qa_sld dL_law_1156 h.1 ?_
  have h := h.2
  refine qa_V1I dL_law_1157 lm_L_142 sh_1 rfl (by decide) (by decide) (Nat.le_of_ble_eq_true rfl) (tX8_all l hp0 h) (fun r94 μ94 hp94 h => ?_)
  refine qa_ald2 dL_law_1160 ?_
  refine qa_ald0 dL_law_1161 ?_
  refine qa_ild3 dL_law_1162 ?_
  refine qa_iconst (v := 1) dL_law_1163 (by decide) ?_
  refine qa_iadd dL_law_1164 ?_
  refine qa_sld dL_law_1165 h.1 ?_
  have h := h.2
  refine qa_V1I dL_law_1166 lm_L_145 sh_91 rfl (by decide) (by decide) (Nat.le_of_ble_eq_true rfl) (tX9_all l hp94 h) (fun r95 μ95 hp95 h => ?_)
  refine qa_icmp_eq (tgt := 2510) dL_law_1169 (by decide) (fun c96 => ?_) (fun c96 => ?_)
  · have h := h.1 c96
    refine qa_inc3 dL_law_2510 (qa_io6 _) ?_
    refine qa_goto (tgt := 18) dL_law_2513 (by decide) ?_
    exact ih (i + (6 : Int32)) μ95 hp95 h
  · have h := h.2 c96
    refine qa_iconst (v := 0) dL_law_1172 (by decide) ?_
    exact False.elim h
def wLc_32 (Ln : Nat) (xs : Nat → Int32) (n : Nat) (K : Int32 → qa_M → Prop) (i : Int32) (μ0 : qa_M) : Prop := vp_in (i + (1 : Int32)) Ln ∧ wX8_noon n (xs (i + (1 : Int32)).toNatClampNeg) μ0 (fun r97 μ97 => vp_in (i + (1 : Int32)) Ln ∧ wX9_noon n (xs (i + (1 : Int32)).toNatClampNeg) μ97 (fun r98 μ98 => ((r97 = r98 → K (i + (6 : Int32)) μ98) ∧ (¬ r97 = r98 → False))))
theorem tLc_32 (l : Launch) {nm : String} {Ln : Nat} {xs : Nat → Int32} {n : Nat} {K : Int32 → qa_M → Prop} (ih : ∀ (i : Int32) (μ : qa_M), qa_PP μ.2.2 → K i μ → qa_LG l nm Ln xs 113 17503 18 [some (.ref 6000), some (.ref 1), some (.ref 91), some (.int i)] [] 113 μ) {i : Int32} {μ0 : qa_M} (hp0 : qa_PP μ0.2.2) (h : wLc_32 Ln xs n K i μ0) : qa_LG l nm Ln xs 113 17503 1174 [some (.ref 6000), some (.ref 1), some (.ref 91), some (.int i)] [] 113 μ0 := by
  unfold wLc_32 at h
  refine qa_ald1 dL_law_1174 ?_
  refine qa_ald0 dL_law_1175 ?_
  refine qa_ild3 dL_law_1176 ?_
  refine qa_iconst (v := 1) dL_law_1177 (by decide) ?_
  refine qa_iadd dL_law_1178 ?_
  refine qa_sld dL_law_1179 h.1 ?_
  have h := h.2
  refine qa_V1I dL_law_1180 lm_L_146 sh_1 rfl (by decide) (by decide) (Nat.le_of_ble_eq_true rfl) (tX8_noon l hp0 h) (fun r97 μ97 hp97 h => ?_)
  refine qa_ald2 dL_law_1183 ?_
  refine qa_ald0 dL_law_1184 ?_
  refine qa_ild3 dL_law_1185 ?_
  refine qa_iconst (v := 1) dL_law_1186 (by decide) ?_
  refine qa_iadd dL_law_1187 ?_
  refine qa_sld dL_law_1188 h.1 ?_
  have h := h.2
  refine qa_V1I dL_law_1189 lm_L_149 sh_91 rfl (by decide) (by decide) (Nat.le_of_ble_eq_true rfl) (tX9_noon l hp97 h) (fun r98 μ98 hp98 h => ?_)
  refine qa_icmp_eq (tgt := 2510) dL_law_1192 (by decide) (fun c99 => ?_) (fun c99 => ?_)
  · have h := h.1 c99
    refine qa_inc3 dL_law_2510 (qa_io6 _) ?_
    refine qa_goto (tgt := 18) dL_law_2513 (by decide) ?_
    exact ih (i + (6 : Int32)) μ98 hp98 h
  · have h := h.2 c99
    refine qa_iconst (v := 0) dL_law_1195 (by decide) ?_
    exact False.elim h
def wLc_33 (Ln : Nat) (xs : Nat → Int32) (n : Nat) (K : Int32 → qa_M → Prop) (i : Int32) (μ0 : qa_M) : Prop := vp_in (i + (1 : Int32)) Ln ∧ vp_in (i + (2 : Int32)) Ln ∧ wX8_mates n (xs (i + (1 : Int32)).toNatClampNeg) (xs (i + (2 : Int32)).toNatClampNeg) μ0 (fun r100 μ100 => vp_in (i + (1 : Int32)) Ln ∧ vp_in (i + (2 : Int32)) Ln ∧ wX9_mates n (xs (i + (1 : Int32)).toNatClampNeg) (xs (i + (2 : Int32)).toNatClampNeg) μ100 (fun r101 μ101 => ((r100 = r101 → K (i + (6 : Int32)) μ101) ∧ (¬ r100 = r101 → False))))
theorem tLc_33 (l : Launch) {nm : String} {Ln : Nat} {xs : Nat → Int32} {n : Nat} {K : Int32 → qa_M → Prop} (ih : ∀ (i : Int32) (μ : qa_M), qa_PP μ.2.2 → K i μ → qa_LG l nm Ln xs 113 17503 18 [some (.ref 6000), some (.ref 1), some (.ref 91), some (.int i)] [] 113 μ) {i : Int32} {μ0 : qa_M} (hp0 : qa_PP μ0.2.2) (h : wLc_33 Ln xs n K i μ0) : qa_LG l nm Ln xs 113 17503 1197 [some (.ref 6000), some (.ref 1), some (.ref 91), some (.int i)] [] 113 μ0 := by
  unfold wLc_33 at h
  refine qa_ald1 dL_law_1197 ?_
  refine qa_ald0 dL_law_1198 ?_
  refine qa_ild3 dL_law_1199 ?_
  refine qa_iconst (v := 1) dL_law_1200 (by decide) ?_
  refine qa_iadd dL_law_1201 ?_
  refine qa_sld dL_law_1202 h.1 ?_
  have h := h.2
  refine qa_ald0 dL_law_1203 ?_
  refine qa_ild3 dL_law_1204 ?_
  refine qa_iconst (v := 2) dL_law_1205 (by decide) ?_
  refine qa_iadd dL_law_1206 ?_
  refine qa_sld dL_law_1207 h.1 ?_
  have h := h.2
  refine qa_V2I dL_law_1208 lm_L_150 sh_1 rfl (by decide) (by decide) (Nat.le_of_ble_eq_true rfl) (tX8_mates l hp0 h) (fun r100 μ100 hp100 h => ?_)
  refine qa_ald2 dL_law_1211 ?_
  refine qa_ald0 dL_law_1212 ?_
  refine qa_ild3 dL_law_1213 ?_
  refine qa_iconst (v := 1) dL_law_1214 (by decide) ?_
  refine qa_iadd dL_law_1215 ?_
  refine qa_sld dL_law_1216 h.1 ?_
  have h := h.2
  refine qa_ald0 dL_law_1217 ?_
  refine qa_ild3 dL_law_1218 ?_
  refine qa_iconst (v := 2) dL_law_1219 (by decide) ?_
  refine qa_iadd dL_law_1220 ?_
  refine qa_sld dL_law_1221 h.1 ?_
  have h := h.2
  refine qa_V2I dL_law_1222 lm_L_153 sh_91 rfl (by decide) (by decide) (Nat.le_of_ble_eq_true rfl) (tX9_mates l hp100 h) (fun r101 μ101 hp101 h => ?_)
  refine qa_icmp_eq (tgt := 2510) dL_law_1225 (by decide) (fun c102 => ?_) (fun c102 => ?_)
  · have h := h.1 c102
    refine qa_inc3 dL_law_2510 (qa_io6 _) ?_
    refine qa_goto (tgt := 18) dL_law_2513 (by decide) ?_
    exact ih (i + (6 : Int32)) μ101 hp101 h
  · have h := h.2 c102
    refine qa_iconst (v := 0) dL_law_1228 (by decide) ?_
    exact False.elim h
def wLc_34 (Ln : Nat) (xs : Nat → Int32) (n : Nat) (K : Int32 → qa_M → Prop) (i : Int32) (μ0 : qa_M) : Prop := vp_in (i + (1 : Int32)) Ln ∧ vp_in (i + (2 : Int32)) Ln ∧ wX8_view n (xs (i + (1 : Int32)).toNatClampNeg) (xs (i + (2 : Int32)).toNatClampNeg) μ0 (fun r103 μ103 => vp_in (i + (1 : Int32)) Ln ∧ vp_in (i + (2 : Int32)) Ln ∧ wX9_view n (xs (i + (1 : Int32)).toNatClampNeg) (xs (i + (2 : Int32)).toNatClampNeg) μ103 (fun r104 μ104 => ((r103 = r104 → K (i + (6 : Int32)) μ104) ∧ (¬ r103 = r104 → False))))
theorem tLc_34 (l : Launch) {nm : String} {Ln : Nat} {xs : Nat → Int32} {n : Nat} {K : Int32 → qa_M → Prop} (ih : ∀ (i : Int32) (μ : qa_M), qa_PP μ.2.2 → K i μ → qa_LG l nm Ln xs 113 17503 18 [some (.ref 6000), some (.ref 1), some (.ref 91), some (.int i)] [] 113 μ) {i : Int32} {μ0 : qa_M} (hp0 : qa_PP μ0.2.2) (h : wLc_34 Ln xs n K i μ0) : qa_LG l nm Ln xs 113 17503 1230 [some (.ref 6000), some (.ref 1), some (.ref 91), some (.int i)] [] 113 μ0 := by
  unfold wLc_34 at h
  refine qa_ald1 dL_law_1230 ?_
  refine qa_ald0 dL_law_1231 ?_
  refine qa_ild3 dL_law_1232 ?_
  refine qa_iconst (v := 1) dL_law_1233 (by decide) ?_
  refine qa_iadd dL_law_1234 ?_
  refine qa_sld dL_law_1235 h.1 ?_
  have h := h.2
  refine qa_ald0 dL_law_1236 ?_
  refine qa_ild3 dL_law_1237 ?_
  refine qa_iconst (v := 2) dL_law_1238 (by decide) ?_
  refine qa_iadd dL_law_1239 ?_
  refine qa_sld dL_law_1240 h.1 ?_
  have h := h.2
  refine qa_V2I dL_law_1241 lm_L_154 sh_1 rfl (by decide) (by decide) (Nat.le_of_ble_eq_true rfl) (tX8_view l hp0 h) (fun r103 μ103 hp103 h => ?_)
  refine qa_ald2 dL_law_1244 ?_
  refine qa_ald0 dL_law_1245 ?_
  refine qa_ild3 dL_law_1246 ?_
  refine qa_iconst (v := 1) dL_law_1247 (by decide) ?_
  refine qa_iadd dL_law_1248 ?_
  refine qa_sld dL_law_1249 h.1 ?_
  have h := h.2
  refine qa_ald0 dL_law_1250 ?_
  refine qa_ild3 dL_law_1251 ?_
  refine qa_iconst (v := 2) dL_law_1252 (by decide) ?_
  refine qa_iadd dL_law_1253 ?_
  refine qa_sld dL_law_1254 h.1 ?_
  have h := h.2
  refine qa_V2I dL_law_1255 lm_L_157 sh_91 rfl (by decide) (by decide) (Nat.le_of_ble_eq_true rfl) (tX9_view l hp103 h) (fun r104 μ104 hp104 h => ?_)
  refine qa_icmp_eq (tgt := 2510) dL_law_1258 (by decide) (fun c105 => ?_) (fun c105 => ?_)
  · have h := h.1 c105
    refine qa_inc3 dL_law_2510 (qa_io6 _) ?_
    refine qa_goto (tgt := 18) dL_law_2513 (by decide) ?_
    exact ih (i + (6 : Int32)) μ104 hp104 h
  · have h := h.2 c105
    refine qa_iconst (v := 0) dL_law_1261 (by decide) ?_
    exact False.elim h
def wLc_35 (Ln : Nat) (xs : Nat → Int32) (n : Nat) (K : Int32 → qa_M → Prop) (i : Int32) (μ0 : qa_M) : Prop := vp_in (i + (1 : Int32)) Ln ∧ wX8_best n (xs (i + (1 : Int32)).toNatClampNeg) μ0 (fun r106 μ106 => vp_in (i + (1 : Int32)) Ln ∧ wX9_best n (xs (i + (1 : Int32)).toNatClampNeg) μ106 (fun r107 μ107 => ((r106 = r107 → K (i + (6 : Int32)) μ107) ∧ (¬ r106 = r107 → False))))
theorem tLc_35 (l : Launch) {nm : String} {Ln : Nat} {xs : Nat → Int32} {n : Nat} {K : Int32 → qa_M → Prop} (ih : ∀ (i : Int32) (μ : qa_M), qa_PP μ.2.2 → K i μ → qa_LG l nm Ln xs 113 17503 18 [some (.ref 6000), some (.ref 1), some (.ref 91), some (.int i)] [] 113 μ) {i : Int32} {μ0 : qa_M} (hp0 : qa_PP μ0.2.2) (h : wLc_35 Ln xs n K i μ0) : qa_LG l nm Ln xs 113 17503 1263 [some (.ref 6000), some (.ref 1), some (.ref 91), some (.int i)] [] 113 μ0 := by
  unfold wLc_35 at h
  refine qa_ald1 dL_law_1263 ?_
  refine qa_ald0 dL_law_1264 ?_
  refine qa_ild3 dL_law_1265 ?_
  refine qa_iconst (v := 1) dL_law_1266 (by decide) ?_
  refine qa_iadd dL_law_1267 ?_
  refine qa_sld dL_law_1268 h.1 ?_
  have h := h.2
  refine qa_V1I dL_law_1269 lm_L_158 sh_1 rfl (by decide) (by decide) (Nat.le_of_ble_eq_true rfl) (tX8_best l hp0 h) (fun r106 μ106 hp106 h => ?_)
  refine qa_ald2 dL_law_1272 ?_
  refine qa_ald0 dL_law_1273 ?_
  refine qa_ild3 dL_law_1274 ?_
  refine qa_iconst (v := 1) dL_law_1275 (by decide) ?_
  refine qa_iadd dL_law_1276 ?_
  refine qa_sld dL_law_1277 h.1 ?_
  have h := h.2
  refine qa_V1I dL_law_1278 lm_L_161 sh_91 rfl (by decide) (by decide) (Nat.le_of_ble_eq_true rfl) (tX9_best l hp106 h) (fun r107 μ107 hp107 h => ?_)
  refine qa_icmp_eq (tgt := 2510) dL_law_1281 (by decide) (fun c108 => ?_) (fun c108 => ?_)
  · have h := h.1 c108
    refine qa_inc3 dL_law_2510 (qa_io6 _) ?_
    refine qa_goto (tgt := 18) dL_law_2513 (by decide) ?_
    exact ih (i + (6 : Int32)) μ107 hp107 h
  · have h := h.2 c108
    refine qa_iconst (v := 0) dL_law_1284 (by decide) ?_
    exact False.elim h
def wLc_36 (Ln : Nat) (xs : Nat → Int32) (n : Nat) (K : Int32 → qa_M → Prop) (i : Int32) (μ0 : qa_M) : Prop := vp_in (i + (1 : Int32)) Ln ∧ wX8_sweet n (xs (i + (1 : Int32)).toNatClampNeg) μ0 (fun r109 μ109 => vp_in (i + (1 : Int32)) Ln ∧ wX9_sweet n (xs (i + (1 : Int32)).toNatClampNeg) μ109 (fun r110 μ110 => ((r109 = r110 → K (i + (6 : Int32)) μ110) ∧ (¬ r109 = r110 → False))))
theorem tLc_36 (l : Launch) {nm : String} {Ln : Nat} {xs : Nat → Int32} {n : Nat} {K : Int32 → qa_M → Prop} (ih : ∀ (i : Int32) (μ : qa_M), qa_PP μ.2.2 → K i μ → qa_LG l nm Ln xs 113 17503 18 [some (.ref 6000), some (.ref 1), some (.ref 91), some (.int i)] [] 113 μ) {i : Int32} {μ0 : qa_M} (hp0 : qa_PP μ0.2.2) (h : wLc_36 Ln xs n K i μ0) : qa_LG l nm Ln xs 113 17503 1286 [some (.ref 6000), some (.ref 1), some (.ref 91), some (.int i)] [] 113 μ0 := by
  unfold wLc_36 at h
  refine qa_ald1 dL_law_1286 ?_
  refine qa_ald0 dL_law_1287 ?_
  refine qa_ild3 dL_law_1288 ?_
  refine qa_iconst (v := 1) dL_law_1289 (by decide) ?_
  refine qa_iadd dL_law_1290 ?_
  refine qa_sld dL_law_1291 h.1 ?_
  have h := h.2
  refine qa_V1I dL_law_1292 lm_L_162 sh_1 rfl (by decide) (by decide) (Nat.le_of_ble_eq_true rfl) (tX8_sweet l hp0 h) (fun r109 μ109 hp109 h => ?_)
  refine qa_ald2 dL_law_1295 ?_
  refine qa_ald0 dL_law_1296 ?_
  refine qa_ild3 dL_law_1297 ?_
  refine qa_iconst (v := 1) dL_law_1298 (by decide) ?_
  refine qa_iadd dL_law_1299 ?_
  refine qa_sld dL_law_1300 h.1 ?_
  have h := h.2
  refine qa_V1I dL_law_1301 lm_L_165 sh_91 rfl (by decide) (by decide) (Nat.le_of_ble_eq_true rfl) (tX9_sweet l hp109 h) (fun r110 μ110 hp110 h => ?_)
  refine qa_icmp_eq (tgt := 2510) dL_law_1304 (by decide) (fun c111 => ?_) (fun c111 => ?_)
  · have h := h.1 c111
    refine qa_inc3 dL_law_2510 (qa_io6 _) ?_
    refine qa_goto (tgt := 18) dL_law_2513 (by decide) ?_
    exact ih (i + (6 : Int32)) μ110 hp110 h
  · have h := h.2 c111
    refine qa_iconst (v := 0) dL_law_1307 (by decide) ?_
    exact False.elim h
def wLc_37 (Ln : Nat) (xs : Nat → Int32) (n : Nat) (K : Int32 → qa_M → Prop) (i : Int32) (μ0 : qa_M) : Prop := vp_in (i + (1 : Int32)) Ln ∧ wX8_last n (xs (i + (1 : Int32)).toNatClampNeg) μ0 (fun r112 μ112 => vp_in (i + (1 : Int32)) Ln ∧ wX9_last n (xs (i + (1 : Int32)).toNatClampNeg) μ112 (fun r113 μ113 => ((r112 = r113 → K (i + (6 : Int32)) μ113) ∧ (¬ r112 = r113 → False))))
theorem tLc_37 (l : Launch) {nm : String} {Ln : Nat} {xs : Nat → Int32} {n : Nat} {K : Int32 → qa_M → Prop} (ih : ∀ (i : Int32) (μ : qa_M), qa_PP μ.2.2 → K i μ → qa_LG l nm Ln xs 113 17503 18 [some (.ref 6000), some (.ref 1), some (.ref 91), some (.int i)] [] 113 μ) {i : Int32} {μ0 : qa_M} (hp0 : qa_PP μ0.2.2) (h : wLc_37 Ln xs n K i μ0) : qa_LG l nm Ln xs 113 17503 1309 [some (.ref 6000), some (.ref 1), some (.ref 91), some (.int i)] [] 113 μ0 := by
  unfold wLc_37 at h
  refine qa_ald1 dL_law_1309 ?_
  refine qa_ald0 dL_law_1310 ?_
  refine qa_ild3 dL_law_1311 ?_
  refine qa_iconst (v := 1) dL_law_1312 (by decide) ?_
  refine qa_iadd dL_law_1313 ?_
  refine qa_sld dL_law_1314 h.1 ?_
  have h := h.2
  refine qa_V1I dL_law_1315 lm_L_166 sh_1 rfl (by decide) (by decide) (Nat.le_of_ble_eq_true rfl) (tX8_last l hp0 h) (fun r112 μ112 hp112 h => ?_)
  refine qa_ald2 dL_law_1318 ?_
  refine qa_ald0 dL_law_1319 ?_
  refine qa_ild3 dL_law_1320 ?_
  refine qa_iconst (v := 1) dL_law_1321 (by decide) ?_
  refine qa_iadd dL_law_1322 ?_
  refine qa_sld dL_law_1323 h.1 ?_
  have h := h.2
  refine qa_V1I dL_law_1324 lm_L_169 sh_91 rfl (by decide) (by decide) (Nat.le_of_ble_eq_true rfl) (tX9_last l hp112 h) (fun r113 μ113 hp113 h => ?_)
  refine qa_icmp_eq (tgt := 2510) dL_law_1327 (by decide) (fun c114 => ?_) (fun c114 => ?_)
  · have h := h.1 c114
    refine qa_inc3 dL_law_2510 (qa_io6 _) ?_
    refine qa_goto (tgt := 18) dL_law_2513 (by decide) ?_
    exact ih (i + (6 : Int32)) μ113 hp113 h
  · have h := h.2 c114
    refine qa_iconst (v := 0) dL_law_1330 (by decide) ?_
    exact False.elim h
def wLc_38 (Ln : Nat) (xs : Nat → Int32) (n : Nat) (K : Int32 → qa_M → Prop) (i : Int32) (μ0 : qa_M) : Prop := vp_in (i + (1 : Int32)) Ln ∧ wX8_same n (xs (i + (1 : Int32)).toNatClampNeg) μ0 (fun r115 μ115 => vp_in (i + (1 : Int32)) Ln ∧ wX9_same n (xs (i + (1 : Int32)).toNatClampNeg) μ115 (fun r116 μ116 => ((r115 = r116 → K (i + (6 : Int32)) μ116) ∧ (¬ r115 = r116 → False))))
theorem tLc_38 (l : Launch) {nm : String} {Ln : Nat} {xs : Nat → Int32} {n : Nat} {K : Int32 → qa_M → Prop} (ih : ∀ (i : Int32) (μ : qa_M), qa_PP μ.2.2 → K i μ → qa_LG l nm Ln xs 113 17503 18 [some (.ref 6000), some (.ref 1), some (.ref 91), some (.int i)] [] 113 μ) {i : Int32} {μ0 : qa_M} (hp0 : qa_PP μ0.2.2) (h : wLc_38 Ln xs n K i μ0) : qa_LG l nm Ln xs 113 17503 1332 [some (.ref 6000), some (.ref 1), some (.ref 91), some (.int i)] [] 113 μ0 := by
  unfold wLc_38 at h
  refine qa_ald1 dL_law_1332 ?_
  refine qa_ald0 dL_law_1333 ?_
  refine qa_ild3 dL_law_1334 ?_
  refine qa_iconst (v := 1) dL_law_1335 (by decide) ?_
  refine qa_iadd dL_law_1336 ?_
  refine qa_sld dL_law_1337 h.1 ?_
  have h := h.2
  refine qa_V1I dL_law_1338 lm_L_170 sh_1 rfl (by decide) (by decide) (Nat.le_of_ble_eq_true rfl) (tX8_same l hp0 h) (fun r115 μ115 hp115 h => ?_)
  refine qa_ald2 dL_law_1341 ?_
  refine qa_ald0 dL_law_1342 ?_
  refine qa_ild3 dL_law_1343 ?_
  refine qa_iconst (v := 1) dL_law_1344 (by decide) ?_
  refine qa_iadd dL_law_1345 ?_
  refine qa_sld dL_law_1346 h.1 ?_
  have h := h.2
  refine qa_V1I dL_law_1347 lm_L_173 sh_91 rfl (by decide) (by decide) (Nat.le_of_ble_eq_true rfl) (tX9_same l hp115 h) (fun r116 μ116 hp116 h => ?_)
  refine qa_icmp_eq (tgt := 2510) dL_law_1350 (by decide) (fun c117 => ?_) (fun c117 => ?_)
  · have h := h.1 c117
    refine qa_inc3 dL_law_2510 (qa_io6 _) ?_
    refine qa_goto (tgt := 18) dL_law_2513 (by decide) ?_
    exact ih (i + (6 : Int32)) μ116 hp116 h
  · have h := h.2 c117
    refine qa_iconst (v := 0) dL_law_1353 (by decide) ?_
    exact False.elim h
def wLc_39 (Ln : Nat) (xs : Nat → Int32) (n : Nat) (K : Int32 → qa_M → Prop) (i : Int32) (μ0 : qa_M) : Prop := vp_in (i + (1 : Int32)) Ln ∧ wX8_loose n (xs (i + (1 : Int32)).toNatClampNeg) μ0 (fun r118 μ118 => vp_in (i + (1 : Int32)) Ln ∧ wX9_loose n (xs (i + (1 : Int32)).toNatClampNeg) μ118 (fun r119 μ119 => ((r118 = r119 → K (i + (6 : Int32)) μ119) ∧ (¬ r118 = r119 → False))))
theorem tLc_39 (l : Launch) {nm : String} {Ln : Nat} {xs : Nat → Int32} {n : Nat} {K : Int32 → qa_M → Prop} (ih : ∀ (i : Int32) (μ : qa_M), qa_PP μ.2.2 → K i μ → qa_LG l nm Ln xs 113 17503 18 [some (.ref 6000), some (.ref 1), some (.ref 91), some (.int i)] [] 113 μ) {i : Int32} {μ0 : qa_M} (hp0 : qa_PP μ0.2.2) (h : wLc_39 Ln xs n K i μ0) : qa_LG l nm Ln xs 113 17503 1355 [some (.ref 6000), some (.ref 1), some (.ref 91), some (.int i)] [] 113 μ0 := by
  unfold wLc_39 at h
  refine qa_ald1 dL_law_1355 ?_
  refine qa_ald0 dL_law_1356 ?_
  refine qa_ild3 dL_law_1357 ?_
  refine qa_iconst (v := 1) dL_law_1358 (by decide) ?_
  refine qa_iadd dL_law_1359 ?_
  refine qa_sld dL_law_1360 h.1 ?_
  have h := h.2
  refine qa_V1I dL_law_1361 lm_L_174 sh_1 rfl (by decide) (by decide) (Nat.le_of_ble_eq_true rfl) (tX8_loose l hp0 h) (fun r118 μ118 hp118 h => ?_)
  refine qa_ald2 dL_law_1364 ?_
  refine qa_ald0 dL_law_1365 ?_
  refine qa_ild3 dL_law_1366 ?_
  refine qa_iconst (v := 1) dL_law_1367 (by decide) ?_
  refine qa_iadd dL_law_1368 ?_
  refine qa_sld dL_law_1369 h.1 ?_
  have h := h.2
  refine qa_V1I dL_law_1370 lm_L_177 sh_91 rfl (by decide) (by decide) (Nat.le_of_ble_eq_true rfl) (tX9_loose l hp118 h) (fun r119 μ119 hp119 h => ?_)
  refine qa_icmp_eq (tgt := 2510) dL_law_1373 (by decide) (fun c120 => ?_) (fun c120 => ?_)
  · have h := h.1 c120
    refine qa_inc3 dL_law_2510 (qa_io6 _) ?_
    refine qa_goto (tgt := 18) dL_law_2513 (by decide) ?_
    exact ih (i + (6 : Int32)) μ119 hp119 h
  · have h := h.2 c120
    refine qa_iconst (v := 0) dL_law_1376 (by decide) ?_
    exact False.elim h
def wLc_40 (Ln : Nat) (xs : Nat → Int32) (n : Nat) (K : Int32 → qa_M → Prop) (i : Int32) (μ0 : qa_M) : Prop := wX8_gold n  μ0 (fun r121 μ121 => wX9_gold n  μ121 (fun r122 μ122 => ((r121 = r122 → K (i + (6 : Int32)) μ122) ∧ (¬ r121 = r122 → False))))
theorem tLc_40 (l : Launch) {nm : String} {Ln : Nat} {xs : Nat → Int32} {n : Nat} {K : Int32 → qa_M → Prop} (ih : ∀ (i : Int32) (μ : qa_M), qa_PP μ.2.2 → K i μ → qa_LG l nm Ln xs 113 17503 18 [some (.ref 6000), some (.ref 1), some (.ref 91), some (.int i)] [] 113 μ) {i : Int32} {μ0 : qa_M} (hp0 : qa_PP μ0.2.2) (h : wLc_40 Ln xs n K i μ0) : qa_LG l nm Ln xs 113 17503 1378 [some (.ref 6000), some (.ref 1), some (.ref 91), some (.int i)] [] 113 μ0 := by
  unfold wLc_40 at h
  refine qa_ald1 dL_law_1378 ?_
  refine qa_V0I dL_law_1379 lm_L_178 sh_1 rfl (by decide) (by decide) (Nat.le_of_ble_eq_true rfl) (tX8_gold l hp0 h) (fun r121 μ121 hp121 h => ?_)
  refine qa_ald2 dL_law_1382 ?_
  refine qa_V0I dL_law_1383 lm_L_181 sh_91 rfl (by decide) (by decide) (Nat.le_of_ble_eq_true rfl) (tX9_gold l hp121 h) (fun r122 μ122 hp122 h => ?_)
  refine qa_icmp_eq (tgt := 2510) dL_law_1386 (by decide) (fun c123 => ?_) (fun c123 => ?_)
  · have h := h.1 c123
    refine qa_inc3 dL_law_2510 (qa_io6 _) ?_
    refine qa_goto (tgt := 18) dL_law_2513 (by decide) ?_
    exact ih (i + (6 : Int32)) μ122 hp122 h
  · have h := h.2 c123
    refine qa_iconst (v := 0) dL_law_1389 (by decide) ?_
    exact False.elim h
def wLc_41 (Ln : Nat) (xs : Nat → Int32) (n : Nat) (K : Int32 → qa_M → Prop) (i : Int32) (μ0 : qa_M) : Prop := vp_in (i + (1 : Int32)) Ln ∧ wX8_late n (xs (i + (1 : Int32)).toNatClampNeg) μ0 (fun r124 μ124 => vp_in (i + (1 : Int32)) Ln ∧ wX9_late n (xs (i + (1 : Int32)).toNatClampNeg) μ124 (fun r125 μ125 => ((r124 = r125 → K (i + (6 : Int32)) μ125) ∧ (¬ r124 = r125 → False))))
theorem tLc_41 (l : Launch) {nm : String} {Ln : Nat} {xs : Nat → Int32} {n : Nat} {K : Int32 → qa_M → Prop} (ih : ∀ (i : Int32) (μ : qa_M), qa_PP μ.2.2 → K i μ → qa_LG l nm Ln xs 113 17503 18 [some (.ref 6000), some (.ref 1), some (.ref 91), some (.int i)] [] 113 μ) {i : Int32} {μ0 : qa_M} (hp0 : qa_PP μ0.2.2) (h : wLc_41 Ln xs n K i μ0) : qa_LG l nm Ln xs 113 17503 1391 [some (.ref 6000), some (.ref 1), some (.ref 91), some (.int i)] [] 113 μ0 := by
  unfold wLc_41 at h
  refine qa_ald1 dL_law_1391 ?_
  refine qa_ald0 dL_law_1392 ?_
  refine qa_ild3 dL_law_1393 ?_
  refine qa_iconst (v := 1) dL_law_1394 (by decide) ?_
  refine qa_iadd dL_law_1395 ?_
  refine qa_sld dL_law_1396 h.1 ?_
  have h := h.2
  refine qa_V1I dL_law_1397 lm_L_182 sh_1 rfl (by decide) (by decide) (Nat.le_of_ble_eq_true rfl) (tX8_late l hp0 h) (fun r124 μ124 hp124 h => ?_)
  refine qa_ald2 dL_law_1400 ?_
  refine qa_ald0 dL_law_1401 ?_
  refine qa_ild3 dL_law_1402 ?_
  refine qa_iconst (v := 1) dL_law_1403 (by decide) ?_
  refine qa_iadd dL_law_1404 ?_
  refine qa_sld dL_law_1405 h.1 ?_
  have h := h.2
  refine qa_V1I dL_law_1406 lm_L_185 sh_91 rfl (by decide) (by decide) (Nat.le_of_ble_eq_true rfl) (tX9_late l hp124 h) (fun r125 μ125 hp125 h => ?_)
  refine qa_icmp_eq (tgt := 2510) dL_law_1409 (by decide) (fun c126 => ?_) (fun c126 => ?_)
  · have h := h.1 c126
    refine qa_inc3 dL_law_2510 (qa_io6 _) ?_
    refine qa_goto (tgt := 18) dL_law_2513 (by decide) ?_
    exact ih (i + (6 : Int32)) μ125 hp125 h
  · have h := h.2 c126
    refine qa_iconst (v := 0) dL_law_1412 (by decide) ?_
    exact False.elim h
def wLc_42 (Ln : Nat) (xs : Nat → Int32) (n : Nat) (K : Int32 → qa_M → Prop) (i : Int32) (μ0 : qa_M) : Prop := vp_in (i + (1 : Int32)) Ln ∧ wX8_right n (xs (i + (1 : Int32)).toNatClampNeg) μ0 (fun r127 μ127 => vp_in (i + (1 : Int32)) Ln ∧ wX9_right n (xs (i + (1 : Int32)).toNatClampNeg) μ127 (fun r128 μ128 => ((r127 = r128 → K (i + (6 : Int32)) μ128) ∧ (¬ r127 = r128 → False))))
theorem tLc_42 (l : Launch) {nm : String} {Ln : Nat} {xs : Nat → Int32} {n : Nat} {K : Int32 → qa_M → Prop} (ih : ∀ (i : Int32) (μ : qa_M), qa_PP μ.2.2 → K i μ → qa_LG l nm Ln xs 113 17503 18 [some (.ref 6000), some (.ref 1), some (.ref 91), some (.int i)] [] 113 μ) {i : Int32} {μ0 : qa_M} (hp0 : qa_PP μ0.2.2) (h : wLc_42 Ln xs n K i μ0) : qa_LG l nm Ln xs 113 17503 1414 [some (.ref 6000), some (.ref 1), some (.ref 91), some (.int i)] [] 113 μ0 := by
  unfold wLc_42 at h
  refine qa_ald1 dL_law_1414 ?_
  refine qa_ald0 dL_law_1415 ?_
  refine qa_ild3 dL_law_1416 ?_
  refine qa_iconst (v := 1) dL_law_1417 (by decide) ?_
  refine qa_iadd dL_law_1418 ?_
  refine qa_sld dL_law_1419 h.1 ?_
  have h := h.2
  refine qa_V1I dL_law_1420 lm_L_186 sh_1 rfl (by decide) (by decide) (Nat.le_of_ble_eq_true rfl) (tX8_right l hp0 h) (fun r127 μ127 hp127 h => ?_)
  refine qa_ald2 dL_law_1423 ?_
  refine qa_ald0 dL_law_1424 ?_
  refine qa_ild3 dL_law_1425 ?_
  refine qa_iconst (v := 1) dL_law_1426 (by decide) ?_
  refine qa_iadd dL_law_1427 ?_
  refine qa_sld dL_law_1428 h.1 ?_
  have h := h.2
  refine qa_V1I dL_law_1429 lm_L_189 sh_91 rfl (by decide) (by decide) (Nat.le_of_ble_eq_true rfl) (tX9_right l hp127 h) (fun r128 μ128 hp128 h => ?_)
  refine qa_icmp_eq (tgt := 2510) dL_law_1432 (by decide) (fun c129 => ?_) (fun c129 => ?_)
  · have h := h.1 c129
    refine qa_inc3 dL_law_2510 (qa_io6 _) ?_
    refine qa_goto (tgt := 18) dL_law_2513 (by decide) ?_
    exact ih (i + (6 : Int32)) μ128 hp128 h
  · have h := h.2 c129
    refine qa_iconst (v := 0) dL_law_1435 (by decide) ?_
    exact False.elim h
def wLc_43 (Ln : Nat) (xs : Nat → Int32) (n : Nat) (K : Int32 → qa_M → Prop) (i : Int32) (μ0 : qa_M) : Prop := wX8_rights n  μ0 (fun r130 μ130 => wX9_rights n  μ130 (fun r131 μ131 => ((r130 = r131 → K (i + (6 : Int32)) μ131) ∧ (¬ r130 = r131 → False))))
theorem tLc_43 (l : Launch) {nm : String} {Ln : Nat} {xs : Nat → Int32} {n : Nat} {K : Int32 → qa_M → Prop} (ih : ∀ (i : Int32) (μ : qa_M), qa_PP μ.2.2 → K i μ → qa_LG l nm Ln xs 113 17503 18 [some (.ref 6000), some (.ref 1), some (.ref 91), some (.int i)] [] 113 μ) {i : Int32} {μ0 : qa_M} (hp0 : qa_PP μ0.2.2) (h : wLc_43 Ln xs n K i μ0) : qa_LG l nm Ln xs 113 17503 1437 [some (.ref 6000), some (.ref 1), some (.ref 91), some (.int i)] [] 113 μ0 := by
  unfold wLc_43 at h
  refine qa_ald1 dL_law_1437 ?_
  refine qa_V0I dL_law_1438 lm_L_190 sh_1 rfl (by decide) (by decide) (Nat.le_of_ble_eq_true rfl) (tX8_rights l hp0 h) (fun r130 μ130 hp130 h => ?_)
  refine qa_ald2 dL_law_1441 ?_
  refine qa_V0I dL_law_1442 lm_L_193 sh_91 rfl (by decide) (by decide) (Nat.le_of_ble_eq_true rfl) (tX9_rights l hp130 h) (fun r131 μ131 hp131 h => ?_)
  refine qa_icmp_eq (tgt := 2510) dL_law_1445 (by decide) (fun c132 => ?_) (fun c132 => ?_)
  · have h := h.1 c132
    refine qa_inc3 dL_law_2510 (qa_io6 _) ?_
    refine qa_goto (tgt := 18) dL_law_2513 (by decide) ?_
    exact ih (i + (6 : Int32)) μ131 hp131 h
  · have h := h.2 c132
    refine qa_iconst (v := 0) dL_law_1448 (by decide) ?_
    exact False.elim h
def wLc_44 (Ln : Nat) (xs : Nat → Int32) (n : Nat) (K : Int32 → qa_M → Prop) (i : Int32) (μ0 : qa_M) : Prop := vp_in (i + (1 : Int32)) Ln ∧ wX8_wrong n (xs (i + (1 : Int32)).toNatClampNeg) μ0 (fun r133 μ133 => vp_in (i + (1 : Int32)) Ln ∧ wX9_wrong n (xs (i + (1 : Int32)).toNatClampNeg) μ133 (fun r134 μ134 => ((r133 = r134 → K (i + (6 : Int32)) μ134) ∧ (¬ r133 = r134 → False))))
theorem tLc_44 (l : Launch) {nm : String} {Ln : Nat} {xs : Nat → Int32} {n : Nat} {K : Int32 → qa_M → Prop} (ih : ∀ (i : Int32) (μ : qa_M), qa_PP μ.2.2 → K i μ → qa_LG l nm Ln xs 113 17503 18 [some (.ref 6000), some (.ref 1), some (.ref 91), some (.int i)] [] 113 μ) {i : Int32} {μ0 : qa_M} (hp0 : qa_PP μ0.2.2) (h : wLc_44 Ln xs n K i μ0) : qa_LG l nm Ln xs 113 17503 1450 [some (.ref 6000), some (.ref 1), some (.ref 91), some (.int i)] [] 113 μ0 := by
  unfold wLc_44 at h
  refine qa_ald1 dL_law_1450 ?_
  refine qa_ald0 dL_law_1451 ?_
  refine qa_ild3 dL_law_1452 ?_
  refine qa_iconst (v := 1) dL_law_1453 (by decide) ?_
  refine qa_iadd dL_law_1454 ?_
  refine qa_sld dL_law_1455 h.1 ?_
  have h := h.2
  refine qa_V1I dL_law_1456 lm_L_194 sh_1 rfl (by decide) (by decide) (Nat.le_of_ble_eq_true rfl) (tX8_wrong l hp0 h) (fun r133 μ133 hp133 h => ?_)
  refine qa_ald2 dL_law_1459 ?_
  refine qa_ald0 dL_law_1460 ?_
  refine qa_ild3 dL_law_1461 ?_
  refine qa_iconst (v := 1) dL_law_1462 (by decide) ?_
  refine qa_iadd dL_law_1463 ?_
  refine qa_sld dL_law_1464 h.1 ?_
  have h := h.2
  refine qa_V1I dL_law_1465 lm_L_197 sh_91 rfl (by decide) (by decide) (Nat.le_of_ble_eq_true rfl) (tX9_wrong l hp133 h) (fun r134 μ134 hp134 h => ?_)
  refine qa_icmp_eq (tgt := 2510) dL_law_1468 (by decide) (fun c135 => ?_) (fun c135 => ?_)
  · have h := h.1 c135
    refine qa_inc3 dL_law_2510 (qa_io6 _) ?_
    refine qa_goto (tgt := 18) dL_law_2513 (by decide) ?_
    exact ih (i + (6 : Int32)) μ134 hp134 h
  · have h := h.2 c135
    refine qa_iconst (v := 0) dL_law_1471 (by decide) ?_
    exact False.elim h
def wLc_45 (Ln : Nat) (xs : Nat → Int32) (n : Nat) (K : Int32 → qa_M → Prop) (i : Int32) (μ0 : qa_M) : Prop := vp_in (i + (1 : Int32)) Ln ∧ vp_in (i + (2 : Int32)) Ln ∧ wX8_stay n (xs (i + (1 : Int32)).toNatClampNeg) (xs (i + (2 : Int32)).toNatClampNeg) μ0 (fun r136 μ136 => vp_in (i + (1 : Int32)) Ln ∧ vp_in (i + (2 : Int32)) Ln ∧ wX9_stay n (xs (i + (1 : Int32)).toNatClampNeg) (xs (i + (2 : Int32)).toNatClampNeg) μ136 (fun r137 μ137 => ((r136 = r137 → K (i + (6 : Int32)) μ137) ∧ (¬ r136 = r137 → False))))
theorem tLc_45 (l : Launch) {nm : String} {Ln : Nat} {xs : Nat → Int32} {n : Nat} {K : Int32 → qa_M → Prop} (ih : ∀ (i : Int32) (μ : qa_M), qa_PP μ.2.2 → K i μ → qa_LG l nm Ln xs 113 17503 18 [some (.ref 6000), some (.ref 1), some (.ref 91), some (.int i)] [] 113 μ) {i : Int32} {μ0 : qa_M} (hp0 : qa_PP μ0.2.2) (h : wLc_45 Ln xs n K i μ0) : qa_LG l nm Ln xs 113 17503 1473 [some (.ref 6000), some (.ref 1), some (.ref 91), some (.int i)] [] 113 μ0 := by
  unfold wLc_45 at h
  refine qa_ald1 dL_law_1473 ?_
  refine qa_ald0 dL_law_1474 ?_
  refine qa_ild3 dL_law_1475 ?_
  refine qa_iconst (v := 1) dL_law_1476 (by decide) ?_
  refine qa_iadd dL_law_1477 ?_
  refine qa_sld dL_law_1478 h.1 ?_
  have h := h.2
  refine qa_ald0 dL_law_1479 ?_
  refine qa_ild3 dL_law_1480 ?_
  refine qa_iconst (v := 2) dL_law_1481 (by decide) ?_
  refine qa_iadd dL_law_1482 ?_
  refine qa_sld dL_law_1483 h.1 ?_
  have h := h.2
  refine qa_V2I dL_law_1484 lm_L_198 sh_1 rfl (by decide) (by decide) (Nat.le_of_ble_eq_true rfl) (tX8_stay l hp0 h) (fun r136 μ136 hp136 h => ?_)
  refine qa_ald2 dL_law_1487 ?_
  refine qa_ald0 dL_law_1488 ?_
  refine qa_ild3 dL_law_1489 ?_
  refine qa_iconst (v := 1) dL_law_1490 (by decide) ?_
  refine qa_iadd dL_law_1491 ?_
  refine qa_sld dL_law_1492 h.1 ?_
  have h := h.2
  refine qa_ald0 dL_law_1493 ?_
  refine qa_ild3 dL_law_1494 ?_
  refine qa_iconst (v := 2) dL_law_1495 (by decide) ?_
  refine qa_iadd dL_law_1496 ?_
  refine qa_sld dL_law_1497 h.1 ?_
  have h := h.2
  refine qa_V2I dL_law_1498 lm_L_201 sh_91 rfl (by decide) (by decide) (Nat.le_of_ble_eq_true rfl) (tX9_stay l hp136 h) (fun r137 μ137 hp137 h => ?_)
  refine qa_icmp_eq (tgt := 2510) dL_law_1501 (by decide) (fun c138 => ?_) (fun c138 => ?_)
  · have h := h.1 c138
    refine qa_inc3 dL_law_2510 (qa_io6 _) ?_
    refine qa_goto (tgt := 18) dL_law_2513 (by decide) ?_
    exact ih (i + (6 : Int32)) μ137 hp137 h
  · have h := h.2 c138
    refine qa_iconst (v := 0) dL_law_1504 (by decide) ?_
    exact False.elim h
def wLc_46 (Ln : Nat) (xs : Nat → Int32) (n : Nat) (K : Int32 → qa_M → Prop) (i : Int32) (μ0 : qa_M) : Prop := vp_in (i + (1 : Int32)) Ln ∧ vp_in (i + (2 : Int32)) Ln ∧ wX8_stays n (xs (i + (1 : Int32)).toNatClampNeg) (xs (i + (2 : Int32)).toNatClampNeg) μ0 (fun r139 μ139 => vp_in (i + (1 : Int32)) Ln ∧ vp_in (i + (2 : Int32)) Ln ∧ wX9_stays n (xs (i + (1 : Int32)).toNatClampNeg) (xs (i + (2 : Int32)).toNatClampNeg) μ139 (fun r140 μ140 => ((r139 = r140 → K (i + (6 : Int32)) μ140) ∧ (¬ r139 = r140 → False))))
theorem tLc_46 (l : Launch) {nm : String} {Ln : Nat} {xs : Nat → Int32} {n : Nat} {K : Int32 → qa_M → Prop} (ih : ∀ (i : Int32) (μ : qa_M), qa_PP μ.2.2 → K i μ → qa_LG l nm Ln xs 113 17503 18 [some (.ref 6000), some (.ref 1), some (.ref 91), some (.int i)] [] 113 μ) {i : Int32} {μ0 : qa_M} (hp0 : qa_PP μ0.2.2) (h : wLc_46 Ln xs n K i μ0) : qa_LG l nm Ln xs 113 17503 1506 [some (.ref 6000), some (.ref 1), some (.ref 91), some (.int i)] [] 113 μ0 := by
  unfold wLc_46 at h
  refine qa_ald1 dL_law_1506 ?_
  refine qa_ald0 dL_law_1507 ?_
  refine qa_ild3 dL_law_1508 ?_
  refine qa_iconst (v := 1) dL_law_1509 (by decide) ?_
  refine qa_iadd dL_law_1510 ?_
  refine qa_sld dL_law_1511 h.1 ?_
  have h := h.2
  refine qa_ald0 dL_law_1512 ?_
  refine qa_ild3 dL_law_1513 ?_
  refine qa_iconst (v := 2) dL_law_1514 (by decide) ?_
  refine qa_iadd dL_law_1515 ?_
  refine qa_sld dL_law_1516 h.1 ?_
  have h := h.2
  refine qa_V2I dL_law_1517 lm_L_202 sh_1 rfl (by decide) (by decide) (Nat.le_of_ble_eq_true rfl) (tX8_stays l hp0 h) (fun r139 μ139 hp139 h => ?_)
  refine qa_ald2 dL_law_1520 ?_
  refine qa_ald0 dL_law_1521 ?_
  refine qa_ild3 dL_law_1522 ?_
  refine qa_iconst (v := 1) dL_law_1523 (by decide) ?_
  refine qa_iadd dL_law_1524 ?_
  refine qa_sld dL_law_1525 h.1 ?_
  have h := h.2
  refine qa_ald0 dL_law_1526 ?_
  refine qa_ild3 dL_law_1527 ?_
  refine qa_iconst (v := 2) dL_law_1528 (by decide) ?_
  refine qa_iadd dL_law_1529 ?_
  refine qa_sld dL_law_1530 h.1 ?_
  have h := h.2
  refine qa_V2I dL_law_1531 lm_L_205 sh_91 rfl (by decide) (by decide) (Nat.le_of_ble_eq_true rfl) (tX9_stays l hp139 h) (fun r140 μ140 hp140 h => ?_)
  refine qa_icmp_eq (tgt := 2510) dL_law_1534 (by decide) (fun c141 => ?_) (fun c141 => ?_)
  · have h := h.1 c141
    refine qa_inc3 dL_law_2510 (qa_io6 _) ?_
    refine qa_goto (tgt := 18) dL_law_2513 (by decide) ?_
    exact ih (i + (6 : Int32)) μ140 hp140 h
  · have h := h.2 c141
    refine qa_iconst (v := 0) dL_law_1537 (by decide) ?_
    exact False.elim h
def wLc_47 (Ln : Nat) (xs : Nat → Int32) (n : Nat) (K : Int32 → qa_M → Prop) (i : Int32) (μ0 : qa_M) : Prop := vp_in (i + (1 : Int32)) Ln ∧ wX8_moves n (xs (i + (1 : Int32)).toNatClampNeg) μ0 (fun r142 μ142 => vp_in (i + (1 : Int32)) Ln ∧ wX9_moves n (xs (i + (1 : Int32)).toNatClampNeg) μ142 (fun r143 μ143 => ((r142 = r143 → K (i + (6 : Int32)) μ143) ∧ (¬ r142 = r143 → False))))
theorem tLc_47 (l : Launch) {nm : String} {Ln : Nat} {xs : Nat → Int32} {n : Nat} {K : Int32 → qa_M → Prop} (ih : ∀ (i : Int32) (μ : qa_M), qa_PP μ.2.2 → K i μ → qa_LG l nm Ln xs 113 17503 18 [some (.ref 6000), some (.ref 1), some (.ref 91), some (.int i)] [] 113 μ) {i : Int32} {μ0 : qa_M} (hp0 : qa_PP μ0.2.2) (h : wLc_47 Ln xs n K i μ0) : qa_LG l nm Ln xs 113 17503 1539 [some (.ref 6000), some (.ref 1), some (.ref 91), some (.int i)] [] 113 μ0 := by
  unfold wLc_47 at h
  refine qa_ald1 dL_law_1539 ?_
  refine qa_ald0 dL_law_1540 ?_
  refine qa_ild3 dL_law_1541 ?_
  refine qa_iconst (v := 1) dL_law_1542 (by decide) ?_
  refine qa_iadd dL_law_1543 ?_
  refine qa_sld dL_law_1544 h.1 ?_
  have h := h.2
  refine qa_V1I dL_law_1545 lm_L_206 sh_1 rfl (by decide) (by decide) (Nat.le_of_ble_eq_true rfl) (tX8_moves l hp0 h) (fun r142 μ142 hp142 h => ?_)
  refine qa_ald2 dL_law_1548 ?_
  refine qa_ald0 dL_law_1549 ?_
  refine qa_ild3 dL_law_1550 ?_
  refine qa_iconst (v := 1) dL_law_1551 (by decide) ?_
  refine qa_iadd dL_law_1552 ?_
  refine qa_sld dL_law_1553 h.1 ?_
  have h := h.2
  refine qa_V1I dL_law_1554 lm_L_209 sh_91 rfl (by decide) (by decide) (Nat.le_of_ble_eq_true rfl) (tX9_moves l hp142 h) (fun r143 μ143 hp143 h => ?_)
  refine qa_icmp_eq (tgt := 2510) dL_law_1557 (by decide) (fun c144 => ?_) (fun c144 => ?_)
  · have h := h.1 c144
    refine qa_inc3 dL_law_2510 (qa_io6 _) ?_
    refine qa_goto (tgt := 18) dL_law_2513 (by decide) ?_
    exact ih (i + (6 : Int32)) μ143 hp143 h
  · have h := h.2 c144
    refine qa_iconst (v := 0) dL_law_1560 (by decide) ?_
    exact False.elim h
def wLc_48 (Ln : Nat) (xs : Nat → Int32) (n : Nat) (K : Int32 → qa_M → Prop) (i : Int32) (μ0 : qa_M) : Prop := wX8_fair n  μ0 (fun r145 μ145 => wX9_fair n  μ145 (fun r146 μ146 => ((r145 = r146 → K (i + (6 : Int32)) μ146) ∧ (¬ r145 = r146 → False))))
theorem tLc_48 (l : Launch) {nm : String} {Ln : Nat} {xs : Nat → Int32} {n : Nat} {K : Int32 → qa_M → Prop} (ih : ∀ (i : Int32) (μ : qa_M), qa_PP μ.2.2 → K i μ → qa_LG l nm Ln xs 113 17503 18 [some (.ref 6000), some (.ref 1), some (.ref 91), some (.int i)] [] 113 μ) {i : Int32} {μ0 : qa_M} (hp0 : qa_PP μ0.2.2) (h : wLc_48 Ln xs n K i μ0) : qa_LG l nm Ln xs 113 17503 1562 [some (.ref 6000), some (.ref 1), some (.ref 91), some (.int i)] [] 113 μ0 := by
  unfold wLc_48 at h
  refine qa_ald1 dL_law_1562 ?_
  refine qa_V0I dL_law_1563 lm_L_210 sh_1 rfl (by decide) (by decide) (Nat.le_of_ble_eq_true rfl) (tX8_fair l hp0 h) (fun r145 μ145 hp145 h => ?_)
  refine qa_ald2 dL_law_1566 ?_
  refine qa_V0I dL_law_1567 lm_L_213 sh_91 rfl (by decide) (by decide) (Nat.le_of_ble_eq_true rfl) (tX9_fair l hp145 h) (fun r146 μ146 hp146 h => ?_)
  refine qa_icmp_eq (tgt := 2510) dL_law_1570 (by decide) (fun c147 => ?_) (fun c147 => ?_)
  · have h := h.1 c147
    refine qa_inc3 dL_law_2510 (qa_io6 _) ?_
    refine qa_goto (tgt := 18) dL_law_2513 (by decide) ?_
    exact ih (i + (6 : Int32)) μ146 hp146 h
  · have h := h.2 c147
    refine qa_iconst (v := 0) dL_law_1573 (by decide) ?_
    exact False.elim h
def wLc_49 (Ln : Nat) (xs : Nat → Int32) (n : Nat) (K : Int32 → qa_M → Prop) (i : Int32) (μ0 : qa_M) : Prop := wX8_post n  μ0 (fun r148 μ148 => wX9_post n  μ148 (fun r149 μ149 => ((r148 = r149 → K (i + (6 : Int32)) μ149) ∧ (¬ r148 = r149 → False))))
theorem tLc_49 (l : Launch) {nm : String} {Ln : Nat} {xs : Nat → Int32} {n : Nat} {K : Int32 → qa_M → Prop} (ih : ∀ (i : Int32) (μ : qa_M), qa_PP μ.2.2 → K i μ → qa_LG l nm Ln xs 113 17503 18 [some (.ref 6000), some (.ref 1), some (.ref 91), some (.int i)] [] 113 μ) {i : Int32} {μ0 : qa_M} (hp0 : qa_PP μ0.2.2) (h : wLc_49 Ln xs n K i μ0) : qa_LG l nm Ln xs 113 17503 1575 [some (.ref 6000), some (.ref 1), some (.ref 91), some (.int i)] [] 113 μ0 := by
  unfold wLc_49 at h
  refine qa_ald1 dL_law_1575 ?_
  refine qa_V0I dL_law_1576 lm_L_214 sh_1 rfl (by decide) (by decide) (Nat.le_of_ble_eq_true rfl) (tX8_post l hp0 h) (fun r148 μ148 hp148 h => ?_)
  refine qa_ald2 dL_law_1579 ?_
  refine qa_V0I dL_law_1580 lm_L_217 sh_91 rfl (by decide) (by decide) (Nat.le_of_ble_eq_true rfl) (tX9_post l hp148 h) (fun r149 μ149 hp149 h => ?_)
  refine qa_icmp_eq (tgt := 2510) dL_law_1583 (by decide) (fun c150 => ?_) (fun c150 => ?_)
  · have h := h.1 c150
    refine qa_inc3 dL_law_2510 (qa_io6 _) ?_
    refine qa_goto (tgt := 18) dL_law_2513 (by decide) ?_
    exact ih (i + (6 : Int32)) μ149 hp149 h
  · have h := h.2 c150
    refine qa_iconst (v := 0) dL_law_1586 (by decide) ?_
    exact False.elim h
def wLc_50 (Ln : Nat) (xs : Nat → Int32) (n : Nat) (K : Int32 → qa_M → Prop) (i : Int32) (μ0 : qa_M) : Prop := vp_in (i + (1 : Int32)) Ln ∧ wX8_by n (xs (i + (1 : Int32)).toNatClampNeg) μ0 (fun r151 μ151 => vp_in (i + (1 : Int32)) Ln ∧ wX9_by n (xs (i + (1 : Int32)).toNatClampNeg) μ151 (fun r152 μ152 => ((r151 = r152 → K (i + (6 : Int32)) μ152) ∧ (¬ r151 = r152 → False))))
theorem tLc_50 (l : Launch) {nm : String} {Ln : Nat} {xs : Nat → Int32} {n : Nat} {K : Int32 → qa_M → Prop} (ih : ∀ (i : Int32) (μ : qa_M), qa_PP μ.2.2 → K i μ → qa_LG l nm Ln xs 113 17503 18 [some (.ref 6000), some (.ref 1), some (.ref 91), some (.int i)] [] 113 μ) {i : Int32} {μ0 : qa_M} (hp0 : qa_PP μ0.2.2) (h : wLc_50 Ln xs n K i μ0) : qa_LG l nm Ln xs 113 17503 1588 [some (.ref 6000), some (.ref 1), some (.ref 91), some (.int i)] [] 113 μ0 := by
  unfold wLc_50 at h
  refine qa_ald1 dL_law_1588 ?_
  refine qa_ald0 dL_law_1589 ?_
  refine qa_ild3 dL_law_1590 ?_
  refine qa_iconst (v := 1) dL_law_1591 (by decide) ?_
  refine qa_iadd dL_law_1592 ?_
  refine qa_sld dL_law_1593 h.1 ?_
  have h := h.2
  refine qa_V1I dL_law_1594 lm_L_218 sh_1 rfl (by decide) (by decide) (Nat.le_of_ble_eq_true rfl) (tX8_by l hp0 h) (fun r151 μ151 hp151 h => ?_)
  refine qa_ald2 dL_law_1597 ?_
  refine qa_ald0 dL_law_1598 ?_
  refine qa_ild3 dL_law_1599 ?_
  refine qa_iconst (v := 1) dL_law_1600 (by decide) ?_
  refine qa_iadd dL_law_1601 ?_
  refine qa_sld dL_law_1602 h.1 ?_
  have h := h.2
  refine qa_V1I dL_law_1603 lm_L_221 sh_91 rfl (by decide) (by decide) (Nat.le_of_ble_eq_true rfl) (tX9_by l hp151 h) (fun r152 μ152 hp152 h => ?_)
  refine qa_icmp_eq (tgt := 2510) dL_law_1606 (by decide) (fun c153 => ?_) (fun c153 => ?_)
  · have h := h.1 c153
    refine qa_inc3 dL_law_2510 (qa_io6 _) ?_
    refine qa_goto (tgt := 18) dL_law_2513 (by decide) ?_
    exact ih (i + (6 : Int32)) μ152 hp152 h
  · have h := h.2 c153
    refine qa_iconst (v := 0) dL_law_1609 (by decide) ?_
    exact False.elim h
def wLc_51 (Ln : Nat) (xs : Nat → Int32) (n : Nat) (K : Int32 → qa_M → Prop) (i : Int32) (μ0 : qa_M) : Prop := wX8_law n  μ0 (fun r154 μ154 => wX9_law n  μ154 (fun r155 μ155 => ((r154 = r155 → K (i + (6 : Int32)) μ155) ∧ (¬ r154 = r155 → False))))
theorem tLc_51 (l : Launch) {nm : String} {Ln : Nat} {xs : Nat → Int32} {n : Nat} {K : Int32 → qa_M → Prop} (ih : ∀ (i : Int32) (μ : qa_M), qa_PP μ.2.2 → K i μ → qa_LG l nm Ln xs 113 17503 18 [some (.ref 6000), some (.ref 1), some (.ref 91), some (.int i)] [] 113 μ) {i : Int32} {μ0 : qa_M} (hp0 : qa_PP μ0.2.2) (h : wLc_51 Ln xs n K i μ0) : qa_LG l nm Ln xs 113 17503 1611 [some (.ref 6000), some (.ref 1), some (.ref 91), some (.int i)] [] 113 μ0 := by
  unfold wLc_51 at h
  refine qa_ald1 dL_law_1611 ?_
  refine qa_V0I dL_law_1612 lm_L_222 sh_1 rfl (by decide) (by decide) (Nat.le_of_ble_eq_true rfl) (tX8_law l hp0 h) (fun r154 μ154 hp154 h => ?_)
  refine qa_ald2 dL_law_1615 ?_
  refine qa_V0I dL_law_1616 lm_L_225 sh_91 rfl (by decide) (by decide) (Nat.le_of_ble_eq_true rfl) (tX9_law l hp154 h) (fun r155 μ155 hp155 h => ?_)
  refine qa_icmp_eq (tgt := 2510) dL_law_1619 (by decide) (fun c156 => ?_) (fun c156 => ?_)
  · have h := h.1 c156
    refine qa_inc3 dL_law_2510 (qa_io6 _) ?_
    refine qa_goto (tgt := 18) dL_law_2513 (by decide) ?_
    exact ih (i + (6 : Int32)) μ155 hp155 h
  · have h := h.2 c156
    refine qa_iconst (v := 0) dL_law_1622 (by decide) ?_
    exact False.elim h
def wLc_52 (Ln : Nat) (xs : Nat → Int32) (n : Nat) (K : Int32 → qa_M → Prop) (i : Int32) (μ0 : qa_M) : Prop := wX8_trade n  μ0 (fun r157 μ157 => wX9_trade n  μ157 (fun r158 μ158 => ((r157 = r158 → K (i + (6 : Int32)) μ158) ∧ (¬ r157 = r158 → False))))
theorem tLc_52 (l : Launch) {nm : String} {Ln : Nat} {xs : Nat → Int32} {n : Nat} {K : Int32 → qa_M → Prop} (ih : ∀ (i : Int32) (μ : qa_M), qa_PP μ.2.2 → K i μ → qa_LG l nm Ln xs 113 17503 18 [some (.ref 6000), some (.ref 1), some (.ref 91), some (.int i)] [] 113 μ) {i : Int32} {μ0 : qa_M} (hp0 : qa_PP μ0.2.2) (h : wLc_52 Ln xs n K i μ0) : qa_LG l nm Ln xs 113 17503 1624 [some (.ref 6000), some (.ref 1), some (.ref 91), some (.int i)] [] 113 μ0 := by
  unfold wLc_52 at h
  refine qa_ald1 dL_law_1624 ?_
  refine qa_V0I dL_law_1625 lm_L_226 sh_1 rfl (by decide) (by decide) (Nat.le_of_ble_eq_true rfl) (tX8_trade l hp0 h) (fun r157 μ157 hp157 h => ?_)
  refine qa_ald2 dL_law_1628 ?_
  refine qa_V0I dL_law_1629 lm_L_229 sh_91 rfl (by decide) (by decide) (Nat.le_of_ble_eq_true rfl) (tX9_trade l hp157 h) (fun r158 μ158 hp158 h => ?_)
  refine qa_icmp_eq (tgt := 2510) dL_law_1632 (by decide) (fun c159 => ?_) (fun c159 => ?_)
  · have h := h.1 c159
    refine qa_inc3 dL_law_2510 (qa_io6 _) ?_
    refine qa_goto (tgt := 18) dL_law_2513 (by decide) ?_
    exact ih (i + (6 : Int32)) μ158 hp158 h
  · have h := h.2 c159
    refine qa_iconst (v := 0) dL_law_1635 (by decide) ?_
    exact False.elim h
def wLc_53 (Ln : Nat) (xs : Nat → Int32) (n : Nat) (K : Int32 → qa_M → Prop) (i : Int32) (μ0 : qa_M) : Prop := wX8_trades n  μ0 (fun r160 μ160 => wX9_trades n  μ160 (fun r161 μ161 => ((r160 = r161 → K (i + (6 : Int32)) μ161) ∧ (¬ r160 = r161 → False))))
theorem tLc_53 (l : Launch) {nm : String} {Ln : Nat} {xs : Nat → Int32} {n : Nat} {K : Int32 → qa_M → Prop} (ih : ∀ (i : Int32) (μ : qa_M), qa_PP μ.2.2 → K i μ → qa_LG l nm Ln xs 113 17503 18 [some (.ref 6000), some (.ref 1), some (.ref 91), some (.int i)] [] 113 μ) {i : Int32} {μ0 : qa_M} (hp0 : qa_PP μ0.2.2) (h : wLc_53 Ln xs n K i μ0) : qa_LG l nm Ln xs 113 17503 1637 [some (.ref 6000), some (.ref 1), some (.ref 91), some (.int i)] [] 113 μ0 := by
  unfold wLc_53 at h
  refine qa_ald1 dL_law_1637 ?_
  refine qa_V0I dL_law_1638 lm_L_230 sh_1 rfl (by decide) (by decide) (Nat.le_of_ble_eq_true rfl) (tX8_trades l hp0 h) (fun r160 μ160 hp160 h => ?_)
  refine qa_ald2 dL_law_1641 ?_
  refine qa_V0I dL_law_1642 lm_L_233 sh_91 rfl (by decide) (by decide) (Nat.le_of_ble_eq_true rfl) (tX9_trades l hp160 h) (fun r161 μ161 hp161 h => ?_)
  refine qa_icmp_eq (tgt := 2510) dL_law_1645 (by decide) (fun c162 => ?_) (fun c162 => ?_)
  · have h := h.1 c162
    refine qa_inc3 dL_law_2510 (qa_io6 _) ?_
    refine qa_goto (tgt := 18) dL_law_2513 (by decide) ?_
    exact ih (i + (6 : Int32)) μ161 hp161 h
  · have h := h.2 c162
    refine qa_iconst (v := 0) dL_law_1648 (by decide) ?_
    exact False.elim h
def wLc_54 (Ln : Nat) (xs : Nat → Int32) (n : Nat) (K : Int32 → qa_M → Prop) (i : Int32) (μ0 : qa_M) : Prop := vp_in (i + (1 : Int32)) Ln ∧ wX8_leans n (xs (i + (1 : Int32)).toNatClampNeg) μ0 (fun r163 μ163 => vp_in (i + (1 : Int32)) Ln ∧ wX9_leans n (xs (i + (1 : Int32)).toNatClampNeg) μ163 (fun r164 μ164 => ((r163 = r164 → K (i + (6 : Int32)) μ164) ∧ (¬ r163 = r164 → False))))
theorem tLc_54 (l : Launch) {nm : String} {Ln : Nat} {xs : Nat → Int32} {n : Nat} {K : Int32 → qa_M → Prop} (ih : ∀ (i : Int32) (μ : qa_M), qa_PP μ.2.2 → K i μ → qa_LG l nm Ln xs 113 17503 18 [some (.ref 6000), some (.ref 1), some (.ref 91), some (.int i)] [] 113 μ) {i : Int32} {μ0 : qa_M} (hp0 : qa_PP μ0.2.2) (h : wLc_54 Ln xs n K i μ0) : qa_LG l nm Ln xs 113 17503 1650 [some (.ref 6000), some (.ref 1), some (.ref 91), some (.int i)] [] 113 μ0 := by
  unfold wLc_54 at h
  refine qa_ald1 dL_law_1650 ?_
  refine qa_ald0 dL_law_1651 ?_
  refine qa_ild3 dL_law_1652 ?_
  refine qa_iconst (v := 1) dL_law_1653 (by decide) ?_
  refine qa_iadd dL_law_1654 ?_
  refine qa_sld dL_law_1655 h.1 ?_
  have h := h.2
  refine qa_V1I dL_law_1656 lm_L_234 sh_1 rfl (by decide) (by decide) (Nat.le_of_ble_eq_true rfl) (tX8_leans l hp0 h) (fun r163 μ163 hp163 h => ?_)
  refine qa_ald2 dL_law_1659 ?_
  refine qa_ald0 dL_law_1660 ?_
  refine qa_ild3 dL_law_1661 ?_
  refine qa_iconst (v := 1) dL_law_1662 (by decide) ?_
  refine qa_iadd dL_law_1663 ?_
  refine qa_sld dL_law_1664 h.1 ?_
  have h := h.2
  refine qa_V1I dL_law_1665 lm_L_237 sh_91 rfl (by decide) (by decide) (Nat.le_of_ble_eq_true rfl) (tX9_leans l hp163 h) (fun r164 μ164 hp164 h => ?_)
  refine qa_icmp_eq (tgt := 2510) dL_law_1668 (by decide) (fun c165 => ?_) (fun c165 => ?_)
  · have h := h.1 c165
    refine qa_inc3 dL_law_2510 (qa_io6 _) ?_
    refine qa_goto (tgt := 18) dL_law_2513 (by decide) ?_
    exact ih (i + (6 : Int32)) μ164 hp164 h
  · have h := h.2 c165
    refine qa_iconst (v := 0) dL_law_1671 (by decide) ?_
    exact False.elim h
def wLc_55 (Ln : Nat) (xs : Nat → Int32) (n : Nat) (K : Int32 → qa_M → Prop) (i : Int32) (μ0 : qa_M) : Prop := vp_in (i + (1 : Int32)) Ln ∧ wX8_surely n (xs (i + (1 : Int32)).toNatClampNeg) μ0 (fun r166 μ166 => vp_in (i + (1 : Int32)) Ln ∧ wX9_surely n (xs (i + (1 : Int32)).toNatClampNeg) μ166 (fun r167 μ167 => ((r166 = r167 → K (i + (6 : Int32)) μ167) ∧ (¬ r166 = r167 → False))))
theorem tLc_55 (l : Launch) {nm : String} {Ln : Nat} {xs : Nat → Int32} {n : Nat} {K : Int32 → qa_M → Prop} (ih : ∀ (i : Int32) (μ : qa_M), qa_PP μ.2.2 → K i μ → qa_LG l nm Ln xs 113 17503 18 [some (.ref 6000), some (.ref 1), some (.ref 91), some (.int i)] [] 113 μ) {i : Int32} {μ0 : qa_M} (hp0 : qa_PP μ0.2.2) (h : wLc_55 Ln xs n K i μ0) : qa_LG l nm Ln xs 113 17503 1673 [some (.ref 6000), some (.ref 1), some (.ref 91), some (.int i)] [] 113 μ0 := by
  unfold wLc_55 at h
  refine qa_ald1 dL_law_1673 ?_
  refine qa_ald0 dL_law_1674 ?_
  refine qa_ild3 dL_law_1675 ?_
  refine qa_iconst (v := 1) dL_law_1676 (by decide) ?_
  refine qa_iadd dL_law_1677 ?_
  refine qa_sld dL_law_1678 h.1 ?_
  have h := h.2
  refine qa_V1I dL_law_1679 lm_L_238 sh_1 rfl (by decide) (by decide) (Nat.le_of_ble_eq_true rfl) (tX8_surely l hp0 h) (fun r166 μ166 hp166 h => ?_)
  refine qa_ald2 dL_law_1682 ?_
  refine qa_ald0 dL_law_1683 ?_
  refine qa_ild3 dL_law_1684 ?_
  refine qa_iconst (v := 1) dL_law_1685 (by decide) ?_
  refine qa_iadd dL_law_1686 ?_
  refine qa_sld dL_law_1687 h.1 ?_
  have h := h.2
  refine qa_V1I dL_law_1688 lm_L_241 sh_91 rfl (by decide) (by decide) (Nat.le_of_ble_eq_true rfl) (tX9_surely l hp166 h) (fun r167 μ167 hp167 h => ?_)
  refine qa_icmp_eq (tgt := 2510) dL_law_1691 (by decide) (fun c168 => ?_) (fun c168 => ?_)
  · have h := h.1 c168
    refine qa_inc3 dL_law_2510 (qa_io6 _) ?_
    refine qa_goto (tgt := 18) dL_law_2513 (by decide) ?_
    exact ih (i + (6 : Int32)) μ167 hp167 h
  · have h := h.2 c168
    refine qa_iconst (v := 0) dL_law_1694 (by decide) ?_
    exact False.elim h
def wLc_56 (Ln : Nat) (xs : Nat → Int32) (n : Nat) (K : Int32 → qa_M → Prop) (i : Int32) (μ0 : qa_M) : Prop := vp_in (i + (1 : Int32)) Ln ∧ wX8_never n (xs (i + (1 : Int32)).toNatClampNeg) μ0 (fun r169 μ169 => vp_in (i + (1 : Int32)) Ln ∧ wX9_never n (xs (i + (1 : Int32)).toNatClampNeg) μ169 (fun r170 μ170 => ((r169 = r170 → K (i + (6 : Int32)) μ170) ∧ (¬ r169 = r170 → False))))
theorem tLc_56 (l : Launch) {nm : String} {Ln : Nat} {xs : Nat → Int32} {n : Nat} {K : Int32 → qa_M → Prop} (ih : ∀ (i : Int32) (μ : qa_M), qa_PP μ.2.2 → K i μ → qa_LG l nm Ln xs 113 17503 18 [some (.ref 6000), some (.ref 1), some (.ref 91), some (.int i)] [] 113 μ) {i : Int32} {μ0 : qa_M} (hp0 : qa_PP μ0.2.2) (h : wLc_56 Ln xs n K i μ0) : qa_LG l nm Ln xs 113 17503 1696 [some (.ref 6000), some (.ref 1), some (.ref 91), some (.int i)] [] 113 μ0 := by
  unfold wLc_56 at h
  refine qa_ald1 dL_law_1696 ?_
  refine qa_ald0 dL_law_1697 ?_
  refine qa_ild3 dL_law_1698 ?_
  refine qa_iconst (v := 1) dL_law_1699 (by decide) ?_
  refine qa_iadd dL_law_1700 ?_
  refine qa_sld dL_law_1701 h.1 ?_
  have h := h.2
  refine qa_V1I dL_law_1702 lm_L_242 sh_1 rfl (by decide) (by decide) (Nat.le_of_ble_eq_true rfl) (tX8_never l hp0 h) (fun r169 μ169 hp169 h => ?_)
  refine qa_ald2 dL_law_1705 ?_
  refine qa_ald0 dL_law_1706 ?_
  refine qa_ild3 dL_law_1707 ?_
  refine qa_iconst (v := 1) dL_law_1708 (by decide) ?_
  refine qa_iadd dL_law_1709 ?_
  refine qa_sld dL_law_1710 h.1 ?_
  have h := h.2
  refine qa_V1I dL_law_1711 lm_L_245 sh_91 rfl (by decide) (by decide) (Nat.le_of_ble_eq_true rfl) (tX9_never l hp169 h) (fun r170 μ170 hp170 h => ?_)
  refine qa_icmp_eq (tgt := 2510) dL_law_1714 (by decide) (fun c171 => ?_) (fun c171 => ?_)
  · have h := h.1 c171
    refine qa_inc3 dL_law_2510 (qa_io6 _) ?_
    refine qa_goto (tgt := 18) dL_law_2513 (by decide) ?_
    exact ih (i + (6 : Int32)) μ170 hp170 h
  · have h := h.2 c171
    refine qa_iconst (v := 0) dL_law_1717 (by decide) ?_
    exact False.elim h
def wLc_57 (Ln : Nat) (xs : Nat → Int32) (n : Nat) (K : Int32 → qa_M → Prop) (i : Int32) (μ0 : qa_M) : Prop := vp_in (i + (1 : Int32)) Ln ∧ wX8_ask n (xs (i + (1 : Int32)).toNatClampNeg) μ0 (fun r172 μ172 => vp_in (i + (1 : Int32)) Ln ∧ wX9_ask n (xs (i + (1 : Int32)).toNatClampNeg) μ172 (fun r173 μ173 => ((r172 = r173 → K (i + (6 : Int32)) μ173) ∧ (¬ r172 = r173 → False))))
theorem tLc_57 (l : Launch) {nm : String} {Ln : Nat} {xs : Nat → Int32} {n : Nat} {K : Int32 → qa_M → Prop} (ih : ∀ (i : Int32) (μ : qa_M), qa_PP μ.2.2 → K i μ → qa_LG l nm Ln xs 113 17503 18 [some (.ref 6000), some (.ref 1), some (.ref 91), some (.int i)] [] 113 μ) {i : Int32} {μ0 : qa_M} (hp0 : qa_PP μ0.2.2) (h : wLc_57 Ln xs n K i μ0) : qa_LG l nm Ln xs 113 17503 1719 [some (.ref 6000), some (.ref 1), some (.ref 91), some (.int i)] [] 113 μ0 := by
  unfold wLc_57 at h
  refine qa_ald1 dL_law_1719 ?_
  refine qa_ald0 dL_law_1720 ?_
  refine qa_ild3 dL_law_1721 ?_
  refine qa_iconst (v := 1) dL_law_1722 (by decide) ?_
  refine qa_iadd dL_law_1723 ?_
  refine qa_sld dL_law_1724 h.1 ?_
  have h := h.2
  refine qa_V1I dL_law_1725 lm_L_246 sh_1 rfl (by decide) (by decide) (Nat.le_of_ble_eq_true rfl) (tX8_ask l hp0 h) (fun r172 μ172 hp172 h => ?_)
  refine qa_ald2 dL_law_1728 ?_
  refine qa_ald0 dL_law_1729 ?_
  refine qa_ild3 dL_law_1730 ?_
  refine qa_iconst (v := 1) dL_law_1731 (by decide) ?_
  refine qa_iadd dL_law_1732 ?_
  refine qa_sld dL_law_1733 h.1 ?_
  have h := h.2
  refine qa_V1I dL_law_1734 lm_L_249 sh_91 rfl (by decide) (by decide) (Nat.le_of_ble_eq_true rfl) (tX9_ask l hp172 h) (fun r173 μ173 hp173 h => ?_)
  refine qa_icmp_eq (tgt := 2510) dL_law_1737 (by decide) (fun c174 => ?_) (fun c174 => ?_)
  · have h := h.1 c174
    refine qa_inc3 dL_law_2510 (qa_io6 _) ?_
    refine qa_goto (tgt := 18) dL_law_2513 (by decide) ?_
    exact ih (i + (6 : Int32)) μ173 hp173 h
  · have h := h.2 c174
    refine qa_iconst (v := 0) dL_law_1740 (by decide) ?_
    exact False.elim h
def wLc_58 (Ln : Nat) (xs : Nat → Int32) (n : Nat) (K : Int32 → qa_M → Prop) (i : Int32) (μ0 : qa_M) : Prop := vp_in (i + (1 : Int32)) Ln ∧ wX8_leaves n (xs (i + (1 : Int32)).toNatClampNeg) μ0 (fun r175 μ175 => vp_in (i + (1 : Int32)) Ln ∧ wX9_leaves n (xs (i + (1 : Int32)).toNatClampNeg) μ175 (fun r176 μ176 => ((r175 = r176 → K (i + (6 : Int32)) μ176) ∧ (¬ r175 = r176 → False))))
theorem tLc_58 (l : Launch) {nm : String} {Ln : Nat} {xs : Nat → Int32} {n : Nat} {K : Int32 → qa_M → Prop} (ih : ∀ (i : Int32) (μ : qa_M), qa_PP μ.2.2 → K i μ → qa_LG l nm Ln xs 113 17503 18 [some (.ref 6000), some (.ref 1), some (.ref 91), some (.int i)] [] 113 μ) {i : Int32} {μ0 : qa_M} (hp0 : qa_PP μ0.2.2) (h : wLc_58 Ln xs n K i μ0) : qa_LG l nm Ln xs 113 17503 1742 [some (.ref 6000), some (.ref 1), some (.ref 91), some (.int i)] [] 113 μ0 := by
  unfold wLc_58 at h
  refine qa_ald1 dL_law_1742 ?_
  refine qa_ald0 dL_law_1743 ?_
  refine qa_ild3 dL_law_1744 ?_
  refine qa_iconst (v := 1) dL_law_1745 (by decide) ?_
  refine qa_iadd dL_law_1746 ?_
  refine qa_sld dL_law_1747 h.1 ?_
  have h := h.2
  refine qa_V1I dL_law_1748 lm_L_250 sh_1 rfl (by decide) (by decide) (Nat.le_of_ble_eq_true rfl) (tX8_leaves l hp0 h) (fun r175 μ175 hp175 h => ?_)
  refine qa_ald2 dL_law_1751 ?_
  refine qa_ald0 dL_law_1752 ?_
  refine qa_ild3 dL_law_1753 ?_
  refine qa_iconst (v := 1) dL_law_1754 (by decide) ?_
  refine qa_iadd dL_law_1755 ?_
  refine qa_sld dL_law_1756 h.1 ?_
  have h := h.2
  refine qa_V1I dL_law_1757 lm_L_253 sh_91 rfl (by decide) (by decide) (Nat.le_of_ble_eq_true rfl) (tX9_leaves l hp175 h) (fun r176 μ176 hp176 h => ?_)
  refine qa_icmp_eq (tgt := 2510) dL_law_1760 (by decide) (fun c177 => ?_) (fun c177 => ?_)
  · have h := h.1 c177
    refine qa_inc3 dL_law_2510 (qa_io6 _) ?_
    refine qa_goto (tgt := 18) dL_law_2513 (by decide) ?_
    exact ih (i + (6 : Int32)) μ176 hp176 h
  · have h := h.2 c177
    refine qa_iconst (v := 0) dL_law_1763 (by decide) ?_
    exact False.elim h
def wLc_59 (Ln : Nat) (xs : Nat → Int32) (n : Nat) (K : Int32 → qa_M → Prop) (i : Int32) (μ0 : qa_M) : Prop := vp_in (i + (1 : Int32)) Ln ∧ wX8_gate n (xs (i + (1 : Int32)).toNatClampNeg) μ0 (fun r178 μ178 => vp_in (i + (1 : Int32)) Ln ∧ wX9_gate n (xs (i + (1 : Int32)).toNatClampNeg) μ178 (fun r179 μ179 => ((r178 = r179 → K (i + (6 : Int32)) μ179) ∧ (¬ r178 = r179 → False))))
theorem tLc_59 (l : Launch) {nm : String} {Ln : Nat} {xs : Nat → Int32} {n : Nat} {K : Int32 → qa_M → Prop} (ih : ∀ (i : Int32) (μ : qa_M), qa_PP μ.2.2 → K i μ → qa_LG l nm Ln xs 113 17503 18 [some (.ref 6000), some (.ref 1), some (.ref 91), some (.int i)] [] 113 μ) {i : Int32} {μ0 : qa_M} (hp0 : qa_PP μ0.2.2) (h : wLc_59 Ln xs n K i μ0) : qa_LG l nm Ln xs 113 17503 1765 [some (.ref 6000), some (.ref 1), some (.ref 91), some (.int i)] [] 113 μ0 := by
  unfold wLc_59 at h
  refine qa_ald1 dL_law_1765 ?_
  refine qa_ald0 dL_law_1766 ?_
  refine qa_ild3 dL_law_1767 ?_
  refine qa_iconst (v := 1) dL_law_1768 (by decide) ?_
  refine qa_iadd dL_law_1769 ?_
  refine qa_sld dL_law_1770 h.1 ?_
  have h := h.2
  refine qa_V1I dL_law_1771 lm_L_254 sh_1 rfl (by decide) (by decide) (Nat.le_of_ble_eq_true rfl) (tX8_gate l hp0 h) (fun r178 μ178 hp178 h => ?_)
  refine qa_ald2 dL_law_1774 ?_
  refine qa_ald0 dL_law_1775 ?_
  refine qa_ild3 dL_law_1776 ?_
  refine qa_iconst (v := 1) dL_law_1777 (by decide) ?_
  refine qa_iadd dL_law_1778 ?_
  refine qa_sld dL_law_1779 h.1 ?_
  have h := h.2
  refine qa_V1I dL_law_1780 lm_L_257 sh_91 rfl (by decide) (by decide) (Nat.le_of_ble_eq_true rfl) (tX9_gate l hp178 h) (fun r179 μ179 hp179 h => ?_)
  refine qa_icmp_eq (tgt := 2510) dL_law_1783 (by decide) (fun c180 => ?_) (fun c180 => ?_)
  · have h := h.1 c180
    refine qa_inc3 dL_law_2510 (qa_io6 _) ?_
    refine qa_goto (tgt := 18) dL_law_2513 (by decide) ?_
    exact ih (i + (6 : Int32)) μ179 hp179 h
  · have h := h.2 c180
    refine qa_iconst (v := 0) dL_law_1786 (by decide) ?_
    exact False.elim h
def wLc_60 (Ln : Nat) (xs : Nat → Int32) (n : Nat) (K : Int32 → qa_M → Prop) (i : Int32) (μ0 : qa_M) : Prop := vp_in (i + (1 : Int32)) Ln ∧ wX8_laws n (xs (i + (1 : Int32)).toNatClampNeg) μ0 (fun r181 μ181 => vp_in (i + (1 : Int32)) Ln ∧ wX9_laws n (xs (i + (1 : Int32)).toNatClampNeg) μ181 (fun r182 μ182 => ((r181 = r182 → K (i + (6 : Int32)) μ182) ∧ (¬ r181 = r182 → False))))
theorem tLc_60 (l : Launch) {nm : String} {Ln : Nat} {xs : Nat → Int32} {n : Nat} {K : Int32 → qa_M → Prop} (ih : ∀ (i : Int32) (μ : qa_M), qa_PP μ.2.2 → K i μ → qa_LG l nm Ln xs 113 17503 18 [some (.ref 6000), some (.ref 1), some (.ref 91), some (.int i)] [] 113 μ) {i : Int32} {μ0 : qa_M} (hp0 : qa_PP μ0.2.2) (h : wLc_60 Ln xs n K i μ0) : qa_LG l nm Ln xs 113 17503 1788 [some (.ref 6000), some (.ref 1), some (.ref 91), some (.int i)] [] 113 μ0 := by
  unfold wLc_60 at h
  refine qa_ald1 dL_law_1788 ?_
  refine qa_ald0 dL_law_1789 ?_
  refine qa_ild3 dL_law_1790 ?_
  refine qa_iconst (v := 1) dL_law_1791 (by decide) ?_
  refine qa_iadd dL_law_1792 ?_
  refine qa_sld dL_law_1793 h.1 ?_
  have h := h.2
  refine qa_V1I dL_law_1794 lm_L_258 sh_1 rfl (by decide) (by decide) (Nat.le_of_ble_eq_true rfl) (tX8_laws l hp0 h) (fun r181 μ181 hp181 h => ?_)
  refine qa_ald2 dL_law_1797 ?_
  refine qa_ald0 dL_law_1798 ?_
  refine qa_ild3 dL_law_1799 ?_
  refine qa_iconst (v := 1) dL_law_1800 (by decide) ?_
  refine qa_iadd dL_law_1801 ?_
  refine qa_sld dL_law_1802 h.1 ?_
  have h := h.2
  refine qa_V1I dL_law_1803 lm_L_261 sh_91 rfl (by decide) (by decide) (Nat.le_of_ble_eq_true rfl) (tX9_laws l hp181 h) (fun r182 μ182 hp182 h => ?_)
  refine qa_icmp_eq (tgt := 2510) dL_law_1806 (by decide) (fun c183 => ?_) (fun c183 => ?_)
  · have h := h.1 c183
    refine qa_inc3 dL_law_2510 (qa_io6 _) ?_
    refine qa_goto (tgt := 18) dL_law_2513 (by decide) ?_
    exact ih (i + (6 : Int32)) μ182 hp182 h
  · have h := h.2 c183
    refine qa_iconst (v := 0) dL_law_1809 (by decide) ?_
    exact False.elim h
def wLc_61 (Ln : Nat) (xs : Nat → Int32) (n : Nat) (K : Int32 → qa_M → Prop) (i : Int32) (μ0 : qa_M) : Prop := vp_in (i + (1 : Int32)) Ln ∧ wX8_worth n (xs (i + (1 : Int32)).toNatClampNeg) μ0 (fun r184 μ184 => vp_in (i + (1 : Int32)) Ln ∧ wX9_worth n (xs (i + (1 : Int32)).toNatClampNeg) μ184 (fun r185 μ185 => ((r184 = r185 → K (i + (6 : Int32)) μ185) ∧ (¬ r184 = r185 → False))))
theorem tLc_61 (l : Launch) {nm : String} {Ln : Nat} {xs : Nat → Int32} {n : Nat} {K : Int32 → qa_M → Prop} (ih : ∀ (i : Int32) (μ : qa_M), qa_PP μ.2.2 → K i μ → qa_LG l nm Ln xs 113 17503 18 [some (.ref 6000), some (.ref 1), some (.ref 91), some (.int i)] [] 113 μ) {i : Int32} {μ0 : qa_M} (hp0 : qa_PP μ0.2.2) (h : wLc_61 Ln xs n K i μ0) : qa_LG l nm Ln xs 113 17503 1811 [some (.ref 6000), some (.ref 1), some (.ref 91), some (.int i)] [] 113 μ0 := by
  unfold wLc_61 at h
  refine qa_ald1 dL_law_1811 ?_
  refine qa_ald0 dL_law_1812 ?_
  refine qa_ild3 dL_law_1813 ?_
  refine qa_iconst (v := 1) dL_law_1814 (by decide) ?_
  refine qa_iadd dL_law_1815 ?_
  refine qa_sld dL_law_1816 h.1 ?_
  have h := h.2
  refine qa_V1I dL_law_1817 lm_L_262 sh_1 rfl (by decide) (by decide) (Nat.le_of_ble_eq_true rfl) (tX8_worth l hp0 h) (fun r184 μ184 hp184 h => ?_)
  refine qa_ald2 dL_law_1820 ?_
  refine qa_ald0 dL_law_1821 ?_
  refine qa_ild3 dL_law_1822 ?_
  refine qa_iconst (v := 1) dL_law_1823 (by decide) ?_
  refine qa_iadd dL_law_1824 ?_
  refine qa_sld dL_law_1825 h.1 ?_
  have h := h.2
  refine qa_V1I dL_law_1826 lm_L_265 sh_91 rfl (by decide) (by decide) (Nat.le_of_ble_eq_true rfl) (tX9_worth l hp184 h) (fun r185 μ185 hp185 h => ?_)
  refine qa_icmp_eq (tgt := 2510) dL_law_1829 (by decide) (fun c186 => ?_) (fun c186 => ?_)
  · have h := h.1 c186
    refine qa_inc3 dL_law_2510 (qa_io6 _) ?_
    refine qa_goto (tgt := 18) dL_law_2513 (by decide) ?_
    exact ih (i + (6 : Int32)) μ185 hp185 h
  · have h := h.2 c186
    refine qa_iconst (v := 0) dL_law_1832 (by decide) ?_
    exact False.elim h
def wLc_62 (Ln : Nat) (xs : Nat → Int32) (n : Nat) (K : Int32 → qa_M → Prop) (i : Int32) (μ0 : qa_M) : Prop := vp_in (i + (1 : Int32)) Ln ∧ vp_in (i + (2 : Int32)) Ln ∧ wX8_share n (xs (i + (1 : Int32)).toNatClampNeg) (xs (i + (2 : Int32)).toNatClampNeg) μ0 (fun r187 μ187 => vp_in (i + (1 : Int32)) Ln ∧ vp_in (i + (2 : Int32)) Ln ∧ wX9_share n (xs (i + (1 : Int32)).toNatClampNeg) (xs (i + (2 : Int32)).toNatClampNeg) μ187 (fun r188 μ188 => ((r187 = r188 → K (i + (6 : Int32)) μ188) ∧ (¬ r187 = r188 → False))))
theorem tLc_62 (l : Launch) {nm : String} {Ln : Nat} {xs : Nat → Int32} {n : Nat} {K : Int32 → qa_M → Prop} (ih : ∀ (i : Int32) (μ : qa_M), qa_PP μ.2.2 → K i μ → qa_LG l nm Ln xs 113 17503 18 [some (.ref 6000), some (.ref 1), some (.ref 91), some (.int i)] [] 113 μ) {i : Int32} {μ0 : qa_M} (hp0 : qa_PP μ0.2.2) (h : wLc_62 Ln xs n K i μ0) : qa_LG l nm Ln xs 113 17503 1834 [some (.ref 6000), some (.ref 1), some (.ref 91), some (.int i)] [] 113 μ0 := by
  unfold wLc_62 at h
  refine qa_ald1 dL_law_1834 ?_
  refine qa_ald0 dL_law_1835 ?_
  refine qa_ild3 dL_law_1836 ?_
  refine qa_iconst (v := 1) dL_law_1837 (by decide) ?_
  refine qa_iadd dL_law_1838 ?_
  refine qa_sld dL_law_1839 h.1 ?_
  have h := h.2
  refine qa_ald0 dL_law_1840 ?_
  refine qa_ild3 dL_law_1841 ?_
  refine qa_iconst (v := 2) dL_law_1842 (by decide) ?_
  refine qa_iadd dL_law_1843 ?_
  refine qa_sld dL_law_1844 h.1 ?_
  have h := h.2
  refine qa_V2I dL_law_1845 lm_L_266 sh_1 rfl (by decide) (by decide) (Nat.le_of_ble_eq_true rfl) (tX8_share l hp0 h) (fun r187 μ187 hp187 h => ?_)
  refine qa_ald2 dL_law_1848 ?_
  refine qa_ald0 dL_law_1849 ?_
  refine qa_ild3 dL_law_1850 ?_
  refine qa_iconst (v := 1) dL_law_1851 (by decide) ?_
  refine qa_iadd dL_law_1852 ?_
  refine qa_sld dL_law_1853 h.1 ?_
  have h := h.2
  refine qa_ald0 dL_law_1854 ?_
  refine qa_ild3 dL_law_1855 ?_
  refine qa_iconst (v := 2) dL_law_1856 (by decide) ?_
  refine qa_iadd dL_law_1857 ?_
  refine qa_sld dL_law_1858 h.1 ?_
  have h := h.2
  refine qa_V2I dL_law_1859 lm_L_269 sh_91 rfl (by decide) (by decide) (Nat.le_of_ble_eq_true rfl) (tX9_share l hp187 h) (fun r188 μ188 hp188 h => ?_)
  refine qa_icmp_eq (tgt := 2510) dL_law_1862 (by decide) (fun c189 => ?_) (fun c189 => ?_)
  · have h := h.1 c189
    refine qa_inc3 dL_law_2510 (qa_io6 _) ?_
    refine qa_goto (tgt := 18) dL_law_2513 (by decide) ?_
    exact ih (i + (6 : Int32)) μ188 hp188 h
  · have h := h.2 c189
    refine qa_iconst (v := 0) dL_law_1865 (by decide) ?_
    exact False.elim h
def wLc_63 (Ln : Nat) (xs : Nat → Int32) (n : Nat) (K : Int32 → qa_M → Prop) (i : Int32) (μ0 : qa_M) : Prop := vp_in (i + (1 : Int32)) Ln ∧ vp_in (i + (2 : Int32)) Ln ∧ wX8_rests n (xs (i + (1 : Int32)).toNatClampNeg) (xs (i + (2 : Int32)).toNatClampNeg) μ0 (fun r190 μ190 => vp_in (i + (1 : Int32)) Ln ∧ vp_in (i + (2 : Int32)) Ln ∧ wX9_rests n (xs (i + (1 : Int32)).toNatClampNeg) (xs (i + (2 : Int32)).toNatClampNeg) μ190 (fun r191 μ191 => ((r190 = r191 → K (i + (6 : Int32)) μ191) ∧ (¬ r190 = r191 → False))))
theorem tLc_63 (l : Launch) {nm : String} {Ln : Nat} {xs : Nat → Int32} {n : Nat} {K : Int32 → qa_M → Prop} (ih : ∀ (i : Int32) (μ : qa_M), qa_PP μ.2.2 → K i μ → qa_LG l nm Ln xs 113 17503 18 [some (.ref 6000), some (.ref 1), some (.ref 91), some (.int i)] [] 113 μ) {i : Int32} {μ0 : qa_M} (hp0 : qa_PP μ0.2.2) (h : wLc_63 Ln xs n K i μ0) : qa_LG l nm Ln xs 113 17503 1867 [some (.ref 6000), some (.ref 1), some (.ref 91), some (.int i)] [] 113 μ0 := by
  unfold wLc_63 at h
  refine qa_ald1 dL_law_1867 ?_
  refine qa_ald0 dL_law_1868 ?_
  refine qa_ild3 dL_law_1869 ?_
  refine qa_iconst (v := 1) dL_law_1870 (by decide) ?_
  refine qa_iadd dL_law_1871 ?_
  refine qa_sld dL_law_1872 h.1 ?_
  have h := h.2
  refine qa_ald0 dL_law_1873 ?_
  refine qa_ild3 dL_law_1874 ?_
  refine qa_iconst (v := 2) dL_law_1875 (by decide) ?_
  refine qa_iadd dL_law_1876 ?_
  refine qa_sld dL_law_1877 h.1 ?_
  have h := h.2
  refine qa_V2I dL_law_1878 lm_L_270 sh_1 rfl (by decide) (by decide) (Nat.le_of_ble_eq_true rfl) (tX8_rests l hp0 h) (fun r190 μ190 hp190 h => ?_)
  refine qa_ald2 dL_law_1881 ?_
  refine qa_ald0 dL_law_1882 ?_
  refine qa_ild3 dL_law_1883 ?_
  refine qa_iconst (v := 1) dL_law_1884 (by decide) ?_
  refine qa_iadd dL_law_1885 ?_
  refine qa_sld dL_law_1886 h.1 ?_
  have h := h.2
  refine qa_ald0 dL_law_1887 ?_
  refine qa_ild3 dL_law_1888 ?_
  refine qa_iconst (v := 2) dL_law_1889 (by decide) ?_
  refine qa_iadd dL_law_1890 ?_
  refine qa_sld dL_law_1891 h.1 ?_
  have h := h.2
  refine qa_V2I dL_law_1892 lm_L_273 sh_91 rfl (by decide) (by decide) (Nat.le_of_ble_eq_true rfl) (tX9_rests l hp190 h) (fun r191 μ191 hp191 h => ?_)
  refine qa_icmp_eq (tgt := 2510) dL_law_1895 (by decide) (fun c192 => ?_) (fun c192 => ?_)
  · have h := h.1 c192
    refine qa_inc3 dL_law_2510 (qa_io6 _) ?_
    refine qa_goto (tgt := 18) dL_law_2513 (by decide) ?_
    exact ih (i + (6 : Int32)) μ191 hp191 h
  · have h := h.2 c192
    refine qa_iconst (v := 0) dL_law_1898 (by decide) ?_
    exact False.elim h
def wLc_64 (Ln : Nat) (xs : Nat → Int32) (n : Nat) (K : Int32 → qa_M → Prop) (i : Int32) (μ0 : qa_M) : Prop := vp_in (i + (1 : Int32)) Ln ∧ vp_in (i + (2 : Int32)) Ln ∧ vp_in (i + (3 : Int32)) Ln ∧ vp_in (i + (4 : Int32)) Ln ∧ wX8_gets n (xs (i + (1 : Int32)).toNatClampNeg) (xs (i + (2 : Int32)).toNatClampNeg) (xs (i + (3 : Int32)).toNatClampNeg) (xs (i + (4 : Int32)).toNatClampNeg) μ0 (fun r193 μ193 => vp_in (i + (1 : Int32)) Ln ∧ vp_in (i + (2 : Int32)) Ln ∧ vp_in (i + (3 : Int32)) Ln ∧ vp_in (i + (4 : Int32)) Ln ∧ wX9_gets n (xs (i + (1 : Int32)).toNatClampNeg) (xs (i + (2 : Int32)).toNatClampNeg) (xs (i + (3 : Int32)).toNatClampNeg) (xs (i + (4 : Int32)).toNatClampNeg) μ193 (fun r194 μ194 => ((r193 = r194 → K (i + (6 : Int32)) μ194) ∧ (¬ r193 = r194 → False))))
theorem tLc_64 (l : Launch) {nm : String} {Ln : Nat} {xs : Nat → Int32} {n : Nat} {K : Int32 → qa_M → Prop} (ih : ∀ (i : Int32) (μ : qa_M), qa_PP μ.2.2 → K i μ → qa_LG l nm Ln xs 113 17503 18 [some (.ref 6000), some (.ref 1), some (.ref 91), some (.int i)] [] 113 μ) {i : Int32} {μ0 : qa_M} (hp0 : qa_PP μ0.2.2) (h : wLc_64 Ln xs n K i μ0) : qa_LG l nm Ln xs 113 17503 1900 [some (.ref 6000), some (.ref 1), some (.ref 91), some (.int i)] [] 113 μ0 := by
  unfold wLc_64 at h
  refine qa_ald1 dL_law_1900 ?_
  refine qa_ald0 dL_law_1901 ?_
  refine qa_ild3 dL_law_1902 ?_
  refine qa_iconst (v := 1) dL_law_1903 (by decide) ?_
  refine qa_iadd dL_law_1904 ?_
  refine qa_sld dL_law_1905 h.1 ?_
  have h := h.2
  refine qa_ald0 dL_law_1906 ?_
  refine qa_ild3 dL_law_1907 ?_
  refine qa_iconst (v := 2) dL_law_1908 (by decide) ?_
  refine qa_iadd dL_law_1909 ?_
  refine qa_sld dL_law_1910 h.1 ?_
  have h := h.2
  refine qa_ald0 dL_law_1911 ?_
  refine qa_ild3 dL_law_1912 ?_
  refine qa_iconst (v := 3) dL_law_1913 (by decide) ?_
  refine qa_iadd dL_law_1914 ?_
  refine qa_sld dL_law_1915 h.1 ?_
  have h := h.2
  refine qa_ald0 dL_law_1916 ?_
  refine qa_ild3 dL_law_1917 ?_
  refine qa_iconst (v := 4) dL_law_1918 (by decide) ?_
  refine qa_iadd dL_law_1919 ?_
  refine qa_sld dL_law_1920 h.1 ?_
  have h := h.2
  refine qa_V4I dL_law_1921 lm_L_274 sh_1 rfl (by decide) (by decide) (Nat.le_of_ble_eq_true rfl) (tX8_gets l hp0 h) (fun r193 μ193 hp193 h => ?_)
  refine qa_ald2 dL_law_1924 ?_
  refine qa_ald0 dL_law_1925 ?_
  refine qa_ild3 dL_law_1926 ?_
  refine qa_iconst (v := 1) dL_law_1927 (by decide) ?_
  refine qa_iadd dL_law_1928 ?_
  refine qa_sld dL_law_1929 h.1 ?_
  have h := h.2
  refine qa_ald0 dL_law_1930 ?_
  refine qa_ild3 dL_law_1931 ?_
  refine qa_iconst (v := 2) dL_law_1932 (by decide) ?_
  refine qa_iadd dL_law_1933 ?_
  refine qa_sld dL_law_1934 h.1 ?_
  have h := h.2
  refine qa_ald0 dL_law_1935 ?_
  refine qa_ild3 dL_law_1936 ?_
  refine qa_iconst (v := 3) dL_law_1937 (by decide) ?_
  refine qa_iadd dL_law_1938 ?_
  refine qa_sld dL_law_1939 h.1 ?_
  have h := h.2
  refine qa_ald0 dL_law_1940 ?_
  refine qa_ild3 dL_law_1941 ?_
  refine qa_iconst (v := 4) dL_law_1942 (by decide) ?_
  refine qa_iadd dL_law_1943 ?_
  refine qa_sld dL_law_1944 h.1 ?_
  have h := h.2
  refine qa_V4I dL_law_1945 lm_L_278 sh_91 rfl (by decide) (by decide) (Nat.le_of_ble_eq_true rfl) (tX9_gets l hp193 h) (fun r194 μ194 hp194 h => ?_)
  refine qa_icmp_eq (tgt := 2510) dL_law_1948 (by decide) (fun c195 => ?_) (fun c195 => ?_)
  · have h := h.1 c195
    refine qa_inc3 dL_law_2510 (qa_io6 _) ?_
    refine qa_goto (tgt := 18) dL_law_2513 (by decide) ?_
    exact ih (i + (6 : Int32)) μ194 hp194 h
  · have h := h.2 c195
    refine qa_iconst (v := 0) dL_law_1951 (by decide) ?_
    exact False.elim h
def wLc_65 (Ln : Nat) (xs : Nat → Int32) (n : Nat) (K : Int32 → qa_M → Prop) (i : Int32) (μ0 : qa_M) : Prop := vp_in (i + (1 : Int32)) Ln ∧ vp_in (i + (2 : Int32)) Ln ∧ vp_in (i + (3 : Int32)) Ln ∧ vp_in (i + (4 : Int32)) Ln ∧ wX8_chance n (xs (i + (1 : Int32)).toNatClampNeg) (xs (i + (2 : Int32)).toNatClampNeg) (xs (i + (3 : Int32)).toNatClampNeg) (xs (i + (4 : Int32)).toNatClampNeg) μ0 (fun r196 μ196 => vp_in (i + (1 : Int32)) Ln ∧ vp_in (i + (2 : Int32)) Ln ∧ vp_in (i + (3 : Int32)) Ln ∧ vp_in (i + (4 : Int32)) Ln ∧ wX9_chance n (xs (i + (1 : Int32)).toNatClampNeg) (xs (i + (2 : Int32)).toNatClampNeg) (xs (i + (3 : Int32)).toNatClampNeg) (xs (i + (4 : Int32)).toNatClampNeg) μ196 (fun r197 μ197 => (((lg_cmp r196 r197) = 0 → K (i + (6 : Int32)) μ197) ∧ (¬ (lg_cmp r196 r197) = 0 → False))))
theorem tLc_65 (l : Launch) {nm : String} {Ln : Nat} {xs : Nat → Int32} {n : Nat} {K : Int32 → qa_M → Prop} (ih : ∀ (i : Int32) (μ : qa_M), qa_PP μ.2.2 → K i μ → qa_LG l nm Ln xs 113 17503 18 [some (.ref 6000), some (.ref 1), some (.ref 91), some (.int i)] [] 113 μ) {i : Int32} {μ0 : qa_M} (hp0 : qa_PP μ0.2.2) (h : wLc_65 Ln xs n K i μ0) : qa_LG l nm Ln xs 113 17503 1953 [some (.ref 6000), some (.ref 1), some (.ref 91), some (.int i)] [] 113 μ0 := by
  unfold wLc_65 at h
  refine qa_ald1 dL_law_1953 ?_
  refine qa_ald0 dL_law_1954 ?_
  refine qa_ild3 dL_law_1955 ?_
  refine qa_iconst (v := 1) dL_law_1956 (by decide) ?_
  refine qa_iadd dL_law_1957 ?_
  refine qa_sld dL_law_1958 h.1 ?_
  have h := h.2
  refine qa_ald0 dL_law_1959 ?_
  refine qa_ild3 dL_law_1960 ?_
  refine qa_iconst (v := 2) dL_law_1961 (by decide) ?_
  refine qa_iadd dL_law_1962 ?_
  refine qa_sld dL_law_1963 h.1 ?_
  have h := h.2
  refine qa_ald0 dL_law_1964 ?_
  refine qa_ild3 dL_law_1965 ?_
  refine qa_iconst (v := 3) dL_law_1966 (by decide) ?_
  refine qa_iadd dL_law_1967 ?_
  refine qa_sld dL_law_1968 h.1 ?_
  have h := h.2
  refine qa_ald0 dL_law_1969 ?_
  refine qa_ild3 dL_law_1970 ?_
  refine qa_iconst (v := 4) dL_law_1971 (by decide) ?_
  refine qa_iadd dL_law_1972 ?_
  refine qa_sld dL_law_1973 h.1 ?_
  have h := h.2
  refine qa_V4J dL_law_1974 lm_L_279 sh_1 rfl (by decide) (by decide) (Nat.le_of_ble_eq_true rfl) (tX8_chance l hp0 h) (fun r196 μ196 hp196 h => ?_)
  refine qa_ald2 dL_law_1977 ?_
  refine qa_ald0 dL_law_1978 ?_
  refine qa_ild3 dL_law_1979 ?_
  refine qa_iconst (v := 1) dL_law_1980 (by decide) ?_
  refine qa_iadd dL_law_1981 ?_
  refine qa_sld dL_law_1982 h.1 ?_
  have h := h.2
  refine qa_ald0 dL_law_1983 ?_
  refine qa_ild3 dL_law_1984 ?_
  refine qa_iconst (v := 2) dL_law_1985 (by decide) ?_
  refine qa_iadd dL_law_1986 ?_
  refine qa_sld dL_law_1987 h.1 ?_
  have h := h.2
  refine qa_ald0 dL_law_1988 ?_
  refine qa_ild3 dL_law_1989 ?_
  refine qa_iconst (v := 3) dL_law_1990 (by decide) ?_
  refine qa_iadd dL_law_1991 ?_
  refine qa_sld dL_law_1992 h.1 ?_
  have h := h.2
  refine qa_ald0 dL_law_1993 ?_
  refine qa_ild3 dL_law_1994 ?_
  refine qa_iconst (v := 4) dL_law_1995 (by decide) ?_
  refine qa_iadd dL_law_1996 ?_
  refine qa_sld dL_law_1997 h.1 ?_
  have h := h.2
  refine qa_V4J dL_law_1998 lm_L_283 sh_91 rfl (by decide) (by decide) (Nat.le_of_ble_eq_true rfl) (tX9_chance l hp196 h) (fun r197 μ197 hp197 h => ?_)
  refine qa_lcmp dL_law_2001 ?_
  refine qa_if_eq (tgt := 2510) dL_law_2002 (by decide) (fun c198 => ?_) (fun c198 => ?_)
  · have h := h.1 c198
    refine qa_inc3 dL_law_2510 (qa_io6 _) ?_
    refine qa_goto (tgt := 18) dL_law_2513 (by decide) ?_
    exact ih (i + (6 : Int32)) μ197 hp197 h
  · have h := h.2 c198
    refine qa_iconst (v := 0) dL_law_2005 (by decide) ?_
    exact False.elim h
def wLc_66 (Ln : Nat) (xs : Nat → Int32) (n : Nat) (K : Int32 → qa_M → Prop) (i : Int32) (μ0 : qa_M) : Prop := vp_in (i + (1 : Int32)) Ln ∧ vp_in (i + (2 : Int32)) Ln ∧ vp_in (i + (3 : Int32)) Ln ∧ wX8_mean n (xs (i + (1 : Int32)).toNatClampNeg) (xs (i + (2 : Int32)).toNatClampNeg) (xs (i + (3 : Int32)).toNatClampNeg) μ0 (fun r199 μ199 => vp_in (i + (1 : Int32)) Ln ∧ vp_in (i + (2 : Int32)) Ln ∧ vp_in (i + (3 : Int32)) Ln ∧ wX9_mean n (xs (i + (1 : Int32)).toNatClampNeg) (xs (i + (2 : Int32)).toNatClampNeg) (xs (i + (3 : Int32)).toNatClampNeg) μ199 (fun r200 μ200 => (((lg_cmp r199 r200) = 0 → K (i + (6 : Int32)) μ200) ∧ (¬ (lg_cmp r199 r200) = 0 → False))))
theorem tLc_66 (l : Launch) {nm : String} {Ln : Nat} {xs : Nat → Int32} {n : Nat} {K : Int32 → qa_M → Prop} (ih : ∀ (i : Int32) (μ : qa_M), qa_PP μ.2.2 → K i μ → qa_LG l nm Ln xs 113 17503 18 [some (.ref 6000), some (.ref 1), some (.ref 91), some (.int i)] [] 113 μ) {i : Int32} {μ0 : qa_M} (hp0 : qa_PP μ0.2.2) (h : wLc_66 Ln xs n K i μ0) : qa_LG l nm Ln xs 113 17503 2007 [some (.ref 6000), some (.ref 1), some (.ref 91), some (.int i)] [] 113 μ0 := by
  unfold wLc_66 at h
  refine qa_ald1 dL_law_2007 ?_
  refine qa_ald0 dL_law_2008 ?_
  refine qa_ild3 dL_law_2009 ?_
  refine qa_iconst (v := 1) dL_law_2010 (by decide) ?_
  refine qa_iadd dL_law_2011 ?_
  refine qa_sld dL_law_2012 h.1 ?_
  have h := h.2
  refine qa_ald0 dL_law_2013 ?_
  refine qa_ild3 dL_law_2014 ?_
  refine qa_iconst (v := 2) dL_law_2015 (by decide) ?_
  refine qa_iadd dL_law_2016 ?_
  refine qa_sld dL_law_2017 h.1 ?_
  have h := h.2
  refine qa_ald0 dL_law_2018 ?_
  refine qa_ild3 dL_law_2019 ?_
  refine qa_iconst (v := 3) dL_law_2020 (by decide) ?_
  refine qa_iadd dL_law_2021 ?_
  refine qa_sld dL_law_2022 h.1 ?_
  have h := h.2
  refine qa_V3J dL_law_2023 lm_L_284 sh_1 rfl (by decide) (by decide) (Nat.le_of_ble_eq_true rfl) (tX8_mean l hp0 h) (fun r199 μ199 hp199 h => ?_)
  refine qa_ald2 dL_law_2026 ?_
  refine qa_ald0 dL_law_2027 ?_
  refine qa_ild3 dL_law_2028 ?_
  refine qa_iconst (v := 1) dL_law_2029 (by decide) ?_
  refine qa_iadd dL_law_2030 ?_
  refine qa_sld dL_law_2031 h.1 ?_
  have h := h.2
  refine qa_ald0 dL_law_2032 ?_
  refine qa_ild3 dL_law_2033 ?_
  refine qa_iconst (v := 2) dL_law_2034 (by decide) ?_
  refine qa_iadd dL_law_2035 ?_
  refine qa_sld dL_law_2036 h.1 ?_
  have h := h.2
  refine qa_ald0 dL_law_2037 ?_
  refine qa_ild3 dL_law_2038 ?_
  refine qa_iconst (v := 3) dL_law_2039 (by decide) ?_
  refine qa_iadd dL_law_2040 ?_
  refine qa_sld dL_law_2041 h.1 ?_
  have h := h.2
  refine qa_V3J dL_law_2042 lm_L_288 sh_91 rfl (by decide) (by decide) (Nat.le_of_ble_eq_true rfl) (tX9_mean l hp199 h) (fun r200 μ200 hp200 h => ?_)
  refine qa_lcmp dL_law_2045 ?_
  refine qa_if_eq (tgt := 2510) dL_law_2046 (by decide) (fun c201 => ?_) (fun c201 => ?_)
  · have h := h.1 c201
    refine qa_inc3 dL_law_2510 (qa_io6 _) ?_
    refine qa_goto (tgt := 18) dL_law_2513 (by decide) ?_
    exact ih (i + (6 : Int32)) μ200 hp200 h
  · have h := h.2 c201
    refine qa_iconst (v := 0) dL_law_2049 (by decide) ?_
    exact False.elim h
def wLc_67 (Ln : Nat) (xs : Nat → Int32) (n : Nat) (K : Int32 → qa_M → Prop) (i : Int32) (μ0 : qa_M) : Prop := vp_in (i + (1 : Int32)) Ln ∧ vp_in (i + (2 : Int32)) Ln ∧ wX8_rest n (xs (i + (1 : Int32)).toNatClampNeg) (xs (i + (2 : Int32)).toNatClampNeg) μ0 (fun r202 μ202 => vp_in (i + (1 : Int32)) Ln ∧ vp_in (i + (2 : Int32)) Ln ∧ wX9_rest n (xs (i + (1 : Int32)).toNatClampNeg) (xs (i + (2 : Int32)).toNatClampNeg) μ202 (fun r203 μ203 => ((r202 = r203 → K (i + (6 : Int32)) μ203) ∧ (¬ r202 = r203 → False))))
theorem tLc_67 (l : Launch) {nm : String} {Ln : Nat} {xs : Nat → Int32} {n : Nat} {K : Int32 → qa_M → Prop} (ih : ∀ (i : Int32) (μ : qa_M), qa_PP μ.2.2 → K i μ → qa_LG l nm Ln xs 113 17503 18 [some (.ref 6000), some (.ref 1), some (.ref 91), some (.int i)] [] 113 μ) {i : Int32} {μ0 : qa_M} (hp0 : qa_PP μ0.2.2) (h : wLc_67 Ln xs n K i μ0) : qa_LG l nm Ln xs 113 17503 2051 [some (.ref 6000), some (.ref 1), some (.ref 91), some (.int i)] [] 113 μ0 := by
  unfold wLc_67 at h
  refine qa_ald1 dL_law_2051 ?_
  refine qa_ald0 dL_law_2052 ?_
  refine qa_ild3 dL_law_2053 ?_
  refine qa_iconst (v := 1) dL_law_2054 (by decide) ?_
  refine qa_iadd dL_law_2055 ?_
  refine qa_sld dL_law_2056 h.1 ?_
  have h := h.2
  refine qa_ald0 dL_law_2057 ?_
  refine qa_ild3 dL_law_2058 ?_
  refine qa_iconst (v := 2) dL_law_2059 (by decide) ?_
  refine qa_iadd dL_law_2060 ?_
  refine qa_sld dL_law_2061 h.1 ?_
  have h := h.2
  refine qa_V2I dL_law_2062 lm_L_289 sh_1 rfl (by decide) (by decide) (Nat.le_of_ble_eq_true rfl) (tX8_rest l hp0 h) (fun r202 μ202 hp202 h => ?_)
  refine qa_ald2 dL_law_2065 ?_
  refine qa_ald0 dL_law_2066 ?_
  refine qa_ild3 dL_law_2067 ?_
  refine qa_iconst (v := 1) dL_law_2068 (by decide) ?_
  refine qa_iadd dL_law_2069 ?_
  refine qa_sld dL_law_2070 h.1 ?_
  have h := h.2
  refine qa_ald0 dL_law_2071 ?_
  refine qa_ild3 dL_law_2072 ?_
  refine qa_iconst (v := 2) dL_law_2073 (by decide) ?_
  refine qa_iadd dL_law_2074 ?_
  refine qa_sld dL_law_2075 h.1 ?_
  have h := h.2
  refine qa_V2I dL_law_2076 lm_L_292 sh_91 rfl (by decide) (by decide) (Nat.le_of_ble_eq_true rfl) (tX9_rest l hp202 h) (fun r203 μ203 hp203 h => ?_)
  refine qa_icmp_eq (tgt := 2510) dL_law_2079 (by decide) (fun c204 => ?_) (fun c204 => ?_)
  · have h := h.1 c204
    refine qa_inc3 dL_law_2510 (qa_io6 _) ?_
    refine qa_goto (tgt := 18) dL_law_2513 (by decide) ?_
    exact ih (i + (6 : Int32)) μ203 hp203 h
  · have h := h.2 c204
    refine qa_iconst (v := 0) dL_law_2082 (by decide) ?_
    exact False.elim h
def wLc_68 (Ln : Nat) (xs : Nat → Int32) (n : Nat) (K : Int32 → qa_M → Prop) (i : Int32) (μ0 : qa_M) : Prop := vp_in (i + (1 : Int32)) Ln ∧ vp_in (i + (2 : Int32)) Ln ∧ vp_in (i + (3 : Int32)) Ln ∧ wX8_swap n (xs (i + (1 : Int32)).toNatClampNeg) (xs (i + (2 : Int32)).toNatClampNeg) (xs (i + (3 : Int32)).toNatClampNeg) μ0 (fun r205 μ205 => vp_in (i + (1 : Int32)) Ln ∧ vp_in (i + (2 : Int32)) Ln ∧ vp_in (i + (3 : Int32)) Ln ∧ wX9_swap n (xs (i + (1 : Int32)).toNatClampNeg) (xs (i + (2 : Int32)).toNatClampNeg) (xs (i + (3 : Int32)).toNatClampNeg) μ205 (fun r206 μ206 => ((r205 = r206 → K (i + (6 : Int32)) μ206) ∧ (¬ r205 = r206 → False))))
theorem tLc_68 (l : Launch) {nm : String} {Ln : Nat} {xs : Nat → Int32} {n : Nat} {K : Int32 → qa_M → Prop} (ih : ∀ (i : Int32) (μ : qa_M), qa_PP μ.2.2 → K i μ → qa_LG l nm Ln xs 113 17503 18 [some (.ref 6000), some (.ref 1), some (.ref 91), some (.int i)] [] 113 μ) {i : Int32} {μ0 : qa_M} (hp0 : qa_PP μ0.2.2) (h : wLc_68 Ln xs n K i μ0) : qa_LG l nm Ln xs 113 17503 2084 [some (.ref 6000), some (.ref 1), some (.ref 91), some (.int i)] [] 113 μ0 := by
  unfold wLc_68 at h
  refine qa_ald1 dL_law_2084 ?_
  refine qa_ald0 dL_law_2085 ?_
  refine qa_ild3 dL_law_2086 ?_
  refine qa_iconst (v := 1) dL_law_2087 (by decide) ?_
  refine qa_iadd dL_law_2088 ?_
  refine qa_sld dL_law_2089 h.1 ?_
  have h := h.2
  refine qa_ald0 dL_law_2090 ?_
  refine qa_ild3 dL_law_2091 ?_
  refine qa_iconst (v := 2) dL_law_2092 (by decide) ?_
  refine qa_iadd dL_law_2093 ?_
  refine qa_sld dL_law_2094 h.1 ?_
  have h := h.2
  refine qa_ald0 dL_law_2095 ?_
  refine qa_ild3 dL_law_2096 ?_
  refine qa_iconst (v := 3) dL_law_2097 (by decide) ?_
  refine qa_iadd dL_law_2098 ?_
  refine qa_sld dL_law_2099 h.1 ?_
  have h := h.2
  refine qa_V3I dL_law_2100 lm_L_293 sh_1 rfl (by decide) (by decide) (Nat.le_of_ble_eq_true rfl) (tX8_swap l hp0 h) (fun r205 μ205 hp205 h => ?_)
  refine qa_ald2 dL_law_2103 ?_
  refine qa_ald0 dL_law_2104 ?_
  refine qa_ild3 dL_law_2105 ?_
  refine qa_iconst (v := 1) dL_law_2106 (by decide) ?_
  refine qa_iadd dL_law_2107 ?_
  refine qa_sld dL_law_2108 h.1 ?_
  have h := h.2
  refine qa_ald0 dL_law_2109 ?_
  refine qa_ild3 dL_law_2110 ?_
  refine qa_iconst (v := 2) dL_law_2111 (by decide) ?_
  refine qa_iadd dL_law_2112 ?_
  refine qa_sld dL_law_2113 h.1 ?_
  have h := h.2
  refine qa_ald0 dL_law_2114 ?_
  refine qa_ild3 dL_law_2115 ?_
  refine qa_iconst (v := 3) dL_law_2116 (by decide) ?_
  refine qa_iadd dL_law_2117 ?_
  refine qa_sld dL_law_2118 h.1 ?_
  have h := h.2
  refine qa_V3I dL_law_2119 lm_L_296 sh_91 rfl (by decide) (by decide) (Nat.le_of_ble_eq_true rfl) (tX9_swap l hp205 h) (fun r206 μ206 hp206 h => ?_)
  refine qa_icmp_eq (tgt := 2510) dL_law_2122 (by decide) (fun c207 => ?_) (fun c207 => ?_)
  · have h := h.1 c207
    refine qa_inc3 dL_law_2510 (qa_io6 _) ?_
    refine qa_goto (tgt := 18) dL_law_2513 (by decide) ?_
    exact ih (i + (6 : Int32)) μ206 hp206 h
  · have h := h.2 c207
    refine qa_iconst (v := 0) dL_law_2125 (by decide) ?_
    exact False.elim h
def wLc_69 (Ln : Nat) (xs : Nat → Int32) (n : Nat) (K : Int32 → qa_M → Prop) (i : Int32) (μ0 : qa_M) : Prop := wX8_undo n  μ0 (fun r208 μ208 => wX9_undo n  μ208 (fun r209 μ209 => ((r208 = r209 → K (i + (6 : Int32)) μ209) ∧ (¬ r208 = r209 → False))))
theorem tLc_69 (l : Launch) {nm : String} {Ln : Nat} {xs : Nat → Int32} {n : Nat} {K : Int32 → qa_M → Prop} (ih : ∀ (i : Int32) (μ : qa_M), qa_PP μ.2.2 → K i μ → qa_LG l nm Ln xs 113 17503 18 [some (.ref 6000), some (.ref 1), some (.ref 91), some (.int i)] [] 113 μ) {i : Int32} {μ0 : qa_M} (hp0 : qa_PP μ0.2.2) (h : wLc_69 Ln xs n K i μ0) : qa_LG l nm Ln xs 113 17503 2127 [some (.ref 6000), some (.ref 1), some (.ref 91), some (.int i)] [] 113 μ0 := by
  unfold wLc_69 at h
  refine qa_ald1 dL_law_2127 ?_
  refine qa_V0I dL_law_2128 lm_L_297 sh_1 rfl (by decide) (by decide) (Nat.le_of_ble_eq_true rfl) (tX8_undo l hp0 h) (fun r208 μ208 hp208 h => ?_)
  refine qa_ald2 dL_law_2131 ?_
  refine qa_V0I dL_law_2132 lm_L_300 sh_91 rfl (by decide) (by decide) (Nat.le_of_ble_eq_true rfl) (tX9_undo l hp208 h) (fun r209 μ209 hp209 h => ?_)
  refine qa_icmp_eq (tgt := 2510) dL_law_2135 (by decide) (fun c210 => ?_) (fun c210 => ?_)
  · have h := h.1 c210
    refine qa_inc3 dL_law_2510 (qa_io6 _) ?_
    refine qa_goto (tgt := 18) dL_law_2513 (by decide) ?_
    exact ih (i + (6 : Int32)) μ209 hp209 h
  · have h := h.2 c210
    refine qa_iconst (v := 0) dL_law_2138 (by decide) ?_
    exact False.elim h
def wLc_70 (Ln : Nat) (xs : Nat → Int32) (n : Nat) (K : Int32 → qa_M → Prop) (i : Int32) (μ0 : qa_M) : Prop := wX8_anew n  μ0 (fun r211 μ211 => wX9_anew n  μ211 (fun r212 μ212 => ((r211 = r212 → K (i + (6 : Int32)) μ212) ∧ (¬ r211 = r212 → False))))
theorem tLc_70 (l : Launch) {nm : String} {Ln : Nat} {xs : Nat → Int32} {n : Nat} {K : Int32 → qa_M → Prop} (ih : ∀ (i : Int32) (μ : qa_M), qa_PP μ.2.2 → K i μ → qa_LG l nm Ln xs 113 17503 18 [some (.ref 6000), some (.ref 1), some (.ref 91), some (.int i)] [] 113 μ) {i : Int32} {μ0 : qa_M} (hp0 : qa_PP μ0.2.2) (h : wLc_70 Ln xs n K i μ0) : qa_LG l nm Ln xs 113 17503 2140 [some (.ref 6000), some (.ref 1), some (.ref 91), some (.int i)] [] 113 μ0 := by
  unfold wLc_70 at h
  refine qa_ald1 dL_law_2140 ?_
  refine qa_V0I dL_law_2141 lm_L_301 sh_1 rfl (by decide) (by decide) (Nat.le_of_ble_eq_true rfl) (tX8_anew l hp0 h) (fun r211 μ211 hp211 h => ?_)
  refine qa_ald2 dL_law_2144 ?_
  refine qa_V0I dL_law_2145 lm_L_304 sh_91 rfl (by decide) (by decide) (Nat.le_of_ble_eq_true rfl) (tX9_anew l hp211 h) (fun r212 μ212 hp212 h => ?_)
  refine qa_icmp_eq (tgt := 2510) dL_law_2148 (by decide) (fun c213 => ?_) (fun c213 => ?_)
  · have h := h.1 c213
    refine qa_inc3 dL_law_2510 (qa_io6 _) ?_
    refine qa_goto (tgt := 18) dL_law_2513 (by decide) ?_
    exact ih (i + (6 : Int32)) μ212 hp212 h
  · have h := h.2 c213
    refine qa_iconst (v := 0) dL_law_2151 (by decide) ?_
    exact False.elim h
def wLc_71 (Ln : Nat) (xs : Nat → Int32) (n : Nat) (K : Int32 → qa_M → Prop) (i : Int32) (μ0 : qa_M) : Prop := vp_in (i + (1 : Int32)) Ln ∧ vp_in (i + (2 : Int32)) Ln ∧ wX8_drawn n (xs (i + (1 : Int32)).toNatClampNeg) (xs (i + (2 : Int32)).toNatClampNeg) μ0 (fun r214 μ214 => vp_in (i + (1 : Int32)) Ln ∧ vp_in (i + (2 : Int32)) Ln ∧ wX9_drawn n (xs (i + (1 : Int32)).toNatClampNeg) (xs (i + (2 : Int32)).toNatClampNeg) μ214 (fun r215 μ215 => ((r214 = r215 → K (i + (6 : Int32)) μ215) ∧ (¬ r214 = r215 → False))))
theorem tLc_71 (l : Launch) {nm : String} {Ln : Nat} {xs : Nat → Int32} {n : Nat} {K : Int32 → qa_M → Prop} (ih : ∀ (i : Int32) (μ : qa_M), qa_PP μ.2.2 → K i μ → qa_LG l nm Ln xs 113 17503 18 [some (.ref 6000), some (.ref 1), some (.ref 91), some (.int i)] [] 113 μ) {i : Int32} {μ0 : qa_M} (hp0 : qa_PP μ0.2.2) (h : wLc_71 Ln xs n K i μ0) : qa_LG l nm Ln xs 113 17503 2153 [some (.ref 6000), some (.ref 1), some (.ref 91), some (.int i)] [] 113 μ0 := by
  unfold wLc_71 at h
  refine qa_ald1 dL_law_2153 ?_
  refine qa_ald0 dL_law_2154 ?_
  refine qa_ild3 dL_law_2155 ?_
  refine qa_iconst (v := 1) dL_law_2156 (by decide) ?_
  refine qa_iadd dL_law_2157 ?_
  refine qa_sld dL_law_2158 h.1 ?_
  have h := h.2
  refine qa_ald0 dL_law_2159 ?_
  refine qa_ild3 dL_law_2160 ?_
  refine qa_iconst (v := 2) dL_law_2161 (by decide) ?_
  refine qa_iadd dL_law_2162 ?_
  refine qa_sld dL_law_2163 h.1 ?_
  have h := h.2
  refine qa_V2I dL_law_2164 lm_L_305 sh_1 rfl (by decide) (by decide) (Nat.le_of_ble_eq_true rfl) (tX8_drawn l hp0 h) (fun r214 μ214 hp214 h => ?_)
  refine qa_ald2 dL_law_2167 ?_
  refine qa_ald0 dL_law_2168 ?_
  refine qa_ild3 dL_law_2169 ?_
  refine qa_iconst (v := 1) dL_law_2170 (by decide) ?_
  refine qa_iadd dL_law_2171 ?_
  refine qa_sld dL_law_2172 h.1 ?_
  have h := h.2
  refine qa_ald0 dL_law_2173 ?_
  refine qa_ild3 dL_law_2174 ?_
  refine qa_iconst (v := 2) dL_law_2175 (by decide) ?_
  refine qa_iadd dL_law_2176 ?_
  refine qa_sld dL_law_2177 h.1 ?_
  have h := h.2
  refine qa_V2I dL_law_2178 lm_L_308 sh_91 rfl (by decide) (by decide) (Nat.le_of_ble_eq_true rfl) (tX9_drawn l hp214 h) (fun r215 μ215 hp215 h => ?_)
  refine qa_icmp_eq (tgt := 2510) dL_law_2181 (by decide) (fun c216 => ?_) (fun c216 => ?_)
  · have h := h.1 c216
    refine qa_inc3 dL_law_2510 (qa_io6 _) ?_
    refine qa_goto (tgt := 18) dL_law_2513 (by decide) ?_
    exact ih (i + (6 : Int32)) μ215 hp215 h
  · have h := h.2 c216
    refine qa_iconst (v := 0) dL_law_2184 (by decide) ?_
    exact False.elim h
def wLc_72 (Ln : Nat) (xs : Nat → Int32) (n : Nat) (K : Int32 → qa_M → Prop) (i : Int32) (μ0 : qa_M) : Prop := vp_in (i + (1 : Int32)) Ln ∧ vp_in (i + (2 : Int32)) Ln ∧ vp_in (i + (3 : Int32)) Ln ∧ wX8_luck n (xs (i + (1 : Int32)).toNatClampNeg) (xs (i + (2 : Int32)).toNatClampNeg) (xs (i + (3 : Int32)).toNatClampNeg) μ0 (fun r217 μ217 => vp_in (i + (1 : Int32)) Ln ∧ vp_in (i + (2 : Int32)) Ln ∧ vp_in (i + (3 : Int32)) Ln ∧ wX9_luck n (xs (i + (1 : Int32)).toNatClampNeg) (xs (i + (2 : Int32)).toNatClampNeg) (xs (i + (3 : Int32)).toNatClampNeg) μ217 (fun r218 μ218 => ((r217 = r218 → K (i + (6 : Int32)) μ218) ∧ (¬ r217 = r218 → False))))
theorem tLc_72 (l : Launch) {nm : String} {Ln : Nat} {xs : Nat → Int32} {n : Nat} {K : Int32 → qa_M → Prop} (ih : ∀ (i : Int32) (μ : qa_M), qa_PP μ.2.2 → K i μ → qa_LG l nm Ln xs 113 17503 18 [some (.ref 6000), some (.ref 1), some (.ref 91), some (.int i)] [] 113 μ) {i : Int32} {μ0 : qa_M} (hp0 : qa_PP μ0.2.2) (h : wLc_72 Ln xs n K i μ0) : qa_LG l nm Ln xs 113 17503 2186 [some (.ref 6000), some (.ref 1), some (.ref 91), some (.int i)] [] 113 μ0 := by
  unfold wLc_72 at h
  refine qa_ald1 dL_law_2186 ?_
  refine qa_ald0 dL_law_2187 ?_
  refine qa_ild3 dL_law_2188 ?_
  refine qa_iconst (v := 1) dL_law_2189 (by decide) ?_
  refine qa_iadd dL_law_2190 ?_
  refine qa_sld dL_law_2191 h.1 ?_
  have h := h.2
  refine qa_ald0 dL_law_2192 ?_
  refine qa_ild3 dL_law_2193 ?_
  refine qa_iconst (v := 2) dL_law_2194 (by decide) ?_
  refine qa_iadd dL_law_2195 ?_
  refine qa_sld dL_law_2196 h.1 ?_
  have h := h.2
  refine qa_ald0 dL_law_2197 ?_
  refine qa_ild3 dL_law_2198 ?_
  refine qa_iconst (v := 3) dL_law_2199 (by decide) ?_
  refine qa_iadd dL_law_2200 ?_
  refine qa_sld dL_law_2201 h.1 ?_
  have h := h.2
  refine qa_V3I dL_law_2202 lm_L_309 sh_1 rfl (by decide) (by decide) (Nat.le_of_ble_eq_true rfl) (tX8_luck l hp0 h) (fun r217 μ217 hp217 h => ?_)
  refine qa_ald2 dL_law_2205 ?_
  refine qa_ald0 dL_law_2206 ?_
  refine qa_ild3 dL_law_2207 ?_
  refine qa_iconst (v := 1) dL_law_2208 (by decide) ?_
  refine qa_iadd dL_law_2209 ?_
  refine qa_sld dL_law_2210 h.1 ?_
  have h := h.2
  refine qa_ald0 dL_law_2211 ?_
  refine qa_ild3 dL_law_2212 ?_
  refine qa_iconst (v := 2) dL_law_2213 (by decide) ?_
  refine qa_iadd dL_law_2214 ?_
  refine qa_sld dL_law_2215 h.1 ?_
  have h := h.2
  refine qa_ald0 dL_law_2216 ?_
  refine qa_ild3 dL_law_2217 ?_
  refine qa_iconst (v := 3) dL_law_2218 (by decide) ?_
  refine qa_iadd dL_law_2219 ?_
  refine qa_sld dL_law_2220 h.1 ?_
  have h := h.2
  refine qa_V3I dL_law_2221 lm_L_312 sh_91 rfl (by decide) (by decide) (Nat.le_of_ble_eq_true rfl) (tX9_luck l hp217 h) (fun r218 μ218 hp218 h => ?_)
  refine qa_icmp_eq (tgt := 2510) dL_law_2224 (by decide) (fun c219 => ?_) (fun c219 => ?_)
  · have h := h.1 c219
    refine qa_inc3 dL_law_2510 (qa_io6 _) ?_
    refine qa_goto (tgt := 18) dL_law_2513 (by decide) ?_
    exact ih (i + (6 : Int32)) μ218 hp218 h
  · have h := h.2 c219
    refine qa_iconst (v := 0) dL_law_2227 (by decide) ?_
    exact False.elim h
def wLc_73 (Ln : Nat) (xs : Nat → Int32) (n : Nat) (K : Int32 → qa_M → Prop) (i : Int32) (μ0 : qa_M) : Prop := vp_in (i + (1 : Int32)) Ln ∧ vp_in (i + (2 : Int32)) Ln ∧ wX8_rate n (xs (i + (1 : Int32)).toNatClampNeg) (xs (i + (2 : Int32)).toNatClampNeg) μ0 (fun r220 μ220 => vp_in (i + (1 : Int32)) Ln ∧ vp_in (i + (2 : Int32)) Ln ∧ wX9_rate n (xs (i + (1 : Int32)).toNatClampNeg) (xs (i + (2 : Int32)).toNatClampNeg) μ220 (fun r221 μ221 => ((r220 = r221 → K (i + (6 : Int32)) μ221) ∧ (¬ r220 = r221 → False))))
theorem tLc_73 (l : Launch) {nm : String} {Ln : Nat} {xs : Nat → Int32} {n : Nat} {K : Int32 → qa_M → Prop} (ih : ∀ (i : Int32) (μ : qa_M), qa_PP μ.2.2 → K i μ → qa_LG l nm Ln xs 113 17503 18 [some (.ref 6000), some (.ref 1), some (.ref 91), some (.int i)] [] 113 μ) {i : Int32} {μ0 : qa_M} (hp0 : qa_PP μ0.2.2) (h : wLc_73 Ln xs n K i μ0) : qa_LG l nm Ln xs 113 17503 2229 [some (.ref 6000), some (.ref 1), some (.ref 91), some (.int i)] [] 113 μ0 := by
  unfold wLc_73 at h
  refine qa_ald1 dL_law_2229 ?_
  refine qa_ald0 dL_law_2230 ?_
  refine qa_ild3 dL_law_2231 ?_
  refine qa_iconst (v := 1) dL_law_2232 (by decide) ?_
  refine qa_iadd dL_law_2233 ?_
  refine qa_sld dL_law_2234 h.1 ?_
  have h := h.2
  refine qa_ald0 dL_law_2235 ?_
  refine qa_ild3 dL_law_2236 ?_
  refine qa_iconst (v := 2) dL_law_2237 (by decide) ?_
  refine qa_iadd dL_law_2238 ?_
  refine qa_sld dL_law_2239 h.1 ?_
  have h := h.2
  refine qa_V2I dL_law_2240 lm_L_313 sh_1 rfl (by decide) (by decide) (Nat.le_of_ble_eq_true rfl) (tX8_rate l hp0 h) (fun r220 μ220 hp220 h => ?_)
  refine qa_ald2 dL_law_2243 ?_
  refine qa_ald0 dL_law_2244 ?_
  refine qa_ild3 dL_law_2245 ?_
  refine qa_iconst (v := 1) dL_law_2246 (by decide) ?_
  refine qa_iadd dL_law_2247 ?_
  refine qa_sld dL_law_2248 h.1 ?_
  have h := h.2
  refine qa_ald0 dL_law_2249 ?_
  refine qa_ild3 dL_law_2250 ?_
  refine qa_iconst (v := 2) dL_law_2251 (by decide) ?_
  refine qa_iadd dL_law_2252 ?_
  refine qa_sld dL_law_2253 h.1 ?_
  have h := h.2
  refine qa_V2I dL_law_2254 lm_L_316 sh_91 rfl (by decide) (by decide) (Nat.le_of_ble_eq_true rfl) (tX9_rate l hp220 h) (fun r221 μ221 hp221 h => ?_)
  refine qa_icmp_eq (tgt := 2510) dL_law_2257 (by decide) (fun c222 => ?_) (fun c222 => ?_)
  · have h := h.1 c222
    refine qa_inc3 dL_law_2510 (qa_io6 _) ?_
    refine qa_goto (tgt := 18) dL_law_2513 (by decide) ?_
    exact ih (i + (6 : Int32)) μ221 hp221 h
  · have h := h.2 c222
    refine qa_iconst (v := 0) dL_law_2260 (by decide) ?_
    exact False.elim h
def wLc_74 (Ln : Nat) (xs : Nat → Int32) (n : Nat) (K : Int32 → qa_M → Prop) (i : Int32) (μ0 : qa_M) : Prop := vp_in (i + (1 : Int32)) Ln ∧ wX8_count n (xs (i + (1 : Int32)).toNatClampNeg) μ0 (fun r223 μ223 => vp_in (i + (1 : Int32)) Ln ∧ wX9_count n (xs (i + (1 : Int32)).toNatClampNeg) μ223 (fun r224 μ224 => ((r223 = r224 → K (i + (6 : Int32)) μ224) ∧ (¬ r223 = r224 → False))))
theorem tLc_74 (l : Launch) {nm : String} {Ln : Nat} {xs : Nat → Int32} {n : Nat} {K : Int32 → qa_M → Prop} (ih : ∀ (i : Int32) (μ : qa_M), qa_PP μ.2.2 → K i μ → qa_LG l nm Ln xs 113 17503 18 [some (.ref 6000), some (.ref 1), some (.ref 91), some (.int i)] [] 113 μ) {i : Int32} {μ0 : qa_M} (hp0 : qa_PP μ0.2.2) (h : wLc_74 Ln xs n K i μ0) : qa_LG l nm Ln xs 113 17503 2262 [some (.ref 6000), some (.ref 1), some (.ref 91), some (.int i)] [] 113 μ0 := by
  unfold wLc_74 at h
  refine qa_ald1 dL_law_2262 ?_
  refine qa_ald0 dL_law_2263 ?_
  refine qa_ild3 dL_law_2264 ?_
  refine qa_iconst (v := 1) dL_law_2265 (by decide) ?_
  refine qa_iadd dL_law_2266 ?_
  refine qa_sld dL_law_2267 h.1 ?_
  have h := h.2
  refine qa_V1I dL_law_2268 lm_L_317 sh_1 rfl (by decide) (by decide) (Nat.le_of_ble_eq_true rfl) (tX8_count l hp0 h) (fun r223 μ223 hp223 h => ?_)
  refine qa_ald2 dL_law_2271 ?_
  refine qa_ald0 dL_law_2272 ?_
  refine qa_ild3 dL_law_2273 ?_
  refine qa_iconst (v := 1) dL_law_2274 (by decide) ?_
  refine qa_iadd dL_law_2275 ?_
  refine qa_sld dL_law_2276 h.1 ?_
  have h := h.2
  refine qa_V1I dL_law_2277 lm_L_320 sh_91 rfl (by decide) (by decide) (Nat.le_of_ble_eq_true rfl) (tX9_count l hp223 h) (fun r224 μ224 hp224 h => ?_)
  refine qa_icmp_eq (tgt := 2510) dL_law_2280 (by decide) (fun c225 => ?_) (fun c225 => ?_)
  · have h := h.1 c225
    refine qa_inc3 dL_law_2510 (qa_io6 _) ?_
    refine qa_goto (tgt := 18) dL_law_2513 (by decide) ?_
    exact ih (i + (6 : Int32)) μ224 hp224 h
  · have h := h.2 c225
    refine qa_iconst (v := 0) dL_law_2283 (by decide) ?_
    exact False.elim h
def wLc_75 (Ln : Nat) (xs : Nat → Int32) (n : Nat) (K : Int32 → qa_M → Prop) (i : Int32) (μ0 : qa_M) : Prop := vp_in (i + (1 : Int32)) Ln ∧ wX8_image n (xs (i + (1 : Int32)).toNatClampNeg) μ0 (fun r226 μ226 => vp_in (i + (1 : Int32)) Ln ∧ wX9_image n (xs (i + (1 : Int32)).toNatClampNeg) μ226 (fun r227 μ227 => ((r226 = r227 → K (i + (6 : Int32)) μ227) ∧ (¬ r226 = r227 → False))))
theorem tLc_75 (l : Launch) {nm : String} {Ln : Nat} {xs : Nat → Int32} {n : Nat} {K : Int32 → qa_M → Prop} (ih : ∀ (i : Int32) (μ : qa_M), qa_PP μ.2.2 → K i μ → qa_LG l nm Ln xs 113 17503 18 [some (.ref 6000), some (.ref 1), some (.ref 91), some (.int i)] [] 113 μ) {i : Int32} {μ0 : qa_M} (hp0 : qa_PP μ0.2.2) (h : wLc_75 Ln xs n K i μ0) : qa_LG l nm Ln xs 113 17503 2285 [some (.ref 6000), some (.ref 1), some (.ref 91), some (.int i)] [] 113 μ0 := by
  unfold wLc_75 at h
  refine qa_ald1 dL_law_2285 ?_
  refine qa_ald0 dL_law_2286 ?_
  refine qa_ild3 dL_law_2287 ?_
  refine qa_iconst (v := 1) dL_law_2288 (by decide) ?_
  refine qa_iadd dL_law_2289 ?_
  refine qa_sld dL_law_2290 h.1 ?_
  have h := h.2
  refine qa_V1I dL_law_2291 lm_L_321 sh_1 rfl (by decide) (by decide) (Nat.le_of_ble_eq_true rfl) (tX8_image l hp0 h) (fun r226 μ226 hp226 h => ?_)
  refine qa_ald2 dL_law_2294 ?_
  refine qa_ald0 dL_law_2295 ?_
  refine qa_ild3 dL_law_2296 ?_
  refine qa_iconst (v := 1) dL_law_2297 (by decide) ?_
  refine qa_iadd dL_law_2298 ?_
  refine qa_sld dL_law_2299 h.1 ?_
  have h := h.2
  refine qa_V1I dL_law_2300 lm_L_324 sh_91 rfl (by decide) (by decide) (Nat.le_of_ble_eq_true rfl) (tX9_image l hp226 h) (fun r227 μ227 hp227 h => ?_)
  refine qa_icmp_eq (tgt := 2510) dL_law_2303 (by decide) (fun c228 => ?_) (fun c228 => ?_)
  · have h := h.1 c228
    refine qa_inc3 dL_law_2510 (qa_io6 _) ?_
    refine qa_goto (tgt := 18) dL_law_2513 (by decide) ?_
    exact ih (i + (6 : Int32)) μ227 hp227 h
  · have h := h.2 c228
    refine qa_iconst (v := 0) dL_law_2306 (by decide) ?_
    exact False.elim h
def wLc_76 (Ln : Nat) (xs : Nat → Int32) (n : Nat) (K : Int32 → qa_M → Prop) (i : Int32) (μ0 : qa_M) : Prop := vp_in (i + (1 : Int32)) Ln ∧ wX8_back n (xs (i + (1 : Int32)).toNatClampNeg) μ0 (fun r229 μ229 => vp_in (i + (1 : Int32)) Ln ∧ wX9_back n (xs (i + (1 : Int32)).toNatClampNeg) μ229 (fun r230 μ230 => ((r229 = r230 → K (i + (6 : Int32)) μ230) ∧ (¬ r229 = r230 → False))))
theorem tLc_76 (l : Launch) {nm : String} {Ln : Nat} {xs : Nat → Int32} {n : Nat} {K : Int32 → qa_M → Prop} (ih : ∀ (i : Int32) (μ : qa_M), qa_PP μ.2.2 → K i μ → qa_LG l nm Ln xs 113 17503 18 [some (.ref 6000), some (.ref 1), some (.ref 91), some (.int i)] [] 113 μ) {i : Int32} {μ0 : qa_M} (hp0 : qa_PP μ0.2.2) (h : wLc_76 Ln xs n K i μ0) : qa_LG l nm Ln xs 113 17503 2308 [some (.ref 6000), some (.ref 1), some (.ref 91), some (.int i)] [] 113 μ0 := by
  unfold wLc_76 at h
  refine qa_ald1 dL_law_2308 ?_
  refine qa_ald0 dL_law_2309 ?_
  refine qa_ild3 dL_law_2310 ?_
  refine qa_iconst (v := 1) dL_law_2311 (by decide) ?_
  refine qa_iadd dL_law_2312 ?_
  refine qa_sld dL_law_2313 h.1 ?_
  have h := h.2
  refine qa_V1I dL_law_2314 lm_L_325 sh_1 rfl (by decide) (by decide) (Nat.le_of_ble_eq_true rfl) (tX8_back l hp0 h) (fun r229 μ229 hp229 h => ?_)
  refine qa_ald2 dL_law_2317 ?_
  refine qa_ald0 dL_law_2318 ?_
  refine qa_ild3 dL_law_2319 ?_
  refine qa_iconst (v := 1) dL_law_2320 (by decide) ?_
  refine qa_iadd dL_law_2321 ?_
  refine qa_sld dL_law_2322 h.1 ?_
  have h := h.2
  refine qa_V1I dL_law_2323 lm_L_328 sh_91 rfl (by decide) (by decide) (Nat.le_of_ble_eq_true rfl) (tX9_back l hp229 h) (fun r230 μ230 hp230 h => ?_)
  refine qa_icmp_eq (tgt := 2510) dL_law_2326 (by decide) (fun c231 => ?_) (fun c231 => ?_)
  · have h := h.1 c231
    refine qa_inc3 dL_law_2510 (qa_io6 _) ?_
    refine qa_goto (tgt := 18) dL_law_2513 (by decide) ?_
    exact ih (i + (6 : Int32)) μ230 hp230 h
  · have h := h.2 c231
    refine qa_iconst (v := 0) dL_law_2329 (by decide) ?_
    exact False.elim h
def wLc_77 (Ln : Nat) (xs : Nat → Int32) (n : Nat) (K : Int32 → qa_M → Prop) (i : Int32) (μ0 : qa_M) : Prop := vp_in (i + (1 : Int32)) Ln ∧ vp_in (i + (2 : Int32)) Ln ∧ vp_in (i + (3 : Int32)) Ln ∧ wX8_row n (xs (i + (1 : Int32)).toNatClampNeg) (xs (i + (2 : Int32)).toNatClampNeg) (xs (i + (3 : Int32)).toNatClampNeg) μ0 (fun r232 μ232 => vp_in (i + (1 : Int32)) Ln ∧ vp_in (i + (2 : Int32)) Ln ∧ vp_in (i + (3 : Int32)) Ln ∧ wX9_row n (xs (i + (1 : Int32)).toNatClampNeg) (xs (i + (2 : Int32)).toNatClampNeg) (xs (i + (3 : Int32)).toNatClampNeg) μ232 (fun r233 μ233 => ((r232 = r233 → K (i + (6 : Int32)) μ233) ∧ (¬ r232 = r233 → False))))
theorem tLc_77 (l : Launch) {nm : String} {Ln : Nat} {xs : Nat → Int32} {n : Nat} {K : Int32 → qa_M → Prop} (ih : ∀ (i : Int32) (μ : qa_M), qa_PP μ.2.2 → K i μ → qa_LG l nm Ln xs 113 17503 18 [some (.ref 6000), some (.ref 1), some (.ref 91), some (.int i)] [] 113 μ) {i : Int32} {μ0 : qa_M} (hp0 : qa_PP μ0.2.2) (h : wLc_77 Ln xs n K i μ0) : qa_LG l nm Ln xs 113 17503 2331 [some (.ref 6000), some (.ref 1), some (.ref 91), some (.int i)] [] 113 μ0 := by
  unfold wLc_77 at h
  refine qa_ald1 dL_law_2331 ?_
  refine qa_ald0 dL_law_2332 ?_
  refine qa_ild3 dL_law_2333 ?_
  refine qa_iconst (v := 1) dL_law_2334 (by decide) ?_
  refine qa_iadd dL_law_2335 ?_
  refine qa_sld dL_law_2336 h.1 ?_
  have h := h.2
  refine qa_ald0 dL_law_2337 ?_
  refine qa_ild3 dL_law_2338 ?_
  refine qa_iconst (v := 2) dL_law_2339 (by decide) ?_
  refine qa_iadd dL_law_2340 ?_
  refine qa_sld dL_law_2341 h.1 ?_
  have h := h.2
  refine qa_ald0 dL_law_2342 ?_
  refine qa_ild3 dL_law_2343 ?_
  refine qa_iconst (v := 3) dL_law_2344 (by decide) ?_
  refine qa_iadd dL_law_2345 ?_
  refine qa_sld dL_law_2346 h.1 ?_
  have h := h.2
  refine qa_V3I dL_law_2347 lm_L_329 sh_1 rfl (by decide) (by decide) (Nat.le_of_ble_eq_true rfl) (tX8_row l hp0 h) (fun r232 μ232 hp232 h => ?_)
  refine qa_ald2 dL_law_2350 ?_
  refine qa_ald0 dL_law_2351 ?_
  refine qa_ild3 dL_law_2352 ?_
  refine qa_iconst (v := 1) dL_law_2353 (by decide) ?_
  refine qa_iadd dL_law_2354 ?_
  refine qa_sld dL_law_2355 h.1 ?_
  have h := h.2
  refine qa_ald0 dL_law_2356 ?_
  refine qa_ild3 dL_law_2357 ?_
  refine qa_iconst (v := 2) dL_law_2358 (by decide) ?_
  refine qa_iadd dL_law_2359 ?_
  refine qa_sld dL_law_2360 h.1 ?_
  have h := h.2
  refine qa_ald0 dL_law_2361 ?_
  refine qa_ild3 dL_law_2362 ?_
  refine qa_iconst (v := 3) dL_law_2363 (by decide) ?_
  refine qa_iadd dL_law_2364 ?_
  refine qa_sld dL_law_2365 h.1 ?_
  have h := h.2
  refine qa_V3I dL_law_2366 lm_L_332 sh_91 rfl (by decide) (by decide) (Nat.le_of_ble_eq_true rfl) (tX9_row l hp232 h) (fun r233 μ233 hp233 h => ?_)
  refine qa_icmp_eq (tgt := 2510) dL_law_2369 (by decide) (fun c234 => ?_) (fun c234 => ?_)
  · have h := h.1 c234
    refine qa_inc3 dL_law_2510 (qa_io6 _) ?_
    refine qa_goto (tgt := 18) dL_law_2513 (by decide) ?_
    exact ih (i + (6 : Int32)) μ233 hp233 h
  · have h := h.2 c234
    refine qa_iconst (v := 0) dL_law_2372 (by decide) ?_
    exact False.elim h
def wLc_78 (Ln : Nat) (xs : Nat → Int32) (n : Nat) (K : Int32 → qa_M → Prop) (i : Int32) (μ0 : qa_M) : Prop := vp_in (i + (1 : Int32)) Ln ∧ vp_in (i + (2 : Int32)) Ln ∧ vp_in (i + (3 : Int32)) Ln ∧ vp_in (i + (4 : Int32)) Ln ∧ wX8_write n (xs (i + (1 : Int32)).toNatClampNeg) (xs (i + (2 : Int32)).toNatClampNeg) (((xs (i + (3 : Int32)).toNatClampNeg).toInt64 <<< ((32 : Int32).toInt64 &&& 63)) ||| ((xs (i + (4 : Int32)).toNatClampNeg).toInt64 &&& (4294967295 : Int64))) μ0 (fun r235 μ235 => vp_in (i + (1 : Int32)) Ln ∧ vp_in (i + (2 : Int32)) Ln ∧ vp_in (i + (3 : Int32)) Ln ∧ vp_in (i + (4 : Int32)) Ln ∧ wX9_write n (xs (i + (1 : Int32)).toNatClampNeg) (xs (i + (2 : Int32)).toNatClampNeg) (((xs (i + (3 : Int32)).toNatClampNeg).toInt64 <<< ((32 : Int32).toInt64 &&& 63)) ||| ((xs (i + (4 : Int32)).toNatClampNeg).toInt64 &&& (4294967295 : Int64))) μ235 (fun r236 μ236 => ((r235 = r236 → K (i + (6 : Int32)) μ236) ∧ (¬ r235 = r236 → False))))
theorem tLc_78 (l : Launch) {nm : String} {Ln : Nat} {xs : Nat → Int32} {n : Nat} {K : Int32 → qa_M → Prop} (ih : ∀ (i : Int32) (μ : qa_M), qa_PP μ.2.2 → K i μ → qa_LG l nm Ln xs 113 17503 18 [some (.ref 6000), some (.ref 1), some (.ref 91), some (.int i)] [] 113 μ) {i : Int32} {μ0 : qa_M} (hp0 : qa_PP μ0.2.2) (h : wLc_78 Ln xs n K i μ0) : qa_LG l nm Ln xs 113 17503 2374 [some (.ref 6000), some (.ref 1), some (.ref 91), some (.int i)] [] 113 μ0 := by
  unfold wLc_78 at h
  refine qa_ald1 dL_law_2374 ?_
  refine qa_ald0 dL_law_2375 ?_
  refine qa_ild3 dL_law_2376 ?_
  refine qa_iconst (v := 1) dL_law_2377 (by decide) ?_
  refine qa_iadd dL_law_2378 ?_
  refine qa_sld dL_law_2379 h.1 ?_
  have h := h.2
  refine qa_ald0 dL_law_2380 ?_
  refine qa_ild3 dL_law_2381 ?_
  refine qa_iconst (v := 2) dL_law_2382 (by decide) ?_
  refine qa_iadd dL_law_2383 ?_
  refine qa_sld dL_law_2384 h.1 ?_
  have h := h.2
  refine qa_ald0 dL_law_2385 ?_
  refine qa_ild3 dL_law_2386 ?_
  refine qa_iconst (v := 3) dL_law_2387 (by decide) ?_
  refine qa_iadd dL_law_2388 ?_
  refine qa_sld dL_law_2389 h.1 ?_
  have h := h.2
  refine qa_i2l dL_law_2390 ?_
  refine qa_bipush (v := 32) dL_law_2391 (by decide) ?_
  refine qa_lshl dL_law_2393 ?_
  refine qa_ald0 dL_law_2394 ?_
  refine qa_ild3 dL_law_2395 ?_
  refine qa_iconst (v := 4) dL_law_2396 (by decide) ?_
  refine qa_iadd dL_law_2397 ?_
  refine qa_sld dL_law_2398 h.1 ?_
  have h := h.2
  refine qa_i2l dL_law_2399 ?_
  refine qa_ldc2 dL_law_2400 lk_L_333 ?_
  refine qa_land dL_law_2403 ?_
  refine qa_lor dL_law_2404 ?_
  refine qa_V3I dL_law_2405 lm_L_335 sh_1 rfl (by decide) (by decide) (Nat.le_of_ble_eq_true rfl) (tX8_write l hp0 h) (fun r235 μ235 hp235 h => ?_)
  refine qa_ald2 dL_law_2408 ?_
  refine qa_ald0 dL_law_2409 ?_
  refine qa_ild3 dL_law_2410 ?_
  refine qa_iconst (v := 1) dL_law_2411 (by decide) ?_
  refine qa_iadd dL_law_2412 ?_
  refine qa_sld dL_law_2413 h.1 ?_
  have h := h.2
  refine qa_ald0 dL_law_2414 ?_
  refine qa_ild3 dL_law_2415 ?_
  refine qa_iconst (v := 2) dL_law_2416 (by decide) ?_
  refine qa_iadd dL_law_2417 ?_
  refine qa_sld dL_law_2418 h.1 ?_
  have h := h.2
  refine qa_ald0 dL_law_2419 ?_
  refine qa_ild3 dL_law_2420 ?_
  refine qa_iconst (v := 3) dL_law_2421 (by decide) ?_
  refine qa_iadd dL_law_2422 ?_
  refine qa_sld dL_law_2423 h.1 ?_
  have h := h.2
  refine qa_i2l dL_law_2424 ?_
  refine qa_bipush (v := 32) dL_law_2425 (by decide) ?_
  refine qa_lshl dL_law_2427 ?_
  refine qa_ald0 dL_law_2428 ?_
  refine qa_ild3 dL_law_2429 ?_
  refine qa_iconst (v := 4) dL_law_2430 (by decide) ?_
  refine qa_iadd dL_law_2431 ?_
  refine qa_sld dL_law_2432 h.1 ?_
  have h := h.2
  refine qa_i2l dL_law_2433 ?_
  refine qa_ldc2 dL_law_2434 lk_L_333 ?_
  refine qa_land dL_law_2437 ?_
  refine qa_lor dL_law_2438 ?_
  refine qa_V3I dL_law_2439 lm_L_339 sh_91 rfl (by decide) (by decide) (Nat.le_of_ble_eq_true rfl) (tX9_write l hp235 h) (fun r236 μ236 hp236 h => ?_)
  refine qa_icmp_eq (tgt := 2510) dL_law_2442 (by decide) (fun c237 => ?_) (fun c237 => ?_)
  · have h := h.1 c237
    refine qa_inc3 dL_law_2510 (qa_io6 _) ?_
    refine qa_goto (tgt := 18) dL_law_2513 (by decide) ?_
    exact ih (i + (6 : Int32)) μ236 hp236 h
  · have h := h.2 c237
    refine qa_iconst (v := 0) dL_law_2445 (by decide) ?_
    exact False.elim h
def wLc_79 (Ln : Nat) (xs : Nat → Int32) (n : Nat) (K : Int32 → qa_M → Prop) (i : Int32) (μ0 : qa_M) : Prop := vp_in (i + (1 : Int32)) Ln ∧ vp_in (i + (2 : Int32)) Ln ∧ vp_in (i + (3 : Int32)) Ln ∧ vp_in (i + (4 : Int32)) Ln ∧ vp_in (i + (5 : Int32)) Ln ∧ wX8_paste n (xs (i + (1 : Int32)).toNatClampNeg) (xs (i + (2 : Int32)).toNatClampNeg) (xs (i + (3 : Int32)).toNatClampNeg) (xs (i + (4 : Int32)).toNatClampNeg) (xs (i + (5 : Int32)).toNatClampNeg) μ0 (fun r238 μ238 => vp_in (i + (1 : Int32)) Ln ∧ vp_in (i + (2 : Int32)) Ln ∧ vp_in (i + (3 : Int32)) Ln ∧ vp_in (i + (4 : Int32)) Ln ∧ vp_in (i + (5 : Int32)) Ln ∧ wX9_paste n (xs (i + (1 : Int32)).toNatClampNeg) (xs (i + (2 : Int32)).toNatClampNeg) (xs (i + (3 : Int32)).toNatClampNeg) (xs (i + (4 : Int32)).toNatClampNeg) (xs (i + (5 : Int32)).toNatClampNeg) μ238 (fun r239 μ239 => ((r238 = r239 → K (i + (6 : Int32)) μ239) ∧ (¬ r238 = r239 → False))))
theorem tLc_79 (l : Launch) {nm : String} {Ln : Nat} {xs : Nat → Int32} {n : Nat} {K : Int32 → qa_M → Prop} (ih : ∀ (i : Int32) (μ : qa_M), qa_PP μ.2.2 → K i μ → qa_LG l nm Ln xs 113 17503 18 [some (.ref 6000), some (.ref 1), some (.ref 91), some (.int i)] [] 113 μ) {i : Int32} {μ0 : qa_M} (hp0 : qa_PP μ0.2.2) (h : wLc_79 Ln xs n K i μ0) : qa_LG l nm Ln xs 113 17503 2447 [some (.ref 6000), some (.ref 1), some (.ref 91), some (.int i)] [] 113 μ0 := by
  unfold wLc_79 at h
  refine qa_ald1 dL_law_2447 ?_
  refine qa_ald0 dL_law_2448 ?_
  refine qa_ild3 dL_law_2449 ?_
  refine qa_iconst (v := 1) dL_law_2450 (by decide) ?_
  refine qa_iadd dL_law_2451 ?_
  refine qa_sld dL_law_2452 h.1 ?_
  have h := h.2
  refine qa_ald0 dL_law_2453 ?_
  refine qa_ild3 dL_law_2454 ?_
  refine qa_iconst (v := 2) dL_law_2455 (by decide) ?_
  refine qa_iadd dL_law_2456 ?_
  refine qa_sld dL_law_2457 h.1 ?_
  have h := h.2
  refine qa_ald0 dL_law_2458 ?_
  refine qa_ild3 dL_law_2459 ?_
  refine qa_iconst (v := 3) dL_law_2460 (by decide) ?_
  refine qa_iadd dL_law_2461 ?_
  refine qa_sld dL_law_2462 h.1 ?_
  have h := h.2
  refine qa_ald0 dL_law_2463 ?_
  refine qa_ild3 dL_law_2464 ?_
  refine qa_iconst (v := 4) dL_law_2465 (by decide) ?_
  refine qa_iadd dL_law_2466 ?_
  refine qa_sld dL_law_2467 h.1 ?_
  have h := h.2
  refine qa_ald0 dL_law_2468 ?_
  refine qa_ild3 dL_law_2469 ?_
  refine qa_iconst (v := 5) dL_law_2470 (by decide) ?_
  refine qa_iadd dL_law_2471 ?_
  refine qa_sld dL_law_2472 h.1 ?_
  have h := h.2
  refine qa_V5I dL_law_2473 lm_L_340 sh_1 rfl (by decide) (by decide) (Nat.le_of_ble_eq_true rfl) (tX8_paste l hp0 h) (fun r238 μ238 hp238 h => ?_)
  refine qa_ald2 dL_law_2476 ?_
  refine qa_ald0 dL_law_2477 ?_
  refine qa_ild3 dL_law_2478 ?_
  refine qa_iconst (v := 1) dL_law_2479 (by decide) ?_
  refine qa_iadd dL_law_2480 ?_
  refine qa_sld dL_law_2481 h.1 ?_
  have h := h.2
  refine qa_ald0 dL_law_2482 ?_
  refine qa_ild3 dL_law_2483 ?_
  refine qa_iconst (v := 2) dL_law_2484 (by decide) ?_
  refine qa_iadd dL_law_2485 ?_
  refine qa_sld dL_law_2486 h.1 ?_
  have h := h.2
  refine qa_ald0 dL_law_2487 ?_
  refine qa_ild3 dL_law_2488 ?_
  refine qa_iconst (v := 3) dL_law_2489 (by decide) ?_
  refine qa_iadd dL_law_2490 ?_
  refine qa_sld dL_law_2491 h.1 ?_
  have h := h.2
  refine qa_ald0 dL_law_2492 ?_
  refine qa_ild3 dL_law_2493 ?_
  refine qa_iconst (v := 4) dL_law_2494 (by decide) ?_
  refine qa_iadd dL_law_2495 ?_
  refine qa_sld dL_law_2496 h.1 ?_
  have h := h.2
  refine qa_ald0 dL_law_2497 ?_
  refine qa_ild3 dL_law_2498 ?_
  refine qa_iconst (v := 5) dL_law_2499 (by decide) ?_
  refine qa_iadd dL_law_2500 ?_
  refine qa_sld dL_law_2501 h.1 ?_
  have h := h.2
  refine qa_V5I dL_law_2502 lm_L_343 sh_91 rfl (by decide) (by decide) (Nat.le_of_ble_eq_true rfl) (tX9_paste l hp238 h) (fun r239 μ239 hp239 h => ?_)
  refine qa_icmp_eq (tgt := 2510) dL_law_2505 (by decide) (fun c240 => ?_) (fun c240 => ?_)
  · have h := h.1 c240
    refine qa_inc3 dL_law_2510 (qa_io6 _) ?_
    refine qa_goto (tgt := 18) dL_law_2513 (by decide) ?_
    exact ih (i + (6 : Int32)) μ239 hp239 h
  · have h := h.2 c240
    refine qa_iconst (v := 0) dL_law_2508 (by decide) ?_
    exact False.elim h
def wL (Ln : Nat) (xs : Nat → Int32) : Nat → Int32 → qa_M → Prop
  | 0, _, _ => False
  | n + 1, i, μ0 => ((((nI Ln) - (6 : Int32)) < i → True) ∧ (¬ ((nI Ln) - (6 : Int32)) < i → vp_in i Ln ∧ ∀ k, k = ((xs i.toNatClampNeg) &&& (127 : Int32)) → ((k = (0 : Int32) → wLc_0 Ln xs n (fun i μ => wL Ln xs n i μ) i μ0) ∧ (k = (1 : Int32) → wLc_1 Ln xs n (fun i μ => wL Ln xs n i μ) i μ0) ∧ (k = (2 : Int32) → wLc_2 Ln xs n (fun i μ => wL Ln xs n i μ) i μ0) ∧ (k = (3 : Int32) → wLc_3 Ln xs n (fun i μ => wL Ln xs n i μ) i μ0) ∧ (k = (4 : Int32) → wLc_4 Ln xs n (fun i μ => wL Ln xs n i μ) i μ0) ∧ (k = (5 : Int32) → wLc_5 Ln xs n (fun i μ => wL Ln xs n i μ) i μ0) ∧ (k = (6 : Int32) → wLc_6 Ln xs n (fun i μ => wL Ln xs n i μ) i μ0) ∧ (k = (7 : Int32) → wLc_7 Ln xs n (fun i μ => wL Ln xs n i μ) i μ0) ∧ (k = (8 : Int32) → wLc_8 Ln xs n (fun i μ => wL Ln xs n i μ) i μ0) ∧ (k = (9 : Int32) → wLc_9 Ln xs n (fun i μ => wL Ln xs n i μ) i μ0) ∧ (k = (10 : Int32) → wLc_10 Ln xs n (fun i μ => wL Ln xs n i μ) i μ0) ∧ (k = (11 : Int32) → wLc_11 Ln xs n (fun i μ => wL Ln xs n i μ) i μ0) ∧ (k = (12 : Int32) → wLc_12 Ln xs n (fun i μ => wL Ln xs n i μ) i μ0) ∧ (k = (13 : Int32) → wLc_13 Ln xs n (fun i μ => wL Ln xs n i μ) i μ0) ∧ (k = (14 : Int32) → wLc_14 Ln xs n (fun i μ => wL Ln xs n i μ) i μ0) ∧ (k = (15 : Int32) → wLc_15 Ln xs n (fun i μ => wL Ln xs n i μ) i μ0) ∧ (k = (16 : Int32) → wLc_16 Ln xs n (fun i μ => wL Ln xs n i μ) i μ0) ∧ (k = (17 : Int32) → wLc_17 Ln xs n (fun i μ => wL Ln xs n i μ) i μ0) ∧ (k = (18 : Int32) → wLc_18 Ln xs n (fun i μ => wL Ln xs n i μ) i μ0) ∧ (k = (19 : Int32) → wLc_19 Ln xs n (fun i μ => wL Ln xs n i μ) i μ0) ∧ (k = (20 : Int32) → wLc_20 Ln xs n (fun i μ => wL Ln xs n i μ) i μ0) ∧ (k = (21 : Int32) → wLc_21 Ln xs n (fun i μ => wL Ln xs n i μ) i μ0) ∧ (k = (22 : Int32) → wLc_22 Ln xs n (fun i μ => wL Ln xs n i μ) i μ0) ∧ (k = (23 : Int32) → wLc_23 Ln xs n (fun i μ => wL Ln xs n i μ) i μ0) ∧ (k = (24 : Int32) → wLc_24 Ln xs n (fun i μ => wL Ln xs n i μ) i μ0) ∧ (k = (25 : Int32) → wLc_25 Ln xs n (fun i μ => wL Ln xs n i μ) i μ0) ∧ (k = (26 : Int32) → wLc_26 Ln xs n (fun i μ => wL Ln xs n i μ) i μ0) ∧ (k = (27 : Int32) → wLc_27 Ln xs n (fun i μ => wL Ln xs n i μ) i μ0) ∧ (k = (28 : Int32) → wLc_28 Ln xs n (fun i μ => wL Ln xs n i μ) i μ0) ∧ (k = (29 : Int32) → wLc_29 Ln xs n (fun i μ => wL Ln xs n i μ) i μ0) ∧ (k = (30 : Int32) → wLc_30 Ln xs n (fun i μ => wL Ln xs n i μ) i μ0) ∧ (k = (31 : Int32) → wLc_31 Ln xs n (fun i μ => wL Ln xs n i μ) i μ0) ∧ (k = (32 : Int32) → wLc_32 Ln xs n (fun i μ => wL Ln xs n i μ) i μ0) ∧ (k = (33 : Int32) → wLc_33 Ln xs n (fun i μ => wL Ln xs n i μ) i μ0) ∧ (k = (34 : Int32) → wLc_34 Ln xs n (fun i μ => wL Ln xs n i μ) i μ0) ∧ (k = (35 : Int32) → wLc_35 Ln xs n (fun i μ => wL Ln xs n i μ) i μ0) ∧ (k = (36 : Int32) → wLc_36 Ln xs n (fun i μ => wL Ln xs n i μ) i μ0) ∧ (k = (37 : Int32) → wLc_37 Ln xs n (fun i μ => wL Ln xs n i μ) i μ0) ∧ (k = (38 : Int32) → wLc_38 Ln xs n (fun i μ => wL Ln xs n i μ) i μ0) ∧ (k = (39 : Int32) → wLc_39 Ln xs n (fun i μ => wL Ln xs n i μ) i μ0) ∧ (k = (40 : Int32) → wLc_40 Ln xs n (fun i μ => wL Ln xs n i μ) i μ0) ∧ (k = (41 : Int32) → wLc_41 Ln xs n (fun i μ => wL Ln xs n i μ) i μ0) ∧ (k = (42 : Int32) → wLc_42 Ln xs n (fun i μ => wL Ln xs n i μ) i μ0) ∧ (k = (43 : Int32) → wLc_43 Ln xs n (fun i μ => wL Ln xs n i μ) i μ0) ∧ (k = (44 : Int32) → wLc_44 Ln xs n (fun i μ => wL Ln xs n i μ) i μ0) ∧ (k = (45 : Int32) → wLc_45 Ln xs n (fun i μ => wL Ln xs n i μ) i μ0) ∧ (k = (46 : Int32) → wLc_46 Ln xs n (fun i μ => wL Ln xs n i μ) i μ0) ∧ (k = (47 : Int32) → wLc_47 Ln xs n (fun i μ => wL Ln xs n i μ) i μ0) ∧ (k = (48 : Int32) → wLc_48 Ln xs n (fun i μ => wL Ln xs n i μ) i μ0) ∧ (k = (49 : Int32) → wLc_49 Ln xs n (fun i μ => wL Ln xs n i μ) i μ0) ∧ (k = (50 : Int32) → wLc_50 Ln xs n (fun i μ => wL Ln xs n i μ) i μ0) ∧ (k = (51 : Int32) → wLc_51 Ln xs n (fun i μ => wL Ln xs n i μ) i μ0) ∧ (k = (52 : Int32) → wLc_52 Ln xs n (fun i μ => wL Ln xs n i μ) i μ0) ∧ (k = (53 : Int32) → wLc_53 Ln xs n (fun i μ => wL Ln xs n i μ) i μ0) ∧ (k = (54 : Int32) → wLc_54 Ln xs n (fun i μ => wL Ln xs n i μ) i μ0) ∧ (k = (55 : Int32) → wLc_55 Ln xs n (fun i μ => wL Ln xs n i μ) i μ0) ∧ (k = (56 : Int32) → wLc_56 Ln xs n (fun i μ => wL Ln xs n i μ) i μ0) ∧ (k = (57 : Int32) → wLc_57 Ln xs n (fun i μ => wL Ln xs n i μ) i μ0) ∧ (k = (58 : Int32) → wLc_58 Ln xs n (fun i μ => wL Ln xs n i μ) i μ0) ∧ (k = (59 : Int32) → wLc_59 Ln xs n (fun i μ => wL Ln xs n i μ) i μ0) ∧ (k = (60 : Int32) → wLc_60 Ln xs n (fun i μ => wL Ln xs n i μ) i μ0) ∧ (k = (61 : Int32) → wLc_61 Ln xs n (fun i μ => wL Ln xs n i μ) i μ0) ∧ (k = (62 : Int32) → wLc_62 Ln xs n (fun i μ => wL Ln xs n i μ) i μ0) ∧ (k = (63 : Int32) → wLc_63 Ln xs n (fun i μ => wL Ln xs n i μ) i μ0) ∧ (k = (64 : Int32) → wLc_64 Ln xs n (fun i μ => wL Ln xs n i μ) i μ0) ∧ (k = (65 : Int32) → wLc_65 Ln xs n (fun i μ => wL Ln xs n i μ) i μ0) ∧ (k = (66 : Int32) → wLc_66 Ln xs n (fun i μ => wL Ln xs n i μ) i μ0) ∧ (k = (67 : Int32) → wLc_67 Ln xs n (fun i μ => wL Ln xs n i μ) i μ0) ∧ (k = (68 : Int32) → wLc_68 Ln xs n (fun i μ => wL Ln xs n i μ) i μ0) ∧ (k = (69 : Int32) → wLc_69 Ln xs n (fun i μ => wL Ln xs n i μ) i μ0) ∧ (k = (70 : Int32) → wLc_70 Ln xs n (fun i μ => wL Ln xs n i μ) i μ0) ∧ (k = (71 : Int32) → wLc_71 Ln xs n (fun i μ => wL Ln xs n i μ) i μ0) ∧ (k = (72 : Int32) → wLc_72 Ln xs n (fun i μ => wL Ln xs n i μ) i μ0) ∧ (k = (73 : Int32) → wLc_73 Ln xs n (fun i μ => wL Ln xs n i μ) i μ0) ∧ (k = (74 : Int32) → wLc_74 Ln xs n (fun i μ => wL Ln xs n i μ) i μ0) ∧ (k = (75 : Int32) → wLc_75 Ln xs n (fun i μ => wL Ln xs n i μ) i μ0) ∧ (k = (76 : Int32) → wLc_76 Ln xs n (fun i μ => wL Ln xs n i μ) i μ0) ∧ (k = (77 : Int32) → wLc_77 Ln xs n (fun i μ => wL Ln xs n i μ) i μ0) ∧ (k = (78 : Int32) → wLc_78 Ln xs n (fun i μ => wL Ln xs n i μ) i μ0) ∧ (k = (79 : Int32) → wLc_79 Ln xs n (fun i μ => wL Ln xs n i μ) i μ0) ∧ (wL Ln xs n (i + (6 : Int32)) μ0))))
theorem tL (l : Launch) {nm : String} {Ln : Nat} {xs : Nat → Int32} : ∀ (n : Nat) (i : Int32) (μ0 : qa_M), qa_PP μ0.2.2 → wL Ln xs n i μ0 → qa_LG l nm Ln xs 113 17503 18 [some (.ref 6000), some (.ref 1), some (.ref 91), some (.int i)] [] 113 μ0 := by
  intro n
  induction n with
  | zero =>
    intro i μ0 hp0 h
    rw [wL] at h
    exact h.elim
  | succ n ih =>
    intro i μ0 hp0 h
    rw [wL] at h
    refine qa_ild3 dL_law_18 ?_
    refine qa_ald0 dL_law_19 ?_
    refine qa_slen dL_law_20 ?_
    refine qa_bipush (v := 6) dL_law_21 (by decide) ?_
    refine qa_isub dL_law_23 ?_
    refine qa_icmp_gt (tgt := 2516) dL_law_24 (by decide) (fun c0 => ?_) (fun c0 => ?_)
    · have h := h.1 c0
      refine qa_iconst (v := 1) dL_law_2516 (by decide) ?_
      exact qa_lret1 dL_law_2517 (by decide)
    · have h := h.2 c0
      refine qa_ald0 dL_law_27 ?_
      refine qa_ild3 dL_law_28 ?_
      refine qa_sld dL_law_29 h.1 ?_
      have h := h.2
      refine qa_bipush (v := 127) dL_law_30 (by decide) ?_
      refine qa_iand dL_law_32 ?_
      refine qa_nmI (fun k ek => ?_)
      have h := h k ek
      by_cases e0 : k = (0 : Int32)
      · refine qa_tabIn (tgt := 368) dL_law_33 (by rw [e0]; decide) (by rw [e0]; decide) (by rw [e0]; rfl) (by decide) ?_
        exact tLc_0 l ih hp0 (h.1 e0)
      by_cases e1 : k = (1 : Int32)
      · refine qa_tabIn (tgt := 431) dL_law_33 (by rw [e1]; decide) (by rw [e1]; decide) (by rw [e1]; rfl) (by decide) ?_
        exact tLc_1 l ih hp0 (h.2.1 e1)
      by_cases e2 : k = (2 : Int32)
      · refine qa_tabIn (tgt := 454) dL_law_33 (by rw [e2]; decide) (by rw [e2]; decide) (by rw [e2]; rfl) (by decide) ?_
        exact tLc_2 l ih hp0 (h.2.2.1 e2)
      by_cases e3 : k = (3 : Int32)
      · refine qa_tabIn (tgt := 467) dL_law_33 (by rw [e3]; decide) (by rw [e3]; decide) (by rw [e3]; rfl) (by decide) ?_
        exact tLc_3 l ih hp0 (h.2.2.2.1 e3)
      by_cases e4 : k = (4 : Int32)
      · refine qa_tabIn (tgt := 490) dL_law_33 (by rw [e4]; decide) (by rw [e4]; decide) (by rw [e4]; rfl) (by decide) ?_
        exact tLc_4 l ih hp0 (h.2.2.2.2.1 e4)
      by_cases e5 : k = (5 : Int32)
      · refine qa_tabIn (tgt := 523) dL_law_33 (by rw [e5]; decide) (by rw [e5]; decide) (by rw [e5]; rfl) (by decide) ?_
        exact tLc_5 l ih hp0 (h.2.2.2.2.2.1 e5)
      by_cases e6 : k = (6 : Int32)
      · refine qa_tabIn (tgt := 556) dL_law_33 (by rw [e6]; decide) (by rw [e6]; decide) (by rw [e6]; rfl) (by decide) ?_
        exact tLc_6 l ih hp0 (h.2.2.2.2.2.2.1 e6)
      by_cases e7 : k = (7 : Int32)
      · refine qa_tabIn (tgt := 589) dL_law_33 (by rw [e7]; decide) (by rw [e7]; decide) (by rw [e7]; rfl) (by decide) ?_
        exact tLc_7 l ih hp0 (h.2.2.2.2.2.2.2.1 e7)
      by_cases e8 : k = (8 : Int32)
      · refine qa_tabIn (tgt := 602) dL_law_33 (by rw [e8]; decide) (by rw [e8]; decide) (by rw [e8]; rfl) (by decide) ?_
        exact tLc_8 l ih hp0 (h.2.2.2.2.2.2.2.2.1 e8)
      by_cases e9 : k = (9 : Int32)
      · refine qa_tabIn (tgt := 635) dL_law_33 (by rw [e9]; decide) (by rw [e9]; decide) (by rw [e9]; rfl) (by decide) ?_
        exact tLc_9 l ih hp0 (h.2.2.2.2.2.2.2.2.2.1 e9)
      by_cases e10 : k = (10 : Int32)
      · refine qa_tabIn (tgt := 668) dL_law_33 (by rw [e10]; decide) (by rw [e10]; decide) (by rw [e10]; rfl) (by decide) ?_
        exact tLc_10 l ih hp0 (h.2.2.2.2.2.2.2.2.2.2.1 e10)
      by_cases e11 : k = (11 : Int32)
      · refine qa_tabIn (tgt := 701) dL_law_33 (by rw [e11]; decide) (by rw [e11]; decide) (by rw [e11]; rfl) (by decide) ?_
        exact tLc_11 l ih hp0 (h.2.2.2.2.2.2.2.2.2.2.2.1 e11)
      by_cases e12 : k = (12 : Int32)
      · refine qa_tabIn (tgt := 724) dL_law_33 (by rw [e12]; decide) (by rw [e12]; decide) (by rw [e12]; rfl) (by decide) ?_
        exact tLc_12 l ih hp0 (h.2.2.2.2.2.2.2.2.2.2.2.2.1 e12)
      by_cases e13 : k = (13 : Int32)
      · refine qa_tabIn (tgt := 747) dL_law_33 (by rw [e13]; decide) (by rw [e13]; decide) (by rw [e13]; rfl) (by decide) ?_
        exact tLc_13 l ih hp0 (h.2.2.2.2.2.2.2.2.2.2.2.2.2.1 e13)
      by_cases e14 : k = (14 : Int32)
      · refine qa_tabIn (tgt := 770) dL_law_33 (by rw [e14]; decide) (by rw [e14]; decide) (by rw [e14]; rfl) (by decide) ?_
        exact tLc_14 l ih hp0 (h.2.2.2.2.2.2.2.2.2.2.2.2.2.2.1 e14)
      by_cases e15 : k = (15 : Int32)
      · refine qa_tabIn (tgt := 783) dL_law_33 (by rw [e15]; decide) (by rw [e15]; decide) (by rw [e15]; rfl) (by decide) ?_
        exact tLc_15 l ih hp0 (h.2.2.2.2.2.2.2.2.2.2.2.2.2.2.2.1 e15)
      by_cases e16 : k = (16 : Int32)
      · refine qa_tabIn (tgt := 796) dL_law_33 (by rw [e16]; decide) (by rw [e16]; decide) (by rw [e16]; rfl) (by decide) ?_
        exact tLc_16 l ih hp0 (h.2.2.2.2.2.2.2.2.2.2.2.2.2.2.2.2.1 e16)
      by_cases e17 : k = (17 : Int32)
      · refine qa_tabIn (tgt := 819) dL_law_33 (by rw [e17]; decide) (by rw [e17]; decide) (by rw [e17]; rfl) (by decide) ?_
        exact tLc_17 l ih hp0 (h.2.2.2.2.2.2.2.2.2.2.2.2.2.2.2.2.2.1 e17)
      by_cases e18 : k = (18 : Int32)
      · refine qa_tabIn (tgt := 842) dL_law_33 (by rw [e18]; decide) (by rw [e18]; decide) (by rw [e18]; rfl) (by decide) ?_
        exact tLc_18 l ih hp0 (h.2.2.2.2.2.2.2.2.2.2.2.2.2.2.2.2.2.2.1 e18)
      by_cases e19 : k = (19 : Int32)
      · refine qa_tabIn (tgt := 875) dL_law_33 (by rw [e19]; decide) (by rw [e19]; decide) (by rw [e19]; rfl) (by decide) ?_
        exact tLc_19 l ih hp0 (h.2.2.2.2.2.2.2.2.2.2.2.2.2.2.2.2.2.2.2.1 e19)
      by_cases e20 : k = (20 : Int32)
      · refine qa_tabIn (tgt := 888) dL_law_33 (by rw [e20]; decide) (by rw [e20]; decide) (by rw [e20]; rfl) (by decide) ?_
        exact tLc_20 l ih hp0 (h.2.2.2.2.2.2.2.2.2.2.2.2.2.2.2.2.2.2.2.2.1 e20)
      by_cases e21 : k = (21 : Int32)
      · refine qa_tabIn (tgt := 901) dL_law_33 (by rw [e21]; decide) (by rw [e21]; decide) (by rw [e21]; rfl) (by decide) ?_
        exact tLc_21 l ih hp0 (h.2.2.2.2.2.2.2.2.2.2.2.2.2.2.2.2.2.2.2.2.2.1 e21)
      by_cases e22 : k = (22 : Int32)
      · refine qa_tabIn (tgt := 914) dL_law_33 (by rw [e22]; decide) (by rw [e22]; decide) (by rw [e22]; rfl) (by decide) ?_
        exact tLc_22 l ih hp0 (h.2.2.2.2.2.2.2.2.2.2.2.2.2.2.2.2.2.2.2.2.2.2.1 e22)
      by_cases e23 : k = (23 : Int32)
      · refine qa_tabIn (tgt := 927) dL_law_33 (by rw [e23]; decide) (by rw [e23]; decide) (by rw [e23]; rfl) (by decide) ?_
        exact tLc_23 l ih hp0 (h.2.2.2.2.2.2.2.2.2.2.2.2.2.2.2.2.2.2.2.2.2.2.2.1 e23)
      by_cases e24 : k = (24 : Int32)
      · refine qa_tabIn (tgt := 950) dL_law_33 (by rw [e24]; decide) (by rw [e24]; decide) (by rw [e24]; rfl) (by decide) ?_
        exact tLc_24 l ih hp0 (h.2.2.2.2.2.2.2.2.2.2.2.2.2.2.2.2.2.2.2.2.2.2.2.2.1 e24)
      by_cases e25 : k = (25 : Int32)
      · refine qa_tabIn (tgt := 983) dL_law_33 (by rw [e25]; decide) (by rw [e25]; decide) (by rw [e25]; rfl) (by decide) ?_
        exact tLc_25 l ih hp0 (h.2.2.2.2.2.2.2.2.2.2.2.2.2.2.2.2.2.2.2.2.2.2.2.2.2.1 e25)
      by_cases e26 : k = (26 : Int32)
      · refine qa_tabIn (tgt := 1026) dL_law_33 (by rw [e26]; decide) (by rw [e26]; decide) (by rw [e26]; rfl) (by decide) ?_
        exact tLc_26 l ih hp0 (h.2.2.2.2.2.2.2.2.2.2.2.2.2.2.2.2.2.2.2.2.2.2.2.2.2.2.1 e26)
      by_cases e27 : k = (27 : Int32)
      · refine qa_tabIn (tgt := 1059) dL_law_33 (by rw [e27]; decide) (by rw [e27]; decide) (by rw [e27]; rfl) (by decide) ?_
        exact tLc_27 l ih hp0 (h.2.2.2.2.2.2.2.2.2.2.2.2.2.2.2.2.2.2.2.2.2.2.2.2.2.2.2.1 e27)
      by_cases e28 : k = (28 : Int32)
      · refine qa_tabIn (tgt := 1082) dL_law_33 (by rw [e28]; decide) (by rw [e28]; decide) (by rw [e28]; rfl) (by decide) ?_
        exact tLc_28 l ih hp0 (h.2.2.2.2.2.2.2.2.2.2.2.2.2.2.2.2.2.2.2.2.2.2.2.2.2.2.2.2.1 e28)
      by_cases e29 : k = (29 : Int32)
      · refine qa_tabIn (tgt := 1105) dL_law_33 (by rw [e29]; decide) (by rw [e29]; decide) (by rw [e29]; rfl) (by decide) ?_
        exact tLc_29 l ih hp0 (h.2.2.2.2.2.2.2.2.2.2.2.2.2.2.2.2.2.2.2.2.2.2.2.2.2.2.2.2.2.1 e29)
      by_cases e30 : k = (30 : Int32)
      · refine qa_tabIn (tgt := 1118) dL_law_33 (by rw [e30]; decide) (by rw [e30]; decide) (by rw [e30]; rfl) (by decide) ?_
        exact tLc_30 l ih hp0 (h.2.2.2.2.2.2.2.2.2.2.2.2.2.2.2.2.2.2.2.2.2.2.2.2.2.2.2.2.2.2.1 e30)
      by_cases e31 : k = (31 : Int32)
      · refine qa_tabIn (tgt := 1151) dL_law_33 (by rw [e31]; decide) (by rw [e31]; decide) (by rw [e31]; rfl) (by decide) ?_
        exact tLc_31 l ih hp0 (h.2.2.2.2.2.2.2.2.2.2.2.2.2.2.2.2.2.2.2.2.2.2.2.2.2.2.2.2.2.2.2.1 e31)
      by_cases e32 : k = (32 : Int32)
      · refine qa_tabIn (tgt := 1174) dL_law_33 (by rw [e32]; decide) (by rw [e32]; decide) (by rw [e32]; rfl) (by decide) ?_
        exact tLc_32 l ih hp0 (h.2.2.2.2.2.2.2.2.2.2.2.2.2.2.2.2.2.2.2.2.2.2.2.2.2.2.2.2.2.2.2.2.1 e32)
      by_cases e33 : k = (33 : Int32)
      · refine qa_tabIn (tgt := 1197) dL_law_33 (by rw [e33]; decide) (by rw [e33]; decide) (by rw [e33]; rfl) (by decide) ?_
        exact tLc_33 l ih hp0 (h.2.2.2.2.2.2.2.2.2.2.2.2.2.2.2.2.2.2.2.2.2.2.2.2.2.2.2.2.2.2.2.2.2.1 e33)
      by_cases e34 : k = (34 : Int32)
      · refine qa_tabIn (tgt := 1230) dL_law_33 (by rw [e34]; decide) (by rw [e34]; decide) (by rw [e34]; rfl) (by decide) ?_
        exact tLc_34 l ih hp0 (h.2.2.2.2.2.2.2.2.2.2.2.2.2.2.2.2.2.2.2.2.2.2.2.2.2.2.2.2.2.2.2.2.2.2.1 e34)
      by_cases e35 : k = (35 : Int32)
      · refine qa_tabIn (tgt := 1263) dL_law_33 (by rw [e35]; decide) (by rw [e35]; decide) (by rw [e35]; rfl) (by decide) ?_
        exact tLc_35 l ih hp0 (h.2.2.2.2.2.2.2.2.2.2.2.2.2.2.2.2.2.2.2.2.2.2.2.2.2.2.2.2.2.2.2.2.2.2.2.1 e35)
      by_cases e36 : k = (36 : Int32)
      · refine qa_tabIn (tgt := 1286) dL_law_33 (by rw [e36]; decide) (by rw [e36]; decide) (by rw [e36]; rfl) (by decide) ?_
        exact tLc_36 l ih hp0 (h.2.2.2.2.2.2.2.2.2.2.2.2.2.2.2.2.2.2.2.2.2.2.2.2.2.2.2.2.2.2.2.2.2.2.2.2.1 e36)
      by_cases e37 : k = (37 : Int32)
      · refine qa_tabIn (tgt := 1309) dL_law_33 (by rw [e37]; decide) (by rw [e37]; decide) (by rw [e37]; rfl) (by decide) ?_
        exact tLc_37 l ih hp0 (h.2.2.2.2.2.2.2.2.2.2.2.2.2.2.2.2.2.2.2.2.2.2.2.2.2.2.2.2.2.2.2.2.2.2.2.2.2.1 e37)
      by_cases e38 : k = (38 : Int32)
      · refine qa_tabIn (tgt := 1332) dL_law_33 (by rw [e38]; decide) (by rw [e38]; decide) (by rw [e38]; rfl) (by decide) ?_
        exact tLc_38 l ih hp0 (h.2.2.2.2.2.2.2.2.2.2.2.2.2.2.2.2.2.2.2.2.2.2.2.2.2.2.2.2.2.2.2.2.2.2.2.2.2.2.1 e38)
      by_cases e39 : k = (39 : Int32)
      · refine qa_tabIn (tgt := 1355) dL_law_33 (by rw [e39]; decide) (by rw [e39]; decide) (by rw [e39]; rfl) (by decide) ?_
        exact tLc_39 l ih hp0 (h.2.2.2.2.2.2.2.2.2.2.2.2.2.2.2.2.2.2.2.2.2.2.2.2.2.2.2.2.2.2.2.2.2.2.2.2.2.2.2.1 e39)
      by_cases e40 : k = (40 : Int32)
      · refine qa_tabIn (tgt := 1378) dL_law_33 (by rw [e40]; decide) (by rw [e40]; decide) (by rw [e40]; rfl) (by decide) ?_
        exact tLc_40 l ih hp0 (h.2.2.2.2.2.2.2.2.2.2.2.2.2.2.2.2.2.2.2.2.2.2.2.2.2.2.2.2.2.2.2.2.2.2.2.2.2.2.2.2.1 e40)
      by_cases e41 : k = (41 : Int32)
      · refine qa_tabIn (tgt := 1391) dL_law_33 (by rw [e41]; decide) (by rw [e41]; decide) (by rw [e41]; rfl) (by decide) ?_
        exact tLc_41 l ih hp0 (h.2.2.2.2.2.2.2.2.2.2.2.2.2.2.2.2.2.2.2.2.2.2.2.2.2.2.2.2.2.2.2.2.2.2.2.2.2.2.2.2.2.1 e41)
      by_cases e42 : k = (42 : Int32)
      · refine qa_tabIn (tgt := 1414) dL_law_33 (by rw [e42]; decide) (by rw [e42]; decide) (by rw [e42]; rfl) (by decide) ?_
        exact tLc_42 l ih hp0 (h.2.2.2.2.2.2.2.2.2.2.2.2.2.2.2.2.2.2.2.2.2.2.2.2.2.2.2.2.2.2.2.2.2.2.2.2.2.2.2.2.2.2.1 e42)
      by_cases e43 : k = (43 : Int32)
      · refine qa_tabIn (tgt := 1437) dL_law_33 (by rw [e43]; decide) (by rw [e43]; decide) (by rw [e43]; rfl) (by decide) ?_
        exact tLc_43 l ih hp0 (h.2.2.2.2.2.2.2.2.2.2.2.2.2.2.2.2.2.2.2.2.2.2.2.2.2.2.2.2.2.2.2.2.2.2.2.2.2.2.2.2.2.2.2.1 e43)
      by_cases e44 : k = (44 : Int32)
      · refine qa_tabIn (tgt := 1450) dL_law_33 (by rw [e44]; decide) (by rw [e44]; decide) (by rw [e44]; rfl) (by decide) ?_
        exact tLc_44 l ih hp0 (h.2.2.2.2.2.2.2.2.2.2.2.2.2.2.2.2.2.2.2.2.2.2.2.2.2.2.2.2.2.2.2.2.2.2.2.2.2.2.2.2.2.2.2.2.1 e44)
      by_cases e45 : k = (45 : Int32)
      · refine qa_tabIn (tgt := 1473) dL_law_33 (by rw [e45]; decide) (by rw [e45]; decide) (by rw [e45]; rfl) (by decide) ?_
        exact tLc_45 l ih hp0 (h.2.2.2.2.2.2.2.2.2.2.2.2.2.2.2.2.2.2.2.2.2.2.2.2.2.2.2.2.2.2.2.2.2.2.2.2.2.2.2.2.2.2.2.2.2.1 e45)
      by_cases e46 : k = (46 : Int32)
      · refine qa_tabIn (tgt := 1506) dL_law_33 (by rw [e46]; decide) (by rw [e46]; decide) (by rw [e46]; rfl) (by decide) ?_
        exact tLc_46 l ih hp0 (h.2.2.2.2.2.2.2.2.2.2.2.2.2.2.2.2.2.2.2.2.2.2.2.2.2.2.2.2.2.2.2.2.2.2.2.2.2.2.2.2.2.2.2.2.2.2.1 e46)
      by_cases e47 : k = (47 : Int32)
      · refine qa_tabIn (tgt := 1539) dL_law_33 (by rw [e47]; decide) (by rw [e47]; decide) (by rw [e47]; rfl) (by decide) ?_
        exact tLc_47 l ih hp0 (h.2.2.2.2.2.2.2.2.2.2.2.2.2.2.2.2.2.2.2.2.2.2.2.2.2.2.2.2.2.2.2.2.2.2.2.2.2.2.2.2.2.2.2.2.2.2.2.1 e47)
      by_cases e48 : k = (48 : Int32)
      · refine qa_tabIn (tgt := 1562) dL_law_33 (by rw [e48]; decide) (by rw [e48]; decide) (by rw [e48]; rfl) (by decide) ?_
        exact tLc_48 l ih hp0 (h.2.2.2.2.2.2.2.2.2.2.2.2.2.2.2.2.2.2.2.2.2.2.2.2.2.2.2.2.2.2.2.2.2.2.2.2.2.2.2.2.2.2.2.2.2.2.2.2.1 e48)
      by_cases e49 : k = (49 : Int32)
      · refine qa_tabIn (tgt := 1575) dL_law_33 (by rw [e49]; decide) (by rw [e49]; decide) (by rw [e49]; rfl) (by decide) ?_
        exact tLc_49 l ih hp0 (h.2.2.2.2.2.2.2.2.2.2.2.2.2.2.2.2.2.2.2.2.2.2.2.2.2.2.2.2.2.2.2.2.2.2.2.2.2.2.2.2.2.2.2.2.2.2.2.2.2.1 e49)
      by_cases e50 : k = (50 : Int32)
      · refine qa_tabIn (tgt := 1588) dL_law_33 (by rw [e50]; decide) (by rw [e50]; decide) (by rw [e50]; rfl) (by decide) ?_
        exact tLc_50 l ih hp0 (h.2.2.2.2.2.2.2.2.2.2.2.2.2.2.2.2.2.2.2.2.2.2.2.2.2.2.2.2.2.2.2.2.2.2.2.2.2.2.2.2.2.2.2.2.2.2.2.2.2.2.1 e50)
      by_cases e51 : k = (51 : Int32)
      · refine qa_tabIn (tgt := 1611) dL_law_33 (by rw [e51]; decide) (by rw [e51]; decide) (by rw [e51]; rfl) (by decide) ?_
        exact tLc_51 l ih hp0 (h.2.2.2.2.2.2.2.2.2.2.2.2.2.2.2.2.2.2.2.2.2.2.2.2.2.2.2.2.2.2.2.2.2.2.2.2.2.2.2.2.2.2.2.2.2.2.2.2.2.2.2.1 e51)
      by_cases e52 : k = (52 : Int32)
      · refine qa_tabIn (tgt := 1624) dL_law_33 (by rw [e52]; decide) (by rw [e52]; decide) (by rw [e52]; rfl) (by decide) ?_
        exact tLc_52 l ih hp0 (h.2.2.2.2.2.2.2.2.2.2.2.2.2.2.2.2.2.2.2.2.2.2.2.2.2.2.2.2.2.2.2.2.2.2.2.2.2.2.2.2.2.2.2.2.2.2.2.2.2.2.2.2.1 e52)
      by_cases e53 : k = (53 : Int32)
      · refine qa_tabIn (tgt := 1637) dL_law_33 (by rw [e53]; decide) (by rw [e53]; decide) (by rw [e53]; rfl) (by decide) ?_
        exact tLc_53 l ih hp0 (h.2.2.2.2.2.2.2.2.2.2.2.2.2.2.2.2.2.2.2.2.2.2.2.2.2.2.2.2.2.2.2.2.2.2.2.2.2.2.2.2.2.2.2.2.2.2.2.2.2.2.2.2.2.1 e53)
      by_cases e54 : k = (54 : Int32)
      · refine qa_tabIn (tgt := 1650) dL_law_33 (by rw [e54]; decide) (by rw [e54]; decide) (by rw [e54]; rfl) (by decide) ?_
        exact tLc_54 l ih hp0 (h.2.2.2.2.2.2.2.2.2.2.2.2.2.2.2.2.2.2.2.2.2.2.2.2.2.2.2.2.2.2.2.2.2.2.2.2.2.2.2.2.2.2.2.2.2.2.2.2.2.2.2.2.2.2.1 e54)
      by_cases e55 : k = (55 : Int32)
      · refine qa_tabIn (tgt := 1673) dL_law_33 (by rw [e55]; decide) (by rw [e55]; decide) (by rw [e55]; rfl) (by decide) ?_
        exact tLc_55 l ih hp0 (h.2.2.2.2.2.2.2.2.2.2.2.2.2.2.2.2.2.2.2.2.2.2.2.2.2.2.2.2.2.2.2.2.2.2.2.2.2.2.2.2.2.2.2.2.2.2.2.2.2.2.2.2.2.2.2.1 e55)
      by_cases e56 : k = (56 : Int32)
      · refine qa_tabIn (tgt := 1696) dL_law_33 (by rw [e56]; decide) (by rw [e56]; decide) (by rw [e56]; rfl) (by decide) ?_
        exact tLc_56 l ih hp0 (h.2.2.2.2.2.2.2.2.2.2.2.2.2.2.2.2.2.2.2.2.2.2.2.2.2.2.2.2.2.2.2.2.2.2.2.2.2.2.2.2.2.2.2.2.2.2.2.2.2.2.2.2.2.2.2.2.1 e56)
      by_cases e57 : k = (57 : Int32)
      · refine qa_tabIn (tgt := 1719) dL_law_33 (by rw [e57]; decide) (by rw [e57]; decide) (by rw [e57]; rfl) (by decide) ?_
        exact tLc_57 l ih hp0 (h.2.2.2.2.2.2.2.2.2.2.2.2.2.2.2.2.2.2.2.2.2.2.2.2.2.2.2.2.2.2.2.2.2.2.2.2.2.2.2.2.2.2.2.2.2.2.2.2.2.2.2.2.2.2.2.2.2.1 e57)
      by_cases e58 : k = (58 : Int32)
      · refine qa_tabIn (tgt := 1742) dL_law_33 (by rw [e58]; decide) (by rw [e58]; decide) (by rw [e58]; rfl) (by decide) ?_
        exact tLc_58 l ih hp0 (h.2.2.2.2.2.2.2.2.2.2.2.2.2.2.2.2.2.2.2.2.2.2.2.2.2.2.2.2.2.2.2.2.2.2.2.2.2.2.2.2.2.2.2.2.2.2.2.2.2.2.2.2.2.2.2.2.2.2.1 e58)
      by_cases e59 : k = (59 : Int32)
      · refine qa_tabIn (tgt := 1765) dL_law_33 (by rw [e59]; decide) (by rw [e59]; decide) (by rw [e59]; rfl) (by decide) ?_
        exact tLc_59 l ih hp0 (h.2.2.2.2.2.2.2.2.2.2.2.2.2.2.2.2.2.2.2.2.2.2.2.2.2.2.2.2.2.2.2.2.2.2.2.2.2.2.2.2.2.2.2.2.2.2.2.2.2.2.2.2.2.2.2.2.2.2.2.1 e59)
      by_cases e60 : k = (60 : Int32)
      · refine qa_tabIn (tgt := 1788) dL_law_33 (by rw [e60]; decide) (by rw [e60]; decide) (by rw [e60]; rfl) (by decide) ?_
        exact tLc_60 l ih hp0 (h.2.2.2.2.2.2.2.2.2.2.2.2.2.2.2.2.2.2.2.2.2.2.2.2.2.2.2.2.2.2.2.2.2.2.2.2.2.2.2.2.2.2.2.2.2.2.2.2.2.2.2.2.2.2.2.2.2.2.2.2.1 e60)
      by_cases e61 : k = (61 : Int32)
      · refine qa_tabIn (tgt := 1811) dL_law_33 (by rw [e61]; decide) (by rw [e61]; decide) (by rw [e61]; rfl) (by decide) ?_
        exact tLc_61 l ih hp0 (h.2.2.2.2.2.2.2.2.2.2.2.2.2.2.2.2.2.2.2.2.2.2.2.2.2.2.2.2.2.2.2.2.2.2.2.2.2.2.2.2.2.2.2.2.2.2.2.2.2.2.2.2.2.2.2.2.2.2.2.2.2.1 e61)
      by_cases e62 : k = (62 : Int32)
      · refine qa_tabIn (tgt := 1834) dL_law_33 (by rw [e62]; decide) (by rw [e62]; decide) (by rw [e62]; rfl) (by decide) ?_
        exact tLc_62 l ih hp0 (h.2.2.2.2.2.2.2.2.2.2.2.2.2.2.2.2.2.2.2.2.2.2.2.2.2.2.2.2.2.2.2.2.2.2.2.2.2.2.2.2.2.2.2.2.2.2.2.2.2.2.2.2.2.2.2.2.2.2.2.2.2.2.1 e62)
      by_cases e63 : k = (63 : Int32)
      · refine qa_tabIn (tgt := 1867) dL_law_33 (by rw [e63]; decide) (by rw [e63]; decide) (by rw [e63]; rfl) (by decide) ?_
        exact tLc_63 l ih hp0 (h.2.2.2.2.2.2.2.2.2.2.2.2.2.2.2.2.2.2.2.2.2.2.2.2.2.2.2.2.2.2.2.2.2.2.2.2.2.2.2.2.2.2.2.2.2.2.2.2.2.2.2.2.2.2.2.2.2.2.2.2.2.2.2.1 e63)
      by_cases e64 : k = (64 : Int32)
      · refine qa_tabIn (tgt := 1900) dL_law_33 (by rw [e64]; decide) (by rw [e64]; decide) (by rw [e64]; rfl) (by decide) ?_
        exact tLc_64 l ih hp0 (h.2.2.2.2.2.2.2.2.2.2.2.2.2.2.2.2.2.2.2.2.2.2.2.2.2.2.2.2.2.2.2.2.2.2.2.2.2.2.2.2.2.2.2.2.2.2.2.2.2.2.2.2.2.2.2.2.2.2.2.2.2.2.2.2.1 e64)
      by_cases e65 : k = (65 : Int32)
      · refine qa_tabIn (tgt := 1953) dL_law_33 (by rw [e65]; decide) (by rw [e65]; decide) (by rw [e65]; rfl) (by decide) ?_
        exact tLc_65 l ih hp0 (h.2.2.2.2.2.2.2.2.2.2.2.2.2.2.2.2.2.2.2.2.2.2.2.2.2.2.2.2.2.2.2.2.2.2.2.2.2.2.2.2.2.2.2.2.2.2.2.2.2.2.2.2.2.2.2.2.2.2.2.2.2.2.2.2.2.1 e65)
      by_cases e66 : k = (66 : Int32)
      · refine qa_tabIn (tgt := 2007) dL_law_33 (by rw [e66]; decide) (by rw [e66]; decide) (by rw [e66]; rfl) (by decide) ?_
        exact tLc_66 l ih hp0 (h.2.2.2.2.2.2.2.2.2.2.2.2.2.2.2.2.2.2.2.2.2.2.2.2.2.2.2.2.2.2.2.2.2.2.2.2.2.2.2.2.2.2.2.2.2.2.2.2.2.2.2.2.2.2.2.2.2.2.2.2.2.2.2.2.2.2.1 e66)
      by_cases e67 : k = (67 : Int32)
      · refine qa_tabIn (tgt := 2051) dL_law_33 (by rw [e67]; decide) (by rw [e67]; decide) (by rw [e67]; rfl) (by decide) ?_
        exact tLc_67 l ih hp0 (h.2.2.2.2.2.2.2.2.2.2.2.2.2.2.2.2.2.2.2.2.2.2.2.2.2.2.2.2.2.2.2.2.2.2.2.2.2.2.2.2.2.2.2.2.2.2.2.2.2.2.2.2.2.2.2.2.2.2.2.2.2.2.2.2.2.2.2.1 e67)
      by_cases e68 : k = (68 : Int32)
      · refine qa_tabIn (tgt := 2084) dL_law_33 (by rw [e68]; decide) (by rw [e68]; decide) (by rw [e68]; rfl) (by decide) ?_
        exact tLc_68 l ih hp0 (h.2.2.2.2.2.2.2.2.2.2.2.2.2.2.2.2.2.2.2.2.2.2.2.2.2.2.2.2.2.2.2.2.2.2.2.2.2.2.2.2.2.2.2.2.2.2.2.2.2.2.2.2.2.2.2.2.2.2.2.2.2.2.2.2.2.2.2.2.1 e68)
      by_cases e69 : k = (69 : Int32)
      · refine qa_tabIn (tgt := 2127) dL_law_33 (by rw [e69]; decide) (by rw [e69]; decide) (by rw [e69]; rfl) (by decide) ?_
        exact tLc_69 l ih hp0 (h.2.2.2.2.2.2.2.2.2.2.2.2.2.2.2.2.2.2.2.2.2.2.2.2.2.2.2.2.2.2.2.2.2.2.2.2.2.2.2.2.2.2.2.2.2.2.2.2.2.2.2.2.2.2.2.2.2.2.2.2.2.2.2.2.2.2.2.2.2.1 e69)
      by_cases e70 : k = (70 : Int32)
      · refine qa_tabIn (tgt := 2140) dL_law_33 (by rw [e70]; decide) (by rw [e70]; decide) (by rw [e70]; rfl) (by decide) ?_
        exact tLc_70 l ih hp0 (h.2.2.2.2.2.2.2.2.2.2.2.2.2.2.2.2.2.2.2.2.2.2.2.2.2.2.2.2.2.2.2.2.2.2.2.2.2.2.2.2.2.2.2.2.2.2.2.2.2.2.2.2.2.2.2.2.2.2.2.2.2.2.2.2.2.2.2.2.2.2.1 e70)
      by_cases e71 : k = (71 : Int32)
      · refine qa_tabIn (tgt := 2153) dL_law_33 (by rw [e71]; decide) (by rw [e71]; decide) (by rw [e71]; rfl) (by decide) ?_
        exact tLc_71 l ih hp0 (h.2.2.2.2.2.2.2.2.2.2.2.2.2.2.2.2.2.2.2.2.2.2.2.2.2.2.2.2.2.2.2.2.2.2.2.2.2.2.2.2.2.2.2.2.2.2.2.2.2.2.2.2.2.2.2.2.2.2.2.2.2.2.2.2.2.2.2.2.2.2.2.1 e71)
      by_cases e72 : k = (72 : Int32)
      · refine qa_tabIn (tgt := 2186) dL_law_33 (by rw [e72]; decide) (by rw [e72]; decide) (by rw [e72]; rfl) (by decide) ?_
        exact tLc_72 l ih hp0 (h.2.2.2.2.2.2.2.2.2.2.2.2.2.2.2.2.2.2.2.2.2.2.2.2.2.2.2.2.2.2.2.2.2.2.2.2.2.2.2.2.2.2.2.2.2.2.2.2.2.2.2.2.2.2.2.2.2.2.2.2.2.2.2.2.2.2.2.2.2.2.2.2.1 e72)
      by_cases e73 : k = (73 : Int32)
      · refine qa_tabIn (tgt := 2229) dL_law_33 (by rw [e73]; decide) (by rw [e73]; decide) (by rw [e73]; rfl) (by decide) ?_
        exact tLc_73 l ih hp0 (h.2.2.2.2.2.2.2.2.2.2.2.2.2.2.2.2.2.2.2.2.2.2.2.2.2.2.2.2.2.2.2.2.2.2.2.2.2.2.2.2.2.2.2.2.2.2.2.2.2.2.2.2.2.2.2.2.2.2.2.2.2.2.2.2.2.2.2.2.2.2.2.2.2.1 e73)
      by_cases e74 : k = (74 : Int32)
      · refine qa_tabIn (tgt := 2262) dL_law_33 (by rw [e74]; decide) (by rw [e74]; decide) (by rw [e74]; rfl) (by decide) ?_
        exact tLc_74 l ih hp0 (h.2.2.2.2.2.2.2.2.2.2.2.2.2.2.2.2.2.2.2.2.2.2.2.2.2.2.2.2.2.2.2.2.2.2.2.2.2.2.2.2.2.2.2.2.2.2.2.2.2.2.2.2.2.2.2.2.2.2.2.2.2.2.2.2.2.2.2.2.2.2.2.2.2.2.1 e74)
      by_cases e75 : k = (75 : Int32)
      · refine qa_tabIn (tgt := 2285) dL_law_33 (by rw [e75]; decide) (by rw [e75]; decide) (by rw [e75]; rfl) (by decide) ?_
        exact tLc_75 l ih hp0 (h.2.2.2.2.2.2.2.2.2.2.2.2.2.2.2.2.2.2.2.2.2.2.2.2.2.2.2.2.2.2.2.2.2.2.2.2.2.2.2.2.2.2.2.2.2.2.2.2.2.2.2.2.2.2.2.2.2.2.2.2.2.2.2.2.2.2.2.2.2.2.2.2.2.2.2.1 e75)
      by_cases e76 : k = (76 : Int32)
      · refine qa_tabIn (tgt := 2308) dL_law_33 (by rw [e76]; decide) (by rw [e76]; decide) (by rw [e76]; rfl) (by decide) ?_
        exact tLc_76 l ih hp0 (h.2.2.2.2.2.2.2.2.2.2.2.2.2.2.2.2.2.2.2.2.2.2.2.2.2.2.2.2.2.2.2.2.2.2.2.2.2.2.2.2.2.2.2.2.2.2.2.2.2.2.2.2.2.2.2.2.2.2.2.2.2.2.2.2.2.2.2.2.2.2.2.2.2.2.2.2.1 e76)
      by_cases e77 : k = (77 : Int32)
      · refine qa_tabIn (tgt := 2331) dL_law_33 (by rw [e77]; decide) (by rw [e77]; decide) (by rw [e77]; rfl) (by decide) ?_
        exact tLc_77 l ih hp0 (h.2.2.2.2.2.2.2.2.2.2.2.2.2.2.2.2.2.2.2.2.2.2.2.2.2.2.2.2.2.2.2.2.2.2.2.2.2.2.2.2.2.2.2.2.2.2.2.2.2.2.2.2.2.2.2.2.2.2.2.2.2.2.2.2.2.2.2.2.2.2.2.2.2.2.2.2.2.1 e77)
      by_cases e78 : k = (78 : Int32)
      · refine qa_tabIn (tgt := 2374) dL_law_33 (by rw [e78]; decide) (by rw [e78]; decide) (by rw [e78]; rfl) (by decide) ?_
        exact tLc_78 l ih hp0 (h.2.2.2.2.2.2.2.2.2.2.2.2.2.2.2.2.2.2.2.2.2.2.2.2.2.2.2.2.2.2.2.2.2.2.2.2.2.2.2.2.2.2.2.2.2.2.2.2.2.2.2.2.2.2.2.2.2.2.2.2.2.2.2.2.2.2.2.2.2.2.2.2.2.2.2.2.2.2.1 e78)
      by_cases e79 : k = (79 : Int32)
      · refine qa_tabIn (tgt := 2447) dL_law_33 (by rw [e79]; decide) (by rw [e79]; decide) (by rw [e79]; rfl) (by decide) ?_
        exact tLc_79 l ih hp0 (h.2.2.2.2.2.2.2.2.2.2.2.2.2.2.2.2.2.2.2.2.2.2.2.2.2.2.2.2.2.2.2.2.2.2.2.2.2.2.2.2.2.2.2.2.2.2.2.2.2.2.2.2.2.2.2.2.2.2.2.2.2.2.2.2.2.2.2.2.2.2.2.2.2.2.2.2.2.2.2.1 e79)
      have ho : k.toInt < 0 ∨ 79 < k.toInt := by
        have q0 : k.toInt ≠ 0 := fun q => e0 (Int32.toInt_inj.mp (q.trans rfl))
        have q1 : k.toInt ≠ 1 := fun q => e1 (Int32.toInt_inj.mp (q.trans rfl))
        have q2 : k.toInt ≠ 2 := fun q => e2 (Int32.toInt_inj.mp (q.trans rfl))
        have q3 : k.toInt ≠ 3 := fun q => e3 (Int32.toInt_inj.mp (q.trans rfl))
        have q4 : k.toInt ≠ 4 := fun q => e4 (Int32.toInt_inj.mp (q.trans rfl))
        have q5 : k.toInt ≠ 5 := fun q => e5 (Int32.toInt_inj.mp (q.trans rfl))
        have q6 : k.toInt ≠ 6 := fun q => e6 (Int32.toInt_inj.mp (q.trans rfl))
        have q7 : k.toInt ≠ 7 := fun q => e7 (Int32.toInt_inj.mp (q.trans rfl))
        have q8 : k.toInt ≠ 8 := fun q => e8 (Int32.toInt_inj.mp (q.trans rfl))
        have q9 : k.toInt ≠ 9 := fun q => e9 (Int32.toInt_inj.mp (q.trans rfl))
        have q10 : k.toInt ≠ 10 := fun q => e10 (Int32.toInt_inj.mp (q.trans rfl))
        have q11 : k.toInt ≠ 11 := fun q => e11 (Int32.toInt_inj.mp (q.trans rfl))
        have q12 : k.toInt ≠ 12 := fun q => e12 (Int32.toInt_inj.mp (q.trans rfl))
        have q13 : k.toInt ≠ 13 := fun q => e13 (Int32.toInt_inj.mp (q.trans rfl))
        have q14 : k.toInt ≠ 14 := fun q => e14 (Int32.toInt_inj.mp (q.trans rfl))
        have q15 : k.toInt ≠ 15 := fun q => e15 (Int32.toInt_inj.mp (q.trans rfl))
        have q16 : k.toInt ≠ 16 := fun q => e16 (Int32.toInt_inj.mp (q.trans rfl))
        have q17 : k.toInt ≠ 17 := fun q => e17 (Int32.toInt_inj.mp (q.trans rfl))
        have q18 : k.toInt ≠ 18 := fun q => e18 (Int32.toInt_inj.mp (q.trans rfl))
        have q19 : k.toInt ≠ 19 := fun q => e19 (Int32.toInt_inj.mp (q.trans rfl))
        have q20 : k.toInt ≠ 20 := fun q => e20 (Int32.toInt_inj.mp (q.trans rfl))
        have q21 : k.toInt ≠ 21 := fun q => e21 (Int32.toInt_inj.mp (q.trans rfl))
        have q22 : k.toInt ≠ 22 := fun q => e22 (Int32.toInt_inj.mp (q.trans rfl))
        have q23 : k.toInt ≠ 23 := fun q => e23 (Int32.toInt_inj.mp (q.trans rfl))
        have q24 : k.toInt ≠ 24 := fun q => e24 (Int32.toInt_inj.mp (q.trans rfl))
        have q25 : k.toInt ≠ 25 := fun q => e25 (Int32.toInt_inj.mp (q.trans rfl))
        have q26 : k.toInt ≠ 26 := fun q => e26 (Int32.toInt_inj.mp (q.trans rfl))
        have q27 : k.toInt ≠ 27 := fun q => e27 (Int32.toInt_inj.mp (q.trans rfl))
        have q28 : k.toInt ≠ 28 := fun q => e28 (Int32.toInt_inj.mp (q.trans rfl))
        have q29 : k.toInt ≠ 29 := fun q => e29 (Int32.toInt_inj.mp (q.trans rfl))
        have q30 : k.toInt ≠ 30 := fun q => e30 (Int32.toInt_inj.mp (q.trans rfl))
        have q31 : k.toInt ≠ 31 := fun q => e31 (Int32.toInt_inj.mp (q.trans rfl))
        have q32 : k.toInt ≠ 32 := fun q => e32 (Int32.toInt_inj.mp (q.trans rfl))
        have q33 : k.toInt ≠ 33 := fun q => e33 (Int32.toInt_inj.mp (q.trans rfl))
        have q34 : k.toInt ≠ 34 := fun q => e34 (Int32.toInt_inj.mp (q.trans rfl))
        have q35 : k.toInt ≠ 35 := fun q => e35 (Int32.toInt_inj.mp (q.trans rfl))
        have q36 : k.toInt ≠ 36 := fun q => e36 (Int32.toInt_inj.mp (q.trans rfl))
        have q37 : k.toInt ≠ 37 := fun q => e37 (Int32.toInt_inj.mp (q.trans rfl))
        have q38 : k.toInt ≠ 38 := fun q => e38 (Int32.toInt_inj.mp (q.trans rfl))
        have q39 : k.toInt ≠ 39 := fun q => e39 (Int32.toInt_inj.mp (q.trans rfl))
        have q40 : k.toInt ≠ 40 := fun q => e40 (Int32.toInt_inj.mp (q.trans rfl))
        have q41 : k.toInt ≠ 41 := fun q => e41 (Int32.toInt_inj.mp (q.trans rfl))
        have q42 : k.toInt ≠ 42 := fun q => e42 (Int32.toInt_inj.mp (q.trans rfl))
        have q43 : k.toInt ≠ 43 := fun q => e43 (Int32.toInt_inj.mp (q.trans rfl))
        have q44 : k.toInt ≠ 44 := fun q => e44 (Int32.toInt_inj.mp (q.trans rfl))
        have q45 : k.toInt ≠ 45 := fun q => e45 (Int32.toInt_inj.mp (q.trans rfl))
        have q46 : k.toInt ≠ 46 := fun q => e46 (Int32.toInt_inj.mp (q.trans rfl))
        have q47 : k.toInt ≠ 47 := fun q => e47 (Int32.toInt_inj.mp (q.trans rfl))
        have q48 : k.toInt ≠ 48 := fun q => e48 (Int32.toInt_inj.mp (q.trans rfl))
        have q49 : k.toInt ≠ 49 := fun q => e49 (Int32.toInt_inj.mp (q.trans rfl))
        have q50 : k.toInt ≠ 50 := fun q => e50 (Int32.toInt_inj.mp (q.trans rfl))
        have q51 : k.toInt ≠ 51 := fun q => e51 (Int32.toInt_inj.mp (q.trans rfl))
        have q52 : k.toInt ≠ 52 := fun q => e52 (Int32.toInt_inj.mp (q.trans rfl))
        have q53 : k.toInt ≠ 53 := fun q => e53 (Int32.toInt_inj.mp (q.trans rfl))
        have q54 : k.toInt ≠ 54 := fun q => e54 (Int32.toInt_inj.mp (q.trans rfl))
        have q55 : k.toInt ≠ 55 := fun q => e55 (Int32.toInt_inj.mp (q.trans rfl))
        have q56 : k.toInt ≠ 56 := fun q => e56 (Int32.toInt_inj.mp (q.trans rfl))
        have q57 : k.toInt ≠ 57 := fun q => e57 (Int32.toInt_inj.mp (q.trans rfl))
        have q58 : k.toInt ≠ 58 := fun q => e58 (Int32.toInt_inj.mp (q.trans rfl))
        have q59 : k.toInt ≠ 59 := fun q => e59 (Int32.toInt_inj.mp (q.trans rfl))
        have q60 : k.toInt ≠ 60 := fun q => e60 (Int32.toInt_inj.mp (q.trans rfl))
        have q61 : k.toInt ≠ 61 := fun q => e61 (Int32.toInt_inj.mp (q.trans rfl))
        have q62 : k.toInt ≠ 62 := fun q => e62 (Int32.toInt_inj.mp (q.trans rfl))
        have q63 : k.toInt ≠ 63 := fun q => e63 (Int32.toInt_inj.mp (q.trans rfl))
        have q64 : k.toInt ≠ 64 := fun q => e64 (Int32.toInt_inj.mp (q.trans rfl))
        have q65 : k.toInt ≠ 65 := fun q => e65 (Int32.toInt_inj.mp (q.trans rfl))
        have q66 : k.toInt ≠ 66 := fun q => e66 (Int32.toInt_inj.mp (q.trans rfl))
        have q67 : k.toInt ≠ 67 := fun q => e67 (Int32.toInt_inj.mp (q.trans rfl))
        have q68 : k.toInt ≠ 68 := fun q => e68 (Int32.toInt_inj.mp (q.trans rfl))
        have q69 : k.toInt ≠ 69 := fun q => e69 (Int32.toInt_inj.mp (q.trans rfl))
        have q70 : k.toInt ≠ 70 := fun q => e70 (Int32.toInt_inj.mp (q.trans rfl))
        have q71 : k.toInt ≠ 71 := fun q => e71 (Int32.toInt_inj.mp (q.trans rfl))
        have q72 : k.toInt ≠ 72 := fun q => e72 (Int32.toInt_inj.mp (q.trans rfl))
        have q73 : k.toInt ≠ 73 := fun q => e73 (Int32.toInt_inj.mp (q.trans rfl))
        have q74 : k.toInt ≠ 74 := fun q => e74 (Int32.toInt_inj.mp (q.trans rfl))
        have q75 : k.toInt ≠ 75 := fun q => e75 (Int32.toInt_inj.mp (q.trans rfl))
        have q76 : k.toInt ≠ 76 := fun q => e76 (Int32.toInt_inj.mp (q.trans rfl))
        have q77 : k.toInt ≠ 77 := fun q => e77 (Int32.toInt_inj.mp (q.trans rfl))
        have q78 : k.toInt ≠ 78 := fun q => e78 (Int32.toInt_inj.mp (q.trans rfl))
        have q79 : k.toInt ≠ 79 := fun q => e79 (Int32.toInt_inj.mp (q.trans rfl))
        omega
      refine qa_tabOut (tgt := 2510) dL_law_33 ho (by decide) ?_
      have h := h.2.2.2.2.2.2.2.2.2.2.2.2.2.2.2.2.2.2.2.2.2.2.2.2.2.2.2.2.2.2.2.2.2.2.2.2.2.2.2.2.2.2.2.2.2.2.2.2.2.2.2.2.2.2.2.2.2.2.2.2.2.2.2.2.2.2.2.2.2.2.2.2.2.2.2.2.2.2.2.2
      refine qa_inc3 dL_law_2510 (qa_io6 _) ?_
      refine qa_goto (tgt := 18) dL_law_2513 (by decide) ?_
      exact ih (i + (6 : Int32)) μ0 hp0 h
def qa_m0 : qa_M := (fun _ _ => 0, fun _ _ => 0, fun _ _ => 0)
def qa_mi : qa_M := ci_X9_91 (ci_X8_1 qa_m0)
theorem tL0 (l : Launch) {nm : String} {Ln : Nat} {xs : Nat → Int32} (k : qa_LG l nm Ln xs 113 17503 18 [some (.ref 6000), some (.ref 1), some (.ref 91), some (.int 0)] [] 113 qa_mi) : qa_LG l nm Ln xs 0 0 0 [some (.ref 6000), none, none, none] [] 0 qa_m0 := by
  have hz : qa_Z qa_m0 0 := fun _ _ _ => ⟨rfl, rfl, rfl⟩
  refine qc_new 1 1 12 dL_law_0 lcl_L_7 lin_8 lii_8 qa_cf8 qa_tyok8 sh_1 ⟨rfl, rfl, rfl⟩ (by decide) hz (by decide) (fun hz => ?_)
  refine qa_dup dL_law_3 rfl ?_
  refine qc_callI (a := 1) [] [.ref 1] 90 8927 (nci_X8_1 l hz) dL_law_4 (Or.inl lm_L_9) rfl rfl (by decide) ⟨rfl, rfl⟩ (by decide) (Nat.le_of_ble_eq_true rfl) (fun hz => ?_)
  refine qa_ast1 dL_law_7 ?_
  refine qc_new 91 91 8972 dL_law_8 lcl_L_10 lin_9 lii_9 qa_cf9 qa_tyok9 sh_91 ⟨rfl, rfl, rfl⟩ (by decide) hz (by decide) (fun hz => ?_)
  refine qa_dup dL_law_11 rfl ?_
  refine qc_callI (a := 91) [] [.ref 91] 113 17503 (nci_X9_91 l hz) dL_law_12 (Or.inl lm_L_12) rfl rfl (by decide) ⟨rfl, rfl⟩ (by decide) (Nat.le_of_ble_eq_true rfl) (fun hz => ?_)
  refine qa_ast2 dL_law_15 ?_
  refine qa_iconst (v := 0) dL_law_16 (by decide) ?_
  refine qa_ist3 dL_law_17 ?_
  exact k
