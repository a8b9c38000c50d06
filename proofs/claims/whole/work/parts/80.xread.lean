/-! x reads a line -/
def xf (t : Nat) (μ μ' : qa_M) : Prop := μ'.2 = μ.2 ∧ ∀ b j, b ≠ 2 → (b < t ∨ t + 11 < b) → μ'.1 b j = μ.1 b j
theorem xf.rf (t : Nat) (μ : qa_M) : xf t μ μ := ⟨rfl, fun _ _ _ _ => rfl⟩
theorem xf.tr {t : Nat} {μ μ1 μ2 : qa_M} (h : xf t μ μ1) (h' : xf t μ1 μ2) : xf t μ μ2 := ⟨h'.1.trans h.1, fun b j h1 h2 => (h'.2 b j h1 h2).trans (h.2 b j h1 h2)⟩
theorem xf.oc {t lo hi : Nat} {μ μ1 μ2 : qa_M} (h : xf t μ μ1) (o : oc 2 lo hi μ1 μ2) : xf t μ μ2 := h.tr ⟨o.1, fun b j h1 _ => o.2 b j (fun e => h1 e.1)⟩
theorem xf.put {t : Nat} {μ μ1 : qa_M} (h : xf t μ μ1) {b : Nat} (j : Nat) (x : Int32) (hb : t ≤ b ∧ b ≤ t + 11) : xf t μ (qa_uI μ1 b j x) := h.tr ⟨rfl, fun c k h1 h2 => uIn _ _ (fun e => by omega)⟩
theorem GX.put {f : Nat → Int32} {T : Nat} {s : Tk} {μ : qa_M} (G : GX f T μ s) {b : Nat} (j : Nat) (x : Int32) (hb : b ≠ 2) (h2 : b ≠ 15) : GX f T (qa_uI μ b j x) s := by
  obtain ⟨⟨g1, g2, g3⟩, ⟨s1, s2, s3, s4⟩, o, g4, g5⟩ := G
  exact ⟨⟨g1, (uIn _ _ (by omega)).trans g2, fun j hj => ⟨(uIn _ _ (by omega)).trans (g3 j hj).1, (g3 j hj).2⟩⟩, ⟨(uIn _ _ (by omega)).trans s1, (uIn _ _ (by omega)).trans s2, (uIn _ _ (by omega)).trans s3, fun c => (uIn _ _ (by omega)).trans (s4 c)⟩, o, (uIn _ _ (by omega)).trans g4, (uIn _ _ (by omega)).trans g5⟩
theorem BX.put {k pl : Nat} {μ : qa_M} (B : BX μ k pl) {b : Nat} (j : Nat) (x : Int32) (hb : b ≠ 2) : BX (qa_uI μ b j x) k pl := ⟨(uIn _ _ (by omega)).trans B.1, B.2.1, (uIn _ _ (by omega)).trans B.2.2⟩
section XR
variable {f : Nat → Int32} {T n t : Nat} {s : Tk} {w : Nat → Int32} {μ0 μ : qa_M} {Q : qa_M → Prop} {er : Nat → Nat → Prop} {k pl : Nat}
theorem x_86b (b0 : ¬ μ.1 2 7 = 0) : wX2_readLine_86 n μ Q ↔ Q μ := by
  unfold wX2_readLine_86
  rw [xb_semi b0]
  exact ⟨fun h => h.1 b0, fun h => ⟨fun _ => h, fun e => absurd e b0⟩⟩
theorem x_fin {N : Nat} {ok : Tk → Prop} {w' : Nat → Int32} (ht : t = 3 ∨ t = 16) (et : μ.2.2 2 2 = t) (e0 : μ.1 t 0 = nI N) (G : GX f T μ s) (hn : 820 < n) (h : pSemi f T s er ok) (hx : TZ (qa_uI μ t 0 (nI (N + 1))) t w') (kb : ∀ k pl μ', er k pl → oc 2 3 8 μ μ' → BX μ' k pl → Q μ') (kg : ∀ s' μ', ok s' → xf t μ μ' → GX f T μ' s' → TZ μ' t w' → Q μ') : wX2_readLine_86 n μ Q := by
  unfold wX2_readLine_86
  refine x_semi G hn h (fun k pl μ1 e o B => ?_) (fun s1 μ1 h1 o1 G1 => ?_)
  · exact ⟨fun _ => kb k pl μ1 e o B, fun e => absurd e B.nz⟩
  · refine ⟨fun e => absurd G1.2.2.2.1 e, fun _ => ?_⟩
    have et1 : μ1.2.2 2 2 = t := by rw [o1.1]; exact et
    have e01 : μ1.1 t 0 = nI N := by rw [o1.2 _ _ (by omega)]; exact e0
    rw [nmM, et1, e01, nI1]
    refine kg s1 _ h1 (((xf.rf _ _).oc o1).put _ _ (by omega)) (G1.put _ _ (by omega) (by omega)) (hx.mono (fun j x hj => ?_) rfl)
    rw [uI1, uI1, o1.2 _ _ (by omega)]
theorem x_start {m N : Nat} {v1 v2 : Int32} (h1 : v1 = nI m) (h2 : v2 = nI N) (hm : m < 1000 ∧ N < 1000) (G : GX f T μ s) (hn : 820 < n) (k0 : ¬ m < N → ∀ μ', oc 2 3 8 μ μ' → BX μ' 3 s.2.1 → Q μ') (k1 : m < N → ∀ μ', oc 2 3 8 μ μ' → GX f T μ' (rdT f T s.2.2.1) → Q μ') : wX2_startLine n v1 v2 μ Q := by
  unfold wX2_startLine
  rw [h1, h2, nlt _ _ (by omega) (by omega)]
  exact ⟨fun c => x_step G hn (k1 c), fun c => x_fail (k := 3) G (by omega) (k0 c)⟩
theorem xb_w {F : qa_M → Prop} {v j : Nat} {lo hi : Int32} (ht : t = 3 ∨ t = 16) (X : xf t μ0 μ) (et : μ0.2.2 2 2 = t) (B : BX μ k pl) (kk : ∀ μ', xf t μ0 μ' → BX μ' k pl → F μ') : wX2_takeNumberOf n v lo hi μ (fun r μ8 => ∀ μ9, μ9 = qa_uI μ8 (μ.2.2 2 2) j r → F μ9) := by
  have e : μ.2.2 2 2 = t := by rw [X.1]; exact et
  rw [xb_tno B.nz, nmM, e]
  exact kk _ (X.put _ _ (by omega)) (B.put _ _ (by omega))
theorem x_town0 {ok : Tk → (Nat → Int32) → Prop} (ht : t = 3 ∨ t = 16) (et : μ.2.2 2 2 = t) (G : GX f T μ s) (r : RZ w) (z : zA w = 0) (hN : zN w < 900) (X : TZ μ t w) (hn : 820 < n) (h : pTown f T s w er ok) (kb : ∀ k pl μ', er k pl → xf t μ μ' → BX μ' k pl → Q μ') (kg : ∀ s' w' μ', ok s' w' → xf t μ μ' → GX f T μ' s' → TZ μ' t w' → Q μ') : wX2_readTown n μ (fun μ18 => wX2_readLine_86 n μ18 Q) := by
  have e00 : μ.1 t 0 = nI (zN w) := X.1.1
  unfold wX2_readTown
  unfold pTown at h
  refine x_tw (by omega) rfl G hn h (fun k pl μ1 e o1 B1 => ?_) (fun s1 μ1 h1 o1 G1 => ?_)
  · refine xb_w ht ((xf.rf _ _).oc o1) et B1 (fun μ3 x3 B3 => xb_w ht x3 et B3 (fun μ5 x5 B5 => xb_w ht x5 et B5 (fun μ7 x7 B7 => xb_w ht x7 et B7 (fun μ9 x9 B9 => ?_))))
    exact (x_86b B9.nz).mpr (kb k pl μ9 e x9 B9)
  have x1 : xf t μ μ1 := (xf.rf _ _).oc o1
  have et1 : μ1.2.2 2 2 = t := by rw [x1.1]; exact et
  refine x_tno (by omega) rfl (by rfl) (by decide) (by omega) G1 hn h1 (fun k pl μ2 e o2 B2 => ?_) (fun a s2 μ2 h2 a1 a2 o2 G2 => ?_)
  · rw [nmM, et1]
    refine xb_w ht ((x1.oc o2).put _ _ (by omega)) et (B2.put _ _ (by omega)) (fun μ5 x5 B5 => xb_w ht x5 et B5 (fun μ7 x7 B7 => xb_w ht x7 et B7 (fun μ9 x9 B9 => ?_)))
    exact (x_86b B9.nz).mpr (kb k pl μ9 e x9 B9)
  rw [nmM, et1]
  have x3 : xf t μ (qa_uI μ2 t 1 (nI a)) := (x1.oc o2).put _ _ (by omega)
  have et3 : (qa_uI μ2 t 1 (nI a)).2.2 2 2 = t := by rw [x3.1]; exact et
  refine x_tno (by omega) rfl (by rfl) (by decide) (by omega) (G2.put (b := t) 1 (nI a) (by omega) (by omega)) hn h2 (fun k pl μ4 e o4 B4 => ?_) (fun b s4 μ4 h4 b1 b2 o4 G4 => ?_)
  · rw [nmM, et3]
    refine xb_w ht ((x3.oc o4).put _ _ (by omega)) et (B4.put _ _ (by omega)) (fun μ7 x7 B7 => xb_w ht x7 et B7 (fun μ9 x9 B9 => ?_))
    exact (x_86b B9.nz).mpr (kb k pl μ9 e x9 B9)
  rw [nmM, et3]
  have x5 : xf t μ (qa_uI μ4 t 2 (nI b)) := (x3.oc o4).put _ _ (by omega)
  have et5 : (qa_uI μ4 t 2 (nI b)).2.2 2 2 = t := by rw [x5.1]; exact et
  refine x_tno (by omega) rfl (by rfl) (by decide) (by omega) (G4.put (b := t) 2 (nI b) (by omega) (by omega)) hn h4 (fun k pl μ6 e o6 B6 => ?_) (fun c s6 μ6 h6 c1 c2 o6 G6 => ?_)
  · rw [nmM, et5]
    refine xb_w ht ((x5.oc o6).put _ _ (by omega)) et (B6.put _ _ (by omega)) (fun μ9 x9 B9 => ?_)
    exact (x_86b B9.nz).mpr (kb k pl μ9 e x9 B9)
  rw [nmM, et5]
  have x7 : xf t μ (qa_uI μ6 t 3 (nI c)) := (x5.oc o6).put _ _ (by omega)
  have et7 : (qa_uI μ6 t 3 (nI c)).2.2 2 2 = t := by rw [x7.1]; exact et
  refine x_tno (by omega) rfl (by rfl) (by decide) (by omega) (G6.put (b := t) 3 (nI c) (by omega) (by omega)) hn h6 (fun k pl μ8 e o8 B8 => ?_) (fun d s8 μ8 h8 d1 d2 o8 G8 => ?_)
  · rw [nmM, et7, x_86b (B8.put _ _ (by omega)).nz]
    exact kb k pl _ e ((x7.oc o8).put _ _ (by omega)) (B8.put _ _ (by omega))
  rw [nmM, et7]
  have x9 : xf t μ (qa_uI μ8 t 4 (nI d)) := (x7.oc o8).put _ _ (by omega)
  have et9 : (qa_uI μ8 t 4 (nI d)).2.2 2 2 = t := by rw [x9.1]; exact et
  refine x_fin (N := zN w) (w' := uT w a b c d) ht et9 ?_ (G8.put (b := t) 4 (nI d) (by omega) (by omega)) hn h8 ?_ (fun k pl μ' e o B => kb k pl μ' e (x9.oc o) B) (fun s' μ' h' x' G' X' => kg s' _ μ' h' (x9.tr x') G' X')
  · simp (disch := omega) only [uIn, o8.2, o6.2, o4.2, o2.2, o1.2]
    exact e00
  · refine tz_T X r z (rz_T r z hN ⟨a1, by omega⟩ (by omega) ⟨c1, by omega⟩ (by omega)) (uIs _ _ _ _) ?_ ?_ ?_ ?_ (fun j x hj hx => ?_)
    · simp (disch := omega) only [uIn, uIs, o8.2, o6.2, o4.2, o2.2, o1.2]
    · simp (disch := omega) only [uIn, uIs, o8.2, o6.2, o4.2, o2.2, o1.2]
    · simp (disch := omega) only [uIn, uIs, o8.2, o6.2, o4.2, o2.2, o1.2]
    · simp (disch := omega) only [uIn, uIs, o8.2, o6.2, o4.2, o2.2, o1.2]
    · simp (disch := omega) only [uIn, uIs, o8.2, o6.2, o4.2, o2.2, o1.2]
theorem x_65 {H : Nat} {v : Int32} (et : μ.2.2 2 2 = t) (e5 : μ.1 t 5 = nI H) (hH : H < 8) : wX2_readHouse_65 n v μ Q ↔ Q (qa_uI (qa_uI μ (t + 1) H v) t 5 (nI (H + 1))) := by
  unfold wX2_readHouse_65
  simp (disch := omega) only [nmM, uI2, et, e5, cl, inN, uIn, nI1, true_and]
theorem x_house {ok : Tk → (Nat → Int32) → Prop} (ht : t = 3 ∨ t = 16) (et : μ.2.2 2 2 = t) (G : GX f T μ s) (r : RZ w) (z : zA w = 0) (h0 : 0 < zN w) (hN : zN w < 900) (X : TZ μ t w) (hn : 820 < n) (h : pHouse f T s w er ok) (kb : ∀ k pl μ', er k pl → xf t μ μ' → BX μ' k pl → Q μ') (kg : ∀ s' w' μ', ok s' w' → xf t μ μ' → GX f T μ' s' → TZ μ' t w' → Q μ') : wX2_readHouse n μ (fun μ17 => wX2_readLine_86 n μ17 Q) := by
  have e00 : μ.1 t 0 = nI (zN w) := X.1.1
  have e05 : μ.1 t 5 = nI (zH w) := X.1.2.2.2.2.2.1
  have e09 : μ.1 t 9 = leanW w := X.1.2.2.2.2.2.2.2.2.2.1
  have H8 := r.2.1.2.2.2.1
  unfold wX2_readHouse
  unfold pHouse at h
  rw [et]
  refine x_start e05 (N := 8) rfl (by omega) G hn (fun c μ1 o1 B1 => ?_) (fun c μ1 o1 G1 => ?_)
  · rw [if_neg c] at h
    rw [xb_tno B1.nz]
    exact ⟨fun e => absurd e B1.nz, fun _ => (x_86b B1.nz).mpr (kb _ _ μ1 h ((xf.rf _ _).oc o1) B1)⟩
  rw [if_pos c] at h
  have x1 : xf t μ μ1 := (xf.rf _ _).oc o1
  refine x_tno (by omega) rfl (by rfl) (by decide) (by omega) G1 hn h (fun k pl μ2 e o2 B2 => ?_) (fun a s2 μ2 h2 a1 a2 o2 G2 => ?_)
  · exact ⟨fun e => absurd e B2.nz, fun _ => (x_86b B2.nz).mpr (kb _ _ μ2 e (x1.oc o2) B2)⟩
  refine ⟨fun _ => ?_, fun e => absurd G2.2.2.2.1 e⟩
  have x2 : xf t μ μ2 := x1.oc o2
  have et2 : μ2.2.2 2 2 = t := by rw [x2.1]; exact et
  have e25 : μ2.1 t 5 = nI (zH w) := by rw [o2.2 _ _ (by omega), o1.2 _ _ (by omega)]; exact e05
  have e29 : μ2.1 t 9 = leanW w := by rw [o2.2 _ _ (by omega), o1.2 _ _ (by omega)]; exact e09
  rw [x_isw (by omega) G2.1 G2.2.1 G2.2.2.1 (by omega)]
  by_cases q : isw f (wX 7) s2 = true
  · rw [if_pos q] at h2
    rw [if_pos q]
    refine ⟨fun e => absurd e (by decide), fun _ => ?_⟩
    rw [nmM, et2, e25, e29]
    refine x_step (G2.put (b := t) 9 _ (by omega) (by omega)) hn (fun μ3 o3 G3 => ?_)
    have x3 : xf t μ μ3 := (x2.put 9 _ (by omega)).oc o3
    have et3 : μ3.2.2 2 2 = t := by rw [x3.1]; exact et
    have e35 : μ3.1 t 5 = nI (zH w) := by
      simp (disch := omega) only [uIn, o3.2]
      exact e25
    rw [x_65 et3 e35 c]
    have x5 : xf t μ (qa_uI (qa_uI μ3 (t + 1) (zH w) (nI a)) t 5 (nI (zH w + 1))) := (x3.put _ _ (by omega)).put _ _ (by omega)
    refine x_fin (N := zN w) (w' := uH w a 1) ht (by rw [x5.1]; exact et) ?_ ((G3.put _ _ (by omega) (by omega)).put _ _ (by omega) (by omega)) hn h2 ?_ (fun k pl μ' e o B => kb k pl μ' e (x5.oc o) B) (fun s' μ' h' x' G' X' => kg s' _ μ' h' (x5.tr x') G' X')
    · simp (disch := omega) only [uIn, o3.2, o2.2, o1.2]
      exact e00
    · refine tz_H X r z c (rz_H r z hN h0 c (by omega) (by omega)) (uIs _ _ _ _) ?_ ?_ ?_ (fun j x hj hx hy => ?_)
      · simp (disch := omega) only [uIn, uIs]
      · simp (disch := omega) only [uIn, uIs, o3.2]
        rfl
      · simp (disch := omega) only [uIn, uIs]
      · simp (disch := omega) only [uIn, o3.2, o2.2, o1.2]
  · rw [if_neg q] at h2
    rw [if_neg q]
    refine ⟨fun _ => ?_, fun e => absurd rfl e⟩
    rw [x_65 et2 e25 c]
    have x5 : xf t μ (qa_uI (qa_uI μ2 (t + 1) (zH w) (nI a)) t 5 (nI (zH w + 1))) := (x2.put _ _ (by omega)).put _ _ (by omega)
    have l00 : ∀ k, k < 8 → nI 0 <<< (nI k &&& 31) = 0 := by decide
    refine x_fin (N := zN w) (w' := uH w a 0) ht (by rw [x5.1]; exact et) ?_ ((G2.put _ _ (by omega) (by omega)).put _ _ (by omega) (by omega)) hn h2 ?_ (fun k pl μ' e o B => kb k pl μ' e (x5.oc o) B) (fun s' μ' h' x' G' X' => kg s' _ μ' h' (x5.tr x') G' X')
    · simp (disch := omega) only [uIn, o2.2, o1.2]
      exact e00
    · refine tz_H X r z c (rz_H r z hN h0 c (by omega) (by omega)) (uIs _ _ _ _) ?_ ?_ ?_ (fun j x hj hx hy => ?_)
      · simp (disch := omega) only [uIn, uIs]
      · rw [l00 _ c, or0]
        simp (disch := omega) only [uIn]
        exact e29
      · simp (disch := omega) only [uIn, uIs]
      · simp (disch := omega) only [uIn, o2.2, o1.2]
theorem x_place {ok : Tk → (Nat → Int32) → Prop} (ht : t = 3 ∨ t = 16) (et : μ.2.2 2 2 = t) (G : GX f T μ s) (r : RZ w) (z : zA w = 0) (h0 : 0 < zN w) (hN : zN w < 900) (X : TZ μ t w) (hn : 820 < n) (h : pPlace f T s w er ok) (kb : ∀ k pl μ', er k pl → xf t μ μ' → BX μ' k pl → Q μ') (kg : ∀ s' w' μ', ok s' w' → xf t μ μ' → GX f T μ' s' → TZ μ' t w' → Q μ') : wX2_readPlace n μ (fun μ17 => wX2_readLine_86 n μ17 Q) := by
  have e00 : μ.1 t 0 = nI (zN w) := X.1.1
  have e06 : μ.1 t 6 = nI (zP w) := X.1.2.2.2.2.2.2.1
  have P10 := r.2.1.2.2.2.2.1
  unfold wX2_readPlace
  unfold pPlace at h
  rw [et]
  refine x_start e06 (N := 10) rfl (by omega) G hn (fun c μ1 o1 B1 => ?_) (fun c μ1 o1 G1 => ?_)
  · rw [if_neg c] at h
    rw [xb_tn B1.nz, xb_tno B1.nz, xb_tno B1.nz]
    exact ⟨fun _ => (x_86b B1.nz).mpr (kb _ _ μ1 h ((xf.rf _ _).oc o1) B1), fun e => absurd e B1.nz⟩
  rw [if_pos c] at h
  have x1 : xf t μ μ1 := (xf.rf _ _).oc o1
  refine x_tn (by rfl) (by decide) (by omega) G1 hn h (fun k pl μ2 e o2 B2 => ?_) (fun p s2 μ2 h2 p1 p2 o2 G2 => ?_)
  · rw [xb_tno B2.nz, xb_tno B2.nz]
    exact ⟨fun _ => (x_86b B2.nz).mpr (kb _ _ μ2 e (x1.oc o2) B2), fun e => absurd e B2.nz⟩
  have x2 : xf t μ μ2 := x1.oc o2
  refine x_tno (by omega) rfl (by rfl) (by decide) (by omega) G2 hn h2 (fun k pl μ3 e o3 B3 => ?_) (fun a s3 μ3 h3 a1 a2 o3 G3 => ?_)
  · rw [xb_tno B3.nz]
    exact ⟨fun _ => (x_86b B3.nz).mpr (kb _ _ μ3 e (x2.oc o3) B3), fun e => absurd e B3.nz⟩
  have x3 : xf t μ μ3 := x2.oc o3
  refine x_tno (by omega) rfl (by rfl) (by decide) (by omega) G3 hn h3 (fun k pl μ4 e o4 B4 => ?_) (fun b s4 μ4 h4 b1 b2 o4 G4 => ?_)
  · exact ⟨fun _ => (x_86b B4.nz).mpr (kb _ _ μ4 e (x3.oc o4) B4), fun e => absurd e B4.nz⟩
  have x4 : xf t μ μ4 := x3.oc o4
  have et4 : μ4.2.2 2 2 = t := by rw [x4.1]; exact et
  have e46 : μ4.1 t 6 = nI (zP w) := by
    simp (disch := omega) only [o4.2, o3.2, o2.2, o1.2]
    exact e06
  refine ⟨fun e => absurd G4.2.2.2.1 e, fun _ => ?_⟩
  simp (disch := omega) only [nmM, uI2, et4, cl, inN, uIn, e46, nI1, true_and]
  have x5 : xf t μ (qa_uI (qa_uI (qa_uI μ4 (t + 2) p (nI a)) (t + 3) p (nI b)) t 6 (nI (zP w + 1))) := ((x4.put _ _ (by omega)).put _ _ (by omega)).put _ _ (by omega)
  refine x_fin (N := zN w) (w' := uP w p a b) ht (by rw [x5.1]; exact et) ?_ (((G4.put _ _ (by omega) (by omega)).put _ _ (by omega) (by omega)).put _ _ (by omega) (by omega)) hn h4 ?_ (fun k pl μ' e o B => kb k pl μ' e (x5.oc o) B) (fun s' μ' h' x' G' X' => kg s' _ μ' h' (x5.tr x') G' X')
  · simp (disch := omega) only [uIn, o4.2, o3.2, o2.2, o1.2]
    exact e00
  · refine tz_P X r z c p2 (rz_P r z hN h0 c p2 (by omega) (by omega)) (uIs _ _ _ _) ?_ ?_ ?_ (fun j x hj hx hy => ?_)
    · simp (disch := omega) only [uIn, uIs]
    · simp (disch := omega) only [uIn, uIs]
    · simp (disch := omega) only [uIn, uIs]
    · simp (disch := omega) only [uIn, o4.2, o3.2, o2.2, o1.2]
theorem x_snow {ok : Tk → (Nat → Int32) → Prop} (ht : t = 3 ∨ t = 16) (et : μ.2.2 2 2 = t) (G : GX f T μ s) (r : RZ w) (z : zA w = 0) (h0 : 0 < zN w) (hN : zN w < 900) (X : TZ μ t w) (hn : 820 < n) (h : pSnow f T s w er ok) (kb : ∀ k pl μ', er k pl → xf t μ μ' → BX μ' k pl → Q μ') (kg : ∀ s' w' μ', ok s' w' → xf t μ μ' → GX f T μ' s' → TZ μ' t w' → Q μ') : wX2_readSnow n μ (fun μ17 => wX2_readLine_86 n μ17 Q) := by
  have e00 : μ.1 t 0 = nI (zN w) := X.1.1
  have e07 : μ.1 t 7 = nI (zS w) := X.1.2.2.2.2.2.2.2.1
  have e010 : μ.1 t 10 = snowW w (zS w) := X.1.2.2.2.2.2.2.2.2.2.2
  have S4 := r.2.1.2.2.2.2.2.1
  unfold wX2_readSnow
  unfold pSnow at h
  rw [et]
  refine x_start e07 (N := 4) rfl (by omega) G hn (fun c μ1 o1 B1 => ?_) (fun c μ1 o1 G1 => ?_)
  · rw [if_neg c] at h
    rw [xb_tno B1.nz]
    exact ⟨fun _ => (x_86b B1.nz).mpr (kb _ _ μ1 h ((xf.rf _ _).oc o1) B1), fun e => absurd e B1.nz⟩
  rw [if_pos c] at h
  have x1 : xf t μ μ1 := (xf.rf _ _).oc o1
  refine x_tno (by omega) rfl (by rfl) (by decide) (by omega) G1 hn h (fun k pl μ4 e o4 B4 => ?_) (fun a s4 μ4 h4 a1 a2 o4 G4 => ?_)
  · exact ⟨fun _ => (x_86b B4.nz).mpr (kb _ _ μ4 e (x1.oc o4) B4), fun e => absurd e B4.nz⟩
  have x4 : xf t μ μ4 := x1.oc o4
  have et4 : μ4.2.2 2 2 = t := by rw [x4.1]; exact et
  have e47 : μ4.1 t 7 = nI (zS w) := by
    simp (disch := omega) only [o4.2, o1.2]
    exact e07
  have e410 : μ4.1 t 10 = snowW w (zS w) := by
    simp (disch := omega) only [o4.2, o1.2]
    exact e010
  refine ⟨fun e => absurd G4.2.2.2.1 e, fun _ => ?_⟩
  simp (disch := omega) only [nmM, uI2, et4, cl, inN, uIn, e47, e410, nI1, true_and]
  have x5 : xf t μ (qa_uI (qa_uI μ4 t 10 (snowW w (zS w) ||| ((1 : Int32) <<< (nI a &&& 31)))) t 7 (nI (zS w + 1))) := (x4.put _ _ (by omega)).put _ _ (by omega)
  refine x_fin (N := zN w) (w' := uS w a) ht (by rw [x5.1]; exact et) ?_ ((G4.put _ _ (by omega) (by omega)).put _ _ (by omega) (by omega)) hn h4 ?_ (fun k pl μ' e o B => kb k pl μ' e (x5.oc o) B) (fun s' μ' h' x' G' X' => kg s' _ μ' h' (x5.tr x') G' X')
  · simp (disch := omega) only [uIn, o4.2, o1.2]
    exact e00
  · refine tz_S X r z c (rz_S r z hN h0 c (by omega)) (uIs _ _ _ _) ?_ ?_ (fun j x hj hx => ?_)
    · simp (disch := omega) only [uIn, uIs]
    · simp (disch := omega) only [uIn, uIs]
    · simp (disch := omega) only [uIn, o4.2, o1.2]
theorem x_lett {ok : Tk → (Nat → Int32) → Prop} (ht : t = 3 ∨ t = 16) (et : μ.2.2 2 2 = t) (G : GX f T μ s) (r : RZ w) (z : zA w = 0) (h0 : 0 < zN w) (hN : zN w < 900) (X : TZ μ t w) (hn : 820 < n) (h : pLett f T s w er ok) (kb : ∀ k pl μ', er k pl → xf t μ μ' → BX μ' k pl → Q μ') (kg : ∀ s' w' μ', ok s' w' → xf t μ μ' → GX f T μ' s' → TZ μ' t w' → Q μ') : wX2_readLetter n μ (fun μ17 => wX2_readLine_86 n μ17 Q) := by
  have e00 : μ.1 t 0 = nI (zN w) := X.1.1
  have e05 : μ.1 t 5 = nI (zH w) := X.1.2.2.2.2.2.1
  have e08 : μ.1 t 8 = nI (zL w) := X.1.2.2.2.2.2.2.2.2.1
  have H8 := r.2.1.2.2.2.1
  have L8 := r.2.1.2.2.2.2.2.2.1
  unfold wX2_readLetter
  unfold pLett at h
  rw [et]
  refine x_start e08 (N := 8) rfl (by omega) G hn (fun c μ1 o1 B1 => ?_) (fun c μ1 o1 G1 => ?_)
  · rw [if_neg c] at h
    rw [xb_tn B1.nz, xb_tno B1.nz, xb_tno B1.nz]
    exact ⟨fun _ => (x_86b B1.nz).mpr (kb _ _ μ1 h ((xf.rf _ _).oc o1) B1), fun e => absurd e B1.nz⟩
  rw [if_pos c] at h
  have x1 : xf t μ μ1 := (xf.rf _ _).oc o1
  have et1 : μ1.2.2 2 2 = t := by rw [x1.1]; exact et
  have e15 : μ1.1 t 5 = nI (zH w) := by rw [o1.2 _ _ (by omega)]; exact e05
  rw [et1, e15]
  refine x_tn (by rfl) (pk_sub_toInt (b := 1) (by omega) (by decide)) (by omega) G1 hn h (fun k pl μ2 e o2 B2 => ?_) (fun q s2 μ2 h2 q1 q2 o2 G2 => ?_)
  · rw [xb_tno B2.nz, xb_tno B2.nz]
    exact ⟨fun _ => (x_86b B2.nz).mpr (kb _ _ μ2 e (x1.oc o2) B2), fun e => absurd e B2.nz⟩
  have x2 : xf t μ μ2 := x1.oc o2
  refine x_tno (by omega) rfl (by rfl) (by decide) (by omega) G2 hn h2 (fun k pl μ3 e o3 B3 => ?_) (fun p s3 μ3 h3 p1 p2 o3 G3 => ?_)
  · rw [xb_tno B3.nz]
    exact ⟨fun _ => (x_86b B3.nz).mpr (kb _ _ μ3 e (x2.oc o3) B3), fun e => absurd e B3.nz⟩
  have x3 : xf t μ μ3 := x2.oc o3
  refine x_tno (by omega) rfl (by rfl) (by decide) (by omega) G3 hn h3 (fun k pl μ4 e o4 B4 => ?_) (fun v s4 μ4 h4 v1 v2 o4 G4 => ?_)
  · exact ⟨fun _ => (x_86b B4.nz).mpr (kb _ _ μ4 e (x3.oc o4) B4), fun e => absurd e B4.nz⟩
  have x4 : xf t μ μ4 := x3.oc o4
  have et4 : μ4.2.2 2 2 = t := by rw [x4.1]; exact et
  have e48 : μ4.1 t 8 = nI (zL w) := by
    simp (disch := omega) only [o4.2, o3.2, o2.2, o1.2]
    exact e08
  refine ⟨fun e => absurd G4.2.2.2.1 e, fun _ => ?_⟩
  simp (disch := omega) only [nmM, uI2, et4, cl, inN, uIn, e48, nI1, true_and]
  have x5 : xf t μ (qa_uI (qa_uI (qa_uI (qa_uI μ4 (t + 4) (zL w) (nI q)) (t + 5) (zL w) (nI p)) (t + 6) (zL w) (nI v)) t 8 (nI (zL w + 1))) := (((x4.put _ _ (by omega)).put _ _ (by omega)).put _ _ (by omega)).put _ _ (by omega)
  refine x_fin (N := zN w) (w' := uL w q p v) ht (by rw [x5.1]; exact et) ?_ ((((G4.put _ _ (by omega) (by omega)).put _ _ (by omega) (by omega)).put _ _ (by omega) (by omega)).put _ _ (by omega) (by omega)) hn h4 ?_ (fun k pl μ' e o B => kb k pl μ' e (x5.oc o) B) (fun s' μ' h' x' G' X' => kg s' _ μ' h' (x5.tr x') G' X')
  · simp (disch := omega) only [uIn, o4.2, o3.2, o2.2, o1.2]
    exact e00
  · refine tz_L X r z c (rz_L r z hN h0 c q2 p2 v2) (uIs _ _ _ _) ?_ ?_ ?_ ?_ (fun j x hj hx hy => ?_)
    · simp (disch := omega) only [uIn, uIs]
    · simp (disch := omega) only [uIn, uIs]
    · simp (disch := omega) only [uIn, uIs]
    · simp (disch := omega) only [uIn, uIs]
    · simp (disch := omega) only [uIn, o4.2, o3.2, o2.2, o1.2]
theorem x_line {ok : Tk → (Nat → Int32) → Prop} (ht : t = 3 ∨ t = 16) (et : μ.2.2 2 2 = t) (G : GX f T μ s) (r : RZ w) (z : zA w = 0) (hN : zN w < 900) (X : TZ μ t w) (hn : 820 < n) (h : pLine f T s w er ok) (kb : ∀ k pl μ', er k pl → xf t μ μ' → BX μ' k pl → Q μ') (kg : ∀ s' w' μ', ok s' w' → xf t μ μ' → GX f T μ' s' → TZ μ' t w' → Q μ') : wX2_readLine n μ Q := by
  have e00 : μ.1 t 0 = nI (zN w) := X.1.1
  unfold wX2_readLine
  unfold pLine at h
  rw [et, e00, nI_z (by omega)]
  refine ⟨fun c => ?_, fun c => ?_⟩
  · rw [if_neg c] at h
    have h0 : 0 < zN w := by omega
    rw [x_isw (v := 5) (by omega) G.1 G.2.1 G.2.2.1 (by omega)]
    by_cases q1 : isw f (wX 5) s = true
    · rw [if_pos q1] at h
      rw [if_pos q1]
      exact ⟨fun e => absurd e (by decide), fun _ => x_house ht et G r z h0 hN X hn h kb kg⟩
    rw [if_neg q1] at h
    rw [if_neg q1]
    refine ⟨fun _ => ?_, fun e => absurd rfl e⟩
    rw [x_isw (v := 8) (by omega) G.1 G.2.1 G.2.2.1 (by omega)]
    by_cases q2 : isw f (wX 8) s = true
    · rw [if_pos q2] at h
      rw [if_pos q2]
      exact ⟨fun e => absurd e (by decide), fun _ => x_place ht et G r z h0 hN X hn h kb kg⟩
    rw [if_neg q2] at h
    rw [if_neg q2]
    refine ⟨fun _ => ?_, fun e => absurd rfl e⟩
    rw [x_isw (v := 11) (by omega) G.1 G.2.1 G.2.2.1 (by omega)]
    by_cases q3 : isw f (wX 11) s = true
    · rw [if_pos q3] at h
      rw [if_pos q3]
      exact ⟨fun e => absurd e (by decide), fun _ => x_snow ht et G r z h0 hN X hn h kb kg⟩
    rw [if_neg q3] at h
    rw [if_neg q3]
    refine ⟨fun _ => ?_, fun e => absurd rfl e⟩
    rw [x_isw (v := 13) (by omega) G.1 G.2.1 G.2.2.1 (by omega)]
    by_cases q4 : isw f (wX 13) s = true
    · rw [if_pos q4] at h
      rw [if_pos q4]
      exact ⟨fun e => absurd e (by decide), fun _ => x_lett ht et G r z h0 hN X hn h kb kg⟩
    rw [if_neg q4] at h
    rw [if_neg q4]
    refine ⟨fun _ => ?_, fun e => absurd rfl e⟩
    exact x_fail (k := 1) G (by omega) (fun μ1 o1 B1 => (x_86b B1.nz).mpr (kb _ _ μ1 h ((xf.rf _ _).oc o1) B1))
  · rw [if_pos c] at h
    exact x_town0 ht et G r z hN X hn h kb kg
end XR
