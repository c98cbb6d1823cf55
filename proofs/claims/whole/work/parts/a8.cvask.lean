/-! PURE: the class is asked of its cover. -/
/-- only the cover has changed -/
def VQ (h h' : mm_H) : Prop := (∀ o : Int, (o < 452 ∨ 460 < o) → h' o = h o) ∧ ∀ i : Int, i < 8 → h' 452 i = h 452 i
theorem VQ_rf (h : mm_H) : VQ h h := ⟨fun _ _ => rfl, fun _ _ => rfl⟩
theorem VQ_tr {a b c : mm_H} (x : VQ a b) (y : VQ b c) : VQ a c := ⟨fun o ho => (y.1 o ho).trans (x.1 o ho), fun i hi => (y.2 i hi).trans (x.2 i hi)⟩
theorem VQ_CVf {h h' : mm_H} (o : CVf h h') : VQ h h' := ⟨fun b hb => o.1 b (by omega), fun i hi => o.2 i (by omega)⟩
theorem VQ_H {h h' : mm_H} (o : VQ h h') (hc : VcH h) : VcH h' := fun j j0 j1 => by rw [o.2 j (by omega)]; exact hc j j0 j1
section PU
variable {d : Nat} {w : mm_W} {h : mm_H} {A : aG} {s : aS} {S : Int} {f : Int → Int → Int} {wi hi : Int}
theorem VQ_HK {h' : mm_H} (hK : HK h) (o : VQ h h') : HK h' := by
  have e : ∀ b : Int, b < 452 ∨ 460 < b → h' b = h b := o.1
  refine HK_fr hK (fun b i hb => ?_) (fun k k0 k1 => ShH_fr (hK.2.2.2.2.2.1 k k0 k1) (fun i _ _ => by rw [e _ (by omega)]) (e _ (by omega))) (ShH_fr hK.2.2.2.2.2.2.1 (fun i _ _ => by rw [e _ (by omega)]) (e _ (by omega))) (ShH_fr hK.2.2.2.2.2.2.2 (fun i _ _ => by rw [e _ (by omega)]) (e _ (by omega)))
  by_cases c1 : b = 452
  · subst c1
    exact o.2 i (by unfold kSl at hb; omega)
  rw [e b (by unfold kSl at hb; omega)]
theorem QS_cv {h' : mm_H} (hQ : QS w h A) (o : VQ h h') : QS w h' A ∧ CN h h' := by
  obtain ⟨hW, hK, hc, hF⟩ := hQ
  refine ⟨⟨hW, VQ_HK hK o, cHist_gr hc ⟨Int.le_refl _, fun a a0 _ => ⟨rfl, o.1 a (by omega)⟩⟩ (fun b b0 b1 => o.1 b (by omega)) (o.1 2 (by decide)), ?_⟩, fun b b1 _ b3 => o.1 b (by omega), fun i _ => by rw [o.1 1 (by decide)]⟩
  unfold cFr
  rw [o.1 1 (by decide)]
  exact hF.imp id (fun x => ⟨x.1, cVw_fr x.2 (fun b b0 b1 => o.1 b (by omega))⟩)
theorem WK_Vc (hW : WK w) : VcW w := hW.2.2.2.1
theorem HK_Vc (hK : HK h) : VcH h := hK.2.2.2.1.2.2
theorem HK_16 (hK : HK h) : h 1 6 = 452 := hK.1.2.2.2.2.2.2.1
theorem E_copyLayer (hd : 2 ≤ d) (hW : VcW w) (hc : VcH h) (hS : sOk S) (hSW : ShW w S) (hI : aI s) (hR : RC w h S s) {p : Int} (hp : 0 ≤ p ∧ p < 4) : ∃ h', mm_P d 15 [(2, 452), (2, S), (0, p)] w h = some ((9, 0), w, h') ∧ VQ h h' ∧ LY h' (aCel s p) (aWi s) (aHi s) := by
  obtain ⟨d, rfl, hd2⟩ := mm_dS hd; clear hd; have hd := hd2; clear hd2
  have w4 := VcW_4 hW
  have wS : (w.1 S).1 = 9 := by rw [hSW.2.1]
  have hS2 : S < 452 ∨ 460 < S := by unfold sOk at hS; omega
  have i1 := hI.1; have i2 := hI.2.1
  rw [P_Cv_copyLayer, mF_t wS, mF_t w4]
  try dsimp only
  rw [mF_t wS, mF_t w4, mUp_row (show S ≠ 452 by omega), hR.2.1.1, hR.2.1.2.1, E_isProperty (by omega), mC_s, bI_t hp, mEq_f (by decide), mF_t wS, mF_t w4]
  generalize hg : mUp (mUp h 452 9 (aHi s)) 452 10 (aWi s) = h1
  have o1 : VQ h h1 := by rw [← hg]; exact ⟨fun o ho => by rw [mUp_row (by omega), mUp_row (by omega)], fun i hi => by rw [mUp_n (Or.inr (by omega)), mUp_n (Or.inr (by omega))]⟩
  have z9 : h1 452 9 = aHi s := by rw [← hg]; simp [mUp]
  have z10 : h1 452 10 = aWi s := by rw [← hg]; simp [mUp]
  have s4 : h1 S 4 = S + 2 := by rw [o1.1 S hS2]; exact hR.1.2.1
  have c6 : h1 452 6 = 459 := (VQ_H o1 hc) 6 (by decide) (by decide)
  have w459 : w.1 459 = (50, 256) := VcW_r hW (o := 459) (by decide)
  rw [s4, c6, mI_id (x := p * 256) (by omega) (by omega), mCy_t hSW.2.2.2.1 w459 (by have := hSW.1; omega) (by decide) (by omega) (by decide) (by decide) (by omega) (by decide)]
  refine ⟨mCpy h1 (S + 2) (p * 256) 459 0 256, rfl, VQ_tr o1 ⟨fun o ho => mCpy_row (by omega), fun i _ => by rw [mCpy_row (by decide)]⟩, ⟨by rw [mCpy_row (by decide)]; exact z9, by rw [mCpy_row (by decide)]; exact z10⟩, fun r c r0 r1 c0 c1 => ?_⟩
  rw [mCpy_in (by omega) (by omega), o1.1 (S + 2) (by unfold sOk at hS; omega), show p * 256 + (16 * r + c - 0) = 256 * p + 16 * r + c by omega]
  exact hR.2.2.2.1 p r c hp.1 hp.2 r0 r1 c0 c1
theorem E_cvTake (hd : 6 ≤ d) (hW : VcW w) (hc : VcH h) (hS : sOk S) (hSW : ShW w S) (hI : aI s) (hR : RC w h S s) {p : Int} (hp : 0 ≤ p ∧ p < 4) : ∃ h', mm_P d 14 [(2, 452), (2, S), (0, p)] w h = some ((0, cvN (aCel s p) (aWi s) (aHi s)), w, h') ∧ VQ h h' ∧ CCd h' (aCel s p) (aWi s) (aHi s) := by
  obtain ⟨d, rfl, hd2⟩ := mm_dS (show 5 + 1 ≤ d by omega)
  have w4 := VcW_4 hW
  obtain ⟨h1, x1, x2, x3⟩ := E_copyLayer (d := d) (by omega) hW hc hS hSW hI hR hp
  obtain ⟨h2, y1, y2, y3⟩ := E_build (d := d) (by omega) hW ⟨hI.1, hI.2.1⟩ (VQ_H x2 hc) x3
  rw [P_Cv_take, mF_t w4, x1, mC_s, mF_t w4, y1, mC_s]
  exact ⟨h2, rfl, VQ_tr x2 (VQ_CVf y2), y3⟩
noncomputable def cvP (s : aS) (p : Int) : Int := cvN (aCel s p) (aWi s) (aHi s)
noncomputable def fRects (A : aG) (p : Int) : Int := iC (0 ≤ p ∧ p < 4) (cvP (gNow A) p) (-2)
theorem E_F_rects (hd : 30 ≤ d) (hQ : QS w h A) (p : Int) : ∃ h', mm_P d 165 [(2, 1), (0, p)] w h = some ((0, fRects A p), w, h') ∧ QS w h' A ∧ CN h h' := by
  obtain ⟨d, rfl, hd2⟩ := mm_dS (show 29 + 1 ≤ d by omega)
  obtain ⟨n1, n2, n3⟩ := Q_now hQ
  have hW := hQ.1
  have hK := hQ.2.1
  have w1 : (w.1 1).1 = 12 := by rw [hW.1.1]
  have w4 := VcW_4 (WK_Vc hW)
  unfold fRects
  rw [P_F_rects, E_isProperty (by omega), mC_s]
  by_cases c1 : 0 ≤ p ∧ p < 4
  rotate_left
  · rw [bI_f c1, mEq_t rfl, iC_f c1]
    exact ⟨h, rfl, hQ, CN_rf h⟩
  obtain ⟨h1, x1, x2, x3⟩ := E_cvTake (d := d) (by omega) (WK_Vc hW) (HK_Vc hK) (gAt_ok (base := h 2 2) (k := gD A)) n1 n3 n2 c1
  rw [bI_t c1, mEq_f (by decide), mF_t w1, mF_t w1, E_now (by omega) hW hK hQ.2.2.1, mC_s, HK_16 hK, mF_t w4, x1, mC_s, iC_t c1]
  exact ⟨h1, rfl, QS_cv hQ x2⟩
noncomputable def rcA (s : aS) (p k q : Int) : Int := iC (k < cvP s p) (if q = 0 then rectC (cvD (aCel s p) (aWi s) (aHi s) (kSt (aCel s p) (aWi s) k) 0) (cvD (aCel s p) (aWi s) (aHi s) (kSt (aCel s p) (aWi s) k) 1) (cvD (aCel s p) (aWi s) (aHi s) (kSt (aCel s p) (aWi s) k) 2) (cvD (aCel s p) (aWi s) (aHi s) (kSt (aCel s p) (aWi s) k) 3) else cvD (aCel s p) (aWi s) (aHi s) (kSt (aCel s p) (aWi s) k) 4) (-1)
noncomputable def fRect (A : aG) (p k q : Int) : Int := iC ((0 ≤ p ∧ p < 4) ∧ 0 ≤ k ∧ (q = 0 ∨ q = 1)) (rcA (gNow A) p k q) (-2)
theorem E_F_rect (hd : 30 ≤ d) (hQ : QS w h A) (p k q : Int) : ∃ h', mm_P d 166 [(2, 1), (0, p), (0, k), (0, q)] w h = some ((0, fRect A p k q), w, h') ∧ QS w h' A ∧ CN h h' := by
  obtain ⟨d, rfl, hd2⟩ := mm_dS (show 29 + 1 ≤ d by omega)
  obtain ⟨n1, n2, n3⟩ := Q_now hQ
  have hW := hQ.1
  have hK := hQ.2.1
  have w1 : (w.1 1).1 = 12 := by rw [hW.1.1]
  have w4 := VcW_4 (WK_Vc hW)
  unfold fRect
  rw [P_F_rect, E_isProperty (by omega), mC_s]
  by_cases c1 : 0 ≤ p ∧ p < 4
  rotate_left
  · rw [bI_f c1, mEq_t rfl, iC_f (fun x => c1 x.1)]
    exact ⟨h, rfl, hQ, CN_rf h⟩
  rw [bI_t c1, mEq_f (by decide)]
  by_cases c2 : 0 ≤ k
  rotate_left
  · rw [mLt_t (by omega), iC_f (fun x => c2 x.2.1)]
    exact ⟨h, rfl, hQ, CN_rf h⟩
  rw [mLt_f c2, E_isFlag (by omega), mC_s]
  by_cases c3 : q = 0 ∨ q = 1
  rotate_left
  · rw [bI_f c3, mEq_t rfl, iC_f (fun x => c3 x.2.2)]
    exact ⟨h, rfl, hQ, CN_rf h⟩
  obtain ⟨h1, x1, x2, x3, x4, x5⟩ := E_cvTake (d := d) (by omega) (WK_Vc hW) (HK_Vc hK) (gAt_ok (base := h 2 2) (k := gD A)) n1 n3 n2 c1
  rw [bI_t c3, mEq_f (by decide), mF_t w1, mF_t w1, E_now (by omega) hW hK hQ.2.2.1, mC_s, HK_16 hK, mF_t w4, x1, mC_s, iC_t ⟨c1, c2, c3⟩]
  have fin := QS_cv hQ x2
  have nb := cvN_in (f := aCel (gNow A) p) (wi := aWi (gNow A)) (hi := aHi (gNow A)) ⟨by have := n3.1; omega, n3.1.2⟩
  have hc1 := HK_Vc fin.1.2.1
  unfold rcA cvP
  by_cases c4 : k < cvN (aCel (gNow A) p) (aWi (gNow A)) (aHi (gNow A))
  rotate_left
  · rw [mLt_f (by omega), iC_f c4]
    exact ⟨h1, rfl, fin⟩
  obtain ⟨y0, y1, y2, y3, y4⟩ := x4 k c2 c4
  have k6 : h1 1 6 = 452 := HK_16 fin.1.2.1
  rw [mLt_t c4, iC_t c4]
  by_cases q0 : q = 0
  · rw [mEq_t q0, if_pos q0, mF_t w1, k6, mF_t w4]
    obtain ⟨d, rfl, hd3⟩ := mm_dS (show 28 + 1 ≤ d by omega)
    rw [P_Cv_rectNumber, mF_t w4, hc1 0 (by decide) (by decide), E_peek_t (by omega) (VcW_r (WK_Vc hW) (o := 453 + 0) (by decide)) (by omega) (by omega), mC_s, mF_t w4, hc1 1 (by decide) (by decide), E_peek_t (by omega) (VcW_r (WK_Vc hW) (o := 453 + 1) (by decide)) (by omega) (by omega), mC_s, mF_t w4, hc1 2 (by decide) (by decide), E_peek_t (by omega) (VcW_r (WK_Vc hW) (o := 453 + 2) (by decide)) (by omega) (by omega), mC_s, mF_t w4, hc1 3 (by decide) (by decide), E_peek_t (by omega) (VcW_r (WK_Vc hW) (o := 453 + 3) (by decide)) (by omega) (by omega), mC_s, E_rectCode (by omega), mC_s, mC_s, show (453 : Int) + 0 = 453 by decide, show (453 : Int) + 1 = 454 by decide, show (453 : Int) + 2 = 455 by decide, show (453 : Int) + 3 = 456 by decide, y0, y1, y2, y3]
    exact ⟨h1, rfl, fin⟩
  · rw [mEq_f q0, if_neg q0, mF_t w1, k6, mF_t w4, hc1 4 (by decide) (by decide), E_peek_t (by omega) (VcW_r (WK_Vc hW) (o := 453 + 4) (by decide)) (by omega) (by omega), mC_s, show (453 : Int) + 4 = 457 by decide, y4]
    exact ⟨h1, rfl, fin⟩
noncomputable def fLies (A : aG) (n p : Int) : Int := iC (isCell (aHi (gNow A)) (aWi (gNow A)) n ∧ 0 ≤ p ∧ p < 4) (own (aCel (gNow A) p) (aWi (gNow A)) (n / 100) (n % 100)) (-2)
theorem E_F_lies (hd : 30 ≤ d) (hQ : QS w h A) {n : Int} (hn : n < 2147483648) (p : Int) : ∃ h', mm_P d 167 [(2, 1), (0, n), (0, p)] w h = some ((0, fLies A n p), w, h') ∧ QS w h' A ∧ CN h h' := by
  obtain ⟨d, rfl, hd2⟩ := mm_dS (show 29 + 1 ≤ d by omega)
  obtain ⟨n1, n2, n3⟩ := Q_now hQ
  have hW := hQ.1
  have hK := hQ.2.1
  have w1 : (w.1 1).1 = 12 := by rw [hW.1.1]
  have w4 := VcW_4 (WK_Vc hW)
  have wS : (w.1 (gAt (h 2 2) (gD A))).1 = 9 := by rw [n1.2.1]
  have i1 := n3.1; have i2 := n3.2.1
  unfold fLies
  rw [P_F_lies, mF_t w1, E_now (by omega) hW hK hQ.2.2.1, mC_s, mF_t wS, E_hasCell (by omega) n1 hn, mC_s, n2.2.1.1, n2.2.1.2.1]
  by_cases c0 : isCell (aHi (gNow A)) (aWi (gNow A)) n
  rotate_left
  · rw [bI_f c0, mEq_t rfl, iC_f (fun x => c0 x.1)]
    exact ⟨h, rfl, hQ, CN_rf h⟩
  rw [bI_t c0, mEq_f (by decide), E_isProperty (by omega), mC_s]
  by_cases c1 : 0 ≤ p ∧ p < 4
  rotate_left
  · rw [bI_f c1, mEq_t rfl, iC_f (fun x => c1 x.2)]
    exact ⟨h, rfl, hQ, CN_rf h⟩
  obtain ⟨h1, x1, x2, x3, x4, x5⟩ := E_cvTake (d := d) (by omega) (WK_Vc hW) (HK_Vc hK) (gAt_ok (base := h 2 2) (k := gD A)) n1 n3 n2 c1
  rw [bI_t c1, mEq_f (by decide), mF_t w1, mF_t w1, E_now (by omega) hW hK hQ.2.2.1, mC_s, HK_16 hK, mF_t w4, x1, mC_s, iC_t ⟨c0, c1⟩]
  have fin := QS_cv hQ x2
  have hc1 := HK_Vc fin.1.2.1
  have k6 : h1 1 6 = 452 := HK_16 fin.1.2.1
  have c0' := c0
  unfold isCell at c0'
  rw [mF_t w1, k6, mF_t w4, mD_t (by decide), mD_t (by decide), (n100 c0.1 hn).1, (n100 c0.1 hn).2, E_placeOf (by omega) (by omega) (by omega) (by omega) (by omega), mC_s, hc1 5 (by decide) (by decide), E_peek_t (by omega) (VcW_r (WK_Vc hW) (o := 453 + 5) (by decide)) (by omega) (by omega), mC_s, show (453 : Int) + 5 = 458 by decide, x5 (n / 100) (n % 100) (by omega) (by omega) (by omega) (by omega)]
  exact ⟨h1, rfl, fin⟩
end PU
