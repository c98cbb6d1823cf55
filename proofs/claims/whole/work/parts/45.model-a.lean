/-! PURE: the reference's small methods. -/
theorem mCmp_lt {α : Type} {x y : Int} {a b : α} : mLt (mCmp x y) 0 a b = mLt x y a b := by
  unfold mLt mCmp
  repeat' split
  all_goals first | rfl | (rw [bI_t (by omega)]) | (rw [bI_f (by omega)]) | omega
theorem mCmp_gt {α : Type} {x y : Int} {a b : α} : mLt 0 (mCmp x y) a b = mLt y x a b := by
  unfold mLt mCmp
  repeat' split
  all_goals first | rfl | (rw [bI_t (by omega)]) | (rw [bI_f (by omega)]) | omega
theorem mCmp_le {α : Type} {x y : Int} {a b : α} : mLe (mCmp x y) 0 a b = mLe x y a b := by
  unfold mLe mCmp
  repeat' split
  all_goals first | rfl | (rw [bI_t (by omega)]) | (rw [bI_f (by omega)]) | omega
theorem mCmp_ge {α : Type} {x y : Int} {a b : α} : mLe 0 (mCmp x y) a b = mLe y x a b := by
  unfold mLe mCmp
  repeat' split
  all_goals first | rfl | (rw [bI_t (by omega)]) | (rw [bI_f (by omega)]) | omega
theorem mCmp_eq {α : Type} {x y : Int} {a b : α} : mEq (mCmp x y) 0 a b = mEq x y a b := by
  unfold mEq mCmp
  repeat' split
  all_goals first | rfl | (rw [bI_t (by omega)]) | (rw [bI_f (by omega)]) | omega
theorem mZ_b {α : Type} {P : Prop} {bot k : α} : mZ (bI P) bot k = k := if_pos (bI_01 P)
/-- the reference's cells in the world -/
def MW (w : mm_W) : Prop := w.1 483 = (13, 51) ∧ w.1 484 = (50, 3863) ∧ w.1 485 = (50, 119753) ∧ w.1 486 = (50, 3863) ∧ w.1 487 = (50, 3863) ∧ w.1 488 = (50, 16) ∧ w.1 489 = (50, 1024) ∧ w.1 490 = (50, 200) ∧ w.1 491 = (50, 400) ∧ w.1 492 = (53, 10) ∧ w.1 493 = (50, 408) ∧ w.1 494 = (52, 1536) ∧ w.1 495 = (53, 400) ∧ w.1 496 = (50, 1280) ∧ w.1 497 = (50, 289) ∧ w.1 498 = (52, 10000) ∧ w.1 499 = (50, 17) ∧ w.1 500 = (50, 324) ∧ w.1 501 = (50, 256) ∧ w.1 502 = (51, 240) ∧ w.1 503 = (50, 4) ∧ w.1 504 = (50, 1600) ∧ w.1 505 = (50, 4)
/-- where its fields lead -/
def MH (h : mm_H) : Prop := h 483 0 = 484 ∧ h 483 1 = 485 ∧ h 483 5 = 486 ∧ h 483 7 = 487 ∧ h 483 12 = 488 ∧ h 483 13 = 489 ∧ h 483 14 = 490 ∧ h 483 21 = 491 ∧ h 483 24 = 492 ∧ h 483 25 = 493 ∧ h 483 26 = 494 ∧ h 483 27 = 495 ∧ h 483 31 = 496 ∧ h 483 34 = 497 ∧ h 483 35 = 498 ∧ h 483 36 = 499 ∧ h 483 37 = 500 ∧ h 483 38 = 501 ∧ h 483 39 = 502 ∧ h 483 40 = 503 ∧ h 483 41 = 504 ∧ h 483 42 = 505
/-- the fields that hold references -/
def mRef (i : Int) : Prop := i = 0 ∨ i = 1 ∨ i = 5 ∨ i = 7 ∨ i = 12 ∨ i = 13 ∨ i = 14 ∨ i = 21 ∨ (24 ≤ i ∧ i ≤ 27) ∨ i = 31 ∨ (34 ≤ i ∧ i ≤ 42)
theorem MH_fr {h h' : mm_H} (hM : MH h) (hf : ∀ i : Int, mRef i → h' 483 i = h 483 i) : MH h' := by
  unfold mRef at hf
  unfold MH at hM ⊢
  refine ⟨?_, ?_, ?_, ?_, ?_, ?_, ?_, ?_, ?_, ?_, ?_, ?_, ?_, ?_, ?_, ?_, ?_, ?_, ?_, ?_, ?_, ?_⟩ <;> (rw [hf _ (by omega)]; simp only [hM])
section PU
variable {d : Nat} {w : mm_W} {h : mm_H}
theorem E_M_in (hd : 1 ≤ d) (a b c : Int) : mm_P d 214 [(1, a), (1, b), (1, c)] w h = some ((0, bI (b ≤ a ∧ a ≤ c)), w, h) := by
  obtain ⟨d, rfl, hd2⟩ := mm_dS hd; have hd := hd2
  rw [P_M_in, mCmp_lt, mCmp_gt]
  simp only [mLt, mZ_0, mZ_1]
  repeat' split
  all_goals first | rfl | (rw [bI_t (by omega)]) | (rw [bI_f (by omega)]) | omega
theorem E_M_isProperty (hd : 2 ≤ d) (p : Int) : mm_P d 215 [(0, p)] w h = some ((0, bI (0 ≤ p ∧ p < 4)), w, h) := by
  obtain ⟨d, rfl, hd2⟩ := mm_dS hd; have hd := hd2
  rw [P_M_isProperty, E_M_in hd, mC_s, mZ_b, bI_eq (Q := 0 ≤ p ∧ p < 4) (by omega)]
theorem E_M_isTold (hd : 2 ≤ d) (p : Int) : mm_P d 216 [(0, p)] w h = some ((0, bI (-1 ≤ p ∧ p ≤ 9)), w, h) := by
  obtain ⟨d, rfl, hd2⟩ := mm_dS hd; have hd := hd2
  rw [P_M_isTold, E_M_in hd, mC_s, mZ_b]
theorem E_M_isShelf (hd : 2 ≤ d) (p : Int) : mm_P d 314 [(0, p)] w h = some ((0, bI (0 ≤ p ∧ p < 4)), w, h) := by
  obtain ⟨d, rfl, hd2⟩ := mm_dS hd; have hd := hd2
  rw [P_M_isShelf, E_M_in hd, mC_s, mZ_b, bI_eq (Q := 0 ≤ p ∧ p < 4) (by omega)]
theorem E_M_isRect (hd : 1 ≤ d) (hW : MW w) (hH : MH h) (t l b r : Int) : mm_P d 225 [(2, 483), (1, t), (1, l), (1, b), (1, r)] w h = some ((0, bI (0 ≤ t ∧ 0 ≤ l ∧ t ≤ b ∧ l ≤ r ∧ b < h 484 0 ∧ r < h 484 1)), w, h) := by
  obtain ⟨d, rfl, hd2⟩ := mm_dS hd; have hd := hd2
  rw [P_M_isRect]
  simp only [mCmp_lt, mCmp_gt, mCmp_ge, mF_t (show (w.1 483).1 = 13 by rw [hW.1]), hH.1, mA_t hW.2.1 (show (0 : Int) ≤ 0 by decide) (show (0 : Int) < 3863 by decide), mA_t hW.2.1 (show (0 : Int) ≤ 1 by decide) (show (1 : Int) < 3863 by decide)]
  simp only [mLt, mLe, mZ_0, mZ_1]
  repeat' split
  all_goals first | rfl | (rw [bI_t (by omega)]) | (rw [bI_f (by omega)]) | omega
theorem E_M_takesRect_f (hd : 1 ≤ d) {n : Int} (hn : n < 0) : mm_P d 226 [(2, 483), (0, n)] w h = some ((0, 0), w, h) := by
  obtain ⟨d, rfl, hd2⟩ := mm_dS hd; have hd := hd2
  rw [P_M_takesRect, mLe_f hn, mZ_0]
/-- the told rectangle's places are kept -/
def mTk (h : mm_H) (n : Int) : mm_H := mUp (mUp (mUp (mUp h 483 8 (n / 1000000)) 483 9 (n / 10000 % 100)) 483 10 (n / 100 % 100)) 483 11 (n % 100)
theorem mTk_row (h : mm_H) (n : Int) {b : Int} (hb : b ≠ 483) : mTk h n b = h b := by unfold mTk; rw [mUp_row hb, mUp_row hb, mUp_row hb, mUp_row hb]
theorem mTk_o (h : mm_H) (n : Int) {i : Int} (hi : i < 8 ∨ 11 < i) : mTk h n 483 i = h 483 i := by unfold mTk; rw [mUp_n (by omega), mUp_n (by omega), mUp_n (by omega), mUp_n (by omega)]
theorem mTk_8 (h : mm_H) (n : Int) : mTk h n 483 8 = n / 1000000 ∧ mTk h n 483 9 = n / 10000 % 100 ∧ mTk h n 483 10 = n / 100 % 100 ∧ mTk h n 483 11 = n % 100 := by
  refine ⟨?_, ?_, ?_, ?_⟩ <;> simp [mTk, mUp]
theorem MH_Tk {h : mm_H} (hM : MH h) (n : Int) : MH (mTk h n) := MH_fr hM (fun i hi => mTk_o h n (by unfold mRef at hi; omega))
theorem E_M_takesRect (hd : 2 ≤ d) (hW : MW w) (hH : MH h) {n : Int} (h0 : 0 ≤ n) (h1 : n < 2147483648) : mm_P d 226 [(2, 483), (0, n)] w h = some ((0, bI (isRect (h 484 0) (h 484 1) n)), w, mTk h n) := by
  obtain ⟨d, rfl, hd2⟩ := mm_dS hd; have hd := hd2
  have hw : (w.1 483).1 = 13 := by rw [hW.1]
  rw [P_M_takesRect, mLe_t h0]
  simp only [mF_t hw, mD_t (show (1000000 : Int) ≠ 0 by decide), mD_t (show (10000 : Int) ≠ 0 by decide), mD_t (show (100 : Int) ≠ 0 by decide)]
  rw [Int.tdiv_eq_ediv_of_nonneg h0, Int.tdiv_eq_ediv_of_nonneg h0, Int.tdiv_eq_ediv_of_nonneg h0, mI_id (x := n / 1000000) (by omega) (by omega), mI_id (x := n / 10000) (by omega) (by omega), mI_id (x := n / 100) (by omega) (by omega), Int.tmod_eq_emod_of_nonneg h0, Int.tmod_eq_emod_of_nonneg (show 0 ≤ n / 10000 by omega), Int.tmod_eq_emod_of_nonneg (show 0 ≤ n / 100 by omega)]
  have e := mTk_8 h n
  show mC (mm_P d 225 [(2, 483), (1, mTk h n 483 8), (1, mTk h n 483 9), (1, mTk h n 483 10), (1, mTk h n 483 11)] w (mTk h n)) 0 none _ = _
  rw [E_M_isRect hd hW (MH_Tk hH n), mC_s, mZ_b, e.1, e.2.1, e.2.2.1, e.2.2.2, mTk_row h n (by decide)]
  rw [bI_eq (Q := isRect (h 484 0) (h 484 1) n) (by unfold isRect; omega)]
theorem E_M_isCell (hd : 1 ≤ d) (hW : MW w) (hH : MH h) {n : Int} (h1 : n < 2147483648) : mm_P d 227 [(2, 483), (0, n)] w h = some ((0, bI (isCell (h 484 0) (h 484 1) n)), w, h) := by
  obtain ⟨d, rfl, hd2⟩ := mm_dS hd; have hd := hd2
  have hw : (w.1 483).1 = 13 := by rw [hW.1]
  rw [P_M_isCell]
  unfold isCell
  by_cases c1 : n < 0
  · rw [mLt_t c1, mZ_0, bI_f (by omega)]
  rw [mLt_f (by omega), mD_t (by decide), mF_t hw, hH.1, mA_t hW.2.1 (by decide) (by decide), Int.tdiv_eq_ediv_of_nonneg (by omega), mI_id (by omega) (by omega)]
  by_cases c2 : h 484 0 ≤ n / 100
  · rw [mLe_t c2, mZ_0, bI_f (by omega)]
  rw [mLe_f (by omega), mD_t (by decide), mF_t hw, mA_t hW.2.1 (by decide) (by decide), Int.tmod_eq_emod_of_nonneg (by omega)]
  by_cases c3 : h 484 1 ≤ n % 100
  · rw [mLe_t c3, mZ_0, bI_f (by omega)]
  rw [mLe_f (by omega), mZ_1, bI_t (by omega)]
theorem E_M_isLines (hd : 1 ≤ d) (hW : MW w) (hH : MH h) {y : Int} (hy : y = 0 ∨ y = 1) (a b : Int) : mm_P d 228 [(2, 483), (0, y), (0, a), (0, b)] w h = some ((0, bI (0 ≤ a ∧ a ≤ b ∧ b < h 484 y)), w, h) := by
  obtain ⟨d, rfl, hd2⟩ := mm_dS hd; have hd := hd2
  have hw : (w.1 483).1 = 13 := by rw [hW.1]
  rw [P_M_isLines, mF_t hw, hH.1, mA_t hW.2.1 (by omega) (by omega)]
  simp only [mLt, mLe, mZ_0, mZ_1]
  repeat' split
  all_goals first | rfl | (rw [bI_t (by omega)]) | (rw [bI_f (by omega)]) | omega
theorem E_M_grid (hd : 1 ≤ d) {r c : Int} (h0 : -1000 ≤ r) (h1 : r < 1000) (h2 : -1000 ≤ c) (h3 : c < 1000) : mm_P d 229 [(0, r), (0, c)] w h = some ((0, 16 * r + c), w, h) := by
  obtain ⟨d, rfl, hd2⟩ := mm_dS hd; have hd := hd2
  rw [P_M_grid, mI_id (x := 16 * r) (by omega) (by omega), mI_id (by omega) (by omega)]
theorem E_M_crossed (hd : 2 ≤ d) {y a x : Int} (hy : y = 0 ∨ y = 1) (h0 : -1000 ≤ a) (h1 : a < 1000) (h2 : -1000 ≤ x) (h3 : x < 1000) : mm_P d 230 [(0, y), (0, a), (0, x)] w h = some ((0, if y = 0 then 16 * a + x else 16 * x + a), w, h) := by
  obtain ⟨d, rfl, hd2⟩ := mm_dS hd; have hd := hd2
  rcases hy with rfl | rfl
  · rw [P_M_crossed, mEq_t rfl, E_M_grid hd h0 h1 h2 h3, mC_s, if_pos rfl]
  · rw [P_M_crossed, mEq_f (by decide), E_M_grid hd h2 h3 h0 h1, mC_s, if_neg (by decide)]
theorem E_M_lined (hd : 1 ≤ d) {y p i : Int} (hy : y = 0 ∨ y = 1) (hp : 0 ≤ p ∧ p < 4) (h0 : -1000 ≤ i) (h1 : i < 1000) : mm_P d 231 [(0, y), (0, p), (0, i)] w h = some ((0, 7 + 64 * y + 16 * p + i), w, h) := by
  obtain ⟨d, rfl, hd2⟩ := mm_dS hd; have hd := hd2
  rw [P_M_lined, mI_id (x := 4 * y) (by omega) (by omega), mI_id (x := 4 * y + p) (by omega) (by omega), mI_id (x := (4 * y + p) * 16) (by omega) (by omega), mI_id (x := 7 + (4 * y + p) * 16) (by omega) (by omega), mI_id (by omega) (by omega), show 7 + (4 * y + p) * 16 + i = 7 + 64 * y + 16 * p + i by omega]
theorem E_M_own (hd : 2 ≤ d) (hW : MW w) (hH : MH h) {p r c : Int} (hp : 0 ≤ p ∧ p < 4) (hr : 0 ≤ r ∧ r < 16) (hc : 0 ≤ c ∧ c < 16) : mm_P d 232 [(2, 483), (0, p), (0, r), (0, c)] w h = some ((0, h 484 (391 + 256 * p + 16 * r + c)), w, h) := by
  obtain ⟨d, rfl, hd2⟩ := mm_dS hd; have hd := hd2
  rw [P_M_own, mF_t (by rw [hW.1]), E_M_grid hd (by omega) (by omega) (by omega) (by omega), mC_s, hH.1, mI_id (x := 256 * p) (by omega) (by omega), mI_id (x := 391 + 256 * p) (by omega) (by omega), mI_id (by omega) (by omega), mA_t hW.2.1 (by omega) (by omega), show 391 + 256 * p + (16 * r + c) = 391 + 256 * p + 16 * r + c by omega]
theorem E_M_valueIn (hd : 2 ≤ d) (hW : MW w) (hH : MH h) {r c : Int} (hr : -1 ≤ r ∧ r < 16) (hc : -1 ≤ c ∧ c < 16) : mm_P d 279 [(2, 483), (0, r), (0, c)] w h = some ((0, if r < 0 ∨ c < 0 then 0 else h 484 (135 + 16 * r + c)), w, h) := by
  obtain ⟨d, rfl, hd2⟩ := mm_dS hd; have hd := hd2
  rw [P_M_valueIn]
  by_cases c1 : r < 0
  · rw [mLt_t c1, if_pos (Or.inl c1)]
  rw [mLt_f (by omega)]
  by_cases c2 : c < 0
  · rw [mLe_f c2, if_pos (Or.inr c2)]
  rw [mLe_t (by omega), mF_t (by rw [hW.1]), E_M_grid hd (by omega) (by omega) (by omega) (by omega), mC_s, hH.1, mI_id (by omega) (by omega), mA_t hW.2.1 (by omega) (by omega), if_neg (by omega), show 135 + (16 * r + c) = 135 + 16 * r + c by omega]
theorem E_M_isRule (hd : 2 ≤ d) (hW : MW w) (hH : MH h) (k : Int) (hn : 0 ≤ h 484 2 ∧ h 484 2 ≤ 6) : mm_P d 276 [(2, 483), (0, k)] w h = some ((0, bI (0 ≤ k ∧ k < h 484 2)), w, h) := by
  obtain ⟨d, rfl, hd2⟩ := mm_dS hd; have hd := hd2
  rw [P_M_isRule, mF_t (by rw [hW.1]), hH.1, mA_t hW.2.1 (by decide) (by decide)]
  first | rw [mI_id (by omega) (by omega), E_M_in hd, mC_s, mZ_b, bI_eq (Q := 0 ≤ k ∧ k < h 484 2) (by omega)] | rw [mJ_id (by omega) (by omega), E_M_in hd, mC_s, mZ_b, bI_eq (Q := 0 ≤ k ∧ k < h 484 2) (by omega)]
/-- what lies beneath a cell, of a sheet -/
def aBen (s : aS) (p r c : Int) : Int := if aLin s 0 p r ≠ -1 then aLin s 0 p r else if aLin s 1 p c ≠ -1 then aLin s 1 p c else aGro s p
theorem E_M_beneath (hd : 2 ≤ d) (hW : MW w) (hH : MH h) {s : aS} (hI : aI s) (hR : RM (h 484) s) {p r c : Int} (hp : 0 ≤ p ∧ p < 4) (hr : 0 ≤ r ∧ r < aHi s) (hc : 0 ≤ c ∧ c < aWi s) : mm_P d 251 [(2, 483), (0, p), (0, r), (0, c)] w h = some ((0, aBen s p r c), w, h) := by
  obtain ⟨d, rfl, hd2⟩ := mm_dS hd; have hd := hd2
  have h1 := hI.1; have h2 := hI.2.1
  have e1 := hR.2.2.2.1 p r hp.1 hp.2 hr.1 hr.2
  have e2 := hR.2.2.2.2.1 p c hp.1 hp.2 hc.1 hc.2
  have e3 := hR.2.2.2.2.2.1 p hp.1 hp.2
  rw [P_M_beneath]
  simp only [mF_t (show (w.1 483).1 = 13 by rw [hW.1]), E_M_lined hd (Or.inl rfl) hp (show -1000 ≤ r by omega) (show r < 1000 by omega), E_M_lined hd (Or.inr rfl) hp (show -1000 ≤ c by omega) (show c < 1000 by omega), mC_s, hH.1, mI_id (show -2147483648 ≤ 3 + p by omega) (show 3 + p < 2147483648 by omega), mA_t hW.2.1 (show 0 ≤ 7 + 64 * 0 + 16 * p + r by omega) (show 7 + 64 * 0 + 16 * p + r < 3863 by omega), mA_t hW.2.1 (show 0 ≤ 7 + 64 * 1 + 16 * p + c by omega) (show 7 + 64 * 1 + 16 * p + c < 3863 by omega), mA_t hW.2.1 (show 0 ≤ 3 + p by omega) (show 3 + p < 3863 by omega)]
  rw [show 7 + 64 * 0 + 16 * p + r = 7 + 16 * p + r by omega, show 7 + 64 * 1 + 16 * p + c = 71 + 16 * p + c by omega, e1, e2, e3]
  simp only [mEq, aBen]
  repeat' split
  all_goals first | rfl | (rw [bI_t (by omega)]) | (rw [bI_f (by omega)]) | omega
end PU
