/-! PURE: a sheet of the class, read. -/
/-- a sheet's cells, in the world -/
def ShW (w : mm_W) (S : Int) : Prop := 0 < S ∧ w.1 S = (9, 9) ∧ w.1 (S + 1) = (50, 256) ∧ w.1 (S + 2) = (50, 1024) ∧ w.1 (S + 3) = (50, 128) ∧ w.1 (S + 4) = (50, 4) ∧ w.1 (S + 5) = (107, 6) ∧ w.1 (S + 6) = (7, 8) ∧ ∀ i : Int, 0 ≤ i → i < 6 → w.1 (S + 7 + i) = (7, 8)
/-- where a sheet's fields lead; its rules' objects are its own, in some order -/
def ShH (h : mm_H) (S : Int) : Prop := h S 3 = S + 1 ∧ h S 4 = S + 2 ∧ h S 5 = S + 3 ∧ h S 6 = S + 4 ∧ h S 7 = S + 5 ∧ h S 8 = S + 6 ∧ (∀ i : Int, 0 ≤ i → i < 6 → S + 7 ≤ h (S + 5) i ∧ h (S + 5) i < S + 13) ∧ ∀ i j : Int, 0 ≤ i → i < 6 → 0 ≤ j → j < 6 → h (S + 5) i = h (S + 5) j → i = j
section PU
variable {d : Nat} {w : mm_W} {h : mm_H} {S : Int}
theorem Sh_rul (hW : ShW w S) (hH : ShH h S) {i : Int} (h0 : 0 ≤ i) (h1 : i < 6) : w.1 (h (S + 5) i) = (7, 8) ∧ 0 < h (S + 5) i := by
  obtain ⟨a1, a2⟩ := hH.2.2.2.2.2.2.1 i h0 h1
  have := hW.2.2.2.2.2.2.2.2 (h (S + 5) i - S - 7) (by omega) (by omega)
  rw [show S + 7 + (h (S + 5) i - S - 7) = h (S + 5) i by omega] at this
  exact ⟨this, by have := hW.1; omega⟩
theorem E_size (hd : 1 ≤ d) (hW : ShW w S) (way : Int) : mm_P d 87 [(2, S), (0, way)] w h = some ((0, if way = 0 then h S 0 else h S 1), w, h) := by
  obtain ⟨d, rfl, hd2⟩ := mm_dS hd; have hd := hd2
  rw [P_Sh_size]
  by_cases h1 : way = 0
  · rw [mEq_t h1, mF_t (by rw [hW.2.1]), if_pos h1]
  · rw [mEq_f h1, mF_t (by rw [hW.2.1]), if_neg h1]
/-- a place on the sheet -/
def isCell (hi wi : Int) (n : Int) : Prop := 0 ≤ n ∧ n / 100 < hi ∧ n % 100 < wi
def isRect (hi wi : Int) (n : Int) : Prop := 0 ≤ n ∧ n / 1000000 ≤ n / 100 % 100 ∧ n / 100 % 100 < hi ∧ n / 10000 % 100 ≤ n % 100 ∧ n % 100 < wi
def isAB (si : Int) (n : Int) : Prop := 0 ≤ n ∧ n / 100 ≤ n % 100 ∧ n % 100 < si
theorem E_hasCell (hd : 1 ≤ d) (hW : ShW w S) {n : Int} (h1 : n < 2147483648) : mm_P d 88 [(2, S), (0, n)] w h = some ((0, bI (isCell (h S 0) (h S 1) n)), w, h) := by
  obtain ⟨d, rfl, hd2⟩ := mm_dS hd; have hd := hd2
  have hw : (w.1 S).1 = 9 := by rw [hW.2.1]
  rw [P_Sh_hasCell]
  unfold isCell
  by_cases c1 : n < 0
  · rw [mLt_t c1, mZ_0, bI_f (by omega)]
  rw [mLt_f (by omega), mD_t (by decide), mF_t hw, Int.tdiv_eq_ediv_of_nonneg (by omega), mI_id (by omega) (by omega)]
  by_cases c2 : h S 0 ≤ n / 100
  · rw [mLe_t c2, mZ_0, bI_f (by omega)]
  rw [mLe_f (by omega), mD_t (by decide), mF_t hw, Int.tmod_eq_emod_of_nonneg (by omega)]
  by_cases c3 : h S 1 ≤ n % 100
  · rw [mLe_t c3, mZ_0, bI_f (by omega)]
  rw [mLe_f (by omega), mZ_1, bI_t (by omega)]
theorem E_hasRect (hd : 2 ≤ d) (hW : ShW w S) {n : Int} (h1 : n < 2147483648) : mm_P d 89 [(2, S), (0, n)] w h = some ((0, bI (isRect (h S 0) (h S 1) n)), w, h) := by
  obtain ⟨d, rfl, hd2⟩ := mm_dS hd; have hd := hd2
  have hw : (w.1 S).1 = 9 := by rw [hW.2.1]
  rw [P_Sh_hasRect]
  unfold isRect
  by_cases c1 : n < 0
  · rw [mLt_t c1, mZ_0, bI_f (by omega)]
  rw [mLt_f (by omega), E_topOf hd (by omega) h1, mC_s, E_bottomOf hd (by omega) h1, mC_s]
  by_cases c2 : n / 100 % 100 < n / 1000000
  · rw [mLt_t c2, mZ_0, bI_f (by omega)]
  rw [mLt_f (by omega), E_bottomOf hd (by omega) h1, mC_s, mF_t hw]
  by_cases c3 : h S 0 ≤ n / 100 % 100
  · rw [mLe_t c3, mZ_0, bI_f (by omega)]
  rw [mLe_f (by omega), E_leftOf hd (by omega) h1, mC_s, E_rightOf hd (by omega) h1, mC_s]
  by_cases c4 : n % 100 < n / 10000 % 100
  · rw [mLt_t c4, mZ_0, bI_f (by omega)]
  rw [mLt_f (by omega), E_rightOf hd (by omega) h1, mC_s, mF_t hw]
  by_cases c5 : h S 1 ≤ n % 100
  · rw [mLe_t c5, mZ_0, bI_f (by omega)]
  rw [mLe_f (by omega), mZ_1, bI_t (by omega)]
theorem E_hasLines (hd : 2 ≤ d) (hW : ShW w S) (way : Int) {n : Int} (h1 : n < 2147483648) : mm_P d 90 [(2, S), (0, way), (0, n)] w h = some ((0, bI (isAB (if way = 0 then h S 0 else h S 1) n)), w, h) := by
  obtain ⟨d, rfl, hd2⟩ := mm_dS hd; have hd := hd2
  rw [P_Sh_hasLines]
  unfold isAB
  by_cases c1 : n < 0
  · rw [mLt_t c1, mZ_0, bI_f (by omega)]
  rw [mLt_f (by omega), mD_t (by decide), mD_t (by decide), Int.tdiv_eq_ediv_of_nonneg (by omega), mI_id (by omega) (by omega), Int.tmod_eq_emod_of_nonneg (by omega)]
  by_cases c2 : n % 100 < n / 100
  · rw [mLt_t c2, mZ_0, bI_f (by omega)]
  rw [mLt_f (by omega), mD_t (by decide), mF_t (by rw [hW.2.1]), E_size hd hW, mC_s]
  generalize (if way = 0 then h S 0 else h S 1) = q
  by_cases c3 : q ≤ n % 100
  · rw [mLe_t c3, mZ_0, bI_f (by omega)]
  rw [mLe_f (by omega), mZ_1, bI_t (by omega)]
theorem E_hasRule (hd : 1 ≤ d) (hW : ShW w S) (k : Int) : mm_P d 91 [(2, S), (0, k)] w h = some ((0, bI (0 ≤ k ∧ k < h S 2)), w, h) := by
  obtain ⟨d, rfl, hd2⟩ := mm_dS hd; have hd := hd2
  have hw : (w.1 S).1 = 9 := by rw [hW.2.1]
  simp only [P_Sh_hasRule, mLt, mLe, mZ_0, mZ_1, mF_t hw]
  repeat' split
  all_goals first | rfl | (rw [bI_t (by omega)]) | (rw [bI_f (by omega)]) | omega
theorem E_ruleAt (hd : 1 ≤ d) (hW : ShW w S) (hH : ShH h S) {k : Int} (h0 : 0 ≤ k) (h1 : k < 6) : mm_P d 92 [(2, S), (0, k)] w h = some ((2, h (S + 5) k), w, h) := by
  obtain ⟨d, rfl, hd2⟩ := mm_dS hd; have hd := hd2
  have hw : (w.1 S).1 = 9 := by rw [hW.2.1]
  have h5 := hW.2.2.2.2.2.2.1
  have hr := Sh_rul hW hH h0 h1
  rw [P_Sh_ruleAt, hH.2.2.2.2.1, mLt_f h0, mF_t hw, mN_t h5 (by decide), h5, mLe_f h1, mF_t hw, mAr_t h5 (by decide) h0 h1]
  show mEq _ 0 _ _ = _
  rw [mEq_f (by omega)]
theorem Sh_idx1 {r c : Int} (h0 : 0 ≤ r) (h1 : r < 16) (h2 : 0 ≤ c) (h3 : c < 16) : mI (mI (r * 16) + c) = 16 * r + c := by
  rw [mI_id (x := r * 16) (by omega) (by omega), mI_id (by omega) (by omega)]
  omega
theorem Sh_idx2 {p r c : Int} (hp : 0 ≤ p) (hp2 : p < 4) (h0 : 0 ≤ r) (h1 : r < 16) (h2 : 0 ≤ c) (h3 : c < 16) : mI (mI (mI (p * 256) + mI (r * 16)) + c) = 256 * p + 16 * r + c := by
  rw [mI_id (x := r * 16) (by omega) (by omega), mI_id (x := p * 256) (by omega) (by omega), mI_id (x := p * 256 + r * 16) (by omega) (by omega), mI_id (by omega) (by omega)]
  omega
theorem Sh_idx3 {y p i : Int} (hy : y = 0 ∨ y = 1) (hp : 0 ≤ p) (hp2 : p < 4) (h0 : 0 ≤ i) (h1 : i < 16) : mI (mI (mI (mI (y * 4) + p) * 16) + i) = 64 * y + 16 * p + i := by
  rw [mI_id (x := y * 4) (by omega) (by omega), mI_id (x := y * 4 + p) (by omega) (by omega), mI_id (x := (y * 4 + p) * 16) (by omega) (by omega), mI_id (by omega) (by omega)]
  omega
theorem E_valueOf (hd : 1 ≤ d) (hW : ShW w S) (hp3 : h S 3 = S + 1) {r c : Int} (h0 : 0 ≤ r) (h1 : r < 16) (h2 : 0 ≤ c) (h3 : c < 16) : mm_P d 93 [(2, S), (0, r), (0, c)] w h = some ((0, h (S + 1) (16 * r + c)), w, h) := by
  obtain ⟨d, rfl, hd2⟩ := mm_dS hd; have hd := hd2
  have hw : (w.1 S).1 = 9 := by rw [hW.2.1]
  have h5 := hW.2.2.1
  rw [P_Sh_valueOf]
  simp only [Sh_idx1 h0 h1 h2 h3]
  rw [hp3, mLt_f (by omega), mF_t hw, mN_t h5 (by decide), h5, mLe_f (show 16 * r + c < 256 by omega), mF_t hw, mA_t h5 (by omega) (by omega)]
theorem E_setValueOf (hd : 1 ≤ d) (hW : ShW w S) (hp3 : h S 3 = S + 1) {r c : Int} (v : Int) (h0 : 0 ≤ r) (h1 : r < 16) (h2 : 0 ≤ c) (h3 : c < 16) : mm_P d 94 [(2, S), (0, r), (0, c), (0, v)] w h = some ((9, 0), w, mUp h (S + 1) (16 * r + c) v) := by
  obtain ⟨d, rfl, hd2⟩ := mm_dS hd; have hd := hd2
  have hw : (w.1 S).1 = 9 := by rw [hW.2.1]
  have h5 := hW.2.2.1
  have := hW.1
  rw [P_Sh_setValueOf]
  simp only [Sh_idx1 h0 h1 h2 h3]
  rw [hp3, mLt_f (by omega), mF_t hw, mN_t h5 (by decide), h5, mLe_f (show 16 * r + c < 256 by omega), mF_t hw, mAw_t h5 (by omega) (by omega) (by omega)]
theorem E_cellFormat (hd : 1 ≤ d) (hW : ShW w S) (hp3 : h S 4 = S + 2) {p r c : Int} (hp : 0 ≤ p) (hp2 : p < 4) (h0 : 0 ≤ r) (h1 : r < 16) (h2 : 0 ≤ c) (h3 : c < 16) : mm_P d 95 [(2, S), (0, p), (0, r), (0, c)] w h = some ((0, h (S + 2) (256 * p + 16 * r + c)), w, h) := by
  obtain ⟨d, rfl, hd2⟩ := mm_dS hd; have hd := hd2
  have hw : (w.1 S).1 = 9 := by rw [hW.2.1]
  have h5 := hW.2.2.2.1
  rw [P_Sh_cellFormat]
  simp only [Sh_idx2 hp hp2 h0 h1 h2 h3]
  rw [hp3, mLt_f (by omega), mF_t hw, mN_t h5 (by decide), h5, mLe_f (show 256 * p + 16 * r + c < 1024 by omega), mF_t hw, mA_t h5 (by omega) (by omega)]
theorem E_setCellFormat (hd : 1 ≤ d) (hW : ShW w S) (hp3 : h S 4 = S + 2) {p r c : Int} (v : Int) (hp : 0 ≤ p) (hp2 : p < 4) (h0 : 0 ≤ r) (h1 : r < 16) (h2 : 0 ≤ c) (h3 : c < 16) : mm_P d 96 [(2, S), (0, p), (0, r), (0, c), (0, v)] w h = some ((9, 0), w, mUp h (S + 2) (256 * p + 16 * r + c) v) := by
  obtain ⟨d, rfl, hd2⟩ := mm_dS hd; have hd := hd2
  have hw : (w.1 S).1 = 9 := by rw [hW.2.1]
  have h5 := hW.2.2.2.1
  have := hW.1
  rw [P_Sh_setCellFormat]
  simp only [Sh_idx2 hp hp2 h0 h1 h2 h3]
  rw [hp3, mLt_f (by omega), mF_t hw, mN_t h5 (by decide), h5, mLe_f (show 256 * p + 16 * r + c < 1024 by omega), mF_t hw, mAw_t h5 (by omega) (by omega) (by omega)]
theorem E_lineFormat (hd : 1 ≤ d) (hW : ShW w S) (hp3 : h S 5 = S + 3) {y p i : Int} (hy : y = 0 ∨ y = 1) (hp : 0 ≤ p) (hp2 : p < 4) (h0 : 0 ≤ i) (h1 : i < 16) : mm_P d 97 [(2, S), (0, y), (0, p), (0, i)] w h = some ((0, h (S + 3) (64 * y + 16 * p + i)), w, h) := by
  obtain ⟨d, rfl, hd2⟩ := mm_dS hd; have hd := hd2
  have hw : (w.1 S).1 = 9 := by rw [hW.2.1]
  have h5 := hW.2.2.2.2.1
  rw [P_Sh_lineFormat]
  simp only [Sh_idx3 hy hp hp2 h0 h1]
  rw [hp3, mLt_f (by omega), mF_t hw, mN_t h5 (by decide), h5, mLe_f (show 64 * y + 16 * p + i < 128 by omega), mF_t hw, mA_t h5 (by omega) (by omega)]
theorem E_setLineFormat (hd : 1 ≤ d) (hW : ShW w S) (hp3 : h S 5 = S + 3) {y p i : Int} (v : Int) (hy : y = 0 ∨ y = 1) (hp : 0 ≤ p) (hp2 : p < 4) (h0 : 0 ≤ i) (h1 : i < 16) : mm_P d 98 [(2, S), (0, y), (0, p), (0, i), (0, v)] w h = some ((9, 0), w, mUp h (S + 3) (64 * y + 16 * p + i) v) := by
  obtain ⟨d, rfl, hd2⟩ := mm_dS hd; have hd := hd2
  have hw : (w.1 S).1 = 9 := by rw [hW.2.1]
  have h5 := hW.2.2.2.2.1
  have := hW.1
  rw [P_Sh_setLineFormat]
  simp only [Sh_idx3 hy hp hp2 h0 h1]
  rw [hp3, mLt_f (by omega), mF_t hw, mN_t h5 (by decide), h5, mLe_f (show 64 * y + 16 * p + i < 128 by omega), mF_t hw, mAw_t h5 (by omega) (by omega) (by omega)]
/-- what lies beneath a cell, of a sheet's rows -/
def benA (lin gro : Int → Int) (p r c : Int) : Int := if lin (16 * p + r) ≠ -1 then lin (16 * p + r) else if lin (64 + 16 * p + c) ≠ -1 then lin (64 + 16 * p + c) else gro p
theorem E_beneath (hd : 2 ≤ d) (hW : ShW w S) (hH : ShH h S) {p r c : Int} (hp : 0 ≤ p) (hp2 : p < 4) (h0 : 0 ≤ r) (h1 : r < 16) (h2 : 0 ≤ c) (h3 : c < 16) : mm_P d 99 [(2, S), (0, p), (0, r), (0, c)] w h = some ((0, benA (h (S + 3)) (h (S + 4)) p r c), w, h) := by
  obtain ⟨d, rfl, hd2⟩ := mm_dS hd; have hd := hd2
  have hw : (w.1 S).1 = 9 := by rw [hW.2.1]
  rw [P_Sh_beneath, mF_t hw, E_lineFormat hd hW hH.2.2.1 (Or.inl rfl) hp hp2 h0 h1, mC_s, mF_t hw, E_lineFormat hd hW hH.2.2.1 (Or.inr rfl) hp hp2 h2 h3]
  simp only [mC_s, mF_t hw, hH.2.2.2.1, E_peek_t hd hW.2.2.2.2.2.1 hp hp2, mEq, benA]
  rw [show 64 * 0 + 16 * p + r = 16 * p + r by omega, show (64 : Int) * 1 + 16 * p + c = 64 + 16 * p + c by omega]
  repeat' split
  all_goals first | rfl | (rw [bI_t (by omega)]) | (rw [bI_f (by omega)]) | omega
theorem E_isNeedless (hd : 3 ≤ d) (hW : ShW w S) (hH : ShH h S) {p r c : Int} (hp : 0 ≤ p) (hp2 : p < 4) (h0 : 0 ≤ r) (h1 : r < 16) (h2 : 0 ≤ c) (h3 : c < 16) : mm_P d 100 [(2, S), (0, p), (0, r), (0, c)] w h = some ((0, bI (h (S + 2) (256 * p + 16 * r + c) ≠ -1 ∧ h (S + 2) (256 * p + 16 * r + c) = benA (h (S + 3)) (h (S + 4)) p r c)), w, h) := by
  obtain ⟨d, rfl, hd2⟩ := mm_dS hd; have hd := hd2
  have hw : (w.1 S).1 = 9 := by rw [hW.2.1]
  rw [P_Sh_isNeedless, mF_t hw, E_cellFormat (by omega) hW hH.2.1 hp hp2 h0 h1 h2 h3, mC_s]
  simp only [mF_t hw, E_beneath hd hW hH hp hp2 h0 h1 h2 h3, mC_s, mEq, mZ_0, mZ_1]
  repeat' split
  all_goals first | rfl | (rw [bI_t (by omega)]) | (rw [bI_f (by omega)]) | omega
end PU
