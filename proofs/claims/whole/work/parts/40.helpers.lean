/-! PURE: the class's small methods. -/
section PU
variable {d : Nat} {w : mm_W} {h : mm_H}
/-- a row's element where the index is on it, else 0 -/
def pk (n : Int) (f : Int → Int) (i : Int) : Int := if 0 ≤ i ∧ i < n then f i else 0
theorem pk_t {n : Int} {f : Int → Int} {i : Int} (h1 : 0 ≤ i) (h2 : i < n) : pk n f i = f i := if_pos ⟨h1, h2⟩
theorem pk_f {n : Int} {f : Int → Int} {i : Int} (h1 : i < 0 ∨ n ≤ i) : pk n f i = 0 := if_neg (by omega)
theorem E_isProperty (hd : 1 ≤ d) (p : Int) : mm_P d 203 [(0, p)] w h = some ((0, bI (0 ≤ p ∧ p < 4)), w, h) := by
  obtain ⟨d, rfl, hd2⟩ := mm_dS hd; have hd := hd2
  simp only [P_F_isProperty, mLt, mLe, mEq, mZ_0, mZ_1]
  repeat' split
  all_goals first | rfl | (rw [bI_t (by omega)]) | (rw [bI_f (by omega)]) | omega
theorem E_isNumber (hd : 1 ≤ d) (p : Int) : mm_P d 204 [(0, p)] w h = some ((0, bI (0 ≤ p ∧ p ≤ 9)), w, h) := by
  obtain ⟨d, rfl, hd2⟩ := mm_dS hd; have hd := hd2
  simp only [P_F_isNumber, mLt, mLe, mEq, mZ_0, mZ_1]
  repeat' split
  all_goals first | rfl | (rw [bI_t (by omega)]) | (rw [bI_f (by omega)]) | omega
theorem E_isFlag (hd : 1 ≤ d) (p : Int) : mm_P d 206 [(0, p)] w h = some ((0, bI (p = 0 ∨ p = 1)), w, h) := by
  obtain ⟨d, rfl, hd2⟩ := mm_dS hd; have hd := hd2
  simp only [P_F_isFlag, mLt, mLe, mEq, mZ_0, mZ_1]
  repeat' split
  all_goals first | rfl | (rw [bI_t (by omega)]) | (rw [bI_f (by omega)]) | omega
theorem E_isShelf (hd : 1 ≤ d) (p : Int) : mm_P d 193 [(0, p)] w h = some ((0, bI (0 ≤ p ∧ p < 4)), w, h) := by
  obtain ⟨d, rfl, hd2⟩ := mm_dS hd; have hd := hd2
  simp only [P_F_isShelf, mLt, mLe, mEq, mZ_0, mZ_1]
  repeat' split
  all_goals first | rfl | (rw [bI_t (by omega)]) | (rw [bI_f (by omega)]) | omega
theorem E_isFormat (hd : 2 ≤ d) (p : Int) : mm_P d 205 [(0, p)] w h = some ((0, bI (-1 ≤ p ∧ p ≤ 9)), w, h) := by
  obtain ⟨d, rfl, hd2⟩ := mm_dS hd; have hd := hd2
  rw [P_F_isFormat]
  by_cases c1 : p = -1
  · rw [mEq_t c1, mZ_1, bI_t (by omega)]
  · rw [mEq_f c1, E_isNumber hd, mC_s]
    by_cases c2 : 0 ≤ p ∧ p ≤ 9
    · rw [bI_t c2, mEq_f (by decide), mZ_1, bI_t (by omega)]
    · rw [bI_f c2, mEq_t rfl, mZ_0, bI_f (by omega)]
theorem E_topOf (hd : 1 ≤ d) {r : Int} (h0 : 0 ≤ r) (h1 : r < 2147483648) : mm_P d 207 [(0, r)] w h = some ((0, r / 1000000), w, h) := by
  obtain ⟨d, rfl, hd2⟩ := mm_dS hd; have hd := hd2
  rw [P_F_topOf, mD_t (by decide), Int.tdiv_eq_ediv_of_nonneg h0, mI_id (by omega) (by omega)]
theorem E_leftOf (hd : 1 ≤ d) {r : Int} (h0 : 0 ≤ r) (h1 : r < 2147483648) : mm_P d 208 [(0, r)] w h = some ((0, r / 10000 % 100), w, h) := by
  obtain ⟨d, rfl, hd2⟩ := mm_dS hd; have hd := hd2
  rw [P_F_leftOf, mD_t (by decide), mD_t (by decide), Int.tdiv_eq_ediv_of_nonneg h0, mI_id (by omega) (by omega), Int.tmod_eq_emod_of_nonneg (by omega)]
theorem E_bottomOf (hd : 1 ≤ d) {r : Int} (h0 : 0 ≤ r) (h1 : r < 2147483648) : mm_P d 209 [(0, r)] w h = some ((0, r / 100 % 100), w, h) := by
  obtain ⟨d, rfl, hd2⟩ := mm_dS hd; have hd := hd2
  rw [P_F_bottomOf, mD_t (by decide), mD_t (by decide), Int.tdiv_eq_ediv_of_nonneg h0, mI_id (by omega) (by omega), Int.tmod_eq_emod_of_nonneg (by omega)]
theorem E_rightOf (hd : 1 ≤ d) {r : Int} (h0 : 0 ≤ r) (h1 : r < 2147483648) : mm_P d 210 [(0, r)] w h = some ((0, r % 100), w, h) := by
  obtain ⟨d, rfl, hd2⟩ := mm_dS hd; have hd := hd2
  rw [P_F_rightOf, mD_t (by decide), Int.tmod_eq_emod_of_nonneg (by omega)]
/-- two digits twice, or -1 -/
def pairC (a b : Int) : Int := if 0 ≤ a ∧ a ≤ 99 ∧ 0 ≤ b ∧ b ≤ 99 then 100 * a + b else -1
def rectC (t l b r : Int) : Int := if 0 ≤ t ∧ t ≤ 99 ∧ 0 ≤ l ∧ l ≤ 99 ∧ 0 ≤ b ∧ b ≤ 99 ∧ 0 ≤ r ∧ r ≤ 99 then 1000000 * t + 10000 * l + 100 * b + r else -1
theorem E_pairCode (hd : 1 ≤ d) (a b : Int) : mm_P d 212 [(0, a), (0, b)] w h = some ((0, pairC a b), w, h) := by
  obtain ⟨d, rfl, hd2⟩ := mm_dS hd; have hd := hd2
  simp only [P_F_pairCode, mLt, mLe, mEq, pairC]
  repeat' split
  all_goals first | rfl | omega | (rw [mI_id (x := 100 * a) (by omega) (by omega), mI_id (by omega) (by omega)])
theorem E_rectCode (hd : 2 ≤ d) (t l b r : Int) : mm_P d 211 [(0, t), (0, l), (0, b), (0, r)] w h = some ((0, rectC t l b r), w, h) := by
  obtain ⟨d, rfl, hd2⟩ := mm_dS hd; have hd := hd2
  rw [P_F_rectCode, E_pairCode hd, mC_s, E_pairCode hd, mC_s]
  unfold rectC
  by_cases h1 : 0 ≤ t ∧ t ≤ 99 ∧ 0 ≤ l ∧ l ≤ 99
  · by_cases h2 : 0 ≤ b ∧ b ≤ 99 ∧ 0 ≤ r ∧ r ≤ 99
    · have e1 : pairC t l = 100 * t + l := if_pos h1
      have e2 : pairC b r = 100 * b + r := if_pos h2
      simp only [e1, e2]
      rw [mLt_f (by omega), mLe_t (by omega), mI_id (x := 10000 * (100 * t + l)) (by omega) (by omega), mI_id (by omega) (by omega), if_pos (by omega)]
      rw [show 10000 * (100 * t + l) + (100 * b + r) = 1000000 * t + 10000 * l + 100 * b + r by omega]
    · have e1 : pairC t l = 100 * t + l := if_pos h1
      have e2 : pairC b r = -1 := if_neg h2
      simp only [e1, e2]
      rw [mLt_f (by omega), mLe_f (by omega), if_neg (by omega)]
  · have e1 : pairC t l = -1 := if_neg h1
    simp only [e1]
    rw [mLt_t (by omega), if_neg (by omega)]
theorem E_peek (hd : 1 ≤ d) {a n : Int} (hw : w.1 a = (50, n)) (i : Int) : mm_P d 199 [(2, a), (0, i)] w h = some ((0, pk n (h a) i), w, h) := by
  obtain ⟨d, rfl, hd2⟩ := mm_dS hd; have hd := hd2
  rw [P_F_peek]
  by_cases h1 : i < 0
  · rw [mLt_t h1, pk_f (by omega)]
  · rw [mLt_f (by omega), mN_t hw (by decide), hw]
    by_cases h2 : n ≤ i
    · rw [mLe_t h2, pk_f (by omega)]
    · rw [mLe_f (by omega), mA_t hw (by omega) (by omega), pk_t (by omega) (by omega)]
theorem E_poke (hd : 1 ≤ d) {a n : Int} (hw : w.1 a = (50, n)) (ha : 0 < a) (i v : Int) : mm_P d 200 [(2, a), (0, i), (0, v)] w h = some ((9, 0), w, if 0 ≤ i ∧ i < n then mUp h a i v else h) := by
  obtain ⟨d, rfl, hd2⟩ := mm_dS hd; have hd := hd2
  rw [P_F_poke]
  by_cases h1 : i < 0
  · rw [mLt_t h1, if_neg (by omega)]
  · rw [mLt_f (by omega), mN_t hw (by decide), hw]
    by_cases h2 : n ≤ i
    · rw [mLe_t h2, if_neg (by omega)]
    · rw [mLe_f (by omega), mAw_t hw (by omega) (by omega) ha, if_pos (by omega)]
theorem E_poke_t (hd : 1 ≤ d) {a n : Int} (hw : w.1 a = (50, n)) (ha : 0 < a) {i v : Int} (h1 : 0 ≤ i) (h2 : i < n) : mm_P d 200 [(2, a), (0, i), (0, v)] w h = some ((9, 0), w, mUp h a i v) := by
  rw [E_poke hd hw ha, if_pos ⟨h1, h2⟩]
theorem E_peek_t (hd : 1 ≤ d) {a n : Int} (hw : w.1 a = (50, n)) {i : Int} (h1 : 0 ≤ i) (h2 : i < n) : mm_P d 199 [(2, a), (0, i)] w h = some ((0, h a i), w, h) := by
  rw [E_peek hd hw, pk_t h1 h2]
theorem E_wrap (hd : 1 ≤ d) {i n : Int} (h0 : 0 ≤ i) (h1 : 0 < n) : mm_P d 201 [(0, i), (0, n)] w h = some ((0, i % n), w, h) := by
  obtain ⟨d, rfl, hd2⟩ := mm_dS hd; have hd := hd2
  simp only [P_F_wrap, mLe, mLt]
  repeat' split
  all_goals first | omega | (rw [mD_t (by omega), Int.tmod_eq_emod_of_nonneg h0])
theorem E_placeOf (hd : 1 ≤ d) {r c : Int} (h0 : -1000 ≤ r) (h1 : r < 1000) (h2 : -1000 ≤ c) (h3 : c < 1000) : mm_P d 202 [(0, r), (0, c)] w h = some ((0, 16 * r + c), w, h) := by
  obtain ⟨d, rfl, hd2⟩ := mm_dS hd; have hd := hd2
  rw [P_F_placeOf, mI_id (x := r * 16) (by omega) (by omega), mI_id (by omega) (by omega), Int.mul_comm]
end PU
