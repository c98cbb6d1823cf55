/-! PURE: the shelves, on both sides. -/
def gShl (A : aG) (sz : Int → Int) (sh : Int → Int → Int) : aG := (A.1, A.2.1, A.2.2.1, A.2.2.2.1, (sz, sh), A.2.2.2.2.2)
def gRow (A : aG) (k n : Int) : aG := gShl A (fun i => if i = k then n else gSz A i) (fun i j => if i = k then 0 else gSh A i j)
def gPut (A : aG) (k i v : Int) : aG := gShl A (gSz A) (fun a b => if a = k ∧ b = i then mS (mS v) else gSh A a b)
/-- sizes at a, shorts at b -/
def shl (h : mm_H) (a b : Int) (A : aG) : Prop := ∀ k : Int, 0 ≤ k → k < 4 → h a k = gSz A k ∧ (-1 ≤ gSz A k ∧ gSz A k ≤ 60) ∧ ∀ j : Int, 0 ≤ j → j < gSz A k → h b (60 * k + j) = gSh A k j
section PU
variable {d : Nat} {w : mm_W} {h : mm_H} {A : aG}
theorem E_sizeOf (hd : 1 ≤ d) (hW : WK w) (hK : HK h) (hs : shl h 469 468 A) {k : Int} (hk : 0 ≤ k ∧ k < 4) : mm_P d 194 [(2, 1), (0, k)] w h = some ((0, gSz A k), w, h) := by
  obtain ⟨d, rfl, hd2⟩ := mm_dS hd; clear hd
  have w1 : (w.1 1).1 = 12 := by rw [hW.1.1]
  have k12 : h 1 12 = 469 := hK.1.2.2.2.2.2.2.2.2.2.2.2.2.1
  have w469 : w.1 469 = (50, 4) := hW.2.2.2.2.2.1.2.2.2.2.2.2
  rw [P_F_sizeOf, mLt_f (by omega), mF_t w1, k12]
  rw [mN_t w469 (by decide), w469, mLe_f (by omega), mF_t w1, mA_t w469 (by omega) (by omega), (hs k hk.1 hk.2).1]
theorem E_setShort (hd : 1 ≤ d) (hW : WK w) (hK : HK h) {k i v : Int} (hk : 0 ≤ k ∧ k < 4) (hi : 0 ≤ i ∧ i < 60) : mm_P d 196 [(2, 1), (0, k), (0, i), (0, v)] w h = some ((9, 0), w, mUp h 468 (k * 60 + i) (mS (mS v))) := by
  obtain ⟨d, rfl, hd2⟩ := mm_dS hd; clear hd
  have w1 : (w.1 1).1 = 12 := by rw [hW.1.1]
  have k11 : h 1 11 = 468 := hK.1.2.2.2.2.2.2.2.2.2.2.2.1
  have w468 : w.1 468 = (51, 240) := hW.2.2.2.2.2.1.2.2.2.2.2.1
  rw [P_F_setShort, mI_id (x := k * 60) (by omega) (by omega), mI_id (x := k * 60 + i) (by omega) (by omega)]
  try dsimp only
  rw [mLt_f (by omega), mF_t w1, k11, mN_t w468 (by decide), w468, mLe_f (by omega), mF_t w1, mA_t w468 (by omega) (by omega)]
theorem E_shortOf (hd : 1 ≤ d) (hW : WK w) (hK : HK h) {k i : Int} (hk : 0 ≤ k ∧ k < 4) (hi : 0 ≤ i ∧ i < 60) : mm_P d 195 [(2, 1), (0, k), (0, i)] w h = some ((0, h 468 (k * 60 + i)), w, h) := by
  obtain ⟨d, rfl, hd2⟩ := mm_dS hd; clear hd
  have w1 : (w.1 1).1 = 12 := by rw [hW.1.1]
  have k11 : h 1 11 = 468 := hK.1.2.2.2.2.2.2.2.2.2.2.2.1
  have w468 : w.1 468 = (51, 240) := hW.2.2.2.2.2.1.2.2.2.2.2.1
  rw [P_F_shortOf, mI_id (x := k * 60) (by omega) (by omega), mI_id (x := k * 60 + i) (by omega) (by omega)]
  try dsimp only
  rw [mLt_f (by omega), mF_t w1, k11, mN_t w468 (by decide), w468, mLe_f (by omega), mF_t w1, mA_t w468 (by omega) (by omega)]
theorem E_F_element (hd : 2 ≤ d) (hW : WK w) (hK : HK h) (hs : shl h 469 468 A) (k i : Int) : mm_P d 180 [(2, 1), (0, k), (0, i)] w h = some ((0, @ite _ ((0 ≤ k ∧ k < 4) ∧ 0 ≤ i ∧ i < gSz A k) (Classical.propDecidable _) (gSh A k i) (-2000000000)), w, h) := by
  obtain ⟨d, rfl, hd2⟩ := mm_dS hd; clear hd; have hd := hd2; clear hd2
  have w1 : (w.1 1).1 = 12 := by rw [hW.1.1]
  rw [P_F_element, E_isShelf (by omega), mC_s]
  by_cases c0 : 0 ≤ k ∧ k < 4
  rotate_left
  · rw [bI_f c0, mEq_t rfl, if_neg (fun q => c0 q.1)]
  obtain ⟨s1, s2, s3⟩ := hs k c0.1 c0.2
  rw [bI_t c0, mEq_f (by decide)]
  by_cases c1 : i < 0
  · rw [mLt_t c1, if_neg (by omega)]
  rw [mLt_f (by omega), mF_t w1, E_sizeOf (by omega) hW hK hs c0, mC_s]
  by_cases c2 : i < gSz A k
  · rw [mLt_t c2, mF_t w1, E_shortOf (by omega) hW hK c0 (by omega), mC_s, if_pos ⟨c0, by omega, c2⟩, ← s3 i (by omega) c2, show k * 60 + i = 60 * k + i by omega]
  · rw [mLt_f (by omega), if_neg (by omega)]
theorem E_F_shelfPut (hd : 2 ≤ d) (hW : WK w) (hK : HK h) (hs : shl h 469 468 A) (k i v : Int) : (¬ (0 ≤ k ∧ k < 4) ∧ mm_P d 179 [(2, 1), (0, k), (0, i), (0, v)] w h = some ((0, -2), w, h)) ∨ (((0 ≤ k ∧ k < 4) ∧ gSz A k < 0) ∧ mm_P d 179 [(2, 1), (0, k), (0, i), (0, v)] w h = some ((0, -11), w, h)) ∨ (((0 ≤ k ∧ k < 4) ∧ 0 ≤ gSz A k ∧ ¬ (0 ≤ i ∧ i < gSz A k)) ∧ mm_P d 179 [(2, 1), (0, k), (0, i), (0, v)] w h = some ((0, -13), w, h)) ∨ (((0 ≤ k ∧ k < 4) ∧ 0 ≤ i ∧ i < gSz A k) ∧ ∃ h', mm_P d 179 [(2, 1), (0, k), (0, i), (0, v)] w h = some ((0, 1), w, h') ∧ shl h' 469 468 (gPut A k i v) ∧ ∀ b : Int, b ≠ 468 → h' b = h b) := by
  obtain ⟨d, rfl, hd2⟩ := mm_dS hd; clear hd; have hd := hd2; clear hd2
  have w1 : (w.1 1).1 = 12 := by rw [hW.1.1]
  rw [P_F_put, E_isShelf (by omega), mC_s]
  by_cases c0 : 0 ≤ k ∧ k < 4
  rotate_left
  · rw [bI_f c0, mEq_t rfl]
    exact Or.inl ⟨c0, rfl⟩
  obtain ⟨s1, s2, s3⟩ := hs k c0.1 c0.2
  rw [bI_t c0, mEq_f (by decide), mF_t w1, E_sizeOf (by omega) hW hK hs c0, mC_s]
  by_cases c1 : gSz A k < 0
  · rw [mLe_f (by omega)]
    exact Or.inr (Or.inl ⟨⟨c0, c1⟩, rfl⟩)
  rw [mLe_t (by omega)]
  by_cases c2 : i < 0
  · rw [mLt_t c2]
    exact Or.inr (Or.inr (Or.inl ⟨⟨c0, by omega, by omega⟩, rfl⟩))
  rw [mLt_f (by omega), mF_t w1, E_sizeOf (by omega) hW hK hs c0, mC_s]
  by_cases c3 : i < gSz A k
  rotate_left
  · rw [mLt_f (by omega)]
    exact Or.inr (Or.inr (Or.inl ⟨⟨c0, by omega, by omega⟩, rfl⟩))
  rw [mLt_t c3, mF_t w1, E_setShort (by omega) hW hK c0 (by omega), mC_s]
  refine Or.inr (Or.inr (Or.inr ⟨⟨c0, by omega, c3⟩, _, rfl, fun a a0 a1 => ?_, fun b hb => mUp_row hb⟩))
  obtain ⟨t1, t2, t3⟩ := hs a a0 a1
  refine ⟨by rw [mUp_row (by decide)]; exact t1, t2, fun j j0 j1 => ?_⟩
  have j1 : j < gSz A a := j1
  show _ = if a = k ∧ j = i then mS (mS v) else gSh A a j
  by_cases q : a = k ∧ j = i
  · rw [if_pos q, q.1, q.2, show 60 * k + i = k * 60 + i by omega, mUp_s]
  · rw [if_neg q, mUp_n (Or.inr (by omega))]; exact t3 j j0 j1
end PU
