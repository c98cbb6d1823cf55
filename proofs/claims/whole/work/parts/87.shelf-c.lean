/-! PURE: the reference's shelves: put, element. -/
section PU
variable {d : Nat} {w : mm_W} {h : mm_H} {A : aG}
theorem E_M_refusal (hd : 3 ≤ d) (hW : MW w) (hH : MH h) (hs : shl h 503 502 A) (k i : Int) : (¬ (0 ≤ k ∧ k < 4) ∧ mm_P d 316 [(2, 483), (0, k), (0, i)] w h = some ((0, -2), w, h)) ∨ (((0 ≤ k ∧ k < 4) ∧ gSz A k < 0) ∧ mm_P d 316 [(2, 483), (0, k), (0, i)] w h = some ((0, -11), w, h)) ∨ (((0 ≤ k ∧ k < 4) ∧ 0 ≤ gSz A k ∧ ¬ (0 ≤ i ∧ i < gSz A k)) ∧ mm_P d 316 [(2, 483), (0, k), (0, i)] w h = some ((0, -13), w, h)) ∨ (((0 ≤ k ∧ k < 4) ∧ 0 ≤ i ∧ i < gSz A k) ∧ mm_P d 316 [(2, 483), (0, k), (0, i)] w h = some ((0, 0), w, h)) := by
  obtain ⟨d, rfl, hd2⟩ := mm_dS hd; clear hd; have hd := hd2; clear hd2
  have hw : (w.1 483).1 = 13 := by rw [hW.1]
  rw [P_M_refusal, E_M_isShelf (by omega), mC_s]
  by_cases c0 : 0 ≤ k ∧ k < 4
  rotate_left
  · rw [bI_f c0, mEq_t rfl]
    exact Or.inl ⟨c0, rfl⟩
  obtain ⟨s1, s2, s3⟩ := hs k c0.1 c0.2
  rw [bI_t c0, mEq_f (by decide), mF_t hw, (M_shh hH).1, mA_t (M_shw hW).1 c0.1 c0.2, s1]
  by_cases c1 : gSz A k = -1
  · rw [mEq_t c1]
    exact Or.inr (Or.inl ⟨⟨c0, by omega⟩, rfl⟩)
  rw [mEq_f c1, mF_t hw, mA_t (M_shw hW).1 c0.1 c0.2, mI_id (x := gSz A k - 1) (by omega) (by omega), E_M_in (by omega), mC_s, bI_eq (Q := 0 ≤ i ∧ i < gSz A k) (by omega)]
  by_cases c2 : 0 ≤ i ∧ i < gSz A k
  · rw [bI_t c2, mEq_f (by decide)]
    exact Or.inr (Or.inr (Or.inr ⟨⟨c0, c2⟩, rfl⟩))
  · rw [bI_f c2, mEq_t rfl]
    exact Or.inr (Or.inr (Or.inl ⟨⟨c0, by omega, c2⟩, rfl⟩))
theorem E_M_element (hd : 4 ≤ d) (hW : MW w) (hH : MH h) (hs : shl h 503 502 A) (k i : Int) : mm_P d 318 [(2, 483), (0, k), (0, i)] w h = some ((0, @ite _ ((0 ≤ k ∧ k < 4) ∧ 0 ≤ i ∧ i < gSz A k) (Classical.propDecidable _) (gSh A k i) (-2000000000)), w, h) := by
  obtain ⟨d, rfl, hd2⟩ := mm_dS hd; clear hd; have hd := hd2; clear hd2
  have hw : (w.1 483).1 = 13 := by rw [hW.1]
  rw [P_M_element, mF_t hw]
  rcases E_M_refusal (d := d) (by omega) hW hH hs k i with ⟨z, a⟩ | ⟨z, a⟩ | ⟨z, a⟩ | ⟨z, a⟩
  · rw [a, mC_s, mLe_f (by decide), if_neg (fun q => z q.1)]
  · rw [a, mC_s, mLe_f (by decide), if_neg (by omega)]
  · rw [a, mC_s, mLe_f (by decide), if_neg (by omega)]
  · obtain ⟨s1, s2, s3⟩ := hs k z.1.1 z.1.2
    rw [a, mC_s, mLe_t (by decide), mF_t hw, (M_shh hH).2, mI_id (x := 60 * k) (by omega) (by omega), mI_id (x := 60 * k + i) (by omega) (by omega), mA_t (M_shw hW).2 (by omega) (by omega), if_pos z, s3 i z.2.1 z.2.2]
theorem E_M_put (hd : 4 ≤ d) (hW : MW w) (hH : MH h) (hs : shl h 503 502 A) (k i v : Int) : (¬ (0 ≤ k ∧ k < 4) ∧ mm_P d 317 [(2, 483), (0, k), (0, i), (0, v)] w h = some ((0, -2), w, h)) ∨ (((0 ≤ k ∧ k < 4) ∧ gSz A k < 0) ∧ mm_P d 317 [(2, 483), (0, k), (0, i), (0, v)] w h = some ((0, -11), w, h)) ∨ (((0 ≤ k ∧ k < 4) ∧ 0 ≤ gSz A k ∧ ¬ (0 ≤ i ∧ i < gSz A k)) ∧ mm_P d 317 [(2, 483), (0, k), (0, i), (0, v)] w h = some ((0, -13), w, h)) ∨ (((0 ≤ k ∧ k < 4) ∧ 0 ≤ i ∧ i < gSz A k) ∧ ∃ h', mm_P d 317 [(2, 483), (0, k), (0, i), (0, v)] w h = some ((0, 1), w, h') ∧ shl h' 503 502 (gPut A k i v) ∧ ∀ b : Int, b ≠ 502 → h' b = h b) := by
  obtain ⟨d, rfl, hd2⟩ := mm_dS hd; clear hd; have hd := hd2; clear hd2
  have hw : (w.1 483).1 = 13 := by rw [hW.1]
  rw [P_M_put, mF_t hw]
  rcases E_M_refusal (d := d) (by omega) hW hH hs k i with ⟨z, a⟩ | ⟨z, a⟩ | ⟨z, a⟩ | ⟨z, a⟩
  · rw [a, mC_s, mLe_f (by decide)]
    exact Or.inl ⟨z, rfl⟩
  · rw [a, mC_s, mLe_f (by decide)]
    exact Or.inr (Or.inl ⟨z, rfl⟩)
  · rw [a, mC_s, mLe_f (by decide)]
    exact Or.inr (Or.inr (Or.inl ⟨z, rfl⟩))
  · obtain ⟨s1, s2, s3⟩ := hs k z.1.1 z.1.2
    rw [a, mC_s, mLe_t (by decide), mF_t hw, (M_shh hH).2, mI_id (x := 60 * k) (by omega) (by omega), mI_id (x := 60 * k + i) (by omega) (by omega), mA_t (M_shw hW).2 (by omega) (by omega)]
    refine Or.inr (Or.inr (Or.inr ⟨z, _, rfl, fun a a0 a1 => ?_, fun b hb => mUp_row hb⟩))
    obtain ⟨t1, t2, t3⟩ := hs a a0 a1
    refine ⟨by rw [mUp_row (by decide)]; exact t1, t2, fun j j0 j1 => ?_⟩
    have j1 : j < gSz A a := j1
    show _ = if a = k ∧ j = i then mS (mS v) else gSh A a j
    by_cases q : a = k ∧ j = i
    · rw [if_pos q, q.1, q.2, mUp_s]
    · rw [if_neg q, mUp_n (Or.inr (by omega))]; exact t3 j j0 j1
end PU
