/-! PURE: the shelves: rows are begun; the reference's. -/
theorem mS_0 : mS 0 = 0 := by decide
section PU
variable {d : Nat} {w : mm_W} {h : mm_H} {A : aG}
theorem L_F_row (hd : 1 ≤ d) (hW : WK w) {k n : Int} (hk : 0 ≤ k ∧ k < 4) (hn : n ≤ 60) : ∀ (m : Nat) (i : Int) (h : mm_H), HK h → 0 ≤ i → i + m = n → ∃ h', l_F_row_0 (mm_P d) 1 k n i w h = some (.inr (52, [(2, 1), (0, k), (0, n), (0, n)], w, h')) ∧ (∀ b : Int, b ≠ 468 → h' b = h b) ∧ ∀ j : Int, h' 468 j = if k * 60 + i ≤ j ∧ j < k * 60 + n then 0 else h 468 j := by
  have w1 : (w.1 1).1 = 12 := by rw [hW.1.1]
  intro m
  induction m with
  | zero =>
    intro i h a1 a2 a3
    rw [l_F_row_0_eq, mLe_t (by omega)]
    exact ⟨h, by rw [show i = n by omega], fun _ _ => rfl, fun j => by rw [if_neg (by omega)]⟩
  | succ m ih =>
    intro i h a1 a2 a3
    have eu : ∀ b : Int, b ≠ 468 → mUp h 468 (k * 60 + i) (mS (mS 0)) b = h b := fun b hb => mUp_row hb
    rw [l_F_row_0_eq, mLe_f (by omega), mF_t w1, E_setShort hd hW a1 hk (by omega), mC_s]
    try dsimp only
    rw [mI_id (x := i + 1) (by omega) (by omega)]
    have K1 : HK (mUp h 468 (k * 60 + i) (mS (mS 0))) := HK_fr a1 (fun b j hb => by rw [eu b (by unfold kSl at hb; omega)]) (fun q q0 q1 => ShH_fr (a1.2.2.2.2.2.1 q q0 q1) (fun j _ _ => by rw [eu _ (by omega)]) (eu _ (by omega))) (ShH_fr a1.2.2.2.2.2.2.1 (fun j _ _ => by rw [eu _ (by omega)]) (eu _ (by omega))) (ShH_fr a1.2.2.2.2.2.2.2 (fun j _ _ => by rw [eu _ (by omega)]) (eu _ (by omega)))
    obtain ⟨h', g1, g2, g3⟩ := ih (i + 1) _ K1 (by omega) (by omega)
    refine ⟨h', g1, fun b hb => by rw [g2 b hb, eu b hb], fun j => ?_⟩
    rw [g3 j]
    by_cases q : j = k * 60 + i
    · rw [if_neg (by omega), q, mUp_s, if_pos (by omega), mS_0, mS_0]
    · rw [mUp_n (Or.inr q)]
      repeat' split
      all_goals first | rfl | omega
theorem shl_row {h' : mm_H} {a b k n : Int} (hs : shl h a b A) (hk : 0 ≤ k ∧ k < 4) (hn : 0 ≤ n ∧ n ≤ 60) (h1 : ∀ i : Int, h' a i = if i = k then n else h a i) (h2 : ∀ j : Int, h' b j = if 60 * k ≤ j ∧ j < 60 * k + n then 0 else h b j) : shl h' a b (gRow A k n) := by
  intro i i0 i1
  obtain ⟨t1, t2, t3⟩ := hs i i0 i1
  have e1 : gSz (gRow A k n) i = if i = k then n else gSz A i := rfl
  have e2 : ∀ j : Int, gSh (gRow A k n) i j = if i = k then 0 else gSh A i j := fun _ => rfl
  rw [e1, h1 i]
  by_cases q : i = k
  · rw [if_pos q, if_pos q]
    refine ⟨rfl, by omega, fun j j0 j1 => ?_⟩
    rw [e2, if_pos q, h2, if_pos (by omega)]
  · rw [if_neg q, if_neg q]
    refine ⟨t1, t2, fun j j0 j1 => ?_⟩
    rw [e2, if_neg q, h2, if_neg (by omega)]
    exact t3 j j0 j1
theorem E_F_shelfRow (hd : 3 ≤ d) (hW : WK w) (hK : HK h) (hs : shl h 469 468 A) (k n : Int) : ((¬ (0 ≤ k ∧ k < 4) ∨ 60 < n) ∧ mm_P d 178 [(2, 1), (0, k), (0, n)] w h = some ((0, -2), w, h)) ∨ (((0 ≤ k ∧ k < 4) ∧ n < 0) ∧ mm_P d 178 [(2, 1), (0, k), (0, n)] w h = some ((0, -14), w, h)) ∨ (((0 ≤ k ∧ k < 4) ∧ 0 ≤ n ∧ n ≤ 60) ∧ ∃ h', mm_P d 178 [(2, 1), (0, k), (0, n)] w h = some ((0, 1), w, h') ∧ shl h' 469 468 (gRow A k n) ∧ ∀ b : Int, b ≠ 468 → b ≠ 469 → h' b = h b) := by
  obtain ⟨d, rfl, hd2⟩ := mm_dS hd; clear hd; have hd := hd2; clear hd2
  have w1 : (w.1 1).1 = 12 := by rw [hW.1.1]
  have k12 : h 1 12 = 469 := hK.1.2.2.2.2.2.2.2.2.2.2.2.2.1
  have w469 : w.1 469 = (50, 4) := hW.2.2.2.2.2.1.2.2.2.2.2.2
  rw [P_F_row, E_isShelf (by omega), mC_s]
  by_cases c0 : 0 ≤ k ∧ k < 4
  rotate_left
  · rw [bI_f c0, mEq_t rfl]
    exact Or.inl ⟨Or.inl c0, rfl⟩
  rw [bI_t c0, mEq_f (by decide)]
  by_cases c1 : n ≤ 60
  rotate_left
  · rw [mLe_f (by omega)]
    exact Or.inl ⟨Or.inr (by omega), rfl⟩
  rw [mLe_t c1]
  by_cases c2 : 0 ≤ n
  rotate_left
  · rw [mLe_f (by omega)]
    exact Or.inr (Or.inl ⟨⟨c0, by omega⟩, rfl⟩)
  rw [mLe_t c2, mF_t w1, k12, E_poke_t (by omega) w469 (by decide) c0.1 c0.2, mC_s]
  have eu : ∀ b : Int, b ≠ 469 → mUp h 469 k n b = h b := fun b hb => mUp_row hb
  have K1 : HK (mUp h 469 k n) := HK_fr hK (fun b j hb => by rw [eu b (by unfold kSl at hb; omega)]) (fun q q0 q1 => ShH_fr (hK.2.2.2.2.2.1 q q0 q1) (fun j _ _ => by rw [eu _ (by omega)]) (eu _ (by omega))) (ShH_fr hK.2.2.2.2.2.2.1 (fun j _ _ => by rw [eu _ (by omega)]) (eu _ (by omega))) (ShH_fr hK.2.2.2.2.2.2.2 (fun j _ _ => by rw [eu _ (by omega)]) (eu _ (by omega)))
  obtain ⟨h', g1, g2, g3⟩ := L_F_row (d := d) (by omega) hW c0 c1 n.toNat 0 _ K1 (by decide) (by omega)
  rw [g1, mK_r, if_pos rfl]
  refine Or.inr (Or.inr ⟨⟨c0, c2, c1⟩, h', rfl, shl_row hs c0 ⟨c2, c1⟩ (fun i => ?_) (fun j => ?_), fun b b1 b2 => by rw [g2 b b1, eu b b2]⟩)
  · rw [g2 469 (by decide)]
    by_cases q : i = k
    · rw [if_pos q, q, mUp_s]
    · rw [if_neg q, mUp_n (Or.inr q)]
  · rw [g3 j, eu 468 (by decide), show k * 60 + 0 = 60 * k by omega, show k * 60 + n = 60 * k + n by omega]
theorem M_shw (hW : MW w) : w.1 503 = (50, 4) ∧ w.1 502 = (51, 240) := by have := hW; unfold MW at this; simp only [this]; exact ⟨trivial, trivial⟩
theorem M_shh (hH : MH h) : h 483 40 = 503 ∧ h 483 39 = 502 := by have := hH; unfold MH at this; simp only [this]; exact ⟨trivial, trivial⟩
theorem L_M_row (hW : MW w) {k n : Int} (hk : 0 ≤ k ∧ k < 4) (hn : n ≤ 60) : ∀ (m : Nat) (i : Int) (h : mm_H), MH h → 0 ≤ i → i + m = n → ∃ h', l_M_row_0 (mm_P d) 483 k n i w h = some (.inr (55, [(2, 483), (0, k), (0, n), (0, n)], w, h')) ∧ (∀ b : Int, b ≠ 502 → h' b = h b) ∧ ∀ j : Int, h' 502 j = if 60 * k + i ≤ j ∧ j < 60 * k + n then 0 else h 502 j := by
  have hw : (w.1 483).1 = 13 := by rw [hW.1]
  intro m
  induction m with
  | zero =>
    intro i h a1 a2 a3
    rw [l_M_row_0_eq, mLe_t (by omega)]
    exact ⟨h, by rw [show i = n by omega], fun _ _ => rfl, fun j => by rw [if_neg (by omega)]⟩
  | succ m ih =>
    intro i h a1 a2 a3
    rw [l_M_row_0_eq, mLe_f (by omega), mF_t hw, (M_shh a1).2, mI_id (x := 60 * k) (by omega) (by omega), mI_id (x := 60 * k + i) (by omega) (by omega), mA_t (M_shw hW).2 (by omega) (by omega)]
    try dsimp only
    rw [mI_id (x := i + 1) (by omega) (by omega)]
    obtain ⟨h', g1, g2, g3⟩ := ih (i + 1) (mUp h 502 (60 * k + i) (mS 0)) (MH_fr a1 (fun j _ => mUp_n (Or.inl (by decide)))) (by omega) (by omega)
    refine ⟨h', g1, fun b hb => by rw [g2 b hb, mUp_row hb], fun j => ?_⟩
    rw [g3 j]
    by_cases q : j = 60 * k + i
    · rw [if_neg (by omega), q, mUp_s, if_pos (by omega), mS_0]
    · rw [mUp_n (Or.inr q)]
      repeat' split
      all_goals first | rfl | omega
theorem E_M_row (hd : 3 ≤ d) (hW : MW w) (hH : MH h) (hs : shl h 503 502 A) (k n : Int) : ((¬ (0 ≤ k ∧ k < 4) ∨ 60 < n) ∧ mm_P d 315 [(2, 483), (0, k), (0, n)] w h = some ((0, -2), w, h)) ∨ (((0 ≤ k ∧ k < 4) ∧ n < 0) ∧ mm_P d 315 [(2, 483), (0, k), (0, n)] w h = some ((0, -14), w, h)) ∨ (((0 ≤ k ∧ k < 4) ∧ 0 ≤ n ∧ n ≤ 60) ∧ ∃ h', mm_P d 315 [(2, 483), (0, k), (0, n)] w h = some ((0, 1), w, h') ∧ shl h' 503 502 (gRow A k n) ∧ ∀ b : Int, b ≠ 502 → b ≠ 503 → h' b = h b) := by
  obtain ⟨d, rfl, hd2⟩ := mm_dS hd; clear hd; have hd := hd2; clear hd2
  have hw : (w.1 483).1 = 13 := by rw [hW.1]
  rw [P_M_row, E_M_isShelf (by omega), mC_s]
  by_cases c0 : 0 ≤ k ∧ k < 4
  rotate_left
  · rw [bI_f c0, mEq_t rfl]
    exact Or.inl ⟨Or.inl c0, rfl⟩
  rw [bI_t c0, mEq_f (by decide)]
  by_cases c1 : n ≤ 60
  rotate_left
  · rw [mLe_f (by omega)]
    exact Or.inl ⟨Or.inr (by omega), rfl⟩
  rw [mLe_t c1]
  by_cases c2 : 0 ≤ n
  rotate_left
  · rw [mLe_f (by omega)]
    exact Or.inr (Or.inl ⟨⟨c0, by omega⟩, rfl⟩)
  rw [mLe_t c2, mF_t hw, (M_shh hH).1, mAw_t (M_shw hW).1 c0.1 c0.2 (by decide)]
  try dsimp only
  obtain ⟨h', g1, g2, g3⟩ := L_M_row (d := d) hW c0 c1 n.toNat 0 (mUp h 503 k n) (MH_fr hH (fun j _ => mUp_n (Or.inl (by decide)))) (by decide) (by omega)
  rw [g1, mK_r, if_pos rfl]
  refine Or.inr (Or.inr ⟨⟨c0, c2, c1⟩, h', rfl, shl_row hs c0 ⟨c2, c1⟩ (fun i => ?_) (fun j => ?_), fun b b1 b2 => by rw [g2 b b1, mUp_row b2]⟩)
  · rw [g2 503 (by decide)]
    by_cases q : i = k
    · rw [if_pos q, q, mUp_s]
    · rw [if_neg q, mUp_n (Or.inr q)]
  · rw [g3 j, mUp_row (by decide), show 60 * k + 0 = 60 * k by omega]
end PU
