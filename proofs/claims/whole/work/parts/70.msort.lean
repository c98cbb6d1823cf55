/-! PURE: rows are sorted, lines are moved, in the reference. -/
section PU
variable {d : Nat} {w : mm_W} {h : mm_H} {s : aS} {A : aG}
theorem L_M_sort0 (hW : MW w) {n c fa f t sg z : Int} (hz : z ≤ 16) : ∀ (m : Nat) (i : Int) (h : mm_H), MH h → h 484 0 = z → 0 ≤ i → i + m = z → ∃ h', l_M_sort_0 (mm_P d) 483 n c fa f t sg i w h = some (.inr (104, [(2, 483), (0, n), (0, c), (0, fa), (0, f), (0, t), (0, sg), (0, z), (9, 0), (9, 0), (9, 0), (9, 0)], w, h')) ∧ (∀ b : Int, b ≠ 488 → h' b = h b) ∧ ∀ l : Int, h' 488 l = if i ≤ l ∧ l < z then l else h 488 l := by
  have hw : (w.1 483).1 = 13 := by rw [hW.1]
  intro m
  induction m with
  | zero =>
    intro i h a1 a2 a3 a4
    rw [l_M_sort_0_eq, mF_t hw, a1.1, mA_t hW.2.1 (by decide) (by decide), a2, mLe_t (by omega)]
    exact ⟨h, by rw [show i = z by omega], fun _ _ => rfl, fun l => by rw [if_neg (by omega)]⟩
  | succ m ih =>
    intro i h a1 a2 a3 a4
    rw [l_M_sort_0_eq, mF_t hw, a1.1, mA_t hW.2.1 (by decide) (by decide), a2, mLe_f (by omega), mF_t hw, a1.2.2.2.2.1, mAw_t hW.2.2.2.2.2.1 (by omega) (by omega) (by decide)]
    try dsimp only
    rw [mI_id (x := i + 1) (by omega) (by omega)]
    obtain ⟨h', g1, g2, g3⟩ := ih (i + 1) (mUp h 488 i i) (MH_fr a1 (fun j _ => mUp_n (Or.inl (by decide)))) (by rw [mUp_n (Or.inl (by decide))]; exact a2) (by omega) (by omega)
    refine ⟨h', g1, fun b hb => by rw [g2 b hb, mUp_row hb], fun l => ?_⟩
    rw [g3 l]
    by_cases c : l = i
    · rw [if_neg (by omega), c, mUp_s, if_pos (by omega)]
    · rw [mUp_n (Or.inr c)]
      repeat' split
      all_goals first | rfl | omega
theorem L_M_sort2 (hd : 1 ≤ d) (hW : MW w) (hH : MH h) {n c fa f t sg k : Int} {K : Int → Int} (hf : 0 ≤ f) (ht : t < 16) (hc : 0 ≤ c ∧ c < 16) (hK : ∀ i : Int, f ≤ i → i ≤ t → mI (sg * h 484 (135 + (16 * i + c))) = K i) : ∀ (m : Nat) (j acc : Int), f ≤ j → j + m = t + 1 → 0 ≤ acc → acc + m < 100 → l_M_sort_2 (mm_P d) 483 n c fa f t sg k (K k) acc j w h = some (.inr (200, [(2, 483), (0, n), (0, c), (0, fa), (0, f), (0, t), (0, sg), (0, k), (0, K k), (0, acc + sumN (fun i => bI (kLt K i k)) m j), (0, t + 1), (9, 0)], w, h)) := by
  have hw : (w.1 483).1 = 13 := by rw [hW.1]
  intro m
  induction m with
  | zero =>
    intro j acc a1 a2 a3 a4
    rw [l_M_sort_2_eq, mLt_t (by omega)]
    have e : sumN (fun i => bI (kLt K i k)) 0 j = 0 := rfl
    rw [e, show j = t + 1 by omega, show acc + 0 = acc by omega]
  | succ m ih =>
    intro j acc a1 a2 a3 a4
    have e : sumN (fun i => bI (kLt K i k)) (m + 1) j = bI (kLt K j k) + sumN (fun i => bI (kLt K i k)) m (j + 1) := rfl
    rw [l_M_sort_2_eq, mLt_f (by omega), mF_t hw, E_M_grid hd (by omega) (by omega) (by omega) (by omega), mC_s, mI_id (x := 135 + (16 * j + c)) (by omega) (by omega), hH.1, mA_t hW.2.1 (by omega) (by omega), hK j a1 (by omega), e]
    try dsimp only
    rw [mI_id (x := j + 1) (by omega) (by omega), mI_id (x := acc + 1) (by omega) (by omega)]
    have y1 : kLt K j k → l_M_sort_2 (mm_P d) 483 n c fa f t sg k (K k) (acc + 1) (j + 1) w h = some (.inr (200, [(2, 483), (0, n), (0, c), (0, fa), (0, f), (0, t), (0, sg), (0, k), (0, K k), (0, acc + (bI (kLt K j k) + sumN (fun i => bI (kLt K i k)) m (j + 1))), (0, t + 1), (9, 0)], w, h)) := fun q => by
      rw [ih (j + 1) (acc + 1) (by omega) (by omega) (by omega) (by omega), bI_t q, Int.add_assoc]
    have y0 : ¬ kLt K j k → l_M_sort_2 (mm_P d) 483 n c fa f t sg k (K k) acc (j + 1) w h = some (.inr (200, [(2, 483), (0, n), (0, c), (0, fa), (0, f), (0, t), (0, sg), (0, k), (0, K k), (0, acc + (bI (kLt K j k) + sumN (fun i => bI (kLt K i k)) m (j + 1))), (0, t + 1), (9, 0)], w, h)) := fun q => by
      rw [ih (j + 1) acc (by omega) (by omega) (by omega) (by omega), bI_f q, Int.zero_add]
    unfold kLt at y1 y0
    by_cases c1 : K j < K k
    · rw [mLt_t c1]
      exact y1 (Or.inl c1)
    · rw [mLt_f (by omega)]
      by_cases c2 : K j = K k
      · rw [mEq_t c2]
        by_cases c3 : k ≤ j
        · rw [mLe_t c3]
          exact y0 (by omega)
        · rw [mLe_f (by omega)]
          exact y1 (by omega)
      · rw [mEq_f c2]
        exact y0 (by omega)
theorem L_M_sort1 (hd : 1 ≤ d) (hW : MW w) {n c fa f t sg : Int} {M : Nat} {K R : Int → Int} (hf : 0 ≤ f) (hM : f + M = t + 1) (ht : t < 16) (hc : 0 ≤ c ∧ c < 16) (hK : ∀ i : Int, f ≤ i → i ≤ t → mI (sg * R (135 + (16 * i + c))) = K i) : ∀ (m : Nat) (k : Int) (h : mm_H), MH h → h 484 = R → f ≤ k → k + m = t + 1 → (∀ i : Int, f ≤ i → i < k → h 488 (rk K f M i) = i) → ∃ h', l_M_sort_1 (mm_P d) 483 n c fa f t sg k w h = some (.inr (215, [(2, 483), (0, n), (0, c), (0, fa), (0, f), (0, t), (0, sg), (0, t + 1), (9, 0), (9, 0), (9, 0), (9, 0)], w, h')) ∧ (∀ b : Int, b ≠ 488 → h' b = h b) ∧ (∀ l : Int, l < f ∨ t < l → h' 488 l = h 488 l) ∧ ∀ i : Int, f ≤ i → i ≤ t → h' 488 (rk K f M i) = i := by
  have hw : (w.1 483).1 = 13 := by rw [hW.1]
  intro m
  induction m with
  | zero =>
    intro k h a1 a2 a3 a4 a5
    rw [l_M_sort_1_eq, mLt_t (by omega)]
    exact ⟨h, by rw [show k = t + 1 by omega], fun _ _ => rfl, fun _ _ => rfl, fun i i0 i1 => a5 i i0 (by omega)⟩
  | succ m ih =>
    intro k h a1 a2 a3 a4 a5
    have hr := rk_in (K := K) (f := f) (m := M) (k := k) a3 (by omega)
    have s2 := L_M_sort2 (d := d) hd hW a1 (n := n) (c := c) (fa := fa) (f := f) (t := t) (sg := sg) (k := k) (K := K) hf ht hc (fun i i0 i1 => by rw [a2]; exact hK i i0 i1) M f f (Int.le_refl _) hM hf (by omega)
    have s3 : f + sumN (fun i => bI (kLt K i k)) M f = rk K f M k := rfl
    rw [s3] at s2
    rw [l_M_sort_1_eq, mLt_f (by omega), mF_t hw, E_M_grid hd (by omega) (by omega) (by omega) (by omega), mC_s, mI_id (x := 135 + (16 * k + c)) (by omega) (by omega), a1.1, mA_t hW.2.1 (by omega) (by omega), a2, hK k a3 (by omega)]
    try dsimp only
    rw [s2, mK_r, if_pos rfl]
    simp only [mP_0, mP_1, mP_2, mP_3, mP_4, mP_5, mP_6, mP_7, mP_8, mP_9]
    rw [mF_t hw, a1.2.2.2.2.1, mAw_t hW.2.2.2.2.2.1 (by omega) (by omega) (by decide)]
    try dsimp only
    rw [mI_id (x := k + 1) (by omega) (by omega)]
    obtain ⟨h', g1, g2, g3, g4⟩ := ih (k + 1) (mUp h 488 (rk K f M k) k) (MH_fr a1 (fun j _ => mUp_n (Or.inl (by decide)))) (by rw [mUp_row (by decide)]; exact a2) (by omega) (by omega) (fun i i0 i1 => by
      by_cases e : i = k
      · rw [e]; exact mUp_s
      · rw [mUp_n (Or.inr (fun z => e (rk_inj i0 (by omega) a3 (by omega) z)))]
        exact a5 i i0 (by omega))
    exact ⟨h', g1, fun b hb => by rw [g2 b hb, mUp_row hb], fun l hl => by rw [g3 l hl, mUp_n (Or.inr (by omega))], g4⟩
end PU
