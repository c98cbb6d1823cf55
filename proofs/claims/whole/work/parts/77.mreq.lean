/-! PURE: the reference's requests. -/
/-- a request was told: the sheet is s' now -/
def mDone (h h' : mm_H) (A : aG) (s' : aS) : Prop := mHis h' (gAcc A s') ∧ RM (h' 484) s' ∧ (∀ b : Int, b ≠ 483 → b ≠ 484 → b ≠ 485 → b ≠ 487 → b ≠ 488 → b ≠ 489 → b ≠ 493 → h' b = h b) ∧ (∀ i : Int, i ≠ 2 → i ≠ 3 → i ≠ 4 → ¬ (8 ≤ i ∧ i < 12) → h' 483 i = h 483 i) ∧ h' 483 4 = 0
/-- nothing but a rectangle that was read -/
def mSm (h h' : mm_H) : Prop := (∀ b : Int, b ≠ 483 → h' b = h b) ∧ ∀ i : Int, ¬ (8 ≤ i ∧ i < 12) → h' 483 i = h 483 i
theorem mSm_rf (h : mm_H) : mSm h h := ⟨fun _ _ => rfl, fun _ _ => rfl⟩
theorem mSm_tk (h : mm_H) (n : Int) : mSm h (mTk h n) := ⟨fun _ hb => mTk_row h n hb, fun _ hi => mTk_o h n (by omega)⟩
theorem mSm_tr {a b c : mm_H} (x : mSm a b) (y : mSm b c) : mSm a c := ⟨fun i hi => (y.1 i hi).trans (x.1 i hi), fun i hi => (y.2 i hi).trans (x.2 i hi)⟩
theorem mSm_MH {h h' : mm_H} (x : mSm h h') (hM : MH h) : MH h' := MH_fr hM (fun i hi => x.2 i (by unfold mRef at hi; omega))
section PU
variable {d : Nat} {w : mm_W} {h : mm_H} {s : aS} {A : aG}
theorem mDone_told (hd : 1 ≤ d) (hW : MW w) (hc : mHis h A) {h1 : mm_H} {s' : aS} (M1 : MH h1) (f1 : ∀ i : Int, ¬ (8 ≤ i ∧ i < 12) → h1 483 i = h 483 i) (f2 : ∀ b : Int, b ≠ 483 → b ≠ 484 → b ≠ 487 → b ≠ 488 → b ≠ 489 → b ≠ 493 → h1 b = h b) (R1 : RM (h1 484) s') (I1 : aI s') {a : Int} (ha : 0 ≤ a) : ∃ h', mm_P d 217 [(2, 483), (0, a)] w h1 = some ((0, a), w, h') ∧ mDone h h' A s' := by
  obtain ⟨h', g1, g2, g3, g4, g5⟩ := E_M_told hd hW M1 (mHis_fr hc (fun i hi => f1 i (by omega)) (f2 485 (by decide) (by decide) (by decide) (by decide) (by decide) (by decide))) R1 I1 ha
  exact ⟨h', g1, g2, by rw [g3 484 (by decide) (by decide)]; exact R1, fun b p3 p4 p5 p7 p8 p9 p93 => by rw [g3 b p3 p5, f2 b p3 p4 p7 p8 p9 p93], fun i p q r t => by rw [g4 i p q r, f1 i t], g5⟩
theorem E_M_paint (hd : 4 ≤ d) (hW : MW w) (hH : MH h) (hc : mHis h A) (hI : aI s) (hR : RM (h 484) s) (p v : Int) {n : Int} (hn : n < 2147483648) : (¬ okPaint s p v n ∧ ∃ h', mm_P d 235 [(2, 483), (0, p), (0, v), (0, n)] w h = some ((0, -2), w, h') ∧ mSm h h') ∨ (okPaint s p v n ∧ ∃ h', mm_P d 235 [(2, 483), (0, p), (0, v), (0, n)] w h = some ((0, 1), w, h') ∧ mDone h h' A (F_paint s p v (n / 1000000) (n / 10000 % 100) (n / 100 % 100) (n % 100))) := by
  obtain ⟨d, rfl, hd2⟩ := mm_dS hd; clear hd; have hd := hd2; clear hd2
  have hw : (w.1 483).1 = 13 := by rw [hW.1]
  unfold okPaint
  rw [P_M_paint, mF_t hw]
  by_cases c0 : n < 0
  · rw [E_M_takesRect_f (by omega) c0, mC_s, mEq_t rfl]
    exact Or.inl ⟨fun q => by have := q.2.2.1; omega, h, rfl, mSm_rf h⟩
  rw [E_M_takesRect (by omega) hW hH (by omega) hn, mC_s, hR.1.1, hR.1.2.1]
  have M1 : MH (mTk h n) := mSm_MH (mSm_tk h n) hH
  by_cases c1 : isRect (aHi s) (aWi s) n
  rotate_left
  · rw [bI_f c1, mEq_t rfl]
    exact Or.inl ⟨fun q => c1 q.2.2, _, rfl, mSm_tk h n⟩
  have k8 : mTk h n 483 8 = n / 1000000 := by unfold mTk; rw [mUp_n (Or.inr (by decide)), mUp_n (Or.inr (by decide)), mUp_n (Or.inr (by decide)), mUp_s]
  have k9 : mTk h n 483 9 = n / 10000 % 100 := by unfold mTk; rw [mUp_n (Or.inr (by decide)), mUp_n (Or.inr (by decide)), mUp_s]
  have k10 : mTk h n 483 10 = n / 100 % 100 := by unfold mTk; rw [mUp_n (Or.inr (by decide)), mUp_s]
  have k11 : mTk h n 483 11 = n % 100 := by unfold mTk; rw [mUp_s]
  rw [bI_t c1, mEq_f (by decide)]
  simp only [mF_t hw, k8, k9, k10, k11]
  have c1' := c1
  unfold isRect at c1'
  rcases E_M_doPaint (d := d) (by omega) hW M1 hI (by rw [mTk_row h n (by decide)]; exact hR) p v (n / 1000000) (n / 10000 % 100) (n / 100 % 100) (n % 100) with ⟨z, h2, a1, a2, a3⟩ | ⟨z, a1⟩
  · unfold okPt at z
    have I2 := aI_paint hI (p := p) (t := n / 1000000) (l := n / 10000 % 100) (b := n / 100 % 100) (r := n % 100) z.2.1
    obtain ⟨h', g1, g2⟩ := mDone_told (d := d) (by omega) hW hc (MH_fr M1 (fun i _ => by rw [a3 483 (by decide)])) (fun i hi => by rw [a3 483 (by decide)]; exact mTk_o h n (by omega)) (fun b b3 b4 _ _ _ _ => by rw [a3 b b4]; exact mTk_row h n b3) a2 I2 (a := 1) (by decide)
    rw [a1, mC_s, mF_t hw, g1, mC_s]
    exact Or.inr ⟨⟨z.1, z.2.1, c1⟩, h', rfl, g2⟩
  · rw [a1, mC_s, mF_t hw, E_M_told0 (by omega) (by decide), mC_s]
    refine Or.inl ⟨fun q => z ?_, _, rfl, mSm_tk h n⟩
    unfold okPt
    exact ⟨q.1, q.2.1, by omega⟩
theorem E_M_lines (hd : 4 ≤ d) (hW : MW w) (hH : MH h) (hc : mHis h A) (hI : aI s) (hR : RM (h 484) s) (y p v : Int) {n : Int} (hn : n < 2147483648) : (¬ okLines s y p v n ∧ mm_P d 237 [(2, 483), (0, y), (0, p), (0, v), (0, n)] w h = some ((0, -2), w, h)) ∨ (okLines s y p v n ∧ ∃ h', mm_P d 237 [(2, 483), (0, y), (0, p), (0, v), (0, n)] w h = some ((0, 1), w, h') ∧ mDone h h' A (F_lines s y p v (n / 100) (n % 100))) := by
  obtain ⟨d, rfl, hd2⟩ := mm_dS hd; clear hd; have hd := hd2; clear hd2
  have hw : (w.1 483).1 = 13 := by rw [hW.1]
  unfold okLines isAB
  rw [P_M_lines]
  by_cases c0 : n < 0
  · rw [mLe_f (by omega)]
    exact Or.inl ⟨fun q => by have := q.2.2.2.1; omega, rfl⟩
  rw [mLe_t (by omega), mD_t (by decide), mD_t (by decide), mF_t hw, Int.tdiv_eq_ediv_of_nonneg (by omega), Int.tmod_eq_emod_of_nonneg (by omega), mI_id (x := n / 100) (by omega) (by omega)]
  rcases E_M_doLines (d := d) (by omega) hW hH hI hR y p v (n / 100) (n % 100) with ⟨z, h2, a1, a2, a3⟩ | ⟨z, a1⟩
  · unfold okLn at z
    obtain ⟨h', g1, g2⟩ := mDone_told (d := d) (by omega) hW hc (MH_fr hH (fun i _ => by rw [a3 483 (by decide)])) (fun i hi => by rw [a3 483 (by decide)]) (fun b b3 b4 _ _ _ _ => a3 b b4) a2 (aI_lines hI z.2.2.1) (a := 1) (by decide)
    rw [a1, mC_s, mF_t hw, g1, mC_s]
    exact Or.inr ⟨⟨z.1, z.2.1, z.2.2.1, by omega, z.2.2.2.2⟩, h', rfl, g2⟩
  · rw [a1, mC_s, mF_t hw, E_M_told0 (by omega) (by decide), mC_s]
    refine Or.inl ⟨fun q => z ?_, rfl⟩
    unfold okLn
    exact ⟨q.1, q.2.1, q.2.2.1, by omega, q.2.2.2.2⟩
theorem E_M_ground (hd : 4 ≤ d) (hW : MW w) (hH : MH h) (hc : mHis h A) (hI : aI s) (hR : RM (h 484) s) (p v : Int) : (¬ ((0 ≤ p ∧ p < 4) ∧ (0 ≤ v ∧ v ≤ 9)) ∧ mm_P d 238 [(2, 483), (0, p), (0, v)] w h = some ((0, -2), w, h)) ∨ (((0 ≤ p ∧ p < 4) ∧ (0 ≤ v ∧ v ≤ 9)) ∧ ∃ h', mm_P d 238 [(2, 483), (0, p), (0, v)] w h = some ((0, 1), w, h') ∧ mDone h h' A (F_ground s p v)) := by
  obtain ⟨d, rfl, hd2⟩ := mm_dS hd; clear hd; have hd := hd2; clear hd2
  have hw : (w.1 483).1 = 13 := by rw [hW.1]
  rw [P_M_ground, E_M_isProperty (by omega), mC_s]
  by_cases c0 : 0 ≤ p ∧ p < 4
  rotate_left
  · rw [bI_f c0, mEq_t rfl]
    exact Or.inl ⟨fun q => c0 q.1, rfl⟩
  rw [bI_t c0, mEq_f (by decide), E_M_in (by omega), mC_s]
  by_cases c1 : 0 ≤ v ∧ v ≤ 9
  rotate_left
  · rw [bI_f c1, mEq_t rfl]
    exact Or.inl ⟨fun q => c1 q.2, rfl⟩
  rw [bI_t c1, mEq_f (by decide), mF_t hw, hH.1, mI_id (x := 3 + p) (by omega) (by omega), mAw_t hW.2.1 (by omega) (by omega) (by decide)]
  try dsimp only
  have R2 : RM (mUp h 484 (3 + p) v 484) (F_ground s p v) := RM_gro hR (fun j hj => mUp_n (Or.inr (by omega))) (fun q q0 q1 => by
    by_cases e : q = p
    · rw [e, mUp_s, if_pos rfl]
    · rw [mUp_n (Or.inr (by omega)), if_neg e]; exact hR.2.2.2.2.2.1 q q0 q1) hI
  obtain ⟨h', g1, g2⟩ := mDone_told (d := d) (by omega) hW hc (MH_fr hH (fun i _ => mUp_n (Or.inl (by decide)))) (fun i hi => mUp_n (Or.inl (by decide))) (fun b b3 b4 _ _ _ _ => mUp_row b4) R2 (aI_ground hI c1) (a := 1) (by decide)
  rw [mF_t hw, g1, mC_s]
  exact Or.inr ⟨⟨c0, c1⟩, h', rfl, g2⟩
theorem E_M_value (hd : 4 ≤ d) (hW : MW w) (hH : MH h) (hc : mHis h A) (hI : aI s) (hR : RM (h 484) s) (v : Int) {n : Int} (hn : n < 2147483648) : (¬ (isCell (aHi s) (aWi s) n ∧ (-999 ≤ v ∧ v ≤ 999)) ∧ mm_P d 239 [(2, 483), (0, n), (0, v)] w h = some ((0, -2), w, h)) ∨ ((isCell (aHi s) (aWi s) n ∧ (-999 ≤ v ∧ v ≤ 999)) ∧ ∃ h', mm_P d 239 [(2, 483), (0, n), (0, v)] w h = some ((0, 1), w, h') ∧ mDone h h' A (F_value s (n / 100) (n % 100) v)) := by
  obtain ⟨d, rfl, hd2⟩ := mm_dS hd; clear hd; have hd := hd2; clear hd2
  have hw : (w.1 483).1 = 13 := by rw [hW.1]
  have i1 := hI.1; have i2 := hI.2.1
  rw [P_M_value, mF_t hw, E_M_isCell (by omega) hW hH hn, mC_s, hR.1.1, hR.1.2.1]
  by_cases c0 : isCell (aHi s) (aWi s) n
  rotate_left
  · rw [bI_f c0, mEq_t rfl]
    exact Or.inl ⟨fun q => c0 q.1, rfl⟩
  rw [bI_t c0, mEq_f (by decide), E_M_in (by omega), mC_s]
  by_cases c1 : -999 ≤ v ∧ v ≤ 999
  rotate_left
  · rw [bI_f c1, mEq_t rfl]
    exact Or.inl ⟨fun q => c1 q.2, rfl⟩
  have c0' := c0
  unfold isCell at c0'
  rw [bI_t c1, mEq_f (by decide), mF_t hw, mD_t (by decide), mD_t (by decide), Int.tdiv_eq_ediv_of_nonneg (by omega), Int.tmod_eq_emod_of_nonneg (by omega), mI_id (x := n / 100) (by omega) (by omega), E_M_grid (by omega) (by omega) (by omega) (by omega) (by omega), mC_s, hH.1, mI_id (x := 135 + (16 * (n / 100) + n % 100)) (by omega) (by omega), mAw_t hW.2.1 (by omega) (by omega) (by decide)]
  try dsimp only
  have R2 : RM (mUp h 484 (135 + (16 * (n / 100) + n % 100)) v 484) (F_value s (n / 100) (n % 100) v) := RM_val hR (fun j hj => mUp_n (Or.inr (by omega))) (fun r c r0 r1 c0 c1 => by
    by_cases e : r = n / 100 ∧ c = n % 100
    · rw [if_pos e, e.1, e.2, show 135 + 16 * (n / 100) + n % 100 = 135 + (16 * (n / 100) + n % 100) by omega, mUp_s]
    · rw [mUp_n (Or.inr (by omega)), if_neg e]; exact hR.2.1 r c r0 r1 c0 c1) hI
  obtain ⟨h', g1, g2⟩ := mDone_told (d := d) (by omega) hW hc (MH_fr hH (fun i _ => mUp_n (Or.inl (by decide)))) (fun i hi => mUp_n (Or.inl (by decide))) (fun b b3 b4 _ _ _ _ => mUp_row b4) R2 (aI_value hI c1) (a := 1) (by decide)
  rw [mF_t hw, g1, mC_s]
  exact Or.inr ⟨⟨c0, c1⟩, h', rfl, g2⟩
theorem E_M_insert (hd : 5 ≤ d) (hW : MW w) (hH : MH h) (hc : mHis h A) (hI : aI s) (hR : RM (h 484) s) (y a n : Int) (i3 : -2147483648 ≤ n ∧ n < 2147483648) : (¬ okIns s y a n ∧ mm_P d 242 [(2, 483), (0, y), (0, a), (0, n)] w h = some ((0, -2), w, h)) ∨ ((okIns s y a n ∧ 16 < aSz s y + n) ∧ mm_P d 242 [(2, 483), (0, y), (0, a), (0, n)] w h = some ((0, -4), w, h)) ∨ ((okIns s y a n ∧ aSz s y + n ≤ 16) ∧ ∃ h', mm_P d 242 [(2, 483), (0, y), (0, a), (0, n)] w h = some ((0, aSz s y + n), w, h') ∧ mDone h h' A (F_insert s y a n)) := by
  obtain ⟨d, rfl, hd2⟩ := mm_dS hd; clear hd; have hd := hd2; clear hd2
  have hw : (w.1 483).1 = 13 := by rw [hW.1]
  have hs := aSz_le hI y
  rw [P_M_insert, mF_t hw]
  rcases E_M_doInsert (d := d) (by omega) hW hH hI hR y a n i3 with ⟨z, a1⟩ | ⟨z, a1⟩ | ⟨z, h2, a1, a2, a3⟩
  · rw [a1, mC_s, mF_t hw, E_M_told0 (by omega) (by decide), mC_s]
    exact Or.inl ⟨z, rfl⟩
  · rw [a1, mC_s, mF_t hw, E_M_told0 (by omega) (by decide), mC_s]
    exact Or.inr (Or.inl ⟨z, rfl⟩)
  · have z' := z.1
    unfold okIns at z'
    obtain ⟨h', g1, g2⟩ := mDone_told (d := d) (by omega) hW hc (MH_fr hH (fun i _ => by rw [a3 483 (by decide)])) (fun i hi => by rw [a3 483 (by decide)]) (fun b b3 b4 _ _ _ _ => a3 b b4) a2 (aI_insert hI z.1 z.2) (a := aSz s y + n) (by omega)
    rw [a1, mC_s, mF_t hw, g1, mC_s]
    exact Or.inr (Or.inr ⟨z, h', rfl, g2⟩)
theorem E_M_remove (hd : 5 ≤ d) (hW : MW w) (hH : MH h) (hc : mHis h A) (hI : aI s) (hR : RM (h 484) s) (y : Int) {n : Int} (hn : n < 2147483648) : (¬ ((y = 0 ∨ y = 1) ∧ isAB (aSz s y) n) ∧ mm_P d 245 [(2, 483), (0, y), (0, n)] w h = some ((0, -2), w, h)) ∨ ((((y = 0 ∨ y = 1) ∧ isAB (aSz s y) n) ∧ aSz s y = n % 100 - n / 100 + 1) ∧ mm_P d 245 [(2, 483), (0, y), (0, n)] w h = some ((0, -3), w, h)) ∨ ((((y = 0 ∨ y = 1) ∧ isAB (aSz s y) n) ∧ n % 100 - n / 100 + 1 < aSz s y) ∧ ∃ h', mm_P d 245 [(2, 483), (0, y), (0, n)] w h = some ((0, aSz s y - (n % 100 - n / 100 + 1)), w, h') ∧ mDone h h' A (F_remove s y (n / 100) (n % 100))) := by
  obtain ⟨d, rfl, hd2⟩ := mm_dS hd; clear hd; have hd := hd2; clear hd2
  have hw : (w.1 483).1 = 13 := by rw [hW.1]
  unfold isAB
  rw [P_M_remove]
  by_cases c0 : n < 0
  · rw [mLe_f (by omega)]
    exact Or.inl ⟨fun q => by have := q.2.1; omega, rfl⟩
  rw [mLe_t (by omega), mD_t (by decide), mD_t (by decide), mF_t hw, Int.tdiv_eq_ediv_of_nonneg (by omega), Int.tmod_eq_emod_of_nonneg (by omega), mI_id (x := n / 100) (by omega) (by omega)]
  rcases E_M_doRemove (d := d) (by omega) hW hH hI hR y (n / 100) (n % 100) with ⟨z, a1⟩ | ⟨z, a1⟩ | ⟨z, h2, a1, a2, a3⟩
  · rw [a1, mC_s, mF_t hw, E_M_told0 (by omega) (by decide), mC_s]
    exact Or.inl ⟨fun q => z (by omega), rfl⟩
  · rw [a1, mC_s, mF_t hw, E_M_told0 (by omega) (by decide), mC_s]
    exact Or.inr (Or.inl ⟨by omega, rfl⟩)
  · obtain ⟨h', g1, g2⟩ := mDone_told (d := d) (by omega) hW hc (MH_fr hH (fun i _ => by rw [a3 483 (by decide)])) (fun i hi => by rw [a3 483 (by decide)]) (fun b b3 b4 _ _ _ _ => a3 b b4) a2 (aI_remove hI z.1.1 (by omega) z.2) (a := aSz s y - (n % 100 - n / 100 + 1)) (by omega)
    rw [a1, mC_s, mF_t hw, g1, mC_s]
    exact Or.inr (Or.inr ⟨by omega, h', rfl, g2⟩)
theorem E_M_tidy (hd : 6 ≤ d) (hW : MW w) (hH : MH h) (hc : mHis h A) (hI : aI s) (hR : RM (h 484) s) (p : Int) : (¬ (0 ≤ p ∧ p < 4) ∧ mm_P d 254 [(2, 483), (0, p)] w h = some ((0, -2), w, h)) ∨ ((0 ≤ p ∧ p < 4) ∧ ∃ h', mm_P d 254 [(2, 483), (0, p)] w h = some ((0, nNeed s p), w, h') ∧ mDone h h' A (F_tidy s p)) := by
  obtain ⟨d, rfl, hd2⟩ := mm_dS hd; clear hd; have hd := hd2; clear hd2
  have hw : (w.1 483).1 = 13 := by rw [hW.1]
  have i1 := hI.1; have i2 := hI.2.1
  have hn : 0 ≤ nNeed s p ∧ nNeed s p ≤ 256 := sum2_le (by omega) (by omega) (fun r c' _ _ _ _ => by have := bI_01 (aNeed s p r c'); omega)
  rw [P_M_tidy, mF_t hw]
  rcases E_M_doTidy (d := d) (by omega) hW hH hI hR p with ⟨z, a1⟩ | ⟨z, h2, a1, a2, a3⟩
  · rw [a1, mC_s, mF_t hw, E_M_told0 (by omega) (by decide), mC_s]
    exact Or.inl ⟨z, rfl⟩
  · obtain ⟨h', g1, g2⟩ := mDone_told (d := d) (by omega) hW hc (MH_fr hH (fun i _ => by rw [a3 483 (by decide)])) (fun i hi => by rw [a3 483 (by decide)]) (fun b b3 b4 _ _ _ _ => a3 b b4) a2 (aI_tidy hI p) (a := nNeed s p) hn.1
    rw [a1, mC_s, mF_t hw, g1, mC_s]
    exact Or.inr ⟨z, h', rfl, g2⟩
end PU
