/-! PURE: copy, tidy, move on the class's draft. -/
def F_copy (s : aS) (n m tu : Int) : aS := F_cel s (fun p i j => if (m / 1000000 ≤ i ∧ i ≤ m / 100 % 100) ∧ (m / 10000 % 100 ≤ j ∧ j ≤ m % 100) then aCel s p (n / 1000000 + (if tu = 1 then j - m / 10000 % 100 else i - m / 1000000) % (n / 100 % 100 - n / 1000000 + 1)) (n / 10000 % 100 + (if tu = 1 then i - m / 1000000 else j - m / 10000 % 100) % (n % 100 - n / 10000 % 100 + 1)) else aCel s p i j)
def okCopy (s : aS) (n m tu : Int) : Prop := isRect (aHi s) (aWi s) n ∧ isRect (aHi s) (aWi s) m ∧ (tu = 0 ∨ tu = 1)
/-- set, and the same as what lies beneath -/
def aNeed (s : aS) (p r c : Int) : Prop := aCel s p r c ≠ -1 ∧ aCel s p r c = aBen s p r c
noncomputable def F_tidy (s : aS) (p : Int) : aS := F_cel s (fun q i j => @ite _ (q = p ∧ aNeed s p i j) (Classical.propDecidable _) (-1) (aCel s q i j))
noncomputable def nNeed (s : aS) (p : Int) : Int := sum2 (fun r c => bI (aNeed s p r c)) (aHi s).toNat (aWi s).toNat 0 0
def oMove (f m a l : Int) : Int := if a ≤ l ∧ l < a + m then f + l - a else if (if l < a then l else l - m) < f then (if l < a then l else l - m) else (if l < a then l else l - m) + m
def okMove (s : aS) (y n a : Int) : Prop := ((y = 0 ∨ y = 1) ∧ isAB (aSz s y) n) ∧ 0 ≤ a ∧ a ≤ aSz s y - (n % 100 - n / 100 + 1)
def F_move (s : aS) (y n a : Int) : aS := F_bring s y (oMove (n / 100) (n % 100 - n / 100 + 1) a) (aSz s y)
section PU
variable {d : Nat} {w : mm_W} {h h' : mm_H} {s : aS}
theorem benA_RC (hR : RC w h 4 s) {p r c : Int} (hp : 0 ≤ p ∧ p < 4) (hr : 0 ≤ r ∧ r < aHi s) (hc : 0 ≤ c ∧ c < aWi s) : benA (h (4 + 3)) (h (4 + 4)) p r c = aBen s p r c := by
  unfold benA aBen
  rw [hR.2.2.2.2.1 p r hp.1 hp.2 hr.1 hr.2, hR.2.2.2.2.2.1 p c hp.1 hp.2 hc.1 hc.2, hR.2.2.2.2.2.2.1 p hp.1 hp.2]
theorem L_copy2 (hd : 1 ≤ d) (hE : w.1 420 = (3, 2)) (hW : ShW w 4) (hW2 : ShW w 421) {n m tu hg wd i j r c : Int} (hm : 0 ≤ m ∧ m < 2147483648) (hr : 0 ≤ r ∧ r < 16) (hc : 0 ≤ c ∧ c < 16) (hi : 0 ≤ m / 1000000 + i ∧ m / 1000000 + i < 16) (hj : 0 ≤ m / 10000 % 100 + j ∧ m / 10000 % 100 + j < 16) : ∀ (k : Nat) (p : Int) (h : mm_H), h 420 0 = 421 → h 4 4 = 6 → h 421 4 = 423 → 0 ≤ p → p + k = 4 → ∃ h', l_Ed_copyRect_2 (mm_P d) 420 4 n m tu hg wd i j r c p w h = some (.inr (197, [(2, 420), (2, 4), (0, n), (0, m), (0, tu), (0, hg), (0, wd), (0, i), (0, j), (0, r), (0, c), (0, 4), (9, 0)], w, h')) ∧ (∀ b : Int, b ≠ 6 → h' b = h b) ∧ ∀ q y x : Int, 0 ≤ q → q < 4 → 0 ≤ y → y < 16 → 0 ≤ x → x < 16 → h' 6 (256 * q + 16 * y + x) = if p ≤ q ∧ y = m / 1000000 + i ∧ x = m / 10000 % 100 + j then h 423 (256 * q + 16 * r + c) else h 6 (256 * q + 16 * y + x) := by
  have hw : (w.1 420).1 = 3 := by rw [hE]
  have w4 : (w.1 4).1 = 9 := by rw [hW.2.1]
  have w5 : (w.1 421).1 = 9 := by rw [hW2.2.1]
  intro k
  induction k with
  | zero =>
    intro p h a1 a2 a3 a4 a5
    rw [l_Ed_copyRect_2_eq, mLe_t (by omega)]
    exact ⟨h, by rw [show p = 4 by omega], fun _ _ => rfl, fun q y x _ _ _ _ _ _ => by rw [if_neg (by omega)]⟩
  | succ k ih =>
    intro p h a1 a2 a3 a4 a5
    rw [l_Ed_copyRect_2_eq, mLe_f (by omega), mF_t hw, a1, mF_t w5, E_cellFormat hd hW2 a3 a4 (by omega) hr.1 hr.2 hc.1 hc.2, mC_s, E_topOf hd hm.1 hm.2, mC_s, E_leftOf hd hm.1 hm.2, mC_s, mF_t w4, mI_id (x := m / 1000000 + i) (by omega) (by omega), mI_id (x := m / 10000 % 100 + j) (by omega) (by omega), E_setCellFormat hd hW a2 _ a4 (by omega) hi.1 hi.2 hj.1 hj.2, mC_s]
    try dsimp only
    rw [mI_id (by omega) (by omega)]
    obtain ⟨h', g1, g2, g3⟩ := ih (p + 1) (mUp h (4 + 2) (256 * p + 16 * (m / 1000000 + i) + (m / 10000 % 100 + j)) (h (421 + 2) (256 * p + 16 * r + c))) (by rw [mUp_row (by decide)]; exact a1) (by rw [mUp_row (by decide)]; exact a2) (by rw [mUp_row (by decide)]; exact a3) (by omega) (by omega)
    refine ⟨h', g1, fun b hb => by rw [g2 b hb, mUp_row (by omega)], fun q y x q0 q1 y0 y1 x0 x1 => ?_⟩
    rw [g3 q y x q0 q1 y0 y1 x0 x1, mUp_row (show (423 : Int) ≠ 4 + 2 by decide)]
    by_cases c1 : p ≤ q ∧ y = m / 1000000 + i ∧ x = m / 10000 % 100 + j
    · rw [if_pos c1]
      by_cases c2 : p + 1 ≤ q
      · rw [if_pos ⟨c2, c1.2⟩]
      · rw [if_neg (by omega), show q = p by omega, c1.2.1, c1.2.2]
        exact mUp_s
    · rw [if_neg c1, if_neg (by omega), mUp_n (Or.inr (by omega))]
theorem L_copy1 (hd : 1 ≤ d) (hE : w.1 420 = (3, 2)) (hW : ShW w 4) (hW2 : ShW w 421) {n m tu i : Int} (hn : 0 ≤ n ∧ n < 2147483648) (hm : 0 ≤ m ∧ m < 2147483648) (rn : (n / 1000000 ≤ n / 100 % 100 ∧ n / 100 % 100 < 16) ∧ (n / 10000 % 100 ≤ n % 100 ∧ n % 100 < 16)) (rm : (m / 1000000 ≤ m / 100 % 100 ∧ m / 100 % 100 < 16) ∧ (m / 10000 % 100 ≤ m % 100 ∧ m % 100 < 16)) (hi : 0 ≤ i ∧ m / 1000000 + i ≤ m / 100 % 100) (ht : tu = 0 ∨ tu = 1) : ∀ (k : Nat) (j : Int) (h : mm_H), h 420 0 = 421 → h 4 4 = 6 → h 421 4 = 423 → 0 ≤ j → j + k = m % 100 - m / 10000 % 100 + 1 → ∃ h', l_Ed_copyRect_1 (mm_P d) 420 4 n m tu (n / 100 % 100 - n / 1000000 + 1) (n % 100 - n / 10000 % 100 + 1) i j w h = some (.inr (203, [(2, 420), (2, 4), (0, n), (0, m), (0, tu), (0, n / 100 % 100 - n / 1000000 + 1), (0, n % 100 - n / 10000 % 100 + 1), (0, i), (0, m % 100 - m / 10000 % 100 + 1), (9, 0), (9, 0), (9, 0), (9, 0)], w, h')) ∧ (∀ b : Int, b ≠ 6 → h' b = h b) ∧ ∀ q y x : Int, 0 ≤ q → q < 4 → 0 ≤ y → y < 16 → 0 ≤ x → x < 16 → h' 6 (256 * q + 16 * y + x) = if y = m / 1000000 + i ∧ m / 10000 % 100 + j ≤ x ∧ x ≤ m % 100 then h 423 (256 * q + 16 * (n / 1000000 + (if tu = 1 then x - m / 10000 % 100 else i) % (n / 100 % 100 - n / 1000000 + 1)) + (n / 10000 % 100 + (if tu = 1 then i else x - m / 10000 % 100) % (n % 100 - n / 10000 % 100 + 1))) else h 6 (256 * q + 16 * y + x) := by
  intro k
  induction k with
  | zero =>
    intro j h a1 a2 a3 a4 a5
    rw [l_Ed_copyRect_1_eq, E_rightOf hd hm.1 hm.2, mC_s, E_leftOf hd hm.1 hm.2, mC_s, mI_id (by omega) (by omega), mLt_t (by omega)]
    exact ⟨h, by rw [show j = m % 100 - m / 10000 % 100 + 1 by omega], fun _ _ => rfl, fun q y x _ _ _ _ _ _ => by rw [if_neg (by omega)]⟩
  | succ k ih =>
    intro j h a1 a2 a3 a4 a5
    have H : 0 < n / 100 % 100 - n / 1000000 + 1 := by omega
    have V : 0 < n % 100 - n / 10000 % 100 + 1 := by omega
    have m1 := Int.emod_nonneg (if tu = 1 then j else i) (show n / 100 % 100 - n / 1000000 + 1 ≠ 0 by omega)
    have m2 := Int.emod_lt_of_pos (if tu = 1 then j else i) H
    have m3 := Int.emod_nonneg (if tu = 1 then i else j) (show n % 100 - n / 10000 % 100 + 1 ≠ 0 by omega)
    have m4 := Int.emod_lt_of_pos (if tu = 1 then i else j) V
    obtain ⟨h1, b1, b2, b3⟩ := L_copy2 hd hE hW hW2 (n := n) (m := m) (tu := tu) (hg := n / 100 % 100 - n / 1000000 + 1) (wd := n % 100 - n / 10000 % 100 + 1) (i := i) (j := j) (r := n / 1000000 + (if tu = 1 then j else i) % (n / 100 % 100 - n / 1000000 + 1)) (c := n / 10000 % 100 + (if tu = 1 then i else j) % (n % 100 - n / 10000 % 100 + 1)) hm (by omega) (by omega) (by omega) (by omega) 4 0 h a1 a2 a3 (by decide) (by decide)
    obtain ⟨h', g1, g2, g3⟩ := ih (j + 1) h1 (by rw [b2 420 (by decide)]; exact a1) (by rw [b2 4 (by decide)]; exact a2) (by rw [b2 421 (by decide)]; exact a3) (by omega) (by omega)
    refine ⟨h', ?_, fun b hb => by rw [g2 b hb, b2 b hb], fun q y x q0 q1 y0 y1 x0 x1 => ?_⟩
    · rw [l_Ed_copyRect_1_eq, E_rightOf hd hm.1 hm.2, mC_s, E_leftOf hd hm.1 hm.2, mC_s, mI_id (x := m % 100 - m / 10000 % 100) (by omega) (by omega), mLt_f (by omega), E_topOf hd hn.1 hn.2, mC_s]
      rcases ht with rfl | rfl
      · rw [if_neg (by decide), if_neg (by decide)] at b1
        rw [if_neg (by decide)] at m1 m2 m3 m4
        rw [mEq_f (by decide), E_wrap hd (by omega) H, mC_s]
        try dsimp only
        rw [mI_id (x := n / 1000000 + i % (n / 100 % 100 - n / 1000000 + 1)) (by omega) (by omega), E_leftOf hd hn.1 hn.2, mC_s, mEq_f (by decide), E_wrap hd a4 V, mC_s]
        try dsimp only
        rw [mI_id (x := n / 10000 % 100 + j % (n % 100 - n / 10000 % 100 + 1)) (by omega) (by omega), b1, mK_r, if_pos rfl]
        simp only [mP_0, mP_1, mP_2, mP_3, mP_4, mP_5, mP_6, mP_7, mP_8]
        rw [mI_id (by omega) (by omega), g1]
      · rw [if_pos rfl, if_pos rfl] at b1
        rw [if_pos rfl] at m1 m2 m3 m4
        rw [mEq_t rfl, E_wrap hd a4 H, mC_s]
        try dsimp only
        rw [mI_id (x := n / 1000000 + j % (n / 100 % 100 - n / 1000000 + 1)) (by omega) (by omega), E_leftOf hd hn.1 hn.2, mC_s, mEq_t rfl, E_wrap hd (by omega) V, mC_s]
        try dsimp only
        rw [mI_id (x := n / 10000 % 100 + i % (n % 100 - n / 10000 % 100 + 1)) (by omega) (by omega), b1, mK_r, if_pos rfl]
        simp only [mP_0, mP_1, mP_2, mP_3, mP_4, mP_5, mP_6, mP_7, mP_8]
        rw [mI_id (by omega) (by omega), g1]
    · rw [g3 q y x q0 q1 y0 y1 x0 x1, b2 423 (by decide), b3 q y x q0 q1 y0 y1 x0 x1]
      by_cases cx : x = m / 10000 % 100 + j
      · rw [if_neg (by omega)]
        by_cases cy : y = m / 1000000 + i
        · rw [if_pos ⟨q0, cy, cx⟩, if_pos (show y = m / 1000000 + i ∧ m / 10000 % 100 + j ≤ x ∧ x ≤ m % 100 by omega), show x - m / 10000 % 100 = j by omega]
        · rw [if_neg (fun z => cy z.2.1), if_neg (fun z => cy z.1)]
      · by_cases cc : y = m / 1000000 + i ∧ m / 10000 % 100 + j ≤ x ∧ x ≤ m % 100
        · rw [if_pos cc, if_pos (show y = m / 1000000 + i ∧ m / 10000 % 100 + (j + 1) ≤ x ∧ x ≤ m % 100 by omega)]
        · rw [if_neg cc, if_neg (by omega), if_neg (fun z => cx z.2.2)]
theorem L_copy0 (hd : 1 ≤ d) (hE : w.1 420 = (3, 2)) (hW : ShW w 4) (hW2 : ShW w 421) {n m tu : Int} (hn : 0 ≤ n ∧ n < 2147483648) (hm : 0 ≤ m ∧ m < 2147483648) (rn : (n / 1000000 ≤ n / 100 % 100 ∧ n / 100 % 100 < 16) ∧ (n / 10000 % 100 ≤ n % 100 ∧ n % 100 < 16)) (rm : (m / 1000000 ≤ m / 100 % 100 ∧ m / 100 % 100 < 16) ∧ (m / 10000 % 100 ≤ m % 100 ∧ m % 100 < 16)) (ht : tu = 0 ∨ tu = 1) : ∀ (k : Nat) (i : Int) (h : mm_H), h 420 0 = 421 → h 4 4 = 6 → h 421 4 = 423 → 0 ≤ i → i + k = m / 100 % 100 - m / 1000000 + 1 → ∃ h', l_Ed_copyRect_0 (mm_P d) 420 4 n m tu (n / 100 % 100 - n / 1000000 + 1) (n % 100 - n / 10000 % 100 + 1) i w h = some (.inr (209, [(2, 420), (2, 4), (0, n), (0, m), (0, tu), (0, n / 100 % 100 - n / 1000000 + 1), (0, n % 100 - n / 10000 % 100 + 1), (0, m / 100 % 100 - m / 1000000 + 1), (9, 0), (9, 0), (9, 0), (9, 0), (9, 0)], w, h')) ∧ (∀ b : Int, b ≠ 6 → h' b = h b) ∧ ∀ q y x : Int, 0 ≤ q → q < 4 → 0 ≤ y → y < 16 → 0 ≤ x → x < 16 → h' 6 (256 * q + 16 * y + x) = if (m / 1000000 + i ≤ y ∧ y ≤ m / 100 % 100) ∧ (m / 10000 % 100 ≤ x ∧ x ≤ m % 100) then h 423 (256 * q + 16 * (n / 1000000 + (if tu = 1 then x - m / 10000 % 100 else y - m / 1000000) % (n / 100 % 100 - n / 1000000 + 1)) + (n / 10000 % 100 + (if tu = 1 then y - m / 1000000 else x - m / 10000 % 100) % (n % 100 - n / 10000 % 100 + 1))) else h 6 (256 * q + 16 * y + x) := by
  intro k
  induction k with
  | zero =>
    intro i h a1 a2 a3 a4 a5
    rw [l_Ed_copyRect_0_eq, E_bottomOf hd hm.1 hm.2, mC_s, E_topOf hd hm.1 hm.2, mC_s, mI_id (by omega) (by omega), mLt_t (by omega)]
    exact ⟨h, by rw [show i = m / 100 % 100 - m / 1000000 + 1 by omega], fun _ _ => rfl, fun q y x _ _ _ _ _ _ => by rw [if_neg (by omega)]⟩
  | succ k ih =>
    intro i h a1 a2 a3 a4 a5
    obtain ⟨h1, b1, b2, b3⟩ := L_copy1 hd hE hW hW2 (n := n) (m := m) (tu := tu) (i := i) hn hm rn rm (by omega) ht (m % 100 - m / 10000 % 100 + 1).toNat 0 h a1 a2 a3 (by decide) (by omega)
    obtain ⟨h', g1, g2, g3⟩ := ih (i + 1) h1 (by rw [b2 420 (by decide)]; exact a1) (by rw [b2 4 (by decide)]; exact a2) (by rw [b2 421 (by decide)]; exact a3) (by omega) (by omega)
    refine ⟨h', ?_, fun b hb => by rw [g2 b hb, b2 b hb], fun q y x q0 q1 y0 y1 x0 x1 => ?_⟩
    · rw [l_Ed_copyRect_0_eq, E_bottomOf hd hm.1 hm.2, mC_s, E_topOf hd hm.1 hm.2, mC_s, mI_id (x := m / 100 % 100 - m / 1000000) (by omega) (by omega), mLt_f (by omega), b1, mK_r, if_pos rfl]
      simp only [mP_0, mP_1, mP_2, mP_3, mP_4, mP_5, mP_6, mP_7, mP_8]
      rw [mI_id (by omega) (by omega), g1]
    · rw [g3 q y x q0 q1 y0 y1 x0 x1, b2 423 (by decide), b3 q y x q0 q1 y0 y1 x0 x1]
      by_cases cy : y = m / 1000000 + i
      · rw [if_neg (by omega), show y - m / 1000000 = i by omega]
        by_cases cx : m / 10000 % 100 ≤ x ∧ x ≤ m % 100
        · rw [if_pos (show y = m / 1000000 + i ∧ m / 10000 % 100 + 0 ≤ x ∧ x ≤ m % 100 by omega), if_pos (show (m / 1000000 + i ≤ y ∧ y ≤ m / 100 % 100) ∧ (m / 10000 % 100 ≤ x ∧ x ≤ m % 100) by omega)]
        · rw [if_neg (by omega), if_neg (fun z => cx z.2)]
      · by_cases cc : (m / 1000000 + i ≤ y ∧ y ≤ m / 100 % 100) ∧ (m / 10000 % 100 ≤ x ∧ x ≤ m % 100)
        · rw [if_pos cc, if_pos (show (m / 1000000 + (i + 1) ≤ y ∧ y ≤ m / 100 % 100) ∧ (m / 10000 % 100 ≤ x ∧ x ≤ m % 100) by omega)]
        · rw [if_neg cc, if_neg (by omega), if_neg (fun z => cy z.1)]
theorem E_copyRect (hd : 4 ≤ d) (hE : w.1 420 = (3, 2)) (hW : ShW w 4) (hW2 : ShW w 421) (hI : aI s) (hR : RC w h 4 s) (hH2 : ShH h 421) (he : EdH h) {n m : Int} (tu : Int) (hn : n < 2147483648) (hm : m < 2147483648) : (¬ okCopy s n m tu ∧ mm_P d 36 [(2, 420), (2, 4), (0, n), (0, m), (0, tu)] w h = some ((0, -2), w, h)) ∨ (okCopy s n m tu ∧ ∃ h', mm_P d 36 [(2, 420), (2, 4), (0, n), (0, m), (0, tu)] w h = some ((0, 1), w, h') ∧ RC w h' 4 (F_copy s n m tu) ∧ ShH h' 421 ∧ ∀ b : Int, b ≠ 6 → ¬ (421 ≤ b ∧ b < 434) → h' b = h b) := by
  obtain ⟨d, rfl, hd2⟩ := mm_dS hd; clear hd; have hd := hd2; clear hd2
  have hw : (w.1 420).1 = 3 := by rw [hE]
  have w4 : (w.1 4).1 = 9 := by rw [hW.2.1]
  have w5 : (w.1 421).1 = 9 := by rw [hW2.2.1]
  have h1 := hI.1; have h2 := hI.2.1
  rw [P_Ed_copyRect, mF_t w4, E_hasRect (by omega) hW hn, mC_s, hR.2.1.1, hR.2.1.2.1]
  by_cases c0 : isRect (aHi s) (aWi s) n
  rotate_left
  · rw [bI_f c0, mEq_t rfl]
    exact Or.inl ⟨fun z => c0 z.1, rfl⟩
  rw [bI_t c0, mEq_f (by decide), mF_t w4, E_hasRect (by omega) hW hm, mC_s, hR.2.1.1, hR.2.1.2.1]
  by_cases c1 : isRect (aHi s) (aWi s) m
  rotate_left
  · rw [bI_f c1, mEq_t rfl]
    exact Or.inl ⟨fun z => c1 z.2.1, rfl⟩
  rw [bI_t c1, mEq_f (by decide), E_isFlag (by omega), mC_s]
  by_cases c2 : tu = 0 ∨ tu = 1
  rotate_left
  · rw [bI_f c2, mEq_t rfl]
    exact Or.inl ⟨fun z => c2 z.2.2, rfl⟩
  have k0 := c0; have k1 := c1
  unfold isRect at k0 k1
  obtain ⟨ha, b1, b2, b3⟩ := E_become (by omega : 3 ≤ d) hW2 hW (by decide) (by decide) hI hR hH2
  refine Or.inr ⟨⟨c0, c1, c2⟩, ?_⟩
  obtain ⟨h', g1, g2, g3⟩ := L_copy0 (d := d) (by omega) hE hW hW2 (n := n) (m := m) (tu := tu) ⟨k0.1, hn⟩ ⟨k1.1, hm⟩ (by omega) (by omega) c2 (m / 100 % 100 - m / 1000000 + 1).toNat 0 ha (by rw [b3 420 (by decide)]; exact he.1) (by rw [b3 4 (by decide)]; exact hR.1.2.1) b2.1.2.1 (by decide) (by omega)
  refine ⟨h', ?_, RC_cel (RC_fr hR hI ⟨Int.le_refl _, fun a a0 _ => ⟨rfl, b3 a (by omega)⟩⟩ (fun b p q => b3 b (by omega))) hI ⟨by decide, by decide⟩ g2 (fun p i j p0 p1 i0 i1 j0 j1 => ?_), ShH_fr b2.1 (fun i _ _ => by rw [g2 421 (by decide)]) (g2 _ (by decide)), fun b n6 n4 => by rw [g2 b n6, b3 b n4]⟩
  · rw [bI_t c2, mEq_f (by decide), mF_t hw, he.1, mF_t w5, b1, mC_s, E_bottomOf (by omega) k0.1 hn, mC_s, E_topOf (by omega) k0.1 hn, mC_s]
    try dsimp only
    rw [mI_id (x := n / 100 % 100 - n / 1000000) (by omega) (by omega), mI_id (x := n / 100 % 100 - n / 1000000 + 1) (by omega) (by omega), E_rightOf (by omega) k0.1 hn, mC_s, E_leftOf (by omega) k0.1 hn, mC_s]
    try dsimp only
    rw [mI_id (x := n % 100 - n / 10000 % 100) (by omega) (by omega), mI_id (x := n % 100 - n / 10000 % 100 + 1) (by omega) (by omega), g1, mK_r, if_pos rfl]
  · have H : 0 < n / 100 % 100 - n / 1000000 + 1 := by omega
    have V : 0 < n % 100 - n / 10000 % 100 + 1 := by omega
    have m1 := Int.emod_nonneg (if tu = 1 then j - m / 10000 % 100 else i - m / 1000000) (show n / 100 % 100 - n / 1000000 + 1 ≠ 0 by omega)
    have m2 := Int.emod_lt_of_pos (if tu = 1 then j - m / 10000 % 100 else i - m / 1000000) H
    have m3 := Int.emod_nonneg (if tu = 1 then i - m / 1000000 else j - m / 10000 % 100) (show n % 100 - n / 10000 % 100 + 1 ≠ 0 by omega)
    have m4 := Int.emod_lt_of_pos (if tu = 1 then i - m / 1000000 else j - m / 10000 % 100) V
    rw [show (4 : Int) + 2 = 6 from rfl, g3 p i j p0 p1 i0 (by omega) j0 (by omega), show m / 1000000 + 0 = m / 1000000 by omega]
    by_cases cc : (m / 1000000 ≤ i ∧ i ≤ m / 100 % 100) ∧ (m / 10000 % 100 ≤ j ∧ j ≤ m % 100)
    · rw [if_pos cc, if_pos cc]
      exact b2.2.2.2.1 p _ _ p0 p1 (by omega) (by omega) (by omega) (by omega)
    · rw [if_neg cc, if_neg cc, b3 6 (by decide)]
      exact hR.2.2.2.1 p i j p0 p1 i0 i1 j0 j1
end PU
