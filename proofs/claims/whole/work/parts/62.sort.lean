/-! PURE: move and sort, whole, on the class's draft. -/
def okSort (s : aS) (n c fa : Int) : Prop := isAB (aHi s) n ∧ (0 ≤ c ∧ c < aWi s) ∧ (fa = 0 ∨ fa = 1)
/-- what rows are sorted by -/
def kSort (s : aS) (c fa i : Int) : Int := if fa = 1 then -(aVal s i c) else aVal s i c
noncomputable def F_sort (s : aS) (n c fa : Int) : aS := F_bring s 0 (oSort (kSort s c fa) (n / 100) (n % 100 - n / 100 + 1).toNat) (aHi s)
section PU
variable {d : Nat} {w : mm_W} {h h' : mm_H} {s : aS}
theorem F_bring_same {y z : Int} {o o' : Int → Int} (hz : z = aSz s y) (hy : y = 0 ∨ y = 1) (h : ∀ l : Int, 0 ≤ l → l < z → o l = o' l) : sameS (F_bring s y o z) (F_bring s y o' z) := by
  subst hz
  rcases hy with rfl | rfl
  · refine ⟨rfl, fun r c r0 r1 c0 c1 => ?_, fun p r c p0 p1 r0 r1 c0 c1 => ?_, fun p i p0 p1 i0 i1 => ?_, fun p i p0 p1 i0 i1 => rfl, fun _ _ _ => rfl, fun _ _ _ => ⟨fun _ _ _ => rfl, rfl⟩⟩
    · show (if o r < 0 then 0 else aVal s (o r) c) = (if o' r < 0 then 0 else aVal s (o' r) c)
      rw [h r r0 r1]
    · show (if o r < 0 then -1 else aCel s p (o r) c) = (if o' r < 0 then -1 else aCel s p (o' r) c)
      rw [h r r0 r1]
    · show (if (0 : Int) = 0 then (if o i < 0 then -1 else aLin s 0 p (o i)) else aLin s 0 p i) = (if (0 : Int) = 0 then (if o' i < 0 then -1 else aLin s 0 p (o' i)) else aLin s 0 p i)
      rw [h i i0 i1]
  · refine ⟨rfl, fun r c r0 r1 c0 c1 => ?_, fun p r c p0 p1 r0 r1 c0 c1 => ?_, fun p i p0 p1 i0 i1 => rfl, fun p i p0 p1 i0 i1 => ?_, fun _ _ _ => rfl, fun _ _ _ => ⟨fun _ _ _ => rfl, rfl⟩⟩
    · show (if o c < 0 then 0 else aVal s r (o c)) = (if o' c < 0 then 0 else aVal s r (o' c))
      rw [h c c0 c1]
    · show (if o c < 0 then -1 else aCel s p r (o c)) = (if o' c < 0 then -1 else aCel s p r (o' c))
      rw [h c c0 c1]
    · show (if (1 : Int) = 1 then (if o i < 0 then -1 else aLin s 1 p (o i)) else aLin s 1 p i) = (if (1 : Int) = 1 then (if o' i < 0 then -1 else aLin s 1 p (o' i)) else aLin s 1 p i)
      rw [h i i0 i1]
theorem E_moveLines (hd : 5 ≤ d) (hE : w.1 420 = (3, 2)) (hO : w.1 434 = (50, 16)) (hW : ShW w 4) (hW2 : ShW w 421) (hI : aI s) (hR : RC w h 4 s) (hH2 : ShH h 421) (he : EdH h) (y : Int) {n : Int} (a : Int) (hn : n < 2147483648) : (¬ okMove s y n a ∧ mm_P d 39 [(2, 420), (2, 4), (0, y), (0, n), (0, a)] w h = some ((0, -2), w, h)) ∨ (okMove s y n a ∧ ∃ h', mm_P d 39 [(2, 420), (2, 4), (0, y), (0, n), (0, a)] w h = some ((0, 1), w, h') ∧ RC w h' 4 (F_move s y n a) ∧ ShH h' 421 ∧ ∀ b : Int, ¬ (4 ≤ b ∧ b < 17) → ¬ (421 ≤ b ∧ b < 435) → h' b = h b) := by
  obtain ⟨d, rfl, hd2⟩ := mm_dS hd; clear hd; have hd := hd2; clear hd2
  have hw : (w.1 420).1 = 3 := by rw [hE]
  have w4 : (w.1 4).1 = 9 := by rw [hW.2.1]
  have hs := aSz_le hI y
  unfold okMove
  rw [P_Ed_moveLines, E_isFlag (by omega), mC_s]
  by_cases c0 : y = 0 ∨ y = 1
  rotate_left
  · rw [bI_f c0, mEq_t rfl]
    exact Or.inl ⟨fun h => c0 h.1.1, rfl⟩
  rw [bI_t c0, mEq_f (by decide), mF_t w4, E_hasLines (by omega) hW y hn, mC_s, hR.2.1.1, hR.2.1.2.1, show (if y = 0 then aHi s else aWi s) = aSz s y from rfl]
  by_cases c1 : isAB (aSz s y) n
  rotate_left
  · rw [bI_f c1, mEq_t rfl]
    exact Or.inl ⟨fun h => c1 h.1.2, rfl⟩
  have c2 := c1
  unfold isAB at c2
  have esz : mm_P d 87 [(2, 4), (0, y)] w h = some ((0, aSz s y), w, h) := by
    rw [E_size (by omega) hW, hR.2.1.1, hR.2.1.2.1]; rfl
  rw [bI_t c1, mEq_f (by decide), mD_t (by decide), mD_t (by decide)]
  try dsimp only
  rw [Int.tdiv_eq_ediv_of_nonneg c2.1, Int.tmod_eq_emod_of_nonneg c2.1, mI_id (x := n / 100) (by omega) (by omega), mI_id (x := n % 100 - n / 100) (by omega) (by omega), mI_id (x := n % 100 - n / 100 + 1) (by omega) (by omega), mF_t w4, esz, mC_s]
  by_cases c3 : a < 0
  · rw [mLt_t c3]
    exact Or.inl ⟨fun h => by have := h.2; omega, rfl⟩
  rw [mLt_f (by omega), mI_id (by omega) (by omega)]
  by_cases c4 : aSz s y - (n % 100 - n / 100 + 1) < a
  · rw [mLe_f c4]
    exact Or.inl ⟨fun h => by have := h.2; omega, rfl⟩
  rw [mLe_t (by omega)]
  refine Or.inr ⟨⟨⟨c0, c1⟩, by omega⟩, ?_⟩
  obtain ⟨ha, a1, a2, a3⟩ := L_move (d := d) (by omega) hE hO (y := y) (n := n) (a := a) (f := n / 100) (m := n % 100 - n / 100 + 1) (z := aSz s y) (by omega) (by omega) (by omega) (by omega) (aSz s y).toNat 0 h he (by decide) (by omega)
  have CSa : CS w w h ha := ⟨Int.le_refl _, fun x x0 _ => ⟨rfl, a2 x (by omega)⟩⟩
  have Ra : RC w ha 4 s := RC_fr hR hI CSa (fun b p q => a2 b (by omega))
  have H421 : ShH ha 421 := ShH_fr hH2 (fun i _ _ => by rw [a2 421 (by decide)]) (a2 _ (by decide))
  have Ea : EdH ha := by unfold EdH; rw [a2 420 (by decide)]; exact he
  obtain ⟨hb, b1, b2, b3, b4, b5⟩ := E_bringLines hd hE hO hW hW2 hI Ra H421 Ea (z := aSz s y) (o := oMove (n / 100) (n % 100 - n / 100 + 1) a) c0 (by omega) (fun l l0 l1 => by unfold oMove; repeat' split <;> omega) (fun l l0 l1 => by rw [a3, if_pos ⟨l0, l1⟩])
  refine ⟨hb, ?_, b2, b3.1, fun b n1 n2 => by rw [b4 b (by omega) (by omega), a2 b (by omega)]⟩
  rw [a1, mK_r, if_pos rfl]
  simp only [mP_0, mP_1, mP_2, mP_3, mP_4, mP_5, mP_6, mP_7]
  rw [mF_t hw, b1, mC_s]
theorem L_sort0 (hd : 1 ≤ d) (hE : w.1 420 = (3, 2)) (hO : w.1 434 = (50, 16)) (hW : ShW w 4) {n c fa f t z : Int} (hz : z ≤ 16) : ∀ (k : Nat) (l : Int) (h : mm_H), EdH h → h 4 0 = z → 0 ≤ l → l + k = z → ∃ h', l_Ed_sortRows_0 (mm_P d) 420 4 n c fa f t l w h = some (.inr (73, [(2, 420), (2, 4), (0, n), (0, c), (0, fa), (0, f), (0, t), (0, z), (9, 0), (9, 0)], w, h')) ∧ (∀ b : Int, b ≠ 434 → h' b = h b) ∧ ∀ j : Int, h' 434 j = if l ≤ j ∧ j < z then j else h 434 j := by
  have hw : (w.1 420).1 = 3 := by rw [hE]
  have w4 : (w.1 4).1 = 9 := by rw [hW.2.1]
  intro k
  induction k with
  | zero =>
    intro l h a1 a2 a3 a4
    rw [l_Ed_sortRows_0_eq, mF_t w4, mLe_t (by omega)]
    exact ⟨h, by rw [show l = z by omega], fun _ _ => rfl, fun j => by rw [if_neg (by omega)]⟩
  | succ k ih =>
    intro l h a1 a2 a3 a4
    rw [l_Ed_sortRows_0_eq, mF_t w4, mLe_f (by omega), mF_t hw, a1.2, E_poke_t hd hO (by decide) a3 (by omega), mC_s]
    try dsimp only
    rw [mI_id (by omega) (by omega)]
    obtain ⟨h', g1, g2, g3⟩ := ih (l + 1) (mUp h 434 l l) (by unfold EdH; rw [mUp_row (by decide)]; exact a1) (by rw [mUp_row (by decide)]; exact a2) (by omega) (by omega)
    refine ⟨h', g1, fun b hb => by rw [g2 b hb, mUp_row hb], fun j => ?_⟩
    rw [g3]
    by_cases hj : j = l
    · subst hj
      rw [if_neg (by omega), if_pos (by omega)]; exact mUp_s
    · rw [mUp_n (Or.inr hj)]
      by_cases hh : l ≤ j ∧ j < z
      · rw [if_pos hh, if_pos (by omega)]
      · rw [if_neg hh, if_neg (by omega)]
theorem E_mustSwap (hd : 2 ≤ d) (hE : w.1 420 = (3, 2)) (hO : w.1 434 = (50, 16)) (hW : ShW w 4) (hI : aI s) (hR : RC w h 4 s) (he : EdH h) {a c fa : Int} (ha : 1 ≤ a ∧ a < 16) (hc : 0 ≤ c ∧ c < aWi s) (h0 : 0 ≤ h 434 a ∧ h 434 a < aHi s) (h1 : 0 ≤ h 434 (a - 1) ∧ h 434 (a - 1) < aHi s) (hf : fa = 0 ∨ fa = 1) : mm_P d 40 [(2, 420), (2, 4), (0, a), (0, c), (0, fa)] w h = some ((0, bI (kSort s c fa (h 434 a) < kSort s c fa (h 434 (a - 1)))), w, h) := by
  obtain ⟨d, rfl, hd2⟩ := mm_dS hd; clear hd; have hd := hd2; clear hd2
  have hw : (w.1 420).1 = 3 := by rw [hE]
  have w4 : (w.1 4).1 = 9 := by rw [hW.2.1]
  have i1 := hI.1; have i2 := hI.2.1
  have v0 := hR.2.2.1 (h 434 a) c h0.1 h0.2 hc.1 hc.2
  have v1 := hR.2.2.1 (h 434 (a - 1)) c h1.1 h1.2 hc.1 hc.2
  rw [P_Ed_mustSwap, mF_t hw, he.2, mI_id (by omega) (by omega), E_peek_t hd hO (by omega) (by omega), mC_s, mF_t w4, E_valueOf hd hW hR.1.1 h1.1 (by omega) hc.1 (by omega), mC_s, mF_t hw, he.2, E_peek_t hd hO (by omega) (by omega), mC_s, mF_t w4, E_valueOf hd hW hR.1.1 h0.1 (by omega) hc.1 (by omega), mC_s, v0, v1]
  unfold kSort
  rcases hf with rfl | rfl
  · rw [mEq_f (by decide), if_neg (by decide), if_neg (by decide)]
    by_cases q : aVal s (h 434 a) c < aVal s (h 434 (a - 1)) c
    · rw [mLe_f q, mZ_1, bI_t q]
    · rw [mLe_t (by omega), mZ_0, bI_f q]
  · rw [mEq_t rfl, if_pos rfl, if_pos rfl]
    by_cases q : aVal s (h 434 (a - 1)) c < aVal s (h 434 a) c
    · rw [mLe_f q, mZ_1, bI_t (by omega)]
    · rw [mLe_t (by omega), mZ_0, bI_f (by omega)]
/-- the new one sinks: it stands at a; the ones ahead of a are as in o, those behind up to t are o's, one on -/
theorem L_sort2 (hd : 3 ≤ d) (hE : w.1 420 = (3, 2)) (hO : w.1 434 = (50, 16)) (hW : ShW w 4) (hI : aI s) {n c fa f t x nw : Int} {o : Int → Int} (hf : 0 ≤ f) (hx : x < 16) (hc : 0 ≤ c ∧ c < aWi s) (hfa : fa = 0 ∨ fa = 1) (ho : ∀ L : Int, f ≤ L → L < x → 0 ≤ o L ∧ o L < aHi s) (hnw : 0 ≤ nw ∧ nw < aHi s) : ∀ (k : Nat) (a : Int) (h : mm_H), RC w h 4 s → EdH h → a = f + k → a ≤ x → (∀ L : Int, f ≤ L → L < x + 1 → h 434 L = if L < a then o L else if L = a then nw else o (L - 1)) → (∀ L : Int, a ≤ L → L < x → kSort s c fa nw < kSort s c fa (o L)) → ∃ (h' : mm_H) (R : Int), l_Ed_sortRows_2 (mm_P d) 420 4 n c fa f t x a w h = some (.inr (160, [(2, 420), (2, 4), (0, n), (0, c), (0, fa), (0, f), (0, t), (0, x), (0, R), (9, 0)], w, h')) ∧ (∀ b : Int, b ≠ 434 → h' b = h b) ∧ (f ≤ R ∧ R ≤ x) ∧ (∀ L : Int, R ≤ L → L < x → kSort s c fa nw < kSort s c fa (o L)) ∧ (R = f ∨ kSort s c fa (o (R - 1)) ≤ kSort s c fa nw) ∧ (∀ L : Int, f ≤ L → L < x + 1 → h' 434 L = if L < R then o L else if L = R then nw else o (L - 1)) ∧ ∀ L : Int, L < f ∨ x < L → h' 434 L = h 434 L := by
  have hw : (w.1 420).1 = 3 := by rw [hE]
  intro k
  induction k with
  | zero =>
    intro a h a1 a2 a3 a4 a5 a6
    rw [l_Ed_sortRows_2_eq, mLe_t (by omega)]
    exact ⟨h, a, rfl, fun _ _ => rfl, by omega, a6, Or.inl (by omega), a5, fun _ _ => rfl⟩
  | succ k ih =>
    intro a h a1 a2 a3 a4 a5 a6
    have e0 : h 434 a = nw := by rw [a5 a (by omega) (by omega), if_neg (by omega), if_pos rfl]
    have e1 : h 434 (a - 1) = o (a - 1) := by rw [a5 (a - 1) (by omega) (by omega), if_pos (by omega)]
    have r1 := ho (a - 1) (by omega) (by omega)
    rw [l_Ed_sortRows_2_eq, mLe_f (by omega), mF_t hw, E_mustSwap (by omega) hE hO hW hI a1 a2 (by omega) hc (by rw [e0]; exact hnw) (by rw [e1]; exact r1) hfa, mC_s, e0, e1]
    by_cases q : kSort s c fa nw < kSort s c fa (o (a - 1))
    · rw [bI_t q, mEq_f (by decide), mF_t hw, a2.2, E_peek_t (by omega) hO (by omega) (by omega), mC_s, mF_t hw, mF_t hw, a2.2, mI_id (x := a - 1) (by omega) (by omega), E_peek_t (by omega) hO (by omega) (by omega), mC_s, E_poke_t (by omega) hO (by decide) (by omega) (by omega), mC_s, mF_t hw, mUp_row (by decide), a2.2, E_poke_t (by omega) hO (by decide) (by omega) (by omega), mC_s, e0, e1]
      try dsimp only
      rw [mI_id (by omega) (by omega)]
      have fr : ∀ b : Int, b ≠ 434 → mUp (mUp h 434 a (o (a - 1))) 434 (a - 1) nw b = h b := fun b hb => by rw [mUp_row hb, mUp_row hb]
      obtain ⟨h', R, g1, g2, g3, g4, g5, g6, g7⟩ := ih (a + -1) (mUp (mUp h 434 a (o (a - 1))) 434 (a - 1) nw) (RC_fr a1 hI ⟨Int.le_refl _, fun z z0 _ => ⟨rfl, fr z (by omega)⟩⟩ (fun b p1 p2 => fr b (by omega))) (by unfold EdH; rw [fr 420 (by decide)]; exact a2) (by omega) (by omega) (fun L l0 l1 => by
        by_cases q1 : L = a - 1
        · rw [q1, mUp_s, if_neg (by omega), if_pos (by omega)]
        · rw [mUp_n (Or.inr q1)]
          by_cases q2 : L = a
          · rw [q2, mUp_s, if_neg (by omega), if_neg (by omega)]
          · rw [mUp_n (Or.inr q2), a5 L l0 l1]
            by_cases q3 : L < a
            · rw [if_pos q3, if_pos (by omega)]
            · rw [if_neg q3, if_neg q2, if_neg (by omega), if_neg (by omega)]) (fun L l0 l1 => by
        by_cases q1 : L = a - 1
        · rw [q1]; exact q
        · exact a6 L (by omega) l1)
      refine ⟨h', R, g1, fun b hb => by rw [g2 b hb, fr b hb], g3, g4, g5, g6, fun L hL => ?_⟩
      rw [g7 L hL, mUp_n (Or.inr (by omega)), mUp_n (Or.inr (by omega))]
    · rw [bI_f q, mEq_t rfl]
      exact ⟨h, a, rfl, fun _ _ => rfl, by omega, a6, Or.inr (by omega), a5, fun _ _ => rfl⟩
theorem L_sort1 (hd : 3 ≤ d) (hE : w.1 420 = (3, 2)) (hO : w.1 434 = (50, 16)) (hW : ShW w 4) (hI : aI s) {n c fa f t : Int} (hf : 0 ≤ f) (ht : t < aHi s) (hc : 0 ≤ c ∧ c < aWi s) (hfa : fa = 0 ∨ fa = 1) : ∀ (k m : Nat) (x : Int) (h : mm_H), RC w h 4 s → EdH h → x = f + m → x + k = t + 1 → srt (kSort s c fa) f m (h 434) → (∀ L : Int, 0 ≤ L → L < f ∨ x ≤ L → L < aHi s → h 434 L = L) → ∃ h', l_Ed_sortRows_1 (mm_P d) 420 4 n c fa f t x w h = some (.inr (166, [(2, 420), (2, 4), (0, n), (0, c), (0, fa), (0, f), (0, t), (0, t + 1), (9, 0), (9, 0)], w, h')) ∧ (∀ b : Int, b ≠ 434 → h' b = h b) ∧ srt (kSort s c fa) f (m + k) (h' 434) ∧ ∀ L : Int, 0 ≤ L → L < f ∨ t < L → L < aHi s → h' 434 L = L := by
  have i1 := hI.1
  intro k
  induction k with
  | zero =>
    intro m x h a1 a2 a3 a4 a5 a6
    rw [l_Ed_sortRows_1_eq, mLt_t (by omega)]
    exact ⟨h, by rw [show x = t + 1 by omega], fun _ _ => rfl, a5, fun L l0 hL h2 => a6 L l0 (by omega) h2⟩
  | succ k ih =>
    intro m x h a1 a2 a3 a4 a5 a6
    obtain ⟨h1, R, b1, b2, b3, b4, b5, b6, b7⟩ := L_sort2 hd hE hO hW hI (n := n) (t := t) (x := x) (nw := x) (o := h 434) hf (by omega) hc hfa (fun L l0 l1 => by have := a5 L l0 (by omega); omega) (by omega) m x h a1 a2 a3 (Int.le_refl _) (fun L l0 l1 => by
      by_cases q : L < x
      · rw [if_pos q]
      · rw [if_neg q, if_pos (by omega), show L = x by omega]
        exact a6 x (by omega) (Or.inr (Int.le_refl _)) (by omega)) (fun L l0 l1 => by omega)
    have hs : srt (kSort s c fa) f (m + 1) (h1 434) := srt_ins a5 (R := R) (by omega) (fun L l0 l1 => by rw [← a3]; exact b4 L l0 (by omega)) (by rw [← a3]; exact b5) (fun L l0 l1 => by rw [b6 L l0 (by omega), a3])
    obtain ⟨h', g1, g2, g3, g4⟩ := ih (m + 1) (x + 1) h1 (RC_fr a1 hI ⟨Int.le_refl _, fun z z0 _ => ⟨rfl, b2 z (by omega)⟩⟩ (fun b p1 p2 => b2 b (by omega))) (by unfold EdH; rw [b2 420 (by decide)]; exact a2) (by omega) (by omega) hs (fun L l0 hL h2 => by rw [b7 L (by omega)]; exact a6 L l0 (by omega) h2)
    refine ⟨h', ?_, fun b hb => by rw [g2 b hb, b2 b hb], by rw [show m + (k + 1) = m + 1 + k by omega]; exact g3, g4⟩
    rw [l_Ed_sortRows_1_eq, mLt_f (by omega), b1, mK_r, if_pos rfl]
    simp only [mP_0, mP_1, mP_2, mP_3, mP_4, mP_5, mP_6, mP_7]
    rw [mI_id (by omega) (by omega), g1]
theorem E_sortRows (hd : 5 ≤ d) (hE : w.1 420 = (3, 2)) (hO : w.1 434 = (50, 16)) (hW : ShW w 4) (hW2 : ShW w 421) (hI : aI s) (hR : RC w h 4 s) (hH2 : ShH h 421) (he : EdH h) {n : Int} (c fa : Int) (hn : n < 2147483648) : (¬ okSort s n c fa ∧ mm_P d 38 [(2, 420), (2, 4), (0, n), (0, c), (0, fa)] w h = some ((0, -2), w, h)) ∨ ((okSort s n c fa ∧ ∃ o, srt (kSort s c fa) (n / 100) (n % 100 - n / 100 + 1).toNat o) ∧ ∃ h', mm_P d 38 [(2, 420), (2, 4), (0, n), (0, c), (0, fa)] w h = some ((0, 1), w, h') ∧ RC w h' 4 (F_sort s n c fa) ∧ ShH h' 421 ∧ ∀ b : Int, ¬ (4 ≤ b ∧ b < 17) → ¬ (421 ≤ b ∧ b < 435) → h' b = h b) := by
  obtain ⟨d, rfl, hd2⟩ := mm_dS hd; clear hd; have hd := hd2; clear hd2
  have hw : (w.1 420).1 = 3 := by rw [hE]
  have w4 : (w.1 4).1 = 9 := by rw [hW.2.1]
  have i1 := hI.1; have i2 := hI.2.1
  unfold okSort
  rw [P_Ed_sortRows, mF_t w4, E_hasLines (by omega) hW 0 hn, mC_s, if_pos rfl, hR.2.1.1]
  by_cases c0 : isAB (aHi s) n
  rotate_left
  · rw [bI_f c0, mEq_t rfl]
    exact Or.inl ⟨fun h => c0 h.1, rfl⟩
  have c2 := c0
  unfold isAB at c2
  rw [bI_t c0, mEq_f (by decide)]
  by_cases c1 : c < 0
  · rw [mLt_t c1]
    exact Or.inl ⟨fun h => by have := h.2.1; omega, rfl⟩
  rw [mLt_f (by omega), mF_t w4, hR.2.1.2.1]
  by_cases c3 : aWi s ≤ c
  · rw [mLe_t c3]
    exact Or.inl ⟨fun h => by have := h.2.1; omega, rfl⟩
  rw [mLe_f (by omega), E_isFlag (by omega), mC_s]
  by_cases c4 : fa = 0 ∨ fa = 1
  rotate_left
  · rw [bI_f c4, mEq_t rfl]
    exact Or.inl ⟨fun h => c4 h.2.2, rfl⟩
  rw [bI_t c4, mEq_f (by decide), mD_t (by decide), mD_t (by decide)]
  try dsimp only
  rw [Int.tdiv_eq_ediv_of_nonneg c2.1, Int.tmod_eq_emod_of_nonneg c2.1, mI_id (x := n / 100) (by omega) (by omega)]
  obtain ⟨ha, a1, a2, a3⟩ := L_sort0 (d := d) (by omega) hE hO hW (n := n) (c := c) (fa := fa) (f := n / 100) (t := n % 100) (z := aHi s) (by omega) (aHi s).toNat 0 h he hR.2.1.1 (by decide) (by omega)
  have Ra : RC w ha 4 s := RC_fr hR hI ⟨Int.le_refl _, fun x x0 _ => ⟨rfl, a2 x (by omega)⟩⟩ (fun b p q => a2 b (by omega))
  have H421 : ShH ha 421 := ShH_fr hH2 (fun i _ _ => by rw [a2 421 (by decide)]) (a2 _ (by decide))
  have Ea : EdH ha := by unfold EdH; rw [a2 420 (by decide)]; exact he
  obtain ⟨hb, b1, b2, b3, b4⟩ := L_sort1 (d := d) (by omega) hE hO hW hI (n := n) (c := c) (fa := fa) (f := n / 100) (t := n % 100) (by omega) (by omega) (by omega) c4 (n % 100 - n / 100).toNat 1 (n / 100 + 1) ha Ra Ea rfl (by omega) (srt_one _ _ (by rw [a3, if_pos (by omega)])) (fun L l0 hL h2 => by rw [a3, if_pos ⟨l0, h2⟩])
  have em : 1 + (n % 100 - n / 100).toNat = (n % 100 - n / 100 + 1).toNat := by omega
  rw [em] at b3
  have eo : ∀ l : Int, 0 ≤ l → l < aHi s → hb 434 l = oSort (kSort s c fa) (n / 100) (n % 100 - n / 100 + 1).toNat l := fun l l0 l1 => by
    by_cases q : n / 100 ≤ l ∧ l ≤ n % 100
    · rw [oSort_eq b3 q.1 (by omega)]
    · rw [oSort_out (by omega)]
      exact b4 l l0 (by omega) l1
  have Rb : RC w hb 4 s := RC_fr Ra hI ⟨Int.le_refl _, fun x x0 _ => ⟨rfl, b2 x (by omega)⟩⟩ (fun b p q => b2 b (by omega))
  obtain ⟨hc, f1, f2, f3, f4, f5⟩ := E_bringLines hd hE hO hW hW2 hI Rb (ShH_fr H421 (fun i _ _ => by rw [b2 421 (by decide)]) (b2 _ (by decide))) (by unfold EdH; rw [b2 420 (by decide)]; exact Ea) (y := 0) (z := aHi s) (o := oSort (kSort s c fa) (n / 100) (n % 100 - n / 100 + 1).toNat) (Or.inl rfl) (by omega) (fun l l0 l1 => by
    show _ ∧ _ < aHi s
    rw [← eo l l0 l1]
    by_cases q : n / 100 ≤ l ∧ l ≤ n % 100
    · have := b3 l q.1 (by omega)
      omega
    · rw [b4 l l0 (by omega) l1]
      omega) eo
  refine Or.inr ⟨⟨⟨c0, by omega, c4⟩, _, b3⟩, hc, ?_, f2, f3.1, fun b n1 n2 => by rw [f4 b (by omega) (by omega), b2 b (by omega), a2 b (by omega)]⟩
  rw [a1, mK_r, if_pos rfl]
  simp only [mP_0, mP_1, mP_2, mP_3, mP_4, mP_5, mP_6, mP_7]
  rw [mI_id (by omega) (by omega), b1, mK_r, if_pos rfl]
  simp only [mP_0, mP_1, mP_2, mP_3, mP_4, mP_5, mP_6, mP_7]
  rw [mF_t w4, mF_t hw, Rb.2.1.1, f1, mC_s]
end PU
