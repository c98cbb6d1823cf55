/-! PURE: rows are sorted, lines are moved, in the reference: the whole. -/
theorem aI_bring {s : aS} {y z : Int} {o : Int → Int} (hI : aI s) (hy : y = 0 ∨ y = 1) (hz : 1 ≤ z ∧ z ≤ 16) (ho : ∀ l : Int, 0 ≤ l → l < z → o l < aSz s y) (hr : ∀ k : Int, 0 ≤ k → k < aN s → aRul s k (2 + y) < z) : aI (F_bring s y o z) := by
  obtain ⟨i1, i2, i3, i4, i5, i6, i7, i8, i9⟩ := hI
  rcases hy with rfl | rfl
  · have z0 : aSz s 0 = aHi s := rfl
    rw [z0] at ho
    refine ⟨hz, i2, i3, fun r c r0 r1 c0 c1 => ?_, fun p r c p0 p1 r0 r1 c0 c1 => ?_, fun p i p0 p1 q0 q1 => ?_, fun p i p0 p1 q0 q1 => ?_, i8, fun k k0 k1 => ?_⟩
    · have r1 : r < z := r1
      have := ho r r0 r1
      show -999 ≤ (if o r < 0 then 0 else if (0 : Int) = 0 then aVal s (o r) c else aVal s r (o c)) ∧ (if o r < 0 then 0 else if (0 : Int) = 0 then aVal s (o r) c else aVal s r (o c)) ≤ 999
      by_cases q : o r < 0
      · rw [if_pos q]; decide
      · rw [if_neg q, if_pos rfl]; exact i4 _ c (by omega) this c0 c1
    · have r1 : r < z := r1
      have := ho r r0 r1
      show -1 ≤ (if o r < 0 then -1 else if (0 : Int) = 0 then aCel s p (o r) c else aCel s p r (o c)) ∧ (if o r < 0 then -1 else if (0 : Int) = 0 then aCel s p (o r) c else aCel s p r (o c)) ≤ 9
      by_cases q : o r < 0
      · rw [if_pos q]; decide
      · rw [if_neg q, if_pos rfl]; exact i5 p _ c p0 p1 (by omega) this c0 c1
    · have q1 : i < z := q1
      have := ho i q0 q1
      show -1 ≤ (if (0 : Int) = 0 then (if o i < 0 then -1 else aLin s 0 p (o i)) else aLin s 0 p i) ∧ (if (0 : Int) = 0 then (if o i < 0 then -1 else aLin s 0 p (o i)) else aLin s 0 p i) ≤ 9
      rw [if_pos rfl]
      by_cases q : o i < 0
      · rw [if_pos q]; decide
      · rw [if_neg q]; exact i6 p _ p0 p1 (by omega) this
    · show -1 ≤ (if (1 : Int) = 0 then (if o i < 0 then -1 else aLin s 0 p (o i)) else aLin s 1 p i) ∧ (if (1 : Int) = 0 then (if o i < 0 then -1 else aLin s 0 p (o i)) else aLin s 1 p i) ≤ 9
      rw [if_neg (by decide)]
      exact i7 p i p0 p1 q0 q1
    · have := i9 k k0 k1
      have := hr k k0 k1
      exact ⟨⟨(i9 k k0 k1).1.1, (i9 k k0 k1).1.2.1, this⟩, (i9 k k0 k1).2⟩
  · have z0 : aSz s 1 = aWi s := rfl
    rw [z0] at ho
    refine ⟨i1, hz, i3, fun r c r0 r1 c0 c1 => ?_, fun p r c p0 p1 r0 r1 c0 c1 => ?_, fun p i p0 p1 q0 q1 => ?_, fun p i p0 p1 q0 q1 => ?_, i8, fun k k0 k1 => ?_⟩
    · have c1 : c < z := c1
      have := ho c c0 c1
      show -999 ≤ (if o c < 0 then 0 else if (1 : Int) = 0 then aVal s (o r) c else aVal s r (o c)) ∧ (if o c < 0 then 0 else if (1 : Int) = 0 then aVal s (o r) c else aVal s r (o c)) ≤ 999
      by_cases q : o c < 0
      · rw [if_pos q]; decide
      · rw [if_neg q, if_neg (by decide)]; exact i4 r _ r0 r1 (by omega) this
    · have c1 : c < z := c1
      have := ho c c0 c1
      show -1 ≤ (if o c < 0 then -1 else if (1 : Int) = 0 then aCel s p (o r) c else aCel s p r (o c)) ∧ (if o c < 0 then -1 else if (1 : Int) = 0 then aCel s p (o r) c else aCel s p r (o c)) ≤ 9
      by_cases q : o c < 0
      · rw [if_pos q]; decide
      · rw [if_neg q, if_neg (by decide)]; exact i5 p r _ p0 p1 r0 r1 (by omega) this
    · show -1 ≤ (if (0 : Int) = 1 then (if o i < 0 then -1 else aLin s 1 p (o i)) else aLin s 0 p i) ∧ (if (0 : Int) = 1 then (if o i < 0 then -1 else aLin s 1 p (o i)) else aLin s 0 p i) ≤ 9
      rw [if_neg (by decide)]
      exact i6 p i p0 p1 q0 q1
    · have q1 : i < z := q1
      have := ho i q0 q1
      show -1 ≤ (if (1 : Int) = 1 then (if o i < 0 then -1 else aLin s 1 p (o i)) else aLin s 1 p i) ∧ (if (1 : Int) = 1 then (if o i < 0 then -1 else aLin s 1 p (o i)) else aLin s 1 p i) ≤ 9
      rw [if_pos rfl]
      by_cases q : o i < 0
      · rw [if_pos q]; decide
      · rw [if_neg q]; exact i7 p _ p0 p1 (by omega) this
    · have := hr k k0 k1
      exact ⟨(i9 k k0 k1).1, ⟨(i9 k k0 k1).2.1.1, (i9 k k0 k1).2.1.2.1, this⟩, (i9 k k0 k1).2.2⟩
theorem aI_perm {s : aS} {y : Int} {o : Int → Int} (hI : aI s) (hy : y = 0 ∨ y = 1) (ho : ∀ l : Int, 0 ≤ l → l < aSz s y → o l < aSz s y) : aI (F_bring s y o (aSz s y)) :=
  aI_bring hI hy (aSz_le hI y) ho (fun k k0 k1 => by
    have := hI.2.2.2.2.2.2.2.2 k k0 k1
    rcases hy with rfl | rfl
    · exact this.1.2.2
    · exact this.2.1.2.2)
theorem oSort_in {K : Int → Int} {f z : Int} {m : Nat} {o : Int → Int} (h : srt K f m o) (h0 : 0 ≤ f) (h1 : f + m ≤ z) {l : Int} (l0 : 0 ≤ l) (l1 : l < z) : 0 ≤ oSort K f m l ∧ oSort K f m l < z := by
  by_cases c : f ≤ l ∧ l < f + m
  · have := (h l c.1 c.2).1
    rw [oSort_eq h c.1 c.2]; omega
  · rw [oSort_out (by omega)]; omega
theorem aI_sort {s : aS} {n c fa : Int} (hI : aI s) (hk : okSort s n c fa) {o : Int → Int} (hx : srt (kSort s c fa) (n / 100) (n % 100 - n / 100 + 1).toNat o) : aI (F_sort s n c fa) := by
  have hs := hI.1
  unfold okSort isAB at hk
  exact aI_perm hI (Or.inl rfl) (fun l l0 l1 => (oSort_in hx (z := aHi s) (by omega) (by omega) l0 l1).2)
theorem oMove_in {f m a z l : Int} (hf : 0 ≤ f) (hm : 1 ≤ m) (hz : f + m ≤ z) (ha : 0 ≤ a ∧ a ≤ z - m) (l0 : 0 ≤ l) (l1 : l < z) : 0 ≤ oMove f m a l ∧ oMove f m a l < z := by
  unfold oMove
  repeat' split
  all_goals omega
theorem aI_move {s : aS} {y n a : Int} (hI : aI s) (hk : okMove s y n a) : aI (F_move s y n a) := by
  unfold okMove isAB at hk
  exact aI_perm hI hk.1.1 (fun l l0 l1 => (oMove_in (by omega) (by omega) (by omega) (by omega) l0 l1).2)
section PU
variable {d : Nat} {w : mm_W} {h : mm_H} {s : aS} {A : aG}
theorem E_M_sort (hd : 4 ≤ d) (hW : MW w) (hH : MH h) (hc : mHis h A) (hI : aI s) (hR : RM (h 484) s) {n c fa : Int} (hn : n < 2147483648) (hx : okSort s n c fa → ∃ o, srt (kSort s c fa) (n / 100) (n % 100 - n / 100 + 1).toNat o) : (¬ okSort s n c fa ∧ mm_P d 247 [(2, 483), (0, n), (0, c), (0, fa)] w h = some ((0, -2), w, h)) ∨ (okSort s n c fa ∧ ∃ h', mm_P d 247 [(2, 483), (0, n), (0, c), (0, fa)] w h = some ((0, 1), w, h') ∧ mHis h' (gAcc A (F_sort s n c fa)) ∧ RM (h' 484) (F_sort s n c fa) ∧ (∀ b : Int, b ≠ 483 → b ≠ 484 → b ≠ 485 → b ≠ 487 → b ≠ 488 → h' b = h b) ∧ (∀ i : Int, i ≠ 2 → i ≠ 3 → i ≠ 4 → h' 483 i = h 483 i) ∧ h' 483 4 = 0) := by
  obtain ⟨d, rfl, hd2⟩ := mm_dS hd; clear hd; have hd := hd2; clear hd2
  have hw : (w.1 483).1 = 13 := by rw [hW.1]
  have i1 := hI.1; have i2 := hI.2.1
  have hs := hR.1.1
  have hs1 := hR.1.2.1
  by_cases ok : okSort s n c fa
  rotate_left
  · refine Or.inl ⟨ok, ?_⟩
    unfold okSort isAB at ok
    rw [P_M_sort]
    by_cases c0 : n < 0
    · rw [mLt_t c0]
    rw [mLt_f (by omega), mD_t (by decide), mD_t (by decide), mF_t hw, Int.tdiv_eq_ediv_of_nonneg (by omega), Int.tmod_eq_emod_of_nonneg (by omega), mI_id (x := n / 100) (by omega) (by omega), E_M_isLines (by omega) hW hH (Or.inl rfl), mC_s, hs]
    by_cases c1 : 0 ≤ n / 100 ∧ n / 100 ≤ n % 100 ∧ n % 100 < aHi s
    rotate_left
    · rw [bI_f c1, mEq_t rfl]
    rw [bI_t c1, mEq_f (by decide), mF_t hw, hH.1, mA_t hW.2.1 (by decide) (by decide), hs1, mI_id (x := aWi s - 1) (by omega) (by omega), E_M_in (by omega), mC_s]
    by_cases c2 : 0 ≤ c ∧ c ≤ aWi s - 1
    rotate_left
    · rw [bI_f c2, mEq_t rfl]
    rw [bI_t c2, mEq_f (by decide), E_M_in (by omega), mC_s]
    have c3 : ¬ (0 ≤ fa ∧ fa ≤ 1) := fun q => ok (by omega)
    rw [bI_f c3, mEq_t rfl]
  refine Or.inr ⟨ok, ?_⟩
  obtain ⟨o, hx⟩ := hx ok
  have hI' := aI_sort hI ok hx
  unfold okSort isAB at ok
  have hM : ((n % 100 - n / 100 + 1).toNat : Int) = n % 100 - n / 100 + 1 := by omega
  rw [P_M_sort, mLt_f (by omega), mD_t (by decide), mD_t (by decide), mF_t hw, Int.tdiv_eq_ediv_of_nonneg (by omega), Int.tmod_eq_emod_of_nonneg (by omega), mI_id (x := n / 100) (by omega) (by omega), E_M_isLines (by omega) hW hH (Or.inl rfl), mC_s, hs, bI_t (by omega), mEq_f (by decide), mF_t hw, hH.1, mA_t hW.2.1 (by decide) (by decide), hs1, mI_id (x := aWi s - 1) (by omega) (by omega), E_M_in (by omega), mC_s, bI_t (by omega), mEq_f (by decide), E_M_in (by omega), mC_s, bI_t (by omega), mEq_f (by decide), mD_t (by decide), mD_t (by decide)]
  try dsimp only
  have hv : ∀ i : Int, n / 100 ≤ i → i ≤ n % 100 → h 484 (135 + (16 * i + c)) = aVal s i c ∧ -999 ≤ aVal s i c ∧ aVal s i c ≤ 999 := fun i a b => by
    refine ⟨?_, hI.2.2.2.1 i c (by omega) (by omega) (by omega) (by omega)⟩
    rw [← hR.2.1 i c (by omega) (by omega) (by omega) (by omega)]
    congr 1; omega
  -- the rest, whatever the sign
  have fin : ∀ (sg : Int), (∀ i : Int, n / 100 ≤ i → i ≤ n % 100 → mI (sg * h 484 (135 + (16 * i + c))) = kSort s c fa i) → ∃ ha hb h', l_M_sort_0 (mm_P d) 483 n c fa (n / 100) (n % 100) sg 0 w h = some (.inr (104, [(2, 483), (0, n), (0, c), (0, fa), (0, n / 100), (0, n % 100), (0, sg), (0, aHi s), (9, 0), (9, 0), (9, 0), (9, 0)], w, ha)) ∧ l_M_sort_1 (mm_P d) 483 n c fa (n / 100) (n % 100) sg (n / 100) w ha = some (.inr (215, [(2, 483), (0, n), (0, c), (0, fa), (0, n / 100), (0, n % 100), (0, sg), (0, n % 100 + 1), (9, 0), (9, 0), (9, 0), (9, 0)], w, hb)) ∧ mF w 483 13 none (mC (mm_P d 246 [(2, 483), (0, 0)] w hb) 9 none (fun _ w1 h1 => mF w1 483 13 none (mC (mm_P d 217 [(2, 483), (0, 1)] w1 h1) 0 none (fun v w2 h2 => some ((0, v), w2, h2))))) = some ((0, 1), w, h') ∧ mHis h' (gAcc A (F_sort s n c fa)) ∧ RM (h' 484) (F_sort s n c fa) ∧ (∀ b : Int, b ≠ 483 → b ≠ 484 → b ≠ 485 → b ≠ 487 → b ≠ 488 → h' b = h b) ∧ (∀ i : Int, i ≠ 2 → i ≠ 3 → i ≠ 4 → h' 483 i = h 483 i) ∧ h' 483 4 = 0 := by
    intro sg hsg
    obtain ⟨ha, a1, a2, a3⟩ := L_M_sort0 (d := d) hW (n := n) (c := c) (fa := fa) (f := n / 100) (t := n % 100) (sg := sg) (z := aHi s) (by omega) (aHi s).toNat 0 h hH hs (by decide) (by omega)
    have Ma : MH ha := MH_fr hH (fun i _ => by rw [a2 483 (by decide)])
    obtain ⟨hb, b1, b2, b3, b4⟩ := L_M_sort1 (d := d) (by omega) hW (n := n) (c := c) (fa := fa) (f := n / 100) (t := n % 100) (sg := sg) (M := (n % 100 - n / 100 + 1).toNat) (K := kSort s c fa) (R := h 484) (by omega) (by omega) (by omega) (by omega) hsg (n % 100 - n / 100 + 1).toNat (n / 100) ha Ma (a2 484 (by decide)) (Int.le_refl _) (by omega) (fun i i0 i1 => by omega)
    have Mb : MH hb := MH_fr Ma (fun i _ => by rw [b2 483 (by decide)])
    have Rb : RM (hb 484) s := by rw [b2 484 (by decide), a2 484 (by decide)]; exact hR
    obtain ⟨hc', e1, e2, e3⟩ := E_M_orders (d := d) (by omega) hW Mb hI Rb (y := 0) (o := oSort (kSort s c fa) (n / 100) (n % 100 - n / 100 + 1).toNat) (Or.inl rfl) (fun l l0 l1 => by
      have l1 : l < aHi s := l1
      refine ⟨oSort_in hx (z := aHi s) (by omega) (by omega) l0 l1, ?_⟩
      by_cases q : n / 100 ≤ l ∧ l ≤ n % 100
      · have t := hx l q.1 (by omega)
        rw [oSort_eq hx q.1 (by omega)]
        have := b4 (o l) t.1.1 (by omega)
        rw [t.2] at this
        exact this
      · rw [oSort_out (by omega), b3 l (by omega), a3 l, if_pos ⟨l0, l1⟩])
    have Mc : MH hc' := MH_fr Mb (fun i _ => by rw [e3 483 (by decide) (by decide)])
    have Hc : mHis hc' A := mHis_fr hc (fun i _ => by rw [e3 483 (by decide) (by decide), b2 483 (by decide), a2 483 (by decide)]) (by rw [e3 485 (by decide) (by decide), b2 485 (by decide), a2 485 (by decide)])
    obtain ⟨h', g1, g2, g3, g4, g5⟩ := E_M_told (d := d) (by omega) hW Mc Hc e2 hI' (a := 1) (by decide)
    refine ⟨ha, hb, h', a1, b1, ?_, g2, by rw [g3 484 (by decide) (by decide)]; exact e2, fun b p3 p4 p5 p7 p8 => by rw [g3 b p3 p5, e3 b p4 p7, b2 b p8, a2 b p8], fun i p q r => by rw [g4 i p q r, e3 483 (by decide) (by decide), b2 483 (by decide), a2 483 (by decide)], g5⟩
    rw [mF_t hw, e1, mC_s]
    try dsimp only
    rw [mF_t hw, g1, mC_s]
  by_cases q : fa = 1
  · rw [mEq_t q]
    obtain ⟨ha, hb, h', f1, f2, f3, f4⟩ := fin (-1) (fun i a b => by
      have := hv i a b
      rw [this.1]
      unfold kSort
      rw [if_pos q, mI_id (by omega) (by omega)]
      omega)
    rw [f1, mK_r, if_pos rfl]
    simp only [mP_0, mP_1, mP_2, mP_3, mP_4, mP_5, mP_6]
    rw [f2, mK_r, if_pos rfl]
    simp only [mP_0]
    exact ⟨h', f3, f4⟩
  · rw [mEq_f q]
    obtain ⟨ha, hb, h', f1, f2, f3, f4⟩ := fin 1 (fun i a b => by
      have := hv i a b
      rw [this.1]
      unfold kSort
      rw [if_neg q, mI_id (by omega) (by omega)]
      omega)
    rw [f1, mK_r, if_pos rfl]
    simp only [mP_0, mP_1, mP_2, mP_3, mP_4, mP_5, mP_6]
    rw [f2, mK_r, if_pos rfl]
    simp only [mP_0]
    exact ⟨h', f3, f4⟩
end PU
