/-! PURE: tidy, move, how many are needless, on the class's draft. -/
section PU
variable {d : Nat} {w : mm_W} {h h' : mm_H} {s : aS}
theorem E_needQ (hd : 3 ≤ d) (hW : ShW w 4) (hI : aI s) (hR : RC w h 4 s) {p r c : Int} (hp : 0 ≤ p ∧ p < 4) (hr : 0 ≤ r ∧ r < aHi s) (hc : 0 ≤ c ∧ c < aWi s) : mm_P d 100 [(2, 4), (0, p), (0, r), (0, c)] w h = some ((0, bI (aNeed s p r c)), w, h) := by
  have h1 := hI.1; have h2 := hI.2.1
  rw [E_isNeedless hd hW hR.1 hp.1 hp.2 hr.1 (by omega) hc.1 (by omega), benA_RC hR hp hr hc, hR.2.2.2.1 p r c hp.1 hp.2 hr.1 hr.2 hc.1 hc.2]
  rfl
/-- the sheet with some of its cells cleared -/
def clr (s : aS) (C : Int → Int → Int → Prop) (s' : aS) : Prop := s'.1 = s.1 ∧ s'.2.2.2 = s.2.2.2 ∧ s'.2.1 = s.2.1 ∧ ∀ q i j : Int, aCel s' q i j = @ite _ (C q i j) (Classical.propDecidable _) (-1) (aCel s q i j)
theorem L_tidy1 (hd : 4 ≤ d) (hW : ShW w 4) {p i : Int} (hp : 0 ≤ p ∧ p < 4) : ∀ (m : Nat) (j cnt : Int) (s : aS) (h : mm_H), aI s → RC w h 4 s → (0 ≤ i ∧ i < aHi s) → 0 ≤ j → j + m = aWi s → (0 ≤ cnt ∧ cnt ≤ 99000 + j) → ∃ (h' : mm_H) (s' : aS), l_Ed_clearNeedless_1 (mm_P d) 420 4 p cnt i j w h = some (.inr (67, [(2, 420), (2, 4), (0, p), (0, cnt + sumN (fun c => bI (aNeed s p i c)) m j), (0, i), (0, aWi s)], w, h')) ∧ RC w h' 4 s' ∧ aI s' ∧ (∀ b : Int, b ≠ 6 → h' b = h b) ∧ s' = F_cel s (fun q r c => @ite _ ((q = p ∧ r = i ∧ j ≤ c ∧ c < aWi s) ∧ aNeed s p i c) (Classical.propDecidable _) (-1) (aCel s q r c)) := by
  have w4 : (w.1 4).1 = 9 := by rw [hW.2.1]
  intro m
  induction m with
  | zero =>
    intro j cnt s h hI hR hi a1 a2 hcnt
    refine ⟨h, s, ?_, hR, hI, fun _ _ => rfl, ?_⟩
    · rw [l_Ed_clearNeedless_1_eq, mF_t w4, hR.2.1.2.1, mLe_t (by omega), show j = aWi s by omega]
      unfold sumN
      rw [Int.add_zero]
    · obtain ⟨s1, s2, s3, s4⟩ := s
      unfold F_cel
      congr 3
      funext q r c
      rw [if_neg (fun z => by have := z.1.2.2; omega)]
  | succ m ih =>
    intro j cnt s h hI hR hi a1 a2 hcnt
    have h1 := hI.1; have h2 := hI.2.1
    have hb := bI_le (aNeed s p i j)
    have e1 : sumN (fun c => bI (aNeed s p i c)) (m + 1) j = bI (aNeed s p i j) + sumN (fun c => bI (aNeed s p i c)) m (j + 1) := rfl
    by_cases c : aNeed s p i j
    · -- it is cleared
      have hRn : RC w (mUp h (4 + 2) (256 * p + 16 * i + j) (-1)) 4 (F_cel s (fun q r c => if q = p ∧ r = i ∧ c = j then -1 else aCel s q r c)) := RC_cel hR hI ⟨by decide, by decide⟩ (fun b hb => mUp_row hb) (fun q r x q0 q1 r0 r1 x0 x1 => by
        by_cases hh : q = p ∧ r = i ∧ x = j
        · rw [if_pos hh, hh.1, hh.2.1, hh.2.2]; exact mUp_s
        · rw [if_neg hh, mUp_n (Or.inr (by omega))]
          exact hR.2.2.2.1 q r x q0 q1 r0 r1 x0 x1)
      have hIn : aI (F_cel s (fun q r c => if q = p ∧ r = i ∧ c = j then -1 else aCel s q r c)) := by
        obtain ⟨i1, i2, i3, i4, i5, i6, i7, i8, i9⟩ := hI
        refine ⟨i1, i2, i3, i4, fun q r x q0 q1 r0 r1 x0 x1 => ?_, i6, i7, i8, i9⟩
        show -1 ≤ (if q = p ∧ r = i ∧ x = j then -1 else aCel s q r x) ∧ (if q = p ∧ r = i ∧ x = j then -1 else aCel s q r x) ≤ 9
        split
        · omega
        · exact i5 q r x q0 q1 r0 r1 x0 x1
      obtain ⟨h', s', g1, g2, g3, g4, g5⟩ := ih (j + 1) (cnt + 1) _ _ hIn hRn hi (show 0 ≤ j + 1 by omega) (show j + 1 + (m : Int) = aWi s by omega) (show 0 ≤ cnt + 1 ∧ cnt + 1 ≤ 99000 + (j + 1) by omega)
      have hsame : ∀ x : Int, j + 1 ≤ x → (aNeed (F_cel s (fun q r c => if q = p ∧ r = i ∧ c = j then -1 else aCel s q r c)) p i x ↔ aNeed s p i x) := fun x hx => by
        unfold aNeed
        show ((if p = p ∧ i = i ∧ x = j then -1 else aCel s p i x) ≠ -1 ∧ (if p = p ∧ i = i ∧ x = j then -1 else aCel s p i x) = aBen s p i x) ↔ _
        rw [if_neg (by omega)]
      refine ⟨h', s', ?_, g2, g3, fun b hb => by rw [g4 b hb, mUp_row (by omega)], ?_⟩
      · rw [l_Ed_clearNeedless_1_eq, mF_t w4, hR.2.1.2.1, mLe_f (by omega), mF_t w4, E_needQ (by omega) hW hI hR hp hi ⟨a1, by omega⟩, mC_s, bI_t c, mEq_f (by decide), mF_t w4, E_setCellFormat (by omega) hW hR.1.2.1 (-1) hp.1 hp.2 hi.1 (by omega) a1 (by omega), mC_s]
        try dsimp only
        rw [mI_id (x := cnt + 1) (by omega) (by omega), mI_id (x := j + 1) (by omega) (by omega), g1, e1, bI_t c]
        have es : sumN (fun c => bI (aNeed (F_cel s (fun q r c => if q = p ∧ r = i ∧ c = j then -1 else aCel s q r c)) p i c)) m (j + 1) = sumN (fun c => bI (aNeed s p i c)) m (j + 1) := sumN_congr m (j + 1) (fun x x0 x1 => bI_eq (hsame x x0))
        rw [es, show cnt + 1 + sumN (fun c => bI (aNeed s p i c)) m (j + 1) = cnt + (1 + sumN (fun c => bI (aNeed s p i c)) m (j + 1)) by omega]
        rfl
      · rw [g5]
        unfold F_cel
        congr 3
        funext q r x
        show @ite _ ((q = p ∧ r = i ∧ j + 1 ≤ x ∧ x < aWi s) ∧ _) (Classical.propDecidable _) (-1) (if q = p ∧ r = i ∧ x = j then -1 else aCel s q r x) = _
        by_cases hx : q = p ∧ r = i ∧ x = j
        · rw [if_pos hx]
          rw [if_pos (show (q = p ∧ r = i ∧ j ≤ x ∧ x < aWi s) ∧ aNeed s p i x from ⟨by omega, by rw [hx.2.2]; exact c⟩)]
          split <;> rfl
        · rw [if_neg hx]
          by_cases hy : (q = p ∧ r = i ∧ j ≤ x ∧ x < aWi s) ∧ aNeed s p i x
          · rw [if_pos hy, if_pos ⟨by omega, (hsame x (by omega)).mpr hy.2⟩]
          · rw [if_neg hy, if_neg (fun z => hy ⟨by omega, (hsame x (by omega)).mp z.2⟩)]
    · obtain ⟨h', s', g1, g2, g3, g4, g5⟩ := ih (j + 1) cnt s h hI hR hi (by omega) (by omega) (by omega)
      refine ⟨h', s', ?_, g2, g3, g4, ?_⟩
      · rw [l_Ed_clearNeedless_1_eq, mF_t w4, hR.2.1.2.1, mLe_f (by omega), mF_t w4, E_needQ (by omega) hW hI hR hp hi ⟨a1, by omega⟩, mC_s, bI_f c, mEq_t rfl]
        try dsimp only
        rw [mI_id (x := j + 1) (by omega) (by omega), g1, e1, bI_f c, Int.zero_add]
      · rw [g5]
        unfold F_cel
        congr 3
        funext q r x
        by_cases hx : x = j
        · rw [if_neg (by omega), if_neg (fun z => c (by rw [← hx]; exact z.2))]
        · by_cases hy : (q = p ∧ r = i ∧ j ≤ x ∧ x < aWi s) ∧ aNeed s p i x
          · rw [if_pos hy, if_pos ⟨by omega, hy.2⟩]
          · rw [if_neg hy, if_neg (fun z => hy ⟨by omega, z.2⟩)]
theorem L_tidy0 (hd : 4 ≤ d) (hW : ShW w 4) {p : Int} (hp : 0 ≤ p ∧ p < 4) : ∀ (m : Nat) (i cnt : Int) (s : aS) (h : mm_H), aI s → RC w h 4 s → 0 ≤ i → i + m = aHi s → (0 ≤ cnt ∧ cnt ≤ 16 * i) → ∃ (h' : mm_H) (s' : aS), l_Ed_clearNeedless_0 (mm_P d) 420 4 p cnt i w h = some (.inr (73, [(2, 420), (2, 4), (0, p), (0, cnt + sumN (fun r => sumN (fun c => bI (aNeed s p r c)) (aWi s).toNat 0) m i), (0, aHi s), (9, 0)], w, h')) ∧ RC w h' 4 s' ∧ aI s' ∧ (∀ b : Int, b ≠ 6 → h' b = h b) ∧ s' = F_cel s (fun q r c => @ite _ ((q = p ∧ i ≤ r ∧ r < aHi s ∧ 0 ≤ c ∧ c < aWi s) ∧ aNeed s p r c) (Classical.propDecidable _) (-1) (aCel s q r c)) := by
  have w4 : (w.1 4).1 = 9 := by rw [hW.2.1]
  intro m
  induction m with
  | zero =>
    intro i cnt s h hI hR a1 a2 hcnt
    refine ⟨h, s, ?_, hR, hI, fun _ _ => rfl, ?_⟩
    · rw [l_Ed_clearNeedless_0_eq, mF_t w4, hR.2.1.1, mLe_t (by omega), show i = aHi s by omega]
      unfold sumN
      rw [Int.add_zero]
    · obtain ⟨s1, s2, s3, s4⟩ := s
      unfold F_cel
      congr 3
      funext q r c
      rw [if_neg (fun z => by have := z.1.2; omega)]
  | succ m ih =>
    intro i cnt s h hI hR a1 a2 hcnt
    have h1 := hI.1; have h2 := hI.2.1
    obtain ⟨ha, sa, b1, b2, b3, b4, b5⟩ := L_tidy1 hd hW (i := i) hp (aWi s).toNat 0 cnt s h hI hR (by omega) (by decide) (by omega) (by omega)
    have hsum := sumN_le (f := fun c => bI (aNeed s p i c)) (a := 0) (b := 1) (aWi s).toNat 0 (fun c _ _ => bI_le _)
    have d1 : aHi sa = aHi s := by rw [b5]; rfl
    have d2 : aWi sa = aWi s := by rw [b5]; rfl
    have hsame : ∀ r x : Int, i + 1 ≤ r → (aNeed sa p r x ↔ aNeed s p r x) := fun r x hr => by
      rw [b5]
      unfold aNeed
      show ((@ite _ ((p = p ∧ r = i ∧ 0 ≤ x ∧ x < aWi s) ∧ aNeed s p i x) (Classical.propDecidable _) (-1) (aCel s p r x)) ≠ -1 ∧ (@ite _ ((p = p ∧ r = i ∧ 0 ≤ x ∧ x < aWi s) ∧ aNeed s p i x) (Classical.propDecidable _) (-1) (aCel s p r x)) = aBen s p r x) ↔ _
      rw [if_neg (by omega)]
    obtain ⟨h', s', g1, g2, g3, g4, g5⟩ := ih (i + 1) (cnt + sumN (fun c => bI (aNeed s p i c)) (aWi s).toNat 0) sa ha b3 b2 (by omega) (by rw [d1]; omega) (by omega)
    refine ⟨h', s', ?_, g2, g3, fun b hb => by rw [g4 b hb, b4 b hb], ?_⟩
    · rw [l_Ed_clearNeedless_0_eq, mF_t w4, hR.2.1.1, mLe_f (by omega), b1, mK_r, if_pos rfl]
      simp only [mP_0, mP_1, mP_2, mP_3, mP_4]
      rw [mI_id (x := i + 1) (by omega) (by omega), g1, d1, d2]
      have e1 : sumN (fun r => sumN (fun c => bI (aNeed s p r c)) (aWi s).toNat 0) (m + 1) i = sumN (fun c => bI (aNeed s p i c)) (aWi s).toNat 0 + sumN (fun r => sumN (fun c => bI (aNeed s p r c)) (aWi s).toNat 0) m (i + 1) := rfl
      have es : sumN (fun r => sumN (fun c => bI (aNeed sa p r c)) (aWi s).toNat 0) m (i + 1) = sumN (fun r => sumN (fun c => bI (aNeed s p r c)) (aWi s).toNat 0) m (i + 1) := sumN_congr m (i + 1) (fun r r0 r1 => sumN_congr _ 0 (fun x x0 x1 => bI_eq (hsame r x r0)))
      rw [es, e1, Int.add_assoc]
    · rw [g5]
      unfold F_cel
      have eb : sa.1 = s.1 ∧ sa.2.1 = s.2.1 ∧ sa.2.2.2 = s.2.2.2 := by rw [b5]; exact ⟨rfl, rfl, rfl⟩
      rw [eb.1, eb.2.1, eb.2.2]
      congr 3
      funext q r x
      have ec : aCel sa q r x = @ite _ ((q = p ∧ r = i ∧ 0 ≤ x ∧ x < aWi s) ∧ aNeed s p i x) (Classical.propDecidable _) (-1) (aCel s q r x) := by rw [b5]; rfl
      rw [ec, d1, d2]
      by_cases hr : r = i
      · subst hr
        rw [if_neg (by omega)]
        by_cases hy : (q = p ∧ r = r ∧ 0 ≤ x ∧ x < aWi s) ∧ aNeed s p r x
        · rw [if_pos hy, if_pos ⟨by omega, hy.2⟩]
        · rw [if_neg hy, if_neg (fun z => hy ⟨by omega, z.2⟩)]
      · rw [if_neg (show ¬ ((q = p ∧ r = i ∧ 0 ≤ x ∧ x < aWi s) ∧ aNeed s p i x) from fun z => hr z.1.2.1)]
        by_cases hy : (q = p ∧ i ≤ r ∧ r < aHi s ∧ 0 ≤ x ∧ x < aWi s) ∧ aNeed s p r x
        · rw [if_pos hy, if_pos ⟨by omega, (hsame r x (by omega)).mpr hy.2⟩]
        · rw [if_neg hy, if_neg (fun z => hy ⟨by omega, (hsame r x (by omega)).mp z.2⟩)]
/-- in a sheet, the same where it counts -/
def sameS (a b : aS) : Prop := a.1 = b.1 ∧ (∀ r c : Int, 0 ≤ r → r < aHi a → 0 ≤ c → c < aWi a → aVal a r c = aVal b r c) ∧ (∀ p r c : Int, 0 ≤ p → p < 4 → 0 ≤ r → r < aHi a → 0 ≤ c → c < aWi a → aCel a p r c = aCel b p r c) ∧ (∀ p i : Int, 0 ≤ p → p < 4 → 0 ≤ i → i < aHi a → aLin a 0 p i = aLin b 0 p i) ∧ (∀ p i : Int, 0 ≤ p → p < 4 → 0 ≤ i → i < aWi a → aLin a 1 p i = aLin b 1 p i) ∧ (∀ p : Int, 0 ≤ p → p < 4 → aGro a p = aGro b p) ∧ ∀ k : Int, 0 ≤ k → k < aN a → (∀ f : Int, 0 ≤ f → f < 7 → aRul a k f = aRul b k f) ∧ aCod a k = aCod b k
theorem RC_same {S : Int} {a b : aS} (hs : sameS a b) (hR : RC w h S a) : RC w h S b := by
  obtain ⟨s1, s2, s3, s4, s5, s6, s7⟩ := hs
  obtain ⟨r1, r2, r3, r4, r5, r6, r7, r8⟩ := hR
  have e1 : aHi b = aHi a := by show b.1.1 = a.1.1; rw [s1]
  have e2 : aWi b = aWi a := by show b.1.2.1 = a.1.2.1; rw [s1]
  have e3 : aN b = aN a := by show b.1.2.2 = a.1.2.2; rw [s1]
  refine ⟨r1, by rw [e1, e2, e3]; exact r2, ?_, ?_, ?_, ?_, ?_, ?_⟩
  · rw [e1, e2]; intro r c a1 a2 a3 a4; rw [← s2 r c a1 a2 a3 a4]; exact r3 r c a1 a2 a3 a4
  · rw [e1, e2]; intro p r c p0 p1 a1 a2 a3 a4; rw [← s3 p r c p0 p1 a1 a2 a3 a4]; exact r4 p r c p0 p1 a1 a2 a3 a4
  · rw [e1]; intro p i p0 p1 a1 a2; rw [← s4 p i p0 p1 a1 a2]; exact r5 p i p0 p1 a1 a2
  · rw [e2]; intro p i p0 p1 a1 a2; rw [← s5 p i p0 p1 a1 a2]; exact r6 p i p0 p1 a1 a2
  · intro p p0 p1; rw [← s6 p p0 p1]; exact r7 p p0 p1
  · rw [e3]; intro k k0 k1
    obtain ⟨t1, t2⟩ := s7 k k0 k1
    rw [← t2]
    exact ⟨fun f f0 f1 => by rw [← t1 f f0 f1]; exact (r8 k k0 k1).1 f f0 f1, (r8 k k0 k1).2⟩
theorem E_clearNeedless (hd : 5 ≤ d) (hW : ShW w 4) (hI : aI s) (hR : RC w h 4 s) (p : Int) : (¬ (0 ≤ p ∧ p < 4) ∧ mm_P d 37 [(2, 420), (2, 4), (0, p)] w h = some ((0, -2), w, h)) ∨ ((0 ≤ p ∧ p < 4) ∧ ∃ h', mm_P d 37 [(2, 420), (2, 4), (0, p)] w h = some ((0, nNeed s p), w, h') ∧ RC w h' 4 (F_tidy s p) ∧ ∀ b : Int, b ≠ 6 → h' b = h b) := by
  obtain ⟨d, rfl, hd2⟩ := mm_dS hd; clear hd; have hd := hd2; clear hd2
  have h1 := hI.1; have h2 := hI.2.1
  rw [P_Ed_clearNeedless, E_isProperty (by omega), mC_s]
  by_cases c0 : 0 ≤ p ∧ p < 4
  rotate_left
  · rw [bI_f c0, mEq_t rfl]
    exact Or.inl ⟨c0, rfl⟩
  obtain ⟨h', s', g1, g2, g3, g4, g5⟩ := L_tidy0 hd hW c0 (aHi s).toNat 0 0 s h hI hR (by decide) (by omega) (by decide)
  refine Or.inr ⟨c0, h', ?_, RC_same ?_ g2, g4⟩
  · rw [bI_t c0, mEq_f (by decide), g1, mK_r, if_pos rfl]
    simp only [mP_3]
    rw [Int.zero_add]
    rfl
  · rw [g5]
    refine ⟨rfl, fun _ _ _ _ _ _ => rfl, fun q r c q0 q1 r0 r1 c0 c1 => ?_, fun _ _ _ _ _ _ => rfl, fun _ _ _ _ _ _ => rfl, fun _ _ _ => rfl, fun _ _ _ => ⟨fun _ _ _ => rfl, rfl⟩⟩
    have r1 : r < aHi s := r1
    have c1 : c < aWi s := c1
    show @ite _ ((q = p ∧ 0 ≤ r ∧ r < aHi s ∧ 0 ≤ c ∧ c < aWi s) ∧ aNeed s p r c) (Classical.propDecidable _) (-1) (aCel s q r c) = @ite _ (q = p ∧ aNeed s p r c) (Classical.propDecidable _) (-1) (aCel s q r c)
    by_cases hh : q = p ∧ aNeed s p r c
    · rw [if_pos hh, if_pos ⟨⟨hh.1, r0, r1, c0, c1⟩, hh.2⟩]
    · rw [if_neg hh, if_neg (fun z => hh ⟨z.1.1, z.2⟩)]
theorem L_move (hd : 1 ≤ d) (hE : w.1 420 = (3, 2)) (hO : w.1 434 = (50, 16)) {y n a f m z : Int} (hf : 0 ≤ f ∧ f < 16) (hm : 0 ≤ m ∧ m ≤ 16) (ha : 0 ≤ a ∧ a ≤ 16) (hz : z ≤ 16) : ∀ (k : Nat) (l : Int) (h : mm_H), EdH h → 0 ≤ l → l + k = z → ∃ h', l_Ed_moveLines_0 (mm_P d) 420 4 y n a f m z l w h = some (.inr (162, [(2, 420), (2, 4), (0, y), (0, n), (0, a), (0, f), (0, m), (0, z), (0, z), (9, 0), (9, 0)], w, h')) ∧ (∀ b : Int, b ≠ 434 → h' b = h b) ∧ ∀ j : Int, h' 434 j = if l ≤ j ∧ j < z then oMove f m a j else h 434 j := by
  have hw : (w.1 420).1 = 3 := by rw [hE]
  intro k
  induction k with
  | zero =>
    intro l h a1 a2 a3
    rw [l_Ed_moveLines_0_eq, mLe_t (by omega)]
    exact ⟨h, by rw [show l = z by omega], fun _ _ => rfl, fun j => by rw [if_neg (by omega)]⟩
  | succ k ih =>
    intro l h a1 a2 a3
    have fin : ∀ q : Int, q = oMove f m a l → ∃ h', l_Ed_moveLines_0 (mm_P d) 420 4 y n a f m z (l + 1) w (mUp h 434 l q) = some (.inr (162, [(2, 420), (2, 4), (0, y), (0, n), (0, a), (0, f), (0, m), (0, z), (0, z), (9, 0), (9, 0)], w, h')) ∧ (∀ b : Int, b ≠ 434 → h' b = h b) ∧ ∀ j : Int, h' 434 j = if l ≤ j ∧ j < z then oMove f m a j else h 434 j := by
      intro q hq
      obtain ⟨h', g1, g2, g3⟩ := ih (l + 1) (mUp h 434 l q) (by unfold EdH; rw [mUp_row (by decide)]; exact a1) (by omega) (by omega)
      refine ⟨h', g1, fun b hb => by rw [g2 b hb, mUp_row hb], fun j => ?_⟩
      rw [g3]
      by_cases hj : j = l
      · subst hj
        rw [if_neg (by omega), if_pos (by omega), ← hq]; exact mUp_s
      · rw [mUp_n (Or.inr hj)]
        by_cases hh : l ≤ j ∧ j < z
        · rw [if_pos hh, if_pos (by omega)]
        · rw [if_neg hh, if_neg (by omega)]
    rw [l_Ed_moveLines_0_eq, mLe_f (by omega)]
    by_cases c1 : a ≤ l
    · rw [mLe_t c1]
      try dsimp only
      rw [mI_id (x := l - m) (by omega) (by omega), mLt_f c1, mI_id (x := a + m) (by omega) (by omega)]
      by_cases c2 : a + m ≤ l
      · rw [mLe_t c2, mF_t hw, mEq_t rfl]
        by_cases c3 : f ≤ l - m
        · rw [mLe_t c3, a1.2, mI_id (x := l - m + m) (by omega) (by omega), E_poke_t hd hO (by decide) a2 (by omega), mC_s]
          try dsimp only
          rw [mI_id (by omega) (by omega)]
          exact fin _ (by unfold oMove; rw [if_neg (by omega), if_neg (show ¬ l < a by omega), if_neg (by omega)])
        · rw [mLe_f (by omega), a1.2, E_poke_t hd hO (by decide) a2 (by omega), mC_s]
          try dsimp only
          rw [mI_id (by omega) (by omega)]
          exact fin _ (by unfold oMove; rw [if_neg (by omega), if_neg (show ¬ l < a by omega), if_pos (by omega)])
      · rw [mLe_f (by omega), mF_t hw, mEq_f (by decide), a1.2, mI_id (x := f + l) (by omega) (by omega), mI_id (x := f + l - a) (by omega) (by omega), E_poke_t hd hO (by decide) a2 (by omega), mC_s]
        try dsimp only
        rw [mI_id (by omega) (by omega)]
        exact fin _ (by unfold oMove; rw [if_pos (by omega)])
    · rw [mLe_f (by omega)]
      try dsimp only
      rw [mLt_t (by omega), mF_t hw, mEq_t rfl]
      by_cases c3 : f ≤ l
      · rw [mLe_t c3, a1.2, mI_id (x := l + m) (by omega) (by omega), E_poke_t hd hO (by decide) a2 (by omega), mC_s]
        try dsimp only
        rw [mI_id (by omega) (by omega)]
        exact fin _ (by unfold oMove; rw [if_neg (by omega), if_pos (show l < a by omega), if_neg (by omega)])
      · rw [mLe_f (by omega), a1.2, E_poke_t hd hO (by decide) a2 (by omega), mC_s]
        try dsimp only
        rw [mI_id (by omega) (by omega)]
        exact fin _ (by unfold oMove; rw [if_neg (by omega), if_pos (show l < a by omega), if_pos (by omega)])
end PU
