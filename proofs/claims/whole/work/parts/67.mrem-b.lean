/-! PURE: remove, on the reference's row. -/
/-- the row R' has, of z lines, at the line l what R has at o l -/
def bns (y ac z : Int) (R R' : Int → Int) (o : Int → Int) : Prop := R' (1 - y) = R (1 - y) ∧ R' y = z ∧ (∀ j : Int, 3 ≤ j → j < 7 → R' j = R j) ∧ (∀ q i : Int, 0 ≤ q → q < 4 → 0 ≤ i → i < z → R' (7 + 64 * y + 16 * q + i) = R (7 + 64 * y + 16 * q + o i)) ∧ (∀ q i : Int, 0 ≤ q → q < 4 → 0 ≤ i → i < ac → R' (7 + 64 * (1 - y) + 16 * q + i) = R (7 + 64 * (1 - y) + 16 * q + i)) ∧ (∀ l x : Int, 0 ≤ l → l < z → 0 ≤ x → x < ac → R' (135 + ix y l x) = R (135 + ix y (o l) x)) ∧ ∀ q l x : Int, 0 ≤ q → q < 4 → 0 ≤ l → l < z → 0 ≤ x → x < ac → R' (391 + 256 * q + ix y l x) = R (391 + 256 * q + ix y (o l) x)
theorem RM_bns {R R' : Int → Int} {s s' : aS} {y z : Int} {o : Int → Int} (hy : y = 0 ∨ y = 1) (hR : RM R s) (hb : bns y (aSz s (1 - y)) z R R' o) (ho : ∀ l : Int, 0 ≤ l → l < z → 0 ≤ o l ∧ o l < aSz s y) (hr : RR R' s') (e : s'.1.1 = (F_bring s y o z).1.1 ∧ s'.1.2.1 = (F_bring s y o z).1.2.1 ∧ s'.2.1 = (F_bring s y o z).2.1 ∧ s'.2.2.1 = (F_bring s y o z).2.2.1 ∧ s'.2.2.2.1 = (F_bring s y o z).2.2.2.1 ∧ s'.2.2.2.2.1 = (F_bring s y o z).2.2.2.2.1) : RM R' s' := by
  obtain ⟨e1, e2, e3, e4, e5, e6⟩ := e
  obtain ⟨R1, R2, R3, R4, R5, R6, R7⟩ := hR
  obtain ⟨b1, b2, b3, b4, b5, b6, b7⟩ := hb
  rcases hy with rfl | rfl
  · have z0 : aSz s 0 = aHi s := rfl
    have z1 : aSz s (1 - 0) = aWi s := rfl
    rw [z0] at ho
    rw [z1] at b5 b6 b7
    have f1 : aHi s' = z := e1
    have f2 : aWi s' = aWi s := e2
    have f3 : ∀ r c : Int, 0 ≤ r → r < z → aVal s' r c = aVal s (o r) c := fun r c r0 r1 => by
      have := ho r r0 r1
      show s'.2.1 r c = _
      rw [e3]
      show (if o r < 0 then 0 else if (0 : Int) = 0 then aVal s (o r) c else aVal s r (o c)) = _
      rw [if_neg (by omega), if_pos rfl]
    have f4 : ∀ p r c : Int, 0 ≤ r → r < z → aCel s' p r c = aCel s p (o r) c := fun p r c r0 r1 => by
      have := ho r r0 r1
      show s'.2.2.1 p r c = _
      rw [e4]
      show (if o r < 0 then -1 else if (0 : Int) = 0 then aCel s p (o r) c else aCel s p r (o c)) = _
      rw [if_neg (by omega), if_pos rfl]
    have f5 : ∀ p i : Int, 0 ≤ i → i < z → aLin s' 0 p i = aLin s 0 p (o i) := fun p i i0 i1 => by
      have := ho i i0 i1
      show s'.2.2.2.1 0 p i = _
      rw [e5]
      show (if (0 : Int) = 0 then (if o i < 0 then -1 else aLin s 0 p (o i)) else aLin s 0 p i) = _
      rw [if_pos rfl, if_neg (by omega)]
    have f6 : ∀ p i : Int, aLin s' 1 p i = aLin s 1 p i := fun p i => by
      show s'.2.2.2.1 1 p i = _
      rw [e5]
      show (if (1 : Int) = 0 then (if o i < 0 then -1 else aLin s 0 p (o i)) else aLin s 1 p i) = _
      rw [if_neg (by decide)]
    have f7 : ∀ p : Int, aGro s' p = aGro s p := fun p => by
      show s'.2.2.2.2.1 p = _
      rw [e6]; rfl
    refine ⟨⟨by rw [f1]; exact b2, by rw [f2, ← R1.2.1]; exact b1, hr.1⟩, fun r c r0 r1 c0 c1 => ?_, fun p r c p0 p1 r0 r1 c0 c1 => ?_, fun p i p0 p1 i0 i1 => ?_, fun p i p0 p1 i0 i1 => ?_, fun p p0 p1 => by rw [f7, b3 _ (by omega) (by omega)]; exact R6 p p0 p1, hr.2⟩
    · rw [f1] at r1; rw [f2] at c1
      have := ho r r0 r1
      rw [f3 r c r0 r1, ← R2 (o r) c this.1 this.2 c0 c1]
      have := b6 r c r0 r1 c0 c1
      rw [show ix 0 r c = 16 * r + c from rfl, show ix 0 (o r) c = 16 * o r + c from rfl, ← Int.add_assoc, ← Int.add_assoc] at this
      exact this
    · rw [f1] at r1; rw [f2] at c1
      have := ho r r0 r1
      rw [f4 p r c r0 r1, ← R3 p (o r) c p0 p1 this.1 this.2 c0 c1]
      have := b7 p r c p0 p1 r0 r1 c0 c1
      rw [show ix 0 r c = 16 * r + c from rfl, show ix 0 (o r) c = 16 * o r + c from rfl, ← Int.add_assoc, ← Int.add_assoc] at this
      exact this
    · rw [f1] at i1
      have := ho i i0 i1
      rw [f5 p i i0 i1, ← R4 p (o i) p0 p1 this.1 this.2]
      have := b4 p i p0 p1 i0 i1
      rw [show (7 : Int) + 64 * 0 = 7 from rfl] at this
      exact this
    · rw [f2] at i1
      rw [f6, ← R5 p i p0 p1 i0 i1]
      have := b5 p i p0 p1 i0 i1
      rw [show (7 : Int) + 64 * (1 - 0) = 71 from rfl] at this
      exact this
  · have z0 : aSz s 1 = aWi s := rfl
    have z1 : aSz s (1 - 1) = aHi s := rfl
    rw [z0] at ho
    rw [z1] at b5 b6 b7
    have f1 : aHi s' = aHi s := e1
    have f2 : aWi s' = z := e2
    have f3 : ∀ r c : Int, 0 ≤ c → c < z → aVal s' r c = aVal s r (o c) := fun r c r0 r1 => by
      have := ho c r0 r1
      show s'.2.1 r c = _
      rw [e3]
      show (if o c < 0 then 0 else if (1 : Int) = 0 then aVal s (o r) c else aVal s r (o c)) = _
      rw [if_neg (by omega), if_neg (by decide)]
    have f4 : ∀ p r c : Int, 0 ≤ c → c < z → aCel s' p r c = aCel s p r (o c) := fun p r c r0 r1 => by
      have := ho c r0 r1
      show s'.2.2.1 p r c = _
      rw [e4]
      show (if o c < 0 then -1 else if (1 : Int) = 0 then aCel s p (o r) c else aCel s p r (o c)) = _
      rw [if_neg (by omega), if_neg (by decide)]
    have f5 : ∀ p i : Int, 0 ≤ i → i < z → aLin s' 1 p i = aLin s 1 p (o i) := fun p i i0 i1 => by
      have := ho i i0 i1
      show s'.2.2.2.1 1 p i = _
      rw [e5]
      show (if (1 : Int) = 1 then (if o i < 0 then -1 else aLin s 1 p (o i)) else aLin s 1 p i) = _
      rw [if_pos rfl, if_neg (by omega)]
    have f6 : ∀ p i : Int, aLin s' 0 p i = aLin s 0 p i := fun p i => by
      show s'.2.2.2.1 0 p i = _
      rw [e5]
      show (if (0 : Int) = 1 then (if o i < 0 then -1 else aLin s 1 p (o i)) else aLin s 0 p i) = _
      rw [if_neg (by decide)]
    have f7 : ∀ p : Int, aGro s' p = aGro s p := fun p => by
      show s'.2.2.2.2.1 p = _
      rw [e6]; rfl
    refine ⟨⟨by rw [f1, ← R1.1]; exact b1, by rw [f2]; exact b2, hr.1⟩, fun r c r0 r1 c0 c1 => ?_, fun p r c p0 p1 r0 r1 c0 c1 => ?_, fun p i p0 p1 i0 i1 => ?_, fun p i p0 p1 i0 i1 => ?_, fun p p0 p1 => by rw [f7, b3 _ (by omega) (by omega)]; exact R6 p p0 p1, hr.2⟩
    · rw [f1] at r1; rw [f2] at c1
      have := ho c c0 c1
      rw [f3 r c c0 c1, ← R2 r (o c) r0 r1 this.1 this.2]
      have := b6 c r c0 c1 r0 r1
      rw [show ix 1 c r = 16 * r + c from rfl, show ix 1 (o c) r = 16 * r + o c from rfl, ← Int.add_assoc, ← Int.add_assoc] at this
      exact this
    · rw [f1] at r1; rw [f2] at c1
      have := ho c c0 c1
      rw [f4 p r c c0 c1, ← R3 p r (o c) p0 p1 r0 r1 this.1 this.2]
      have := b7 p c r p0 p1 c0 c1 r0 r1
      rw [show ix 1 c r = 16 * r + c from rfl, show ix 1 (o c) r = 16 * r + o c from rfl, ← Int.add_assoc, ← Int.add_assoc] at this
      exact this
    · rw [f1] at i1
      rw [f6, ← R4 p i p0 p1 i0 i1]
      have := b5 p i p0 p1 i0 i1
      rw [show (7 : Int) + 64 * (1 - 1) = 7 from rfl] at this
      exact this
    · rw [f2] at i1
      have := ho i i0 i1
      rw [f5 p i i0 i1, ← R5 p (o i) p0 p1 this.1 this.2]
      have := b4 p i p0 p1 i0 i1
      rw [show (7 : Int) + 64 * 1 = 71 from rfl] at this
      exact this
section PU
variable {d : Nat} {w : mm_W} {h : mm_H} {s : aS}
theorem L_M_rem0 (hd : 3 ≤ d) (hW : MW w) {y a b g was ac : Int} {R : Int → Int} (hy : y = 0 ∨ y = 1) (ha : 0 ≤ a) (hg : 1 ≤ g) (hz : was ≤ 16) (hac : 0 ≤ ac ∧ ac ≤ 16) : ∀ (m : Nat) (k : Int) (h : mm_H), MH h → h 484 (1 - y) = ac → h 484 y = was → k + m = was → a + g ≤ k → lnm y ac R (h 484) (fun l => if a ≤ l ∧ l < k - g then l + g else l) → ∃ h', l_M_doRemove_0 (mm_P d) 483 y a b g k w h = some (.inr (78, [(2, 483), (0, y), (0, a), (0, b), (0, g), (0, was), (9, 0), (9, 0), (9, 0), (9, 0), (9, 0)], w, h')) ∧ (∀ b : Int, b ≠ 484 → h' b = h b) ∧ lnm y ac R (h' 484) (fun l => if a ≤ l ∧ l < was - g then l + g else l) := by
  have hw : (w.1 483).1 = 13 := by rw [hW.1]
  intro m
  induction m with
  | zero =>
    intro k h a1 a2 a2' a3 a4 a5
    have e : k = was := by omega
    rw [l_M_doRemove_0_eq, mF_t hw, a1.1, mA_t hW.2.1 (by omega) (by omega), a2', mLe_t (by omega)]
    rw [e] at a5
    exact ⟨h, by rw [e], fun _ _ => rfl, a5⟩
  | succ m ih =>
    intro k h a1 a2 a2' a3 a4 a5
    obtain ⟨h1, b1, b2, b3⟩ := E_M_movesLine hd hW a1 (f := k) (t := k - g) hy (by omega) (by omega) hac (by omega) a2 a5
    rw [l_M_doRemove_0_eq, mF_t hw, a1.1, mA_t hW.2.1 (by omega) (by omega), a2', mLe_f (by omega), mF_t hw, mI_id (x := k - g) (by omega) (by omega), b1, mC_s]
    try dsimp only
    rw [mI_id (by omega) (by omega)]
    have hh : ∀ j : Int, j < 7 → h1 484 j = h 484 j := fun j hj => by rw [b3.1 j (Or.inl hj), ← a5.1 j (Or.inl hj)]
    obtain ⟨h', g1, g2, g3⟩ := ih (k + 1) h1 (MH_fr a1 (fun i _ => by rw [b2 483 (by decide)])) (by rw [hh _ (by omega)]; exact a2) (by rw [hh _ (by omega)]; exact a2') (by omega) (by omega) (lnm_ext b3 (fun l l0 l1 => by
      repeat' split
      all_goals omega))
    exact ⟨h', g1, fun b hb => by rw [g2 b hb, b2 b hb], g3⟩
theorem E_M_doRemove (hd : 4 ≤ d) (hW : MW w) (hH : MH h) (hI : aI s) (hR : RM (h 484) s) (y a b : Int) : (¬ ((y = 0 ∨ y = 1) ∧ 0 ≤ a ∧ a ≤ b ∧ b < aSz s y) ∧ mm_P d 244 [(2, 483), (0, y), (0, a), (0, b)] w h = some ((0, -2), w, h)) ∨ ((((y = 0 ∨ y = 1) ∧ 0 ≤ a ∧ a ≤ b ∧ b < aSz s y) ∧ aSz s y = b - a + 1) ∧ mm_P d 244 [(2, 483), (0, y), (0, a), (0, b)] w h = some ((0, -3), w, h)) ∨ ((((y = 0 ∨ y = 1) ∧ 0 ≤ a ∧ a ≤ b ∧ b < aSz s y) ∧ b - a + 1 < aSz s y) ∧ ∃ h', mm_P d 244 [(2, 483), (0, y), (0, a), (0, b)] w h = some ((0, aSz s y - (b - a + 1)), w, h') ∧ RM (h' 484) (F_remove s y a b) ∧ ∀ b : Int, b ≠ 484 → h' b = h b) := by
  obtain ⟨d, rfl, hd2⟩ := mm_dS hd; clear hd; have hd := hd2; clear hd2
  have hw : (w.1 483).1 = 13 := by rw [hW.1]
  have hs := aSz_le hI y
  have hs' := aSz_le hI (1 - y)
  have hn := hI.2.2.1
  rw [P_M_doRemove, E_M_in (by omega), mC_s, bI_eq (Q := y = 0 ∨ y = 1) (by omega)]
  by_cases c0 : y = 0 ∨ y = 1
  rotate_left
  · rw [bI_f c0, mEq_t rfl]
    exact Or.inl ⟨fun h => c0 h.1, rfl⟩
  rw [bI_t c0, mEq_f (by decide), mF_t hw, E_M_isLines (by omega) hW hH c0, mC_s, RM_sz hR c0]
  by_cases c1 : 0 ≤ a ∧ a ≤ b ∧ b < aSz s y
  rotate_left
  · rw [bI_f c1, mEq_t rfl]
    exact Or.inl ⟨fun h => c1 h.2, rfl⟩
  rw [bI_t c1, mEq_f (by decide)]
  try dsimp only
  rw [mI_id (x := b - a) (by omega) (by omega), mI_id (x := b - a + 1) (by omega) (by omega), mF_t hw, hH.1, mA_t hW.2.1 (by omega) (by omega), RM_sz hR c0]
  by_cases c2 : b - a + 1 = aSz s y
  · rw [mEq_t c2]
    exact Or.inr (Or.inl ⟨⟨⟨c0, c1⟩, c2.symm⟩, rfl⟩)
  rw [mEq_f c2, mI_id (x := b + 1) (by omega) (by omega)]
  refine Or.inr (Or.inr ⟨⟨⟨c0, c1⟩, by omega⟩, ?_⟩)
  have ac : h 484 (1 - y) = aSz s (1 - y) := RM_sz hR (by omega)
  obtain ⟨h1, a1, a2, a3⟩ := L_M_rem0 (d := d) (by omega) hW (a := a) (b := b) (g := b - a + 1) (was := aSz s y) (ac := aSz s (1 - y)) (R := h 484) c0 c1.1 (by omega) (by omega) (by omega) (aSz s y - (b + 1)).toNat (b + 1) h hH ac (RM_sz hR c0) (by omega) (by omega) (lnm_ext lnm_rf (fun l _ _ => by
    split
    · omega
    · rfl))
  have M1 : MH h1 := MH_fr hH (fun i _ => by rw [a2 483 (by decide)])
  have R1 : RR (h1 484) (F_bring s y (oRem a (b - a + 1)) (aSz s y - (b - a + 1))) := by
    obtain ⟨q1, q2⟩ := RR_of hR
    refine ⟨by rw [a3.1 2 (by decide)]; exact q1, fun k k0 k1 => ?_⟩
    have k1 : k < aN s := k1
    have hq := q2 k k0 k1
    exact ⟨fun f f0 f1 => by rw [a3.1 _ (by omega)]; exact hq.1 f f0 f1, by rw [a3.1 _ (by omega)]; exact hq.2.1, fun i hi => by rw [a3.1 _ (by omega)]; exact hq.2.2 i hi⟩
  have hN : (((aN s).toNat : Nat) : Int) = aN s := by omega
  obtain ⟨h2, b1, b2, b3, b4⟩ := L_M_remR (d := d) (by omega) hW (y := y) (a := a) (b := b) c0 (by omega) (by omega) (aN s).toNat (F_bring s y (oRem a (b - a + 1)) (aSz s y - (b - a + 1))) h1 M1 R1 (fun k k0 k1 => cOk_of hI k k0 k1) hn (by show (((aN s).toNat : Nat) : Int) ≤ aN s; omega) (by rw [hN]; exact rOk_of hI)
  have sm := remL_same y a b (aN s).toNat (F_bring s y (oRem a (b - a + 1)) (aSz s y - (b - a + 1)))
  have M2 : h2 483 0 = 484 := by rw [b3 483 (by decide)]; exact M1.1
  have s1 : h1 484 y = aSz s y := by rw [a3.1 y (by omega)]; exact RM_sz hR c0
  have s2 : h2 484 y = aSz s y := by rw [b4 y (by omega) (by omega)]; exact s1
  rw [hN] at b1
  refine ⟨mUp h2 484 y (aSz s y - (b - a + 1)), ?_, ?_, fun x hx => by rw [mUp_row hx, b3 x hx, a2 x hx]⟩
  · rw [a1, mK_r, if_pos rfl]
    simp only [mP_0, mP_1, mP_2, mP_3, mP_4]
    rw [mF_t hw, M1.1, mA_t hW.2.1 (by decide) (by decide), R1.1]
    try dsimp only
    rw [show aN (F_bring s y (oRem a (b - a + 1)) (aSz s y - (b - a + 1))) = aN s from rfl, mI_id (x := aN s - 1) (by omega) (by omega), b1, mK_r, if_pos rfl]
    simp only [mP_0, mP_1, mP_2, mP_3, mP_4]
    rw [mF_t hw, M2, mA_t hW.2.1 (by omega) (by omega), mAw_t hW.2.1 (by omega) (by omega) (by decide), s2, mI_id (x := aSz s y - (b - a + 1)) (by omega) (by omega)]
    try dsimp only
    rw [mF_t hw, mUp_n (Or.inl (by decide)), M2, mA_t hW.2.1 (by omega) (by omega), mUp_s]
  · generalize hg : mUp h2 484 y (aSz s y - (b - a + 1)) 484 = row
    have r0 : row y = aSz s y - (b - a + 1) := by rw [← hg]; exact mUp_s
    have r1 : ∀ j : Int, j ≠ y → j ≠ 2 → j < 1415 → row j = h1 484 j := fun j hj j2 hl => by rw [← hg, mUp_n (Or.inr hj)]; exact b4 j hl j2
    have r2 : ∀ j : Int, j ≠ y → row j = h2 484 j := fun j hj => by rw [← hg]; exact mUp_n (Or.inr hj)
    have RR2 : RR row (remL y a b (aN s).toNat (F_bring s y (oRem a (b - a + 1)) (aSz s y - (b - a + 1)))) := by
      refine ⟨by rw [r2 2 (by omega)]; exact b2.1, fun k k0 k1 => ?_⟩
      have hq := b2.2 k k0 k1
      exact ⟨fun f f0 f1 => by rw [r2 _ (by omega)]; exact hq.1 f f0 f1, by rw [r2 _ (by omega)]; exact hq.2.1, fun i hi => by rw [r2 _ (by omega)]; exact hq.2.2 i hi⟩
    refine RM_bns c0 hR (z := aSz s y - (b - a + 1)) (o := oRem a (b - a + 1)) ⟨by rw [r1 _ (by omega) (by omega) (by omega)]; exact a3.1 _ (by omega), r0, fun j j0 j1 => by rw [r1 j (by omega) (by omega) (by omega)]; exact a3.1 j (by omega), fun q i q0 q1 i0 i1 => ?_, fun q i q0 q1 i0 i1 => ?_, fun l x l0 l1 x0 x1 => ?_, fun q l x q0 q1 l0 l1 x0 x1 => ?_⟩ (fun l l0 l1 => by unfold oRem; split <;> omega) RR2 sm
    · rw [r1 _ (by omega) (by omega) (by omega), a3.2.1 q i q0 q1 i0 (by omega)]
      have : (if a ≤ i ∧ i < aSz s y - (b - a + 1) then i + (b - a + 1) else i) = oRem a (b - a + 1) i := by unfold oRem; (repeat' split) <;> omega
      exact congrArg (fun z => h 484 (7 + 64 * y + 16 * q + z)) this
    · rw [r1 _ (by omega) (by omega) (by omega), a3.2.2.1 q i q0 q1 i0 (by omega)]
    · have bx := ix_b (y := y) l0 (show l < 16 by omega) x0 (show x < 16 by omega)
      rw [r1 _ (by omega) (by omega) (by omega), a3.2.2.2.1 l x l0 (by omega) x0 x1]
      have : (if a ≤ l ∧ l < aSz s y - (b - a + 1) then l + (b - a + 1) else l) = oRem a (b - a + 1) l := by unfold oRem; (repeat' split) <;> omega
      exact congrArg (fun z => h 484 (135 + ix y z x)) this
    · have bx := ix_b (y := y) l0 (show l < 16 by omega) x0 (show x < 16 by omega)
      rw [r1 _ (by omega) (by omega) (by omega), a3.2.2.2.2 q l x q0 q1 l0 (by omega) x0 x1]
      have : (if a ≤ l ∧ l < aSz s y - (b - a + 1) then l + (b - a + 1) else l) = oRem a (b - a + 1) l := by unfold oRem; (repeat' split) <;> omega
      exact congrArg (fun z => h 484 (391 + 256 * q + ix y z x)) this
end PU
