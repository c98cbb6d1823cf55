/-! PURE: paint, lines on the reference's row. -/
section PU
variable {d : Nat} {w : mm_W} {h : mm_H} {row row' : Int → Int} {s : aS}
theorem RM_cel (hR : RM row s) (hb : ∀ j : Int, j < 391 ∨ 1415 ≤ j → row' j = row j) {f : Int → Int → Int → Int} (hf : ∀ p r c : Int, 0 ≤ p → p < 4 → 0 ≤ r → r < aHi s → 0 ≤ c → c < aWi s → row' (391 + 256 * p + 16 * r + c) = f p r c) (hI : aI s) : RM row' (F_cel s f) := by
  obtain ⟨r1, r3, r4, r5, r6, r7, r8⟩ := hR
  have h1 := hI.1; have h2 := hI.2.1; have h3 := hI.2.2.1
  refine ⟨by rw [hb 0 (by omega), hb 1 (by omega), hb 2 (by omega)]; exact r1, fun r c a b x y => ?_, hf, fun p i a b x y => ?_, fun p i a b x y => ?_, fun p a b => ?_, fun k a b => ?_⟩
  · have b : r < aHi s := b
    have y : c < aWi s := y
    rw [hb _ (by omega)]; exact r3 r c a b x y
  · have y : i < aHi s := y
    rw [hb _ (by omega)]; exact r5 p i a b x y
  · have y : i < aWi s := y
    rw [hb _ (by omega)]; exact r6 p i a b x y
  · rw [hb _ (by omega)]; exact r7 p a b
  · have b : k < aN s := b
    refine ⟨fun f x y => by rw [hb _ (by omega)]; exact (r8 k a b).1 f x y, by rw [hb _ (by omega)]; exact (r8 k a b).2.1, fun i hi => by rw [hb _ (by omega)]; exact (r8 k a b).2.2 i hi⟩
theorem RM_val (hR : RM row s) (hb : ∀ j : Int, j < 135 ∨ 391 ≤ j → row' j = row j) {f : Int → Int → Int} (hf : ∀ r c : Int, 0 ≤ r → r < aHi s → 0 ≤ c → c < aWi s → row' (135 + 16 * r + c) = f r c) (hI : aI s) : RM row' (F_val s f) := by
  obtain ⟨r1, r3, r4, r5, r6, r7, r8⟩ := hR
  have h1 := hI.1; have h2 := hI.2.1; have h3 := hI.2.2.1
  refine ⟨by rw [hb 0 (by omega), hb 1 (by omega), hb 2 (by omega)]; exact r1, hf, fun p r c z v a b x y => ?_, fun p i a b x y => ?_, fun p i a b x y => ?_, fun p a b => ?_, fun k a b => ?_⟩
  · have b : r < aHi s := b
    have y : c < aWi s := y
    rw [hb _ (by omega)]; exact r4 p r c z v a b x y
  · have y : i < aHi s := y
    rw [hb _ (by omega)]; exact r5 p i a b x y
  · have y : i < aWi s := y
    rw [hb _ (by omega)]; exact r6 p i a b x y
  · rw [hb _ (by omega)]; exact r7 p a b
  · have b : k < aN s := b
    refine ⟨fun f x y => by rw [hb _ (by omega)]; exact (r8 k a b).1 f x y, by rw [hb _ (by omega)]; exact (r8 k a b).2.1, fun i hi => by rw [hb _ (by omega)]; exact (r8 k a b).2.2 i hi⟩
theorem RM_lin (hR : RM row s) (hb : ∀ j : Int, j < 7 ∨ 135 ≤ j → row' j = row j) {f : Int → Int → Int → Int} (hf : ∀ p i : Int, 0 ≤ p → p < 4 → 0 ≤ i → i < aHi s → row' (7 + 16 * p + i) = f 0 p i) (hg : ∀ p i : Int, 0 ≤ p → p < 4 → 0 ≤ i → i < aWi s → row' (71 + 16 * p + i) = f 1 p i) (hI : aI s) : RM row' (F_lin s f) := by
  obtain ⟨r1, r3, r4, r5, r6, r7, r8⟩ := hR
  have h1 := hI.1; have h2 := hI.2.1; have h3 := hI.2.2.1
  refine ⟨by rw [hb 0 (by omega), hb 1 (by omega), hb 2 (by omega)]; exact r1, fun r c a b x y => ?_, fun p r c z v a b x y => ?_, hf, hg, fun p a b => ?_, fun k a b => ?_⟩
  · have b : r < aHi s := b
    have y : c < aWi s := y
    rw [hb _ (by omega)]; exact r3 r c a b x y
  · have b : r < aHi s := b
    have y : c < aWi s := y
    rw [hb _ (by omega)]; exact r4 p r c z v a b x y
  · rw [hb _ (by omega)]; exact r7 p a b
  · have b : k < aN s := b
    refine ⟨fun f x y => by rw [hb _ (by omega)]; exact (r8 k a b).1 f x y, by rw [hb _ (by omega)]; exact (r8 k a b).2.1, fun i hi => by rw [hb _ (by omega)]; exact (r8 k a b).2.2 i hi⟩
theorem RM_gro (hR : RM row s) (hb : ∀ j : Int, j < 3 ∨ 7 ≤ j → row' j = row j) {f : Int → Int} (hf : ∀ p : Int, 0 ≤ p → p < 4 → row' (3 + p) = f p) (hI : aI s) : RM row' (F_gro s f) := by
  obtain ⟨r1, r3, r4, r5, r6, r7, r8⟩ := hR
  have h1 := hI.1; have h2 := hI.2.1; have h3 := hI.2.2.1
  refine ⟨by rw [hb 0 (by omega), hb 1 (by omega), hb 2 (by omega)]; exact r1, fun r c a b x y => ?_, fun p r c z v a b x y => ?_, fun p i a b x y => ?_, fun p i a b x y => ?_, hf, fun k a b => ?_⟩
  · have b : r < aHi s := b
    have y : c < aWi s := y
    rw [hb _ (by omega)]; exact r3 r c a b x y
  · have b : r < aHi s := b
    have y : c < aWi s := y
    rw [hb _ (by omega)]; exact r4 p r c z v a b x y
  · have y : i < aHi s := y
    rw [hb _ (by omega)]; exact r5 p i a b x y
  · have y : i < aWi s := y
    rw [hb _ (by omega)]; exact r6 p i a b x y
  · have b : k < aN s := b
    refine ⟨fun f x y => by rw [hb _ (by omega)]; exact (r8 k a b).1 f x y, by rw [hb _ (by omega)]; exact (r8 k a b).2.1, fun i hi => by rw [hb _ (by omega)]; exact (r8 k a b).2.2 i hi⟩
theorem RM_0 (hR : RM row s) : row 0 = aHi s ∧ row 1 = aWi s ∧ row 2 = aN s := hR.1
theorem L_M_paints1 (hd : 1 ≤ d) (hW : MW w) {p v t l b r i : Int} (hp : 0 ≤ p ∧ p < 4) (hi : 0 ≤ i ∧ i < 16) (hr : r < 16) : ∀ (m : Nat) (c : Int) (h : mm_H), MH h → 0 ≤ c → c + m = r + 1 → ∃ h', l_M_paints_1 (mm_P d) 483 p v t l b r i c w h = some (.inr (50, [(2, 483), (0, p), (0, v), (0, t), (0, l), (0, b), (0, r), (0, i), (0, r + 1)], w, h')) ∧ (∀ b : Int, b ≠ 484 → h' b = h b) ∧ ∀ j : Int, h' 484 j = if 391 + 256 * p + 16 * i + c ≤ j ∧ j ≤ 391 + 256 * p + 16 * i + r then v else h 484 j := by
  intro m
  induction m with
  | zero =>
    intro c h a1 a2 a3
    rw [l_M_paints_1_eq, mLt_t (by omega)]
    exact ⟨h, by rw [show c = r + 1 by omega], fun _ _ => rfl, fun j => by rw [if_neg (by omega)]⟩
  | succ m ih =>
    intro c h a1 a2 a3
    rw [l_M_paints_1_eq, mLt_f (by omega), mF_t (by rw [hW.1]), E_M_grid hd (by omega) (by omega) (by omega) (by omega), mC_s, a1.1]
    dsimp only
    rw [mI_id (x := 256 * p) (by omega) (by omega), mI_id (x := 391 + 256 * p) (by omega) (by omega), mI_id (x := 391 + 256 * p + (16 * i + c)) (by omega) (by omega), mAw_t hW.2.1 (by omega) (by omega) (by decide), mI_id (by omega) (by omega)]
    obtain ⟨h', g1, g2, g3⟩ := ih (c + 1) (mUp h 484 (391 + 256 * p + (16 * i + c)) v) (MH_fr a1 (fun i _ => mUp_n (Or.inl (by decide)))) (by omega) (by omega)
    refine ⟨h', g1, fun b hb => by rw [g2 b hb, mUp_row hb], fun j => ?_⟩
    rw [g3]
    by_cases hj : j = 391 + 256 * p + (16 * i + c)
    · subst hj
      rw [if_neg (by omega), if_pos (by omega), mUp_s]
    · rw [mUp_n (Or.inr hj)]
      split <;> rename_i c1
      · rw [if_pos (by omega)]
      · rw [if_neg (by omega)]
theorem L_M_paints0 (hd : 1 ≤ d) (hW : MW w) {p v t l b r : Int} (hp : 0 ≤ p ∧ p < 4) (hb : b < 16) (hl : 0 ≤ l ∧ l ≤ r) (hr : r < 16) : ∀ (m : Nat) (i : Int) (h : mm_H), MH h → 0 ≤ i → i + m = b + 1 → ∃ h', l_M_paints_0 (mm_P d) 483 p v t l b r i w h = some (.inr (56, [(2, 483), (0, p), (0, v), (0, t), (0, l), (0, b), (0, r), (0, b + 1), (9, 0)], w, h')) ∧ (∀ b : Int, b ≠ 484 → h' b = h b) ∧ (∀ j : Int, j < 391 ∨ 1415 ≤ j → h' 484 j = h 484 j) ∧ ∀ q y x : Int, 0 ≤ q → q < 4 → 0 ≤ y → y < 16 → 0 ≤ x → x < 16 → h' 484 (391 + 256 * q + 16 * y + x) = if q = p ∧ i ≤ y ∧ y ≤ b ∧ l ≤ x ∧ x ≤ r then v else h 484 (391 + 256 * q + 16 * y + x) := by
  intro m
  induction m with
  | zero =>
    intro i h a1 a2 a3
    rw [l_M_paints_0_eq, mLt_t (by omega)]
    exact ⟨h, by rw [show i = b + 1 by omega], fun _ _ => rfl, fun _ _ => rfl, fun q y x _ _ _ _ _ _ => by rw [if_neg (by omega)]⟩
  | succ m ih =>
    intro i h a1 a2 a3
    obtain ⟨h2, f1, f2, f3⟩ := L_M_paints1 hd hW (v := v) (t := t) (l := l) (b := b) (r := r) (i := i) hp (by omega) hr (r + 1 - l).toNat l h a1 (by omega) (by omega)
    rw [l_M_paints_0_eq, mLt_f (by omega), f1, mK_r, if_pos rfl]
    simp only [mP_0, mP_1, mP_2, mP_3, mP_4, mP_5, mP_6, mP_7]
    rw [mI_id (by omega) (by omega)]
    obtain ⟨h', g1, g2, g3, g4⟩ := ih (i + 1) h2 (MH_fr a1 (fun i _ => by rw [f2 483 (by decide)])) (by omega) (by omega)
    refine ⟨h', g1, fun b hb => by rw [g2 b hb, f2 b hb], fun j hj => by rw [g3 j hj, f3, if_neg (by omega)], fun q y x q0 q1 y0 y1 x0 x1 => ?_⟩
    rw [g4 q y x q0 q1 y0 y1 x0 x1, f3]
    split <;> rename_i c1
    · rw [if_pos (by omega)]
    · split <;> rename_i c2
      · rw [if_pos (by omega)]
      · rw [if_neg (by omega)]
theorem E_M_paints (hd : 2 ≤ d) (hW : MW w) (hH : MH h) (hI : aI s) (hR : RM (h 484) s) {p v t l b r : Int} (hp : 0 ≤ p ∧ p < 4) (ht : 0 ≤ t ∧ t ≤ b) (hb : b < 16) (hl : 0 ≤ l ∧ l ≤ r) (hr : r < 16) : ∃ h', mm_P d 233 [(2, 483), (0, p), (0, v), (0, t), (0, l), (0, b), (0, r)] w h = some ((9, 0), w, h') ∧ RM (h' 484) (F_paint s p v t l b r) ∧ ∀ b : Int, b ≠ 484 → h' b = h b := by
  obtain ⟨d, rfl, hd2⟩ := mm_dS hd; have hd := hd2
  have h1 := hI.1; have h2 := hI.2.1
  obtain ⟨h', g1, g2, g3, g4⟩ := L_M_paints0 (d := d) (by omega) hW (v := v) (t := t) hp hb hl hr (b + 1 - t).toNat t h hH (by omega) (by omega)
  rw [P_M_paints, g1, mK_r, if_pos rfl]
  refine ⟨h', rfl, RM_cel hR g3 (fun q i j q0 q1 i0 i1 j0 j1 => ?_) hI, g2⟩
  rw [g4 q i j q0 q1 i0 (by omega) j0 (by omega), hR.2.2.1 q i j q0 q1 i0 i1 j0 j1]
/-- paint, of numbers that need be no rectangle -/
def okPt (s : aS) (p v t l b r : Int) : Prop := (0 ≤ p ∧ p < 4) ∧ (-1 ≤ v ∧ v ≤ 9) ∧ 0 ≤ t ∧ 0 ≤ l ∧ t ≤ b ∧ l ≤ r ∧ b < aHi s ∧ r < aWi s
theorem E_M_doPaint (hd : 3 ≤ d) (hW : MW w) (hH : MH h) (hI : aI s) (hR : RM (h 484) s) (p v t l b r : Int) : (okPt s p v t l b r ∧ ∃ h', mm_P d 234 [(2, 483), (0, p), (0, v), (0, t), (0, l), (0, b), (0, r)] w h = some ((0, 1), w, h') ∧ RM (h' 484) (F_paint s p v t l b r) ∧ ∀ b : Int, b ≠ 484 → h' b = h b) ∨ (¬ okPt s p v t l b r ∧ mm_P d 234 [(2, 483), (0, p), (0, v), (0, t), (0, l), (0, b), (0, r)] w h = some ((0, -2), w, h)) := by
  obtain ⟨d, rfl, hd2⟩ := mm_dS hd; have hd := hd2
  have h1 := hI.1; have h2 := hI.2.1
  unfold okPt
  rw [P_M_doPaint, E_M_isProperty (by omega), mC_s]
  by_cases c1 : 0 ≤ p ∧ p < 4
  rotate_left
  · rw [bI_f c1, mEq_t rfl]
    exact Or.inr ⟨fun h => c1 h.1, rfl⟩
  rw [bI_t c1, mEq_f (by decide), E_M_isTold (by omega), mC_s]
  by_cases c2 : -1 ≤ v ∧ v ≤ 9
  rotate_left
  · rw [bI_f c2, mEq_t rfl]
    exact Or.inr ⟨fun h => c2 h.2.1, rfl⟩
  rw [bI_t c2, mEq_f (by decide), mF_t (by rw [hW.1]), E_M_isRect (by omega) hW hH, mC_s, hR.1.1, hR.1.2.1]
  by_cases c3 : 0 ≤ t ∧ 0 ≤ l ∧ t ≤ b ∧ l ≤ r ∧ b < aHi s ∧ r < aWi s
  rotate_left
  · rw [bI_f c3, mEq_t rfl]
    exact Or.inr ⟨fun h => c3 h.2.2, rfl⟩
  rw [bI_t c3, mEq_f (by decide), mF_t (by rw [hW.1])]
  obtain ⟨h', g1, g2, g3⟩ := E_M_paints hd hW hH hI hR (v := v) (t := t) (l := l) (b := b) (r := r) c1 (by omega) (by omega) (by omega) (by omega)
  rw [g1, mC_s]
  exact Or.inl ⟨⟨c1, c2, c3⟩, h', rfl, g2, g3⟩
theorem L_M_doLines (hd : 1 ≤ d) (hW : MW w) {y p v a b : Int} (hy : y = 0 ∨ y = 1) (hp : 0 ≤ p ∧ p < 4) (hb : b < 16) : ∀ (m : Nat) (i : Int) (h : mm_H), MH h → 0 ≤ i → i + m = b + 1 → ∃ h', l_M_doLines_0 (mm_P d) 483 y p v a b i w h = some (.inr (69, [(2, 483), (0, y), (0, p), (0, v), (0, a), (0, b), (0, b + 1)], w, h')) ∧ (∀ b : Int, b ≠ 484 → h' b = h b) ∧ ∀ j : Int, h' 484 j = if 7 + 64 * y + 16 * p + i ≤ j ∧ j ≤ 7 + 64 * y + 16 * p + b then v else h 484 j := by
  intro m
  induction m with
  | zero =>
    intro i h a1 a2 a3
    rw [l_M_doLines_0_eq, mLt_t (by omega)]
    exact ⟨h, by rw [show i = b + 1 by omega], fun _ _ => rfl, fun j => by rw [if_neg (by omega)]⟩
  | succ m ih =>
    intro i h a1 a2 a3
    rw [l_M_doLines_0_eq, mLt_f (by omega), mF_t (by rw [hW.1]), E_M_lined hd hy hp (by omega) (by omega), mC_s, a1.1, mAw_t hW.2.1 (by omega) (by omega) (by decide)]
    dsimp only
    rw [mI_id (by omega) (by omega)]
    obtain ⟨h', g1, g2, g3⟩ := ih (i + 1) (mUp h 484 (7 + 64 * y + 16 * p + i) v) (MH_fr a1 (fun i _ => mUp_n (Or.inl (by decide)))) (by omega) (by omega)
    refine ⟨h', g1, fun b hb => by rw [g2 b hb, mUp_row hb], fun j => ?_⟩
    rw [g3]
    by_cases hj : j = 7 + 64 * y + 16 * p + i
    · subst hj
      rw [if_neg (by omega), if_pos (by omega), mUp_s]
    · rw [mUp_n (Or.inr hj)]
      split <;> rename_i c1
      · rw [if_pos (by omega)]
      · rw [if_neg (by omega)]
def okLn (s : aS) (y p v a b : Int) : Prop := (y = 0 ∨ y = 1) ∧ (0 ≤ p ∧ p < 4) ∧ (-1 ≤ v ∧ v ≤ 9) ∧ 0 ≤ a ∧ a ≤ b ∧ b < aSz s y
theorem RM_sz (hR : RM row s) {y : Int} (hy : y = 0 ∨ y = 1) : row y = aSz s y := by
  rcases hy with rfl | rfl
  · exact hR.1.1
  · exact hR.1.2.1
theorem aSz_le (hI : aI s) (y : Int) : 1 ≤ aSz s y ∧ aSz s y ≤ 16 := by
  have h1 := hI.1; have h2 := hI.2.1
  unfold aSz
  split <;> omega
theorem E_M_doLines (hd : 3 ≤ d) (hW : MW w) (hH : MH h) (hI : aI s) (hR : RM (h 484) s) (y p v a b : Int) : (okLn s y p v a b ∧ ∃ h', mm_P d 236 [(2, 483), (0, y), (0, p), (0, v), (0, a), (0, b)] w h = some ((0, 1), w, h') ∧ RM (h' 484) (F_lines s y p v a b) ∧ ∀ b : Int, b ≠ 484 → h' b = h b) ∨ (¬ okLn s y p v a b ∧ mm_P d 236 [(2, 483), (0, y), (0, p), (0, v), (0, a), (0, b)] w h = some ((0, -2), w, h)) := by
  obtain ⟨d, rfl, hd2⟩ := mm_dS hd; have hd := hd2
  have h1 := hI.1; have h2 := hI.2.1
  have hz := aSz_le hI y
  unfold okLn
  rw [P_M_doLines, E_M_in (by omega), mC_s, bI_eq (Q := y = 0 ∨ y = 1) (by omega)]
  by_cases c0 : y = 0 ∨ y = 1
  rotate_left
  · rw [bI_f c0, mEq_t rfl]
    exact Or.inr ⟨fun h => c0 h.1, rfl⟩
  rw [bI_t c0, mEq_f (by decide), E_M_isProperty (by omega), mC_s]
  by_cases c1 : 0 ≤ p ∧ p < 4
  rotate_left
  · rw [bI_f c1, mEq_t rfl]
    exact Or.inr ⟨fun h => c1 h.2.1, rfl⟩
  rw [bI_t c1, mEq_f (by decide), E_M_isTold (by omega), mC_s]
  by_cases c2 : -1 ≤ v ∧ v ≤ 9
  rotate_left
  · rw [bI_f c2, mEq_t rfl]
    exact Or.inr ⟨fun h => c2 h.2.2.1, rfl⟩
  rw [bI_t c2, mEq_f (by decide), mF_t (by rw [hW.1]), E_M_isLines (by omega) hW hH c0, mC_s, RM_sz hR c0]
  by_cases c3 : 0 ≤ a ∧ a ≤ b ∧ b < aSz s y
  rotate_left
  · rw [bI_f c3, mEq_t rfl]
    exact Or.inr ⟨fun h => c3 h.2.2.2, rfl⟩
  rw [bI_t c3, mEq_f (by decide)]
  obtain ⟨h', g1, g2, g3⟩ := L_M_doLines (d := d) (by omega) hW (v := v) (a := a) (b := b) c0 c1 (by omega) (b + 1 - a).toNat a h hH (by omega) (by omega)
  rw [g1, mK_r, if_pos rfl]
  refine Or.inl ⟨⟨c0, c1, c2, c3⟩, h', rfl, RM_lin hR (fun j hj => ?_) (fun q i q0 q1 i0 i1 => ?_) (fun q i q0 q1 i0 i1 => ?_) hI, g2⟩
  · rw [g3, if_neg]
    rcases c0 with rfl | rfl <;> omega
  · rw [g3, hR.2.2.2.1 q i q0 q1 i0 i1]
    rcases c0 with rfl | rfl
    · split <;> rename_i z
      · rw [if_pos (by omega)]
      · rw [if_neg (by omega)]
    · rw [if_neg (by omega), if_neg (by omega)]
  · rw [g3, hR.2.2.2.2.1 q i q0 q1 i0 i1]
    rcases c0 with rfl | rfl
    · rw [if_neg (by omega), if_neg (by omega)]
    · split <;> rename_i z
      · rw [if_pos (by omega)]
      · rw [if_neg (by omega)]
end PU
