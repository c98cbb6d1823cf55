/-! PURE: paint, lines, ground, value on the class's sheet. -/
def F_cel (s : aS) (f : Int → Int → Int → Int) : aS := (s.1, s.2.1, f, s.2.2.2)
def F_val (s : aS) (f : Int → Int → Int) : aS := (s.1, f, s.2.2)
def F_lin (s : aS) (f : Int → Int → Int → Int) : aS := (s.1, s.2.1, s.2.2.1, f, s.2.2.2.2)
def F_gro (s : aS) (f : Int → Int) : aS := (s.1, s.2.1, s.2.2.1, s.2.2.2.1, f, s.2.2.2.2.2)
def F_paint (s : aS) (p v t l b r : Int) : aS := F_cel s (fun q i j => if q = p ∧ t ≤ i ∧ i ≤ b ∧ l ≤ j ∧ j ≤ r then v else aCel s q i j)
def F_lines (s : aS) (y p v a b : Int) : aS := F_lin s (fun z q i => if z = y ∧ q = p ∧ a ≤ i ∧ i ≤ b then v else aLin s z q i)
def F_ground (s : aS) (p v : Int) : aS := F_gro s (fun q => if q = p then v else aGro s q)
def F_value (s : aS) (r c v : Int) : aS := F_val s (fun i j => if i = r ∧ j = c then v else aVal s i j)
def okPaint (s : aS) (p v n : Int) : Prop := (0 ≤ p ∧ p < 4) ∧ (-1 ≤ v ∧ v ≤ 9) ∧ isRect (aHi s) (aWi s) n
def aSz (s : aS) (y : Int) : Int := if y = 0 then aHi s else aWi s
def okLines (s : aS) (y p v n : Int) : Prop := (y = 0 ∨ y = 1) ∧ (0 ≤ p ∧ p < 4) ∧ (-1 ≤ v ∧ v ≤ 9) ∧ isAB (aSz s y) n
section PU
variable {d : Nat} {w : mm_W} {h h' : mm_H} {S : Int} {s : aS}
theorem RC_cel (hR : RC w h S s) (hI : aI s) (hS : 0 < S ∧ S + 13 ≤ 506) (hb : ∀ b : Int, b ≠ S + 2 → h' b = h b) {f : Int → Int → Int → Int} (hf : ∀ p r c : Int, 0 ≤ p → p < 4 → 0 ≤ r → r < aHi s → 0 ≤ c → c < aWi s → h' (S + 2) (256 * p + 16 * r + c) = f p r c) : RC w h' S (F_cel s f) := by
  obtain ⟨r1, r2, r3, r4, r5, r6, r7, r8⟩ := hR
  have e0 := hb S (by omega)
  have e1 := hb (S + 1) (by omega)
  have e3 := hb (S + 3) (by omega)
  have e4 := hb (S + 4) (by omega)
  have e5 := hb (S + 5) (by omega)
  refine ⟨ShH_fr r1 (fun i _ _ => by rw [e0]) e5, by rw [e0]; exact r2, by rw [e1]; exact r3, hf, by rw [e3]; exact r5, by rw [e3]; exact r6, by rw [e4]; exact r7, fun k h0 h1 => ?_⟩
  have hn := hI.2.2.1
  have h1 : k < aN s := h1
  have ha := r1.2.2.2.2.2.2.1 k h0 (by omega)
  rw [e5, hb (h (S + 5) k) (by omega)]
  exact ⟨(r8 k h0 h1).1, CC_fr (r8 k h0 h1).2 ⟨Int.le_refl _, fun a a0 a1 => ⟨rfl, hb a (by omega)⟩⟩⟩
theorem RC_val (hR : RC w h S s) (hI : aI s) (hS : 0 < S ∧ S + 13 ≤ 506) (hb : ∀ b : Int, b ≠ S + 1 → h' b = h b) {f : Int → Int → Int} (hf : ∀ r c : Int, 0 ≤ r → r < aHi s → 0 ≤ c → c < aWi s → h' (S + 1) (16 * r + c) = f r c) : RC w h' S (F_val s f) := by
  obtain ⟨r1, r2, r3, r4, r5, r6, r7, r8⟩ := hR
  have e0 := hb S (by omega)
  have e1 := hb (S + 2) (by omega)
  have e3 := hb (S + 3) (by omega)
  have e4 := hb (S + 4) (by omega)
  have e5 := hb (S + 5) (by omega)
  refine ⟨ShH_fr r1 (fun i _ _ => by rw [e0]) e5, by rw [e0]; exact r2, hf, by rw [e1]; exact r4, by rw [e3]; exact r5, by rw [e3]; exact r6, by rw [e4]; exact r7, fun k h0 h1 => ?_⟩
  have hn := hI.2.2.1
  have h1 : k < aN s := h1
  have ha := r1.2.2.2.2.2.2.1 k h0 (by omega)
  rw [e5, hb (h (S + 5) k) (by omega)]
  exact ⟨(r8 k h0 h1).1, CC_fr (r8 k h0 h1).2 ⟨Int.le_refl _, fun a a0 a1 => ⟨rfl, hb a (by omega)⟩⟩⟩
theorem RC_lin (hR : RC w h S s) (hI : aI s) (hS : 0 < S ∧ S + 13 ≤ 506) (hb : ∀ b : Int, b ≠ S + 3 → h' b = h b) {f : Int → Int → Int → Int} (hf : ∀ p i : Int, 0 ≤ p → p < 4 → 0 ≤ i → i < aHi s → h' (S + 3) (16 * p + i) = f 0 p i) (hg : ∀ p i : Int, 0 ≤ p → p < 4 → 0 ≤ i → i < aWi s → h' (S + 3) (64 + 16 * p + i) = f 1 p i) : RC w h' S (F_lin s f) := by
  obtain ⟨r1, r2, r3, r4, r5, r6, r7, r8⟩ := hR
  have e0 := hb S (by omega)
  have e1 := hb (S + 1) (by omega)
  have e3 := hb (S + 2) (by omega)
  have e4 := hb (S + 4) (by omega)
  have e5 := hb (S + 5) (by omega)
  refine ⟨ShH_fr r1 (fun i _ _ => by rw [e0]) e5, by rw [e0]; exact r2, by rw [e1]; exact r3, by rw [e3]; exact r4, hf, hg, by rw [e4]; exact r7, fun k h0 h1 => ?_⟩
  have hn := hI.2.2.1
  have h1 : k < aN s := h1
  have ha := r1.2.2.2.2.2.2.1 k h0 (by omega)
  rw [e5, hb (h (S + 5) k) (by omega)]
  exact ⟨(r8 k h0 h1).1, CC_fr (r8 k h0 h1).2 ⟨Int.le_refl _, fun a a0 a1 => ⟨rfl, hb a (by omega)⟩⟩⟩
theorem RC_gro (hR : RC w h S s) (hI : aI s) (hS : 0 < S ∧ S + 13 ≤ 506) (hb : ∀ b : Int, b ≠ S + 4 → h' b = h b) {f : Int → Int} (hf : ∀ p : Int, 0 ≤ p → p < 4 → h' (S + 4) p = f p) : RC w h' S (F_gro s f) := by
  obtain ⟨r1, r2, r3, r4, r5, r6, r7, r8⟩ := hR
  have e0 := hb S (by omega)
  have e1 := hb (S + 1) (by omega)
  have e3 := hb (S + 2) (by omega)
  have e4 := hb (S + 3) (by omega)
  have e5 := hb (S + 5) (by omega)
  refine ⟨ShH_fr r1 (fun i _ _ => by rw [e0]) e5, by rw [e0]; exact r2, by rw [e1]; exact r3, by rw [e3]; exact r4, by rw [e4]; exact r5, by rw [e4]; exact r6, hf, fun k h0 h1 => ?_⟩
  have hn := hI.2.2.1
  have h1 : k < aN s := h1
  have ha := r1.2.2.2.2.2.2.1 k h0 (by omega)
  rw [e5, hb (h (S + 5) k) (by omega)]
  exact ⟨(r8 k h0 h1).1, CC_fr (r8 k h0 h1).2 ⟨Int.le_refl _, fun a a0 a1 => ⟨rfl, hb a (by omega)⟩⟩⟩
theorem L_paint1 (hd : 1 ≤ d) (hW : ShW w S) {e p v n r : Int} (hp : 0 ≤ p ∧ p < 4) (hr : 0 ≤ r ∧ r < 16) (h0 : 0 ≤ n) (h1 : n < 2147483648) (hc : n % 100 < 16) : ∀ (m : Nat) (c : Int) (h : mm_H), h S 4 = S + 2 → 0 ≤ c → c + m = n % 100 + 1 → ∃ h', l_Ed_paintRect_1 (mm_P d) e S p v n r c w h = some (.inr (76, [(2, e), (2, S), (0, p), (0, v), (0, n), (0, r), (0, n % 100 + 1)], w, h')) ∧ (∀ b : Int, b ≠ S + 2 → h' b = h b) ∧ ∀ j : Int, h' (S + 2) j = if 256 * p + 16 * r + c ≤ j ∧ j ≤ 256 * p + 16 * r + n % 100 then v else h (S + 2) j := by
  intro m
  induction m with
  | zero =>
    intro c h a1 a2 a3
    rw [l_Ed_paintRect_1_eq, E_rightOf hd h0 h1, mC_s, mLt_t (by omega)]
    exact ⟨h, by rw [show c = n % 100 + 1 by omega], fun _ _ => rfl, fun j => by rw [if_neg (by omega)]⟩
  | succ m ih =>
    intro c h a1 a2 a3
    rw [l_Ed_paintRect_1_eq, E_rightOf hd h0 h1, mC_s, mLt_f (by omega), mF_t (by rw [hW.2.1]), E_setCellFormat hd hW a1 v hp.1 hp.2 hr.1 hr.2 a2 (by omega), mC_s]
    dsimp only
    rw [mI_id (by omega) (by omega)]
    obtain ⟨h', g1, g2, g3⟩ := ih (c + 1) (mUp h (S + 2) (256 * p + 16 * r + c) v) (by rw [mUp_row (by omega)]; exact a1) (by omega) (by omega)
    refine ⟨h', g1, fun b hb => by rw [g2 b hb, mUp_row hb], fun j => ?_⟩
    rw [g3]
    by_cases hj : j = 256 * p + 16 * r + c
    · subst hj
      rw [if_neg (by omega), if_pos (by omega), mUp_s]
    · rw [mUp_n (Or.inr hj)]
      split <;> rename_i c1
      · rw [if_pos (by omega)]
      · rw [if_neg (by omega)]
theorem L_paint0 (hd : 1 ≤ d) (hW : ShW w S) {e p v n : Int} (hp : 0 ≤ p ∧ p < 4) (h0 : 0 ≤ n) (h1 : n < 2147483648) (hb : n / 100 % 100 < 16) (hl : n / 10000 % 100 ≤ n % 100) (hc : n % 100 < 16) : ∀ (m : Nat) (r : Int) (h : mm_H), h S 4 = S + 2 → 0 ≤ r → r + m = n / 100 % 100 + 1 → ∃ h', l_Ed_paintRect_0 (mm_P d) e S p v n r w h = some (.inr (82, [(2, e), (2, S), (0, p), (0, v), (0, n), (0, n / 100 % 100 + 1), (9, 0)], w, h')) ∧ (∀ b : Int, b ≠ S + 2 → h' b = h b) ∧ ∀ q i j : Int, 0 ≤ q → q < 4 → 0 ≤ i → i < 16 → 0 ≤ j → j < 16 → h' (S + 2) (256 * q + 16 * i + j) = if q = p ∧ r ≤ i ∧ i ≤ n / 100 % 100 ∧ n / 10000 % 100 ≤ j ∧ j ≤ n % 100 then v else h (S + 2) (256 * q + 16 * i + j) := by
  intro m
  induction m with
  | zero =>
    intro r h a1 a2 a3
    rw [l_Ed_paintRect_0_eq, E_bottomOf hd h0 h1, mC_s, mLt_t (by omega)]
    exact ⟨h, by rw [show r = n / 100 % 100 + 1 by omega], fun _ _ => rfl, fun q i j _ _ _ _ _ _ => by rw [if_neg (by omega)]⟩
  | succ m ih =>
    intro r h a1 a2 a3
    obtain ⟨h2, f1, f2, f3⟩ := L_paint1 hd hW (e := e) (v := v) (n := n) (r := r) hp (by omega) h0 h1 hc (n % 100 + 1 - n / 10000 % 100).toNat (n / 10000 % 100) h a1 (by omega) (by omega)
    rw [l_Ed_paintRect_0_eq, E_bottomOf hd h0 h1, mC_s, mLt_f (by omega), E_leftOf hd h0 h1, mC_s, f1, mK_r, if_pos rfl]
    simp only [mP_0, mP_1, mP_2, mP_3, mP_4, mP_5]
    rw [mI_id (by omega) (by omega)]
    obtain ⟨h', g1, g2, g3⟩ := ih (r + 1) h2 (by rw [f2 S (by omega)]; exact a1) (by omega) (by omega)
    refine ⟨h', g1, fun b hb => by rw [g2 b hb, f2 b hb], fun q i j q0 q1 i0 i1 j0 j1 => ?_⟩
    rw [g3 q i j q0 q1 i0 i1 j0 j1, f3]
    split <;> rename_i c1
    · rw [if_pos (by omega)]
    · split <;> rename_i c2
      · rw [if_pos (by omega)]
      · rw [if_neg (by omega)]
theorem E_paintRect (hd : 3 ≤ d) (e : Int) (hW : ShW w S) (hS : S + 13 ≤ 506) (hI : aI s) (hR : RC w h S s) (p v : Int) {n : Int} (hn : n < 2147483648) : (okPaint s p v n ∧ ∃ h', mm_P d 30 [(2, e), (2, S), (0, p), (0, v), (0, n)] w h = some ((0, 1), w, h') ∧ RC w h' S (F_paint s p v (n / 1000000) (n / 10000 % 100) (n / 100 % 100) (n % 100)) ∧ ∀ b : Int, b ≠ S + 2 → h' b = h b) ∨ (¬ okPaint s p v n ∧ mm_P d 30 [(2, e), (2, S), (0, p), (0, v), (0, n)] w h = some ((0, -2), w, h)) := by
  obtain ⟨d, rfl, hd2⟩ := mm_dS hd; have hd := hd2
  have hq := hR.2.1
  rw [P_Ed_paintRect, E_isProperty (by omega), mC_s]
  by_cases c1 : 0 ≤ p ∧ p < 4
  rotate_left
  · rw [bI_f c1, mEq_t rfl]
    exact Or.inr ⟨fun h => c1 h.1, rfl⟩
  rw [bI_t c1, mEq_f (by decide), E_isFormat (by omega), mC_s]
  by_cases c2 : -1 ≤ v ∧ v ≤ 9
  rotate_left
  · rw [bI_f c2, mEq_t rfl]
    exact Or.inr ⟨fun h => c2 h.2.1, rfl⟩
  rw [bI_t c2, mEq_f (by decide), mF_t (by rw [hW.2.1]), E_hasRect hd hW hn, mC_s, hq.1, hq.2.1]
  by_cases c3 : isRect (aHi s) (aWi s) n
  rotate_left
  · rw [bI_f c3, mEq_t rfl]
    exact Or.inr ⟨fun h => c3 h.2.2, rfl⟩
  have c4 := c3
  unfold isRect at c4
  have := hI.1; have := hI.2.1
  rw [bI_t c3, mEq_f (by decide), E_topOf (by omega) c4.1 hn, mC_s]
  obtain ⟨h', g1, g2, g3⟩ := L_paint0 (by omega : 1 ≤ d) hW (e := e) (p := p) (v := v) (n := n) c1 c4.1 hn (by omega) (by omega) (by omega) (n / 100 % 100 + 1 - n / 1000000).toNat (n / 1000000) h hR.1.2.1 (by omega) (by omega)
  rw [g1, mK_r, if_pos rfl]
  refine Or.inl ⟨⟨c1, c2, c3⟩, h', rfl, RC_cel hR hI ⟨hW.1, hS⟩ g2 (fun q i j q0 q1 i0 i1 j0 j1 => ?_), g2⟩
  rw [g3 q i j q0 q1 i0 (by omega) j0 (by omega), hR.2.2.2.1 q i j q0 q1 i0 i1 j0 j1]
theorem L_setLines (hd : 1 ≤ d) (hW : ShW w S) {e y p v n : Int} (hy : y = 0 ∨ y = 1) (hp : 0 ≤ p ∧ p < 4) (h0 : 0 ≤ n) (hc : n % 100 < 16) : ∀ (m : Nat) (i : Int) (h : mm_H), h S 5 = S + 3 → 0 ≤ i → i + m = n % 100 + 1 → ∃ h', l_Ed_setLines_0 (mm_P d) e S y p v n i w h = some (.inr (68, [(2, e), (2, S), (0, y), (0, p), (0, v), (0, n), (0, n % 100 + 1)], w, h')) ∧ (∀ b : Int, b ≠ S + 3 → h' b = h b) ∧ ∀ j : Int, h' (S + 3) j = if 64 * y + 16 * p + i ≤ j ∧ j ≤ 64 * y + 16 * p + n % 100 then v else h (S + 3) j := by
  have e1 : Int.tmod n 100 = n % 100 := Int.tmod_eq_emod_of_nonneg h0
  intro m
  induction m with
  | zero =>
    intro i h a1 a2 a3
    rw [l_Ed_setLines_0_eq, mD_t (by decide), e1, mLt_t (by omega)]
    exact ⟨h, by rw [show i = n % 100 + 1 by omega], fun _ _ => rfl, fun j => by rw [if_neg (by omega)]⟩
  | succ m ih =>
    intro i h a1 a2 a3
    rw [l_Ed_setLines_0_eq, mD_t (by decide), e1, mLt_f (by omega), mF_t (by rw [hW.2.1]), E_setLineFormat hd hW a1 v hy hp.1 hp.2 a2 (by omega), mC_s]
    dsimp only
    rw [mI_id (by omega) (by omega)]
    obtain ⟨h', g1, g2, g3⟩ := ih (i + 1) (mUp h (S + 3) (64 * y + 16 * p + i) v) (by rw [mUp_row (by omega)]; exact a1) (by omega) (by omega)
    refine ⟨h', g1, fun b hb => by rw [g2 b hb, mUp_row hb], fun j => ?_⟩
    rw [g3]
    by_cases hj : j = 64 * y + 16 * p + i
    · subst hj
      rw [if_neg (by omega), if_pos (by omega), mUp_s]
    · rw [mUp_n (Or.inr hj)]
      split <;> rename_i c1
      · rw [if_pos (by omega)]
      · rw [if_neg (by omega)]
theorem E_setLines (hd : 3 ≤ d) (e : Int) (hW : ShW w S) (hS : S + 13 ≤ 506) (hI : aI s) (hR : RC w h S s) (y p v : Int) {n : Int} (hn : n < 2147483648) : (okLines s y p v n ∧ ∃ h', mm_P d 31 [(2, e), (2, S), (0, y), (0, p), (0, v), (0, n)] w h = some ((0, 1), w, h') ∧ RC w h' S (F_lines s y p v (n / 100) (n % 100)) ∧ ∀ b : Int, b ≠ S + 3 → h' b = h b) ∨ (¬ okLines s y p v n ∧ mm_P d 31 [(2, e), (2, S), (0, y), (0, p), (0, v), (0, n)] w h = some ((0, -2), w, h)) := by
  obtain ⟨d, rfl, hd2⟩ := mm_dS hd; have hd := hd2
  have hq := hR.2.1
  rw [P_Ed_setLines, E_isFlag (by omega), mC_s]
  by_cases c0 : y = 0 ∨ y = 1
  rotate_left
  · rw [bI_f c0, mEq_t rfl]
    exact Or.inr ⟨fun h => c0 h.1, rfl⟩
  rw [bI_t c0, mEq_f (by decide), E_isProperty (by omega), mC_s]
  by_cases c1 : 0 ≤ p ∧ p < 4
  rotate_left
  · rw [bI_f c1, mEq_t rfl]
    exact Or.inr ⟨fun h => c1 h.2.1, rfl⟩
  rw [bI_t c1, mEq_f (by decide), E_isFormat (by omega), mC_s]
  by_cases c2 : -1 ≤ v ∧ v ≤ 9
  rotate_left
  · rw [bI_f c2, mEq_t rfl]
    exact Or.inr ⟨fun h => c2 h.2.2.1, rfl⟩
  rw [bI_t c2, mEq_f (by decide), mF_t (by rw [hW.2.1]), E_hasLines hd hW y hn, mC_s, hq.1, hq.2.1]
  by_cases c3 : isAB (aSz s y) n
  rotate_left
  · rw [show (if y = 0 then aHi s else aWi s) = aSz s y from rfl, bI_f c3, mEq_t rfl]
    exact Or.inr ⟨fun h => c3 h.2.2.2, rfl⟩
  have c4 := c3
  have h1 := hI.1; have h2 := hI.2.1
  have hz : aSz s y ≤ 16 := by unfold aSz; split <;> omega
  unfold isAB at c4
  rw [show (if y = 0 then aHi s else aWi s) = aSz s y from rfl, bI_t c3, mEq_f (by decide), mD_t (by decide)]
  dsimp only
  rw [Int.tdiv_eq_ediv_of_nonneg c4.1, mI_id (by omega) (by omega)]
  obtain ⟨h', g1, g2, g3⟩ := L_setLines (by omega : 1 ≤ d) hW (e := e) (y := y) (p := p) (v := v) (n := n) c0 c1 c4.1 (by omega) (n % 100 + 1 - n / 100).toNat (n / 100) h hR.1.2.2.1 (by omega) (by omega)
  rw [g1, mK_r, if_pos rfl]
  refine Or.inl ⟨⟨c0, c1, c2, c3⟩, h', rfl, RC_lin hR hI ⟨hW.1, hS⟩ g2 (fun q i q0 q1 i0 i1 => ?_) (fun q i q0 q1 i0 i1 => ?_), g2⟩
  · rw [g3, hR.2.2.2.2.1 q i q0 q1 i0 i1]
    rcases c0 with rfl | rfl
    · split <;> rename_i z
      · rw [if_pos (by omega)]
      · rw [if_neg (by omega)]
    · rw [if_neg (by omega), if_neg (by omega)]
  · rw [g3, hR.2.2.2.2.2.1 q i q0 q1 i0 i1]
    rcases c0 with rfl | rfl
    · rw [if_neg (by omega), if_neg (by omega)]
    · split <;> rename_i z
      · rw [if_pos (by omega)]
      · rw [if_neg (by omega)]
theorem E_setGround (hd : 2 ≤ d) (e : Int) (hW : ShW w S) (hS : S + 13 ≤ 506) (hI : aI s) (hR : RC w h S s) (p v : Int) : (((0 ≤ p ∧ p < 4) ∧ (0 ≤ v ∧ v ≤ 9)) ∧ ∃ h', mm_P d 32 [(2, e), (2, S), (0, p), (0, v)] w h = some ((0, 1), w, h') ∧ RC w h' S (F_ground s p v) ∧ ∀ b : Int, b ≠ S + 4 → h' b = h b) ∨ (¬ ((0 ≤ p ∧ p < 4) ∧ (0 ≤ v ∧ v ≤ 9)) ∧ mm_P d 32 [(2, e), (2, S), (0, p), (0, v)] w h = some ((0, -2), w, h)) := by
  obtain ⟨d, rfl, hd2⟩ := mm_dS hd; have hd := hd2
  rw [P_Ed_setGround, E_isProperty (by omega), mC_s]
  by_cases c1 : 0 ≤ p ∧ p < 4
  rotate_left
  · rw [bI_f c1, mEq_t rfl]
    exact Or.inr ⟨fun h => c1 h.1, rfl⟩
  rw [bI_t c1, mEq_f (by decide), E_isNumber (by omega), mC_s]
  by_cases c2 : 0 ≤ v ∧ v ≤ 9
  rotate_left
  · rw [bI_f c2, mEq_t rfl]
    exact Or.inr ⟨fun h => c2 h.2, rfl⟩
  have h0 := hW.1
  rw [bI_t c2, mEq_f (by decide), mF_t (by rw [hW.2.1]), hR.1.2.2.2.1, E_poke_t (by omega) hW.2.2.2.2.2.1 (by omega) c1.1 c1.2, mC_s]
  refine Or.inl ⟨⟨c1, c2⟩, _, rfl, RC_gro hR hI ⟨hW.1, hS⟩ (fun b hb => mUp_row hb) (fun q q0 q1 => ?_), fun b hb => mUp_row hb⟩
  by_cases hq : q = p
  · subst hq
    rw [mUp_s, if_pos rfl]
  · rw [mUp_n (Or.inr hq), if_neg hq]
    exact hR.2.2.2.2.2.2.1 q q0 q1
theorem E_setValue (hd : 2 ≤ d) (e : Int) (hW : ShW w S) (hS : S + 13 ≤ 506) (hI : aI s) (hR : RC w h S s) (v : Int) {n : Int} (hn : n < 2147483648) : ((isCell (aHi s) (aWi s) n ∧ (-999 ≤ v ∧ v ≤ 999)) ∧ ∃ h', mm_P d 33 [(2, e), (2, S), (0, n), (0, v)] w h = some ((0, 1), w, h') ∧ RC w h' S (F_value s (n / 100) (n % 100) v) ∧ ∀ b : Int, b ≠ S + 1 → h' b = h b) ∨ (¬ (isCell (aHi s) (aWi s) n ∧ (-999 ≤ v ∧ v ≤ 999)) ∧ mm_P d 33 [(2, e), (2, S), (0, n), (0, v)] w h = some ((0, -2), w, h)) := by
  obtain ⟨d, rfl, hd2⟩ := mm_dS hd; have hd := hd2
  have hq := hR.2.1
  rw [P_Ed_setValue, mF_t (by rw [hW.2.1]), E_hasCell (by omega) hW hn, mC_s, hq.1, hq.2.1]
  by_cases c1 : isCell (aHi s) (aWi s) n
  rotate_left
  · rw [bI_f c1, mEq_t rfl]
    exact Or.inr ⟨fun h => c1 h.1, rfl⟩
  rw [bI_t c1, mEq_f (by decide)]
  by_cases c2 : v < -999
  · rw [mLt_t c2]
    exact Or.inr ⟨fun h => by omega, rfl⟩
  rw [mLt_f (by omega)]
  by_cases c3 : 999 < v
  · rw [mLe_f c3]
    exact Or.inr ⟨fun h => by omega, rfl⟩
  have c4 := c1
  unfold isCell at c4
  have h1 := hI.1; have h2 := hI.2.1
  rw [mLe_t (by omega), mD_t (by decide), mD_t (by decide), mF_t (by rw [hW.2.1]), Int.tdiv_eq_ediv_of_nonneg c4.1, Int.tmod_eq_emod_of_nonneg c4.1, mI_id (by omega) (by omega), E_setValueOf (by omega) hW hR.1.1 v (by omega) (by omega) (by omega) (by omega), mC_s]
  refine Or.inl ⟨⟨c1, by omega⟩, _, rfl, RC_val hR hI ⟨hW.1, hS⟩ (fun b hb => mUp_row hb) (fun i j i0 i1 j0 j1 => ?_), fun b hb => mUp_row hb⟩
  by_cases hq : i = n / 100 ∧ j = n % 100
  · obtain ⟨rfl, rfl⟩ := hq
    rw [mUp_s, if_pos ⟨rfl, rfl⟩]
  · rw [mUp_n (Or.inr (by omega)), if_neg hq]
    exact hR.2.2.1 i j i0 i1 j0 j1
end PU
