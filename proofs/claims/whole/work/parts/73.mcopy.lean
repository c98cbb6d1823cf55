/-! PURE: cells are copied, in the reference's row. -/
def F_copyC (s : aS) (t l b r t' l' b' r' tu : Int) : aS := F_cel s (fun p i j => if (t' ≤ i ∧ i ≤ b') ∧ (l' ≤ j ∧ j ≤ r') then aCel s p (t + (if tu = 1 then j - l' else i - t') % (b - t + 1)) (l + (if tu = 1 then i - t' else j - l') % (r - l + 1)) else aCel s p i j)
theorem F_copy_C (s : aS) (n m tu : Int) : F_copy s n m tu = F_copyC s (n / 1000000) (n / 10000 % 100) (n / 100 % 100) (n % 100) (m / 1000000) (m / 10000 % 100) (m / 100 % 100) (m % 100) tu := rfl
def okCopyC (s : aS) (t l b r t' l' b' r' tu : Int) : Prop := (0 ≤ t ∧ 0 ≤ l ∧ t ≤ b ∧ l ≤ r ∧ b < aHi s ∧ r < aWi s) ∧ (0 ≤ t' ∧ 0 ≤ l' ∧ t' ≤ b' ∧ l' ≤ r' ∧ b' < aHi s ∧ r' < aWi s) ∧ (tu = 0 ∨ tu = 1)
theorem okCopy_C {s : aS} {n m tu : Int} (hn : 0 ≤ n) (hm : 0 ≤ m) : okCopy s n m tu ↔ okCopyC s (n / 1000000) (n / 10000 % 100) (n / 100 % 100) (n % 100) (m / 1000000) (m / 10000 % 100) (m / 100 % 100) (m % 100) tu := by
  unfold okCopy okCopyC isRect
  omega
/-- where a copied cell comes from -/
def cSrc (t l H W tu x y : Int) : Int := 16 * (t + (if tu = 1 then y else x) % H) + (l + (if tu = 1 then x else y) % W)
section PU
variable {d : Nat} {w : mm_W} {h : mm_H} {s : aS} {A : aG}
theorem L_M_cp2 (hd : 1 ≤ d) (hW : MW w) {t l b r t' l' b' r' tu H W x y ro co : Int} (h1 : 0 ≤ t' + x ∧ t' + x < 16) (h2 : 0 ≤ l' + y ∧ l' + y < 16) (h3 : 0 ≤ t + ro ∧ t + ro < 16) (h4 : 0 ≤ l + co ∧ l + co < 16) (b1 : -100 ≤ t' ∧ t' < 100) (b2 : -100 ≤ l' ∧ l' < 100) (b3 : -100 ≤ t ∧ t < 100) (b4 : -100 ≤ l ∧ l < 100) : ∀ (m : Nat) (p : Int) (h : mm_H), MH h → 0 ≤ p → p + m = 4 → ∃ h', l_M_doCopy_2 (mm_P d) 483 t l b r t' l' b' r' tu H W x y ro co p w h = some (.inr (217, [(2, 483), (0, t), (0, l), (0, b), (0, r), (0, t'), (0, l'), (0, b'), (0, r'), (0, tu), (0, H), (0, W), (0, x), (0, y), (0, ro), (0, co), (0, 4)], w, h')) ∧ (∀ b : Int, b ≠ 484 → h' b = h b) ∧ (∀ j : Int, j < 391 ∨ 1415 ≤ j → h' 484 j = h 484 j) ∧ ∀ q i j : Int, 0 ≤ q → q < 4 → 0 ≤ i → i < 16 → 0 ≤ j → j < 16 → h' 484 (391 + 256 * q + 16 * i + j) = if p ≤ q ∧ i = t' + x ∧ j = l' + y then h 489 (256 * q + (16 * (t + ro) + (l + co))) else h 484 (391 + 256 * q + 16 * i + j) := by
  have hw : (w.1 483).1 = 13 := by rw [hW.1]
  intro m
  induction m with
  | zero =>
    intro p h a1 a2 a3
    rw [l_M_doCopy_2_eq, mLe_t (by omega)]
    exact ⟨h, by rw [show p = 4 by omega], fun _ _ => rfl, fun _ _ => rfl, fun q i j _ _ _ _ _ _ => by rw [if_neg (by omega)]⟩
  | succ m ih =>
    intro p h a1 a2 a3
    rw [l_M_doCopy_2_eq, mLe_f (by omega), mF_t hw, mI_id (x := t' + x) (by omega) (by omega), mI_id (x := l' + y) (by omega) (by omega), E_M_grid hd (by omega) (by omega) (by omega) (by omega), mC_s, mF_t hw, mI_id (x := t + ro) (by omega) (by omega), mI_id (x := l + co) (by omega) (by omega), E_M_grid hd (by omega) (by omega) (by omega) (by omega), mC_s, a1.1, a1.2.2.2.2.2.1]
    try dsimp only
    rw [mI_id (x := 256 * p) (by omega) (by omega), mI_id (x := 256 * p + (16 * (t + ro) + (l + co))) (by omega) (by omega), mA_t hW.2.2.2.2.2.2.1 (by omega) (by omega), mI_id (x := 391 + 256 * p) (by omega) (by omega), mI_id (x := 391 + 256 * p + (16 * (t' + x) + (l' + y))) (by omega) (by omega), mAw_t hW.2.1 (by omega) (by omega) (by decide), mI_id (x := p + 1) (by omega) (by omega)]
    obtain ⟨h', g1, g2, g3, g4⟩ := ih (p + 1) (mUp h 484 (391 + 256 * p + (16 * (t' + x) + (l' + y))) (h 489 (256 * p + (16 * (t + ro) + (l + co))))) (MH_fr a1 (fun i _ => mUp_n (Or.inl (by decide)))) (by omega) (by omega)
    refine ⟨h', g1, fun b hb => by rw [g2 b hb, mUp_row hb], fun j hj => by rw [g3 j hj, mUp_n (Or.inr (by omega))], fun q i j q0 q1 i0 i1 j0 j1 => ?_⟩
    rw [g4 q i j q0 q1 i0 i1 j0 j1, mUp_row (by decide)]
    by_cases c1 : p ≤ q ∧ i = t' + x ∧ j = l' + y
    · rw [if_pos c1]
      by_cases c2 : p + 1 ≤ q
      · rw [if_pos ⟨c2, c1.2⟩]
      · rw [if_neg (by omega), show q = p by omega, show 391 + 256 * p + 16 * i + j = 391 + 256 * p + (16 * (t' + x) + (l' + y)) by omega]
        exact mUp_s
    · rw [if_neg c1, if_neg (by omega), mUp_n (Or.inr (by omega))]
theorem L_M_cp1 (hd : 1 ≤ d) (hW : MW w) {t l b r t' l' b' r' tu H W x : Int} (ht : 0 ≤ t ∧ 0 ≤ l ∧ t ≤ b ∧ l ≤ r ∧ b < 16 ∧ r < 16) (ht' : 0 ≤ t' ∧ 0 ≤ l' ∧ t' ≤ b' ∧ l' ≤ r' ∧ b' < 16 ∧ r' < 16) (hH : H = b - t + 1) (hWi : W = r - l + 1) (hx : 0 ≤ x ∧ x ≤ b' - t') : ∀ (m : Nat) (y : Int) (h : mm_H), MH h → 0 ≤ y → y + m = r' - l' + 1 → ∃ h', l_M_doCopy_1 (mm_P d) 483 t l b r t' l' b' r' tu H W x y w h = some (.inr (223, [(2, 483), (0, t), (0, l), (0, b), (0, r), (0, t'), (0, l'), (0, b'), (0, r'), (0, tu), (0, H), (0, W), (0, x), (0, r' - l' + 1), (9, 0), (9, 0), (9, 0)], w, h')) ∧ (∀ b : Int, b ≠ 484 → h' b = h b) ∧ (∀ j : Int, j < 391 ∨ 1415 ≤ j → h' 484 j = h 484 j) ∧ ∀ q i j : Int, 0 ≤ q → q < 4 → 0 ≤ i → i < 16 → 0 ≤ j → j < 16 → h' 484 (391 + 256 * q + 16 * i + j) = if i = t' + x ∧ l' + y ≤ j ∧ j ≤ r' then h 489 (256 * q + cSrc t l H W tu x (j - l')) else h 484 (391 + 256 * q + 16 * i + j) := by
  have hw : (w.1 483).1 = 13 := by rw [hW.1]
  intro m
  induction m with
  | zero =>
    intro y h a1 a2 a3
    rw [l_M_doCopy_1_eq, mI_id (x := r' - l') (by omega) (by omega), mLt_t (by omega)]
    exact ⟨h, by rw [show y = r' - l' + 1 by omega], fun _ _ => rfl, fun _ _ => rfl, fun q i j _ _ _ _ _ _ => by rw [if_neg (by omega)]⟩
  | succ m ih =>
    intro y h a1 a2 a3
    have m1 : ∀ z : Int, 0 ≤ z → 0 ≤ z % H ∧ z % H < H := fun z _ => ⟨Int.emod_nonneg _ (by omega), Int.emod_lt_of_pos _ (by omega)⟩
    have m2 : ∀ z : Int, 0 ≤ z → 0 ≤ z % W ∧ z % W < W := fun z _ => ⟨Int.emod_nonneg _ (by omega), Int.emod_lt_of_pos _ (by omega)⟩
    have x1 := m1 x (by omega)
    have x2 := m2 x (by omega)
    have y1 := m1 y (by omega)
    have y2 := m2 y (by omega)
    have step : ∀ ro co : Int, (0 ≤ ro ∧ ro < H) → (0 ≤ co ∧ co < W) → 16 * (t + ro) + (l + co) = cSrc t l H W tu x y → ∃ h1 h', l_M_doCopy_2 (mm_P d) 483 t l b r t' l' b' r' tu H W x y ro co 0 w h = some (.inr (217, [(2, 483), (0, t), (0, l), (0, b), (0, r), (0, t'), (0, l'), (0, b'), (0, r'), (0, tu), (0, H), (0, W), (0, x), (0, y), (0, ro), (0, co), (0, 4)], w, h1)) ∧ l_M_doCopy_1 (mm_P d) 483 t l b r t' l' b' r' tu H W x (mI (y + 1)) w h1 = some (.inr (223, [(2, 483), (0, t), (0, l), (0, b), (0, r), (0, t'), (0, l'), (0, b'), (0, r'), (0, tu), (0, H), (0, W), (0, x), (0, r' - l' + 1), (9, 0), (9, 0), (9, 0)], w, h')) ∧ (∀ b : Int, b ≠ 484 → h' b = h b) ∧ (∀ j : Int, j < 391 ∨ 1415 ≤ j → h' 484 j = h 484 j) ∧ ∀ q i j : Int, 0 ≤ q → q < 4 → 0 ≤ i → i < 16 → 0 ≤ j → j < 16 → h' 484 (391 + 256 * q + 16 * i + j) = if i = t' + x ∧ l' + y ≤ j ∧ j ≤ r' then h 489 (256 * q + cSrc t l H W tu x (j - l')) else h 484 (391 + 256 * q + 16 * i + j) := by
      intro ro co hro hco hs
      obtain ⟨h1, b1, b2, b3, b4⟩ := L_M_cp2 (d := d) hd hW (t := t) (l := l) (b := b) (r := r) (t' := t') (l' := l') (b' := b') (r' := r') (tu := tu) (H := H) (W := W) (x := x) (y := y) (ro := ro) (co := co) (by omega) (by omega) (by omega) (by omega) (by omega) (by omega) (by omega) (by omega) 4 0 h a1 (by decide) (by decide)
      obtain ⟨h', g1, g2, g3, g4⟩ := ih (y + 1) h1 (MH_fr a1 (fun i _ => by rw [b2 483 (by decide)])) (by omega) (by omega)
      rw [mI_id (x := y + 1) (by omega) (by omega)]
      refine ⟨h1, h', b1, g1, fun b hb => by rw [g2 b hb, b2 b hb], fun j hj => by rw [g3 j hj, b3 j hj], fun q i j q0 q1 i0 i1 j0 j1 => ?_⟩
      rw [g4 q i j q0 q1 i0 i1 j0 j1, b4 q i j q0 q1 i0 i1 j0 j1, b2 489 (by decide), hs]
      by_cases c1 : i = t' + x ∧ l' + y ≤ j ∧ j ≤ r'
      · rw [if_pos c1]
        by_cases c2 : l' + (y + 1) ≤ j
        · rw [if_pos ⟨c1.1, c2, c1.2.2⟩]
        · rw [if_neg (by omega), if_pos (by omega), show j - l' = y by omega]
      · rw [if_neg c1, if_neg (by omega), if_neg (by omega)]
    have dx1 : Int.tmod x H = x % H := Int.tmod_eq_emod_of_nonneg (by omega)
    have dx2 : Int.tmod x W = x % W := Int.tmod_eq_emod_of_nonneg (by omega)
    have dy1 : Int.tmod y H = y % H := Int.tmod_eq_emod_of_nonneg (by omega)
    have dy2 : Int.tmod y W = y % W := Int.tmod_eq_emod_of_nonneg (by omega)
    rw [l_M_doCopy_1_eq, mI_id (x := r' - l') (by omega) (by omega), mLt_f (by omega)]
    by_cases ct : tu = 1
    · obtain ⟨h1, h', s1, s2, s3⟩ := step (y % H) (x % W) y1 x2 (by unfold cSrc; rw [if_pos ct, if_pos ct])
      rw [mEq_t ct, mD_t (by omega)]
      try dsimp only
      rw [mEq_t ct, mD_t (by omega)]
      try dsimp only
      rw [dy1, dx2, s1, mK_r, if_pos rfl]
      simp only [mP_0, mP_1, mP_2, mP_3, mP_4, mP_5, mP_6, mP_7, mP_8, mP_9, mP_10, mP_11, mP_12, mP_13]
      exact ⟨h', s2, s3⟩
    · obtain ⟨h1, h', s1, s2, s3⟩ := step (x % H) (y % W) x1 y2 (by unfold cSrc; rw [if_neg ct, if_neg ct])
      rw [mEq_f ct, mD_t (by omega)]
      try dsimp only
      rw [mEq_f ct, mD_t (by omega)]
      try dsimp only
      rw [dx1, dy2, s1, mK_r, if_pos rfl]
      simp only [mP_0, mP_1, mP_2, mP_3, mP_4, mP_5, mP_6, mP_7, mP_8, mP_9, mP_10, mP_11, mP_12, mP_13]
      exact ⟨h', s2, s3⟩
theorem L_M_cp0 (hd : 1 ≤ d) (hW : MW w) {t l b r t' l' b' r' tu H W : Int} (ht : 0 ≤ t ∧ 0 ≤ l ∧ t ≤ b ∧ l ≤ r ∧ b < 16 ∧ r < 16) (ht' : 0 ≤ t' ∧ 0 ≤ l' ∧ t' ≤ b' ∧ l' ≤ r' ∧ b' < 16 ∧ r' < 16) (hH : H = b - t + 1) (hWi : W = r - l + 1) : ∀ (m : Nat) (x : Int) (h : mm_H), MH h → 0 ≤ x → x + m = b' - t' + 1 → ∃ h', l_M_doCopy_0 (mm_P d) 483 t l b r t' l' b' r' tu H W x w h = some (.inr (229, [(2, 483), (0, t), (0, l), (0, b), (0, r), (0, t'), (0, l'), (0, b'), (0, r'), (0, tu), (0, H), (0, W), (0, b' - t' + 1), (9, 0), (9, 0), (9, 0), (9, 0)], w, h')) ∧ (∀ b : Int, b ≠ 484 → h' b = h b) ∧ (∀ j : Int, j < 391 ∨ 1415 ≤ j → h' 484 j = h 484 j) ∧ ∀ q i j : Int, 0 ≤ q → q < 4 → 0 ≤ i → i < 16 → 0 ≤ j → j < 16 → h' 484 (391 + 256 * q + 16 * i + j) = if (t' + x ≤ i ∧ i ≤ b') ∧ l' ≤ j ∧ j ≤ r' then h 489 (256 * q + cSrc t l H W tu (i - t') (j - l')) else h 484 (391 + 256 * q + 16 * i + j) := by
  intro m
  induction m with
  | zero =>
    intro x h a1 a2 a3
    rw [l_M_doCopy_0_eq, mI_id (x := b' - t') (by omega) (by omega), mLt_t (by omega)]
    exact ⟨h, by rw [show x = b' - t' + 1 by omega], fun _ _ => rfl, fun _ _ => rfl, fun q i j _ _ _ _ _ _ => by rw [if_neg (by omega)]⟩
  | succ m ih =>
    intro x h a1 a2 a3
    obtain ⟨h1, b1, b2, b3, b4⟩ := L_M_cp1 (d := d) hd hW (tu := tu) (x := x) ht ht' hH hWi (by omega) (r' - l' + 1).toNat 0 h a1 (by decide) (by omega)
    obtain ⟨h', g1, g2, g3, g4⟩ := ih (x + 1) h1 (MH_fr a1 (fun i _ => by rw [b2 483 (by decide)])) (by omega) (by omega)
    rw [l_M_doCopy_0_eq, mI_id (x := b' - t') (by omega) (by omega), mLt_f (by omega), b1, mK_r, if_pos rfl]
    simp only [mP_0, mP_1, mP_2, mP_3, mP_4, mP_5, mP_6, mP_7, mP_8, mP_9, mP_10, mP_11, mP_12]
    rw [mI_id (x := x + 1) (by omega) (by omega)]
    refine ⟨h', g1, fun b hb => by rw [g2 b hb, b2 b hb], fun j hj => by rw [g3 j hj, b3 j hj], fun q i j q0 q1 i0 i1 j0 j1 => ?_⟩
    rw [g4 q i j q0 q1 i0 i1 j0 j1, b4 q i j q0 q1 i0 i1 j0 j1, b2 489 (by decide)]
    by_cases c1 : (t' + x ≤ i ∧ i ≤ b') ∧ l' ≤ j ∧ j ≤ r'
    · rw [if_pos c1]
      by_cases c2 : t' + (x + 1) ≤ i
      · rw [if_pos (by omega)]
      · rw [if_neg (by omega), if_pos (by omega), show i - t' = x by omega]
    · rw [if_neg c1, if_neg (by omega), if_neg (by omega)]
theorem E_M_doCopy (hd : 2 ≤ d) (hW : MW w) (hH : MH h) (hI : aI s) (hR : RM (h 484) s) (t l b r t' l' b' r' tu : Int) : (okCopyC s t l b r t' l' b' r' tu ∧ ∃ h', mm_P d 249 [(2, 483), (0, t), (0, l), (0, b), (0, r), (0, t'), (0, l'), (0, b'), (0, r'), (0, tu)] w h = some ((0, 1), w, h') ∧ RM (h' 484) (F_copyC s t l b r t' l' b' r' tu) ∧ ∀ b : Int, b ≠ 484 → b ≠ 489 → h' b = h b) ∨ (¬ okCopyC s t l b r t' l' b' r' tu ∧ mm_P d 249 [(2, 483), (0, t), (0, l), (0, b), (0, r), (0, t'), (0, l'), (0, b'), (0, r'), (0, tu)] w h = some ((0, -2), w, h)) := by
  obtain ⟨d, rfl, hd2⟩ := mm_dS hd; clear hd; have hd := hd2; clear hd2
  have hw : (w.1 483).1 = 13 := by rw [hW.1]
  have h1 := hI.1; have h2 := hI.2.1
  unfold okCopyC
  rw [P_M_doCopy, mF_t hw, E_M_isRect (by omega) hW hH, mC_s, hR.1.1, hR.1.2.1]
  by_cases c1 : 0 ≤ t ∧ 0 ≤ l ∧ t ≤ b ∧ l ≤ r ∧ b < aHi s ∧ r < aWi s
  rotate_left
  · rw [bI_f c1, mEq_t rfl]
    exact Or.inr ⟨fun q => c1 q.1, rfl⟩
  rw [bI_t c1, mEq_f (by decide), mF_t hw, E_M_isRect (by omega) hW hH, mC_s, hR.1.1, hR.1.2.1]
  by_cases c2 : 0 ≤ t' ∧ 0 ≤ l' ∧ t' ≤ b' ∧ l' ≤ r' ∧ b' < aHi s ∧ r' < aWi s
  rotate_left
  · rw [bI_f c2, mEq_t rfl]
    exact Or.inr ⟨fun q => c2 q.2.1, rfl⟩
  rw [bI_t c2, mEq_f (by decide), E_M_in (by omega), mC_s]
  by_cases c3 : 0 ≤ tu ∧ tu ≤ 1
  rotate_left
  · rw [bI_f c3, mEq_t rfl]
    exact Or.inr ⟨fun q => c3 (by omega), rfl⟩
  rw [bI_t c3, mEq_f (by decide)]
  refine Or.inl ⟨⟨c1, c2, by omega⟩, ?_⟩
  try dsimp only
  rw [mI_id (x := b - t) (by omega) (by omega), mI_id (x := b - t + 1) (by omega) (by omega), mI_id (x := r - l) (by omega) (by omega), mI_id (x := r - l + 1) (by omega) (by omega), mF_t hw, mF_t hw, hH.1, hH.2.2.2.2.2.1, mCy_t hW.2.1 hW.2.2.2.2.2.2.1 (by decide) (by decide) (by decide) (by decide) (by decide) (by decide) (by decide)]
  generalize hg : mCpy h 484 391 489 0 1024 = h1'
  have b1 : ∀ b : Int, b ≠ 489 → h1' b = h b := fun b hb => by rw [← hg]; exact mCpy_row hb
  have b2 : ∀ j : Int, 0 ≤ j → j < 1024 → h1' 489 j = h 484 (391 + j) := fun j j0 j1 => by rw [← hg, mCpy_in (by omega) (by omega)]; congr 1; omega
  obtain ⟨h', g1, g2, g3, g4⟩ := L_M_cp0 (d := d) (by omega) hW (t := t) (l := l) (b := b) (r := r) (t' := t') (l' := l') (b' := b') (r' := r') (tu := tu) (H := b - t + 1) (W := r - l + 1) (by omega) (by omega) rfl rfl (b' - t' + 1).toNat 0 h1' (MH_fr hH (fun i _ => by rw [b1 483 (by decide)])) (by decide) (by omega)
  try dsimp only
  rw [g1, mK_r, if_pos rfl]
  refine ⟨h', rfl, ?_, fun b hb hb' => by rw [g2 b hb, b1 b hb']⟩
  refine RM_cel hR (fun j hj => by rw [g3 j hj, b1 484 (by decide)]) (fun p i j p0 p1 i0 i1 j0 j1 => ?_) hI
  rw [g4 p i j p0 p1 i0 (by omega) j0 (by omega), b1 484 (by decide)]
  by_cases c : (t' ≤ i ∧ i ≤ b') ∧ l' ≤ j ∧ j ≤ r'
  · rw [if_pos (by omega), if_pos c]
    have m1 : ∀ z : Int, 0 ≤ z % (b - t + 1) ∧ z % (b - t + 1) < b - t + 1 := fun z => ⟨Int.emod_nonneg _ (by omega), Int.emod_lt_of_pos _ (by omega)⟩
    have m2 : ∀ z : Int, 0 ≤ z % (r - l + 1) ∧ z % (r - l + 1) < r - l + 1 := fun z => ⟨Int.emod_nonneg _ (by omega), Int.emod_lt_of_pos _ (by omega)⟩
    have y1 := m1 (if tu = 1 then j - l' else i - t')
    have y2 := m2 (if tu = 1 then i - t' else j - l')
    unfold cSrc
    generalize (if tu = 1 then j - l' else i - t') % (b - t + 1) = u at y1 ⊢
    generalize (if tu = 1 then i - t' else j - l') % (r - l + 1) = v at y2 ⊢
    rw [b2 _ (by omega) (by omega), ← hR.2.2.1 p (t + u) (l + v) p0 p1 (by omega) (by omega) (by omega) (by omega)]
    congr 1; omega
  · rw [if_neg (by omega), if_neg c]
    exact hR.2.2.1 p i j p0 p1 i0 i1 j0 j1
end PU
