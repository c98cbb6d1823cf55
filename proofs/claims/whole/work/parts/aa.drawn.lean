/-! PURE: a cover of what would be, of what is drawn: the class. -/
def pF (f : Int → Int → Int) (v t l b r : Int) : Int → Int → Int := fun i j => if t ≤ i ∧ i ≤ b ∧ l ≤ j ∧ j ≤ r then v else f i j
theorem aCel_paint {s : aS} {p v t l b r : Int} : aCel (F_paint s p v t l b r) p = pF (aCel s p) v t l b r := by
  funext i j
  show (if p = p ∧ t ≤ i ∧ i ≤ b ∧ l ≤ j ∧ j ≤ r then v else aCel s p i j) = if t ≤ i ∧ i ≤ b ∧ l ≤ j ∧ j ≤ r then v else aCel s p i j
  by_cases c : t ≤ i ∧ i ≤ b ∧ l ≤ j ∧ j ≤ r
  · rw [if_pos c, if_pos ⟨rfl, c⟩]
  · rw [if_neg c, if_neg (fun x => c x.2)]
theorem mUsh_9 (x : Int) : 0 ≤ mUsh x 9 ∧ mUsh x 9 < 8388608 := by
  have e : ((Int32.ofInt 9).toUInt32 &&& Int32.toUInt32 31) = 9 := by decide
  unfold mUsh
  rw [e]
  generalize (Int32.ofInt x).toUInt32 = u
  have h1 : (u >>> 9).toNat = u.toNat / 512 := by
    rw [UInt32.toNat_shiftRight, Nat.shiftRight_eq_div_pow]
    rfl
  have h2 : u.toNat < 4294967296 := u.toNat_lt
  have h3 : (u >>> 9).toInt32.toInt = ((u >>> 9).toNat : Int) := by
    show (u >>> 9).toBitVec.toInt = ((u >>> 9).toBitVec.toNat : Int)
    refine BitVec.toInt_eq_toNat_of_lt ?_
    show 2 * (u >>> 9).toNat < 2 ^ 32
    omega
  rw [h3, h1]
  omega
def nxZ (z : Int) : Int := mI (mI (z * 1103515245) + 12345)
def daZ (z m : Int) : Int := mUsh z 9 % m
def nx5 (z : Int) : Int := nxZ (nxZ (nxZ (nxZ (nxZ z))))
def dwS (s : aS) (p z : Int) : aS := F_paint s p (daZ (nx5 z) 11 - 1) (mMin (daZ (nxZ z) (aHi s)) (daZ (nxZ (nxZ z)) (aHi s))) (mMin (daZ (nxZ (nxZ (nxZ z))) (aWi s)) (daZ (nxZ (nxZ (nxZ (nxZ z)))) (aWi s))) (mMax (daZ (nxZ z) (aHi s)) (daZ (nxZ (nxZ z)) (aHi s))) (mMax (daZ (nxZ (nxZ (nxZ z))) (aWi s)) (daZ (nxZ (nxZ (nxZ (nxZ z)))) (aWi s)))
def dsN (p : Int) : Nat → aS → Int → aS
  | 0, s, _ => s
  | n + 1, s, z => dsN p n (dwS s p z) (nx5 z)
theorem dwS_sz (s : aS) (p z : Int) : aHi (dwS s p z) = aHi s ∧ aWi (dwS s p z) = aWi s := ⟨rfl, rfl⟩
theorem dsN_sz (p : Int) : ∀ (n : Nat) (s : aS) (z : Int), aHi (dsN p n s z) = aHi s ∧ aWi (dsN p n s z) = aWi s := by
  intro n
  induction n with
  | zero => intro s z; exact ⟨rfl, rfl⟩
  | succ n ih => intro s z; exact ih (dwS s p z) (nx5 z)
theorem daZ_in (z : Int) {m : Int} (h : 0 < m) : 0 ≤ daZ z m ∧ daZ z m < m := ⟨Int.emod_nonneg _ (by omega), Int.emod_lt_of_pos _ h⟩
theorem mm_in {a b m : Int} (ha : 0 ≤ a ∧ a < m) (hb : 0 ≤ b ∧ b < m) : 0 ≤ mMin a b ∧ mMin a b ≤ mMax a b ∧ mMax a b < m := by unfold mMin mMax; split <;> omega
theorem dwS_I {s : aS} (hI : aI s) (p z : Int) : aI (dwS s p z) := aI_paint hI (by have := daZ_in (nx5 z) (m := 11) (by decide); omega)
theorem dsN_I (p : Int) : ∀ (n : Nat) (s : aS) (z : Int), aI s → aI (dsN p n s z) := by
  intro n
  induction n with
  | zero => intro s z h; exact h
  | succ n ih => intro s z h; exact ih _ _ (dwS_I h p z)
section PU
variable {d : Nat} {w : mm_W} {h : mm_H} {A : aG} {s : aS} {f : Int → Int → Int} {wi hi : Int}
theorem L_st1 (hd : 1 ≤ d) (hW : VcW w) {v t l b r i : Int} (hi0 : 0 ≤ i ∧ i < 16) (hr : r < 16) : ∀ (m : Nat) (c : Int) (h : mm_H), VcH h → 0 ≤ c → c + m = r + 1 → ∃ h', l_Cv_stroke_1 (mm_P d) 452 v t l b r i c w h = some (.inr (41, [(2, 452), (0, v), (0, t), (0, l), (0, b), (0, r), (0, i), (0, r + 1)], w, h')) ∧ (∀ o : Int, o ≠ 459 → h' o = h o) ∧ ∀ x : Int, h' 459 x = if 16 * i + c ≤ x ∧ x ≤ 16 * i + r then v else h 459 x := by
  intro m
  induction m with
  | zero =>
    intro c h hc c0 hm
    rw [l_Cv_stroke_1_eq, mLt_t (by omega), show c = r + 1 by omega]
    exact ⟨h, rfl, fun _ _ => rfl, fun x => by rw [if_neg (by omega)]⟩
  | succ m ih =>
    intro c h hc c0 hm
    obtain ⟨h', g1, g2, g3⟩ := ih (c + 1) (mUp h 459 (16 * i + c) v) (VcH_up hc (by decide)) (by omega) (by omega)
    rw [l_Cv_stroke_1_eq, mLt_f (by omega), mF_t (VcW_4 hW), E_placeOf (by omega) (by omega) (by omega) (by omega) (by omega), mC_s, hc 6 (by decide) (by decide), E_poke_t (by omega) (VcW_r hW (o := 453 + 6) (by decide)) (by decide) (by omega) (by omega), mC_s, show (453 : Int) + 6 = 459 by decide]
    try dsimp only
    rw [mI_id (x := c + 1) (by omega) (by omega), g1]
    refine ⟨h', rfl, fun o ho => by rw [g2 o ho, mUp_row ho], fun x => ?_⟩
    rw [g3 x]
    by_cases e : x = 16 * i + c
    · rw [if_neg (by omega), if_pos (by omega), e, mUp_s]
    · by_cases e2 : 16 * i + (c + 1) ≤ x ∧ x ≤ 16 * i + r
      · rw [if_pos e2, if_pos (by omega)]
      · rw [if_neg e2, if_neg (by omega), mUp_n (Or.inr e)]
theorem L_st0 (hd : 1 ≤ d) (hW : VcW w) {v t l b r : Int} (hl : 0 ≤ l ∧ l ≤ r) (hr : r < 16) (hb : b < 16) : ∀ (m : Nat) (i : Int) (h : mm_H), VcH h → 0 ≤ i → i + m = b + 1 → ∃ h', l_Cv_stroke_0 (mm_P d) 452 v t l b r i w h = some (.inr (47, [(2, 452), (0, v), (0, t), (0, l), (0, b), (0, r), (0, b + 1), (9, 0)], w, h')) ∧ (∀ o : Int, o ≠ 459 → h' o = h o) ∧ ∀ R C : Int, 0 ≤ C → C < 16 → h' 459 (16 * R + C) = if i ≤ R ∧ R ≤ b ∧ l ≤ C ∧ C ≤ r then v else h 459 (16 * R + C) := by
  intro m
  induction m with
  | zero =>
    intro i h hc i0 hm
    rw [l_Cv_stroke_0_eq, mLt_t (by omega), show i = b + 1 by omega]
    exact ⟨h, rfl, fun _ _ => rfl, fun R C _ _ => by rw [if_neg (by omega)]⟩
  | succ m ih =>
    intro i h hc i0 hm
    obtain ⟨h1, x1, x2, x3⟩ := L_st1 hd hW (v := v) (t := t) (l := l) (b := b) (i := i) (by omega) hr (r + 1 - l).toNat l h hc hl.1 (by omega)
    obtain ⟨h2, y1, y2, y3⟩ := ih (i + 1) h1 (fun j j0 j1 => by rw [x2 452 (by decide)]; exact hc j j0 j1) (by omega) (by omega)
    rw [l_Cv_stroke_0_eq, mLt_f (by omega), x1, mK_r, if_pos rfl]
    simp only [mP_0, mP_1, mP_2, mP_3, mP_4, mP_5, mP_6]
    rw [mI_id (x := i + 1) (by omega) (by omega), y1]
    refine ⟨h2, rfl, fun o ho => by rw [y2 o ho, x2 o ho], fun R C C0 C1 => ?_⟩
    rw [y3 R C C0 C1, x3]
    by_cases e : R = i
    · by_cases e2 : l ≤ C ∧ C ≤ r
      · rw [if_neg (by omega), if_pos (by omega), if_pos (by omega)]
      · rw [if_neg (by omega), if_neg (by omega), if_neg (by omega)]
    · by_cases e2 : i + 1 ≤ R ∧ R ≤ b ∧ l ≤ C ∧ C ≤ r
      · rw [if_pos e2, if_pos (by omega)]
      · rw [if_neg e2, if_neg (by omega), if_neg (by omega)]
theorem E_stroke (hd : 2 ≤ d) (hW : VcW w) (hc : VcH h) (hs : hi ≤ 16 ∧ wi ≤ 16) (hl : LY h f wi hi) {v t l b r : Int} (ht : 0 ≤ t ∧ t ≤ b ∧ b < 16) (hlr : 0 ≤ l ∧ l ≤ r ∧ r < 16) : ∃ h', mm_P d 16 [(2, 452), (0, v), (0, t), (0, l), (0, b), (0, r)] w h = some ((9, 0), w, h') ∧ VQ h h' ∧ LY h' (pF f v t l b r) wi hi := by
  obtain ⟨d, rfl, hd2⟩ := mm_dS hd; clear hd; have hd := hd2; clear hd2
  obtain ⟨h1, x1, x2, x3⟩ := L_st0 (d := d) (by omega) hW (v := v) (t := t) (l := l) ⟨hlr.1, hlr.2.1⟩ hlr.2.2 ht.2.2 (b + 1 - t).toNat t h hc ht.1 (by omega)
  rw [P_Cv_stroke, x1, mK_r, if_pos rfl]
  refine ⟨h1, rfl, ⟨fun o ho => x2 o (by omega), fun i _ => by rw [x2 452 (by decide)]⟩, ⟨by rw [x2 452 (by decide)]; exact hl.1.1, by rw [x2 452 (by decide)]; exact hl.1.2⟩, fun R C a b c d => ?_⟩
  rw [x3 R C c (by omega), hl.2 R C a b c d]
  rfl
noncomputable def fWould (A : aG) (p v n : Int) : Int := iC ((0 ≤ p ∧ p < 4) ∧ (-1 ≤ v ∧ v ≤ 9) ∧ isRect (aHi (gNow A)) (aWi (gNow A)) n) (cvP (F_paint (gNow A) p v (n / 1000000) (n / 10000 % 100) (n / 100 % 100) (n % 100)) p) (-2)
theorem E_F_would (hd : 30 ≤ d) (hQ : QS w h A) {n : Int} (hn : n < 2147483648) (p v : Int) : ∃ h', mm_P d 168 [(2, 1), (0, p), (0, v), (0, n)] w h = some ((0, fWould A p v n), w, h') ∧ QS w h' A ∧ CN h h' := by
  obtain ⟨d, rfl, hd2⟩ := mm_dS (show 29 + 1 ≤ d by omega)
  obtain ⟨n1, n2, n3⟩ := Q_now hQ
  have hW := hQ.1
  have hK := hQ.2.1
  have w1 : (w.1 1).1 = 12 := by rw [hW.1.1]
  have w4 := VcW_4 (WK_Vc hW)
  have wS : (w.1 (gAt (h 2 2) (gD A))).1 = 9 := by rw [n1.2.1]
  have i1 := n3.1; have i2 := n3.2.1
  unfold fWould
  rw [P_F_would, mF_t w1, E_now (by omega) hW hK hQ.2.2.1, mC_s, E_isProperty (by omega), mC_s]
  by_cases c1 : 0 ≤ p ∧ p < 4
  rotate_left
  · rw [bI_f c1, mEq_t rfl, iC_f (fun x => c1 x.1)]
    exact ⟨h, rfl, hQ, CN_rf h⟩
  rw [bI_t c1, mEq_f (by decide), E_isFormat (by omega), mC_s]
  by_cases c2 : -1 ≤ v ∧ v ≤ 9
  rotate_left
  · rw [bI_f c2, mEq_t rfl, iC_f (fun x => c2 x.2.1)]
    exact ⟨h, rfl, hQ, CN_rf h⟩
  rw [bI_t c2, mEq_f (by decide), mF_t wS, E_hasRect (by omega) n1 hn, mC_s, n2.2.1.1, n2.2.1.2.1]
  by_cases c0 : isRect (aHi (gNow A)) (aWi (gNow A)) n
  rotate_left
  · rw [bI_f c0, mEq_t rfl, iC_f (fun x => c0 x.2.2)]
    exact ⟨h, rfl, hQ, CN_rf h⟩
  have c0' := c0
  unfold isRect at c0'
  obtain ⟨h1, x1, x2, x3⟩ := E_copyLayer (d := d) (by omega) (WK_Vc hW) (HK_Vc hK) (gAt_ok (base := h 2 2) (k := gD A)) n1 n3 n2 c1
  have k1 : h1 1 6 = 452 := by rw [x2.1 1 (by decide)]; exact HK_16 hK
  have v1 := VQ_H x2 (HK_Vc hK)
  obtain ⟨h2, y1, y2, y3⟩ := E_stroke (d := d) (by omega) (WK_Vc hW) v1 ⟨i1.2, i2.2⟩ x3 (v := v) (t := n / 1000000) (l := n / 10000 % 100) (b := n / 100 % 100) (r := n % 100) (by omega) (by omega)
  have k2 : h2 1 6 = 452 := by rw [y2.1 1 (by decide)]; exact k1
  obtain ⟨h3, z1, z2, z3⟩ := E_build (d := d) (by omega) (WK_Vc hW) ⟨i1, i2⟩ (VQ_H y2 v1) y3
  rw [bI_t c0, mEq_f (by decide), mF_t w1, HK_16 hK, mF_t w4, x1, mC_s, mF_t w1, E_topOf (by omega) c0'.1 hn, mC_s, E_leftOf (by omega) c0'.1 hn, mC_s, E_bottomOf (by omega) c0'.1 hn, mC_s, E_rightOf (by omega) c0'.1 hn, mC_s, k1, mF_t w4, y1, mC_s, mF_t w1, k2, mF_t w4, z1, mC_s, iC_t ⟨c1, c2, c0⟩]
  refine ⟨h3, ?_, QS_cv hQ (VQ_tr (VQ_tr x2 y2) (VQ_CVf z2))⟩
  unfold cvP
  rw [aCel_paint]
  rfl
theorem E_nextDraw (hd : 1 ≤ d) (z : Int) : mm_P d 18 [(0, z)] w h = some ((0, nxZ z), w, h) := by
  obtain ⟨d, rfl, hd2⟩ := mm_dS hd; clear hd; have hd := hd2; clear hd2
  rw [P_Cv_nextDraw]; rfl
theorem E_drawnOf (hd : 2 ≤ d) (z : Int) {m : Int} (hm : 0 < m) : mm_P d 19 [(0, z), (0, m)] w h = some ((0, daZ z m), w, h) := by
  obtain ⟨d, rfl, hd2⟩ := mm_dS hd; clear hd; have hd := hd2; clear hd2
  rw [P_Cv_drawnOf, E_wrap hd (mUsh_9 z).1 hm, mC_s]; rfl
theorem L_draw (hd : 3 ≤ d) (hW : VcW w) {p z0 n : Int} (hn : n ≤ 30) : ∀ (m : Nat) (k z : Int) (s : aS) (h : mm_H), aI s → VcH h → LY h (aCel s p) (aWi s) (aHi s) → 0 ≤ k → k + m = n → ∃ (h' : mm_H) (z' : Int), l_Cv_draw_0 (mm_P d) 452 z0 n z k w h = some (.inr (122, [(2, 452), (0, z0), (0, n), (0, z'), (0, n), (9, 0), (9, 0), (9, 0), (9, 0)], w, h')) ∧ VQ h h' ∧ LY h' (aCel (dsN p m s z) p) (aWi s) (aHi s) := by
  have w4 := VcW_4 hW
  intro m
  induction m with
  | zero =>
    intro k z s h hI hc hl k0 hm
    rw [l_Cv_draw_0_eq, mLe_t (by omega), show k = n by omega]
    exact ⟨h, z, rfl, VQ_rf h, hl⟩
  | succ m ih =>
    intro k z s h hI hc hl k0 hm
    have i1 := hI.1; have i2 := hI.2.1
    have a1 := mm_in (daZ_in (nxZ z) (m := aHi s) (by omega)) (daZ_in (nxZ (nxZ z)) (m := aHi s) (by omega))
    have a2 := mm_in (daZ_in (nxZ (nxZ (nxZ z))) (m := aWi s) (by omega)) (daZ_in (nxZ (nxZ (nxZ (nxZ z)))) (m := aWi s) (by omega))
    have a5 := daZ_in (nx5 z) (m := 11) (by decide)
    obtain ⟨h1, x1, x2, x3⟩ := E_stroke (d := d) (by omega) hW hc ⟨i1.2, i2.2⟩ hl (v := daZ (nx5 z) 11 - 1) (t := mMin (daZ (nxZ z) (aHi s)) (daZ (nxZ (nxZ z)) (aHi s))) (l := mMin (daZ (nxZ (nxZ (nxZ z))) (aWi s)) (daZ (nxZ (nxZ (nxZ (nxZ z)))) (aWi s))) (b := mMax (daZ (nxZ z) (aHi s)) (daZ (nxZ (nxZ z)) (aHi s))) (r := mMax (daZ (nxZ (nxZ (nxZ z))) (aWi s)) (daZ (nxZ (nxZ (nxZ (nxZ z)))) (aWi s))) (by omega) (by omega)
    rw [← aCel_paint] at x3
    obtain ⟨h2, z2, y1, y2, y3⟩ := ih (k + 1) (nx5 z) (dwS s p z) h1 (dwS_I hI p z) (VQ_H x2 hc) x3 (by omega) (by omega)
    rw [l_Cv_draw_0_eq, mLe_f (by omega), E_nextDraw (by omega), mC_s, mF_t w4, hl.1.1, E_drawnOf (by omega) _ (by omega), mC_s, E_nextDraw (by omega), mC_s, mF_t w4, hl.1.1, E_drawnOf (by omega) _ (by omega), mC_s, E_nextDraw (by omega), mC_s, mF_t w4, hl.1.2, E_drawnOf (by omega) _ (by omega), mC_s, E_nextDraw (by omega), mC_s, mF_t w4, hl.1.2, E_drawnOf (by omega) _ (by omega), mC_s, E_nextDraw (by omega), mC_s, E_drawnOf (by omega) _ (by decide), mC_s]
    try dsimp only
    have e5 : nxZ (nxZ (nxZ (nxZ (nxZ z)))) = nx5 z := rfl
    rw [e5, mF_t w4, mI_id (x := daZ (nx5 z) 11 - 1) (by omega) (by omega), x1, mC_s]
    try dsimp only
    rw [mI_id (x := k + 1) (by omega) (by omega), y1]
    exact ⟨h2, z2, rfl, VQ_tr x2 y2, y3⟩
theorem L_cst1 (hd : 3 ≤ d) (hW : VcW w) (hc : VcH h) (hl : LY h f wi hi) (hs : hi ≤ 16 ∧ wi ≤ 16) {r : Int} (hr : 0 ≤ r ∧ r < hi) : ∀ (m : Nat) (c acc : Int), 0 ≤ c → c + m = wi → 0 ≤ acc → acc + m < 1000 → l_Cv_cellsSet_1 (mm_P d) 452 acc r c w h = some (.inr (41, [(2, 452), (0, acc + sumN (fun c => bI (f r c ≠ -1)) m c), (0, r), (0, wi)], w, h)) := by
  have w4 := VcW_4 hW
  intro m
  induction m with
  | zero =>
    intro c acc a1 a2 a3 a4
    rw [l_Cv_cellsSet_1_eq, mF_t w4, hl.1.2, mLe_t (by omega)]
    have e : sumN (fun c => bI (f r c ≠ -1)) 0 c = 0 := rfl
    rw [e, show c = wi by omega, show acc + 0 = acc by omega]
  | succ m ih =>
    intro c acc a1 a2 a3 a4
    have e : sumN (fun c => bI (f r c ≠ -1)) (m + 1) c = bI (f r c ≠ -1) + sumN (fun c => bI (f r c ≠ -1)) m (c + 1) := rfl
    rw [l_Cv_cellsSet_1_eq, mF_t w4, hl.1.2, mLe_f (by omega), mF_t w4, E_fAt (by omega) hW hc hl hs hr (c := c) (by omega), mC_s, e]
    try dsimp only
    rw [mI_id (x := c + 1) (by omega) (by omega), mI_id (x := acc + 1) (by omega) (by omega)]
    by_cases q : f r c = -1
    · rw [mEq_t q, bI_f (fun x => x q), ih (c + 1) acc (by omega) (by omega) (by omega) (by omega), Int.zero_add]
    · rw [mEq_f q, bI_t q, ih (c + 1) (acc + 1) (by omega) (by omega) (by omega) (by omega), Int.add_assoc]
theorem L_cst0 (hd : 3 ≤ d) (hW : VcW w) (hc : VcH h) (hl : LY h f wi hi) (hs : hi ≤ 16 ∧ 0 ≤ wi ∧ wi ≤ 16) : ∀ (m : Nat) (r acc : Int), 0 ≤ r → r + m = hi → 0 ≤ acc → acc + 16 * m < 900 → l_Cv_cellsSet_0 (mm_P d) 452 acc r w h = some (.inr (47, [(2, 452), (0, acc + sumN (fun r => sumN (fun c => bI (f r c ≠ -1)) wi.toNat 0) m r), (0, hi), (9, 0)], w, h)) := by
  have w4 := VcW_4 hW
  intro m
  induction m with
  | zero =>
    intro r acc a1 a2 a3 a4
    rw [l_Cv_cellsSet_0_eq, mF_t w4, hl.1.1, mLe_t (by omega)]
    have e : sumN (fun r => sumN (fun c => bI (f r c ≠ -1)) wi.toNat 0) 0 r = 0 := rfl
    rw [e, show r = hi by omega, show acc + 0 = acc by omega]
  | succ m ih =>
    intro r acc a1 a2 a3 a4
    have e : sumN (fun r => sumN (fun c => bI (f r c ≠ -1)) wi.toNat 0) (m + 1) r = sumN (fun c => bI (f r c ≠ -1)) wi.toNat 0 + sumN (fun r => sumN (fun c => bI (f r c ≠ -1)) wi.toNat 0) m (r + 1) := rfl
    have b := sumN_le (f := fun c => bI (f r c ≠ -1)) (a := 0) (b := 1) wi.toNat 0 (fun c _ _ => bI_le _)
    rw [l_Cv_cellsSet_0_eq, mF_t w4, hl.1.1, mLe_f (by omega), L_cst1 hd hW hc hl ⟨hs.1, hs.2.2⟩ (r := r) (by omega) wi.toNat 0 acc (Int.le_refl _) (by omega) a3 (by omega), mK_r, if_pos rfl]
    simp only [mP_0, mP_1, mP_2]
    rw [mI_id (x := r + 1) (by omega) (by omega), ih (r + 1) _ (by omega) (by omega) (by omega) (by omega), e, Int.add_assoc]
noncomputable def cstA (s : aS) (p : Int) : Int := sum2 (fun r c => bI (aCel s p r c ≠ -1)) (aHi s).toNat (aWi s).toNat 0 0
noncomputable def fDrawn (A : aG) (z n p q : Int) : Int := iC ((0 ≤ n ∧ n ≤ 30) ∧ (0 ≤ p ∧ p < 4) ∧ (q = 0 ∨ q = 1)) (if q = 0 then cvP (dsN p n.toNat (gNow A) z) p else cstA (dsN p n.toNat (gNow A) z) p) (-2)
theorem E_F_drawn (hd : 30 ≤ d) (hQ : QS w h A) (z n p q : Int) : ∃ h', mm_P d 169 [(2, 1), (0, z), (0, n), (0, p), (0, q)] w h = some ((0, fDrawn A z n p q), w, h') ∧ QS w h' A ∧ CN h h' := by
  obtain ⟨d, rfl, hd2⟩ := mm_dS (show 29 + 1 ≤ d by omega)
  obtain ⟨n1, n2, n3⟩ := Q_now hQ
  have hW := hQ.1
  have hK := hQ.2.1
  have w1 : (w.1 1).1 = 12 := by rw [hW.1.1]
  have w4 := VcW_4 (WK_Vc hW)
  have i1 := n3.1; have i2 := n3.2.1
  unfold fDrawn
  rw [P_F_drawn]
  by_cases c0 : 0 ≤ n
  rotate_left
  · rw [mLt_t (by omega), iC_f (fun x => c0 x.1.1)]
    exact ⟨h, rfl, hQ, CN_rf h⟩
  rw [mLt_f (by omega)]
  by_cases c1 : n ≤ 30
  rotate_left
  · rw [mLt_t (by omega), iC_f (fun x => c1 x.1.2)]
    exact ⟨h, rfl, hQ, CN_rf h⟩
  rw [mLt_f (by omega), E_isProperty (by omega), mC_s]
  by_cases c2 : 0 ≤ p ∧ p < 4
  rotate_left
  · rw [bI_f c2, mEq_t rfl, iC_f (fun x => c2 x.2.1)]
    exact ⟨h, rfl, hQ, CN_rf h⟩
  rw [bI_t c2, mEq_f (by decide), E_isFlag (by omega), mC_s]
  by_cases c3 : q = 0 ∨ q = 1
  rotate_left
  · rw [bI_f c3, mEq_t rfl, iC_f (fun x => c3 x.2.2)]
    exact ⟨h, rfl, hQ, CN_rf h⟩
  obtain ⟨h1, x1, x2, x3⟩ := E_copyLayer (d := d) (by omega) (WK_Vc hW) (HK_Vc hK) (gAt_ok (base := h 2 2) (k := gD A)) n1 n3 n2 c2
  have k1 : h1 1 6 = 452 := by rw [x2.1 1 (by decide)]; exact HK_16 hK
  have v1 := VQ_H x2 (HK_Vc hK)
  rw [bI_t c3, mEq_f (by decide), mF_t w1, mF_t w1, E_now (by omega) hW hK hQ.2.2.1, mC_s, HK_16 hK, mF_t w4, x1, mC_s, mF_t w1, k1, mF_t w4, iC_t ⟨⟨c0, c1⟩, c2, c3⟩]
  obtain ⟨d, rfl, hd3⟩ := mm_dS (show 28 + 1 ≤ d by omega)
  obtain ⟨h2, z2, y1, y2, y3⟩ := L_draw (d := d) (by omega) (WK_Vc hW) (z0 := z) c1 n.toNat 0 z (gNow A) h1 n3 v1 x3 (Int.le_refl _) (by omega)
  have v2 := VQ_H y2 v1
  have k2 : h2 1 6 = 452 := by rw [y2.1 1 (by decide)]; exact k1
  have sz := dsN_sz p n.toNat (gNow A) z
  rw [P_Cv_draw, y1, mK_r, if_pos rfl, mC_s]
  by_cases q0 : q = 0
  · obtain ⟨h3, u1, u2, u3⟩ := E_build (d := d + 1) (by omega) (WK_Vc hW) ⟨i1, i2⟩ v2 y3
    rw [mEq_t q0, if_pos q0, mF_t w1, k2, mF_t w4, u1, mC_s]
    refine ⟨h3, ?_, QS_cv hQ (VQ_tr (VQ_tr x2 y2) (VQ_CVf u2))⟩
    unfold cvP
    rw [sz.1, sz.2]
  · have g := L_cst0 (d := d) (by omega) (WK_Vc hW) v2 y3 ⟨i1.2, by omega, i2.2⟩ (aHi (gNow A)).toNat 0 0 (Int.le_refl _) (by omega) (Int.le_refl _) (by omega)
    rw [mEq_f q0, if_neg q0, mF_t w1, k2, mF_t w4, P_Cv_cellsSet, g, mK_r, if_pos rfl]
    simp only [mP_1]
    rw [mC_s, Int.zero_add]
    refine ⟨h2, ?_, QS_cv hQ (VQ_tr x2 y2)⟩
    unfold cstA
    rw [sz.1, sz.2]
    rfl
end PU
