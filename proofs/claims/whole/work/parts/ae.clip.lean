/-! PURE: clips of the class. -/
noncomputable def cvE (s : aS) (p k e : Int) : Int := cvD (aCel s p) (aWi s) (aHi s) (kSt (aCel s p) (aWi s) k) e
/-- the rectangle k of the cover meets the one that is told -/
def mtR (s : aS) (p n k : Int) : Prop := cvE s p k 0 ≤ n / 100 % 100 ∧ n / 1000000 ≤ cvE s p k 2 ∧ cvE s p k 1 ≤ n % 100 ∧ n / 10000 % 100 ≤ cvE s p k 3
noncomputable def mtN (s : aS) (p n : Int) (m : Nat) (k : Int) : Int := sumN (fun k => bI (mtR s p n k)) m k
theorem mtN_s (s : aS) (p n : Int) (m : Nat) (k : Int) : mtN s p n (m + 1) k = bI (mtR s p n k) + mtN s p n m (k + 1) := rfl
theorem mtN_in (s : aS) (p n : Int) (m : Nat) (k : Int) : 0 ≤ mtN s p n m k ∧ mtN s p n m k ≤ m := by
  have := sumN_le (f := fun k => bI (mtR s p n k)) (a := 0) (b := 1) m k (fun j _ _ => bI_le _)
  unfold mtN
  omega
/-- the five shorts of it -/
noncomputable def fiv (s : aS) (p n k e : Int) : Int := if e = 0 then mMax (cvE s p k 0) (n / 1000000) - n / 1000000 else if e = 1 then mMax (cvE s p k 1) (n / 10000 % 100) - n / 10000 % 100 else if e = 2 then mMin (cvE s p k 2) (n / 100 % 100) - n / 1000000 else if e = 3 then mMin (cvE s p k 3) (n % 100) - n / 10000 % 100 else cvE s p k 4
noncomputable def wF (s : aS) (p n k a : Int) (R : Int → Int) : Int → Int := fun j => if a ≤ j ∧ j < a + 5 then mS (mS (fiv s p n k (j - a))) else R j
noncomputable def clF (s : aS) (p n : Int) : Nat → Int → Int → (Int → Int) → Int → Int
  | 0, _, _, R => R
  | m + 1, k, a, R => @ite _ (mtR s p n k) (Classical.propDecidable _) (clF s p n m (k + 1) (a + 5) (wF s p n k a R)) (clF s p n m (k + 1) a R)
theorem clF_t {s : aS} {p n k a : Int} {m : Nat} {R : Int → Int} (h : mtR s p n k) : clF s p n (m + 1) k a R = clF s p n m (k + 1) (a + 5) (wF s p n k a R) := if_pos h
theorem clF_f {s : aS} {p n k a : Int} {m : Nat} {R : Int → Int} (h : ¬ mtR s p n k) : clF s p n (m + 1) k a R = clF s p n m (k + 1) a R := if_neg h
/-- what a clip answers, what it leaves -/
noncomputable def clM (A : aG) (p n : Int) : Int := mtN (gNow A) p n (cvP (gNow A) p).toNat 0
def clO (A : aG) (q p n : Int) : Prop := (0 ≤ q ∧ q < 4) ∧ (0 ≤ p ∧ p < 4) ∧ isRect (aHi (gNow A)) (aWi (gNow A)) n
def clI (A : aG) (q i p n : Int) : Prop := 0 ≤ i ∧ i ≤ gSz A q - 5 * clM A p n
noncomputable def fClip (A : aG) (q i p n : Int) : Int := iC (clO A q p n) (iC (gSz A q < 0) (-11) (iC (clI A q i p n) (clM A p n) (-13))) (-2)
noncomputable def gClip (A : aG) (q i p n : Int) : aG := gShl A (gSz A) (fun a j => @ite _ (clO A q p n ∧ 0 ≤ gSz A q ∧ clI A q i p n ∧ a = q) (Classical.propDecidable _) (clF (gNow A) p n (cvP (gNow A) p).toNat 0 i (gSh A q) j) (gSh A a j))
theorem gClip_no {A : aG} {q i p n : Int} (h : ¬ (clO A q p n ∧ 0 ≤ gSz A q ∧ clI A q i p n)) {hp : mm_H} {x y : Int} (hs : shl hp x y A) : shl hp x y (gClip A q i p n) := by
  intro k k0 k1
  obtain ⟨t1, t2, t3⟩ := hs k k0 k1
  refine ⟨t1, t2, fun j j0 j1 => ?_⟩
  show _ = @ite _ (clO A q p n ∧ 0 ≤ gSz A q ∧ clI A q i p n ∧ k = q) (Classical.propDecidable _) _ _
  rw [if_neg (fun x => h ⟨x.1, x.2.1, x.2.2.1⟩)]
  exact t3 j j0 j1
theorem clF_ext {s : aS} {p n : Int} {z : Int} : ∀ (m : Nat) (k a : Int) (R R' : Int → Int), (∀ j : Int, 0 ≤ j → j < z → R j = R' j) → ∀ j : Int, 0 ≤ j → j < z → clF s p n m k a R j = clF s p n m k a R' j := by
  intro m
  induction m with
  | zero => intro k a R R' h; exact h
  | succ m ih =>
    intro k a R R' h j j0 j1
    by_cases c : mtR s p n k
    · rw [clF_t c, clF_t c]
      refine ih (k + 1) (a + 5) _ _ (fun i i0 i1 => ?_) j j0 j1
      unfold wF
      by_cases q : a ≤ i ∧ i < a + 5
      · rw [if_pos q, if_pos q]
      · rw [if_neg q, if_neg q]; exact h i i0 i1
    · rw [clF_f c, clF_f c]
      exact ih (k + 1) a R R' h j j0 j1
/-- a clip was written -/
theorem gClip_yes {A : aG} {q i p n : Int} (h : clO A q p n ∧ 0 ≤ gSz A q ∧ clI A q i p n) {hp h' : mm_H} {x y : Int} (hs : shl hp x y A) (hx : h' x = hp x) (h1 : ∀ j : Int, 0 ≤ j → j < gSz A q → h' y (60 * q + j) = clF (gNow A) p n (cvP (gNow A) p).toNat 0 i (fun j => hp y (60 * q + j)) j) (h2 : ∀ j : Int, (j < 60 * q ∨ 60 * q + gSz A q ≤ j) → h' y j = hp y j) : shl h' x y (gClip A q i p n) := by
  intro k k0 k1
  obtain ⟨t1, t2, t3⟩ := hs k k0 k1
  have q0 := h.1.1
  obtain ⟨u1, u2, u3⟩ := hs q q0.1 q0.2
  refine ⟨by rw [hx]; exact t1, t2, fun j j0 j1 => ?_⟩
  have j1 : j < gSz A k := j1
  show _ = @ite _ (clO A q p n ∧ 0 ≤ gSz A q ∧ clI A q i p n ∧ k = q) (Classical.propDecidable _) _ _
  by_cases c : k = q
  · rw [if_pos ⟨h.1, h.2.1, h.2.2, c⟩]
    subst c
    rw [h1 j j0 j1]
    exact clF_ext _ _ _ _ _ (fun i i0 i1 => u3 i i0 i1) j j0 j1
  · rw [if_neg (fun x => c x.2.2.2), h2 _ (by omega)]
    exact t3 j j0 j1
section PU
variable {d : Nat} {w : mm_W} {h : mm_H} {A : aG} {s : aS}
theorem HK_468 {h' : mm_H} (hK : HK h) (e : ∀ b : Int, b ≠ 468 → h' b = h b) : HK h' :=
  HK_fr hK (fun b j hb => by rw [e b (by unfold kSl at hb; omega)]) (fun q q0 q1 => ShH_fr (hK.2.2.2.2.2.1 q q0 q1) (fun j _ _ => by rw [e _ (by omega)]) (e _ (by omega))) (ShH_fr hK.2.2.2.2.2.2.1 (fun j _ _ => by rw [e _ (by omega)]) (e _ (by omega))) (ShH_fr hK.2.2.2.2.2.2.2 (fun j _ _ => by rw [e _ (by omega)]) (e _ (by omega)))
theorem E_meets (hd : 2 ≤ d) (hW : WK w) (hK : HK h) {p n k : Int} (hC : CCd h (aCel s p) (aWi s) (aHi s)) (hI : aI s) (hn : 0 ≤ n ∧ n < 2147483648) (hk : 0 ≤ k ∧ k < cvP s p) : mm_P d 25 [(2, 452), (0, k), (0, n)] w h = some ((0, bI (mtR s p n k)), w, h) := by
  obtain ⟨d, rfl, hd2⟩ := mm_dS hd; clear hd; have hd := hd2; clear hd2
  have w4 := VcW_4 (WK_Vc hW)
  have hc := HK_Vc hK
  have nb := cvN_in (f := aCel s p) (wi := aWi s) (hi := aHi s) ⟨by have := hI.1; omega, hI.1.2⟩
  unfold cvP at hk
  obtain ⟨y0, y1, y2, y3, y4⟩ := hC.2.1 k hk.1 hk.2
  have e : ∀ q : Int, cvE s p k q = cvD (aCel s p) (aWi s) (aHi s) (kSt (aCel s p) (aWi s) k) q := fun _ => rfl
  rw [← e] at y0 y1 y2 y3
  rw [P_Cv_meets, mF_t w4, hc 0 (by decide) (by decide), E_peek_t (by omega) (VcW_r (WK_Vc hW) (o := 453 + 0) (by decide)) hk.1 (by omega), mC_s, E_bottomOf (by omega) hn.1 hn.2, mC_s, show (453 : Int) + 0 = 453 by decide, y0]
  unfold mtR
  by_cases c0 : cvE s p k 0 ≤ n / 100 % 100
  rotate_left
  · rw [mLt_t (by omega), mZ_0, bI_f (fun x => c0 x.1)]
  rw [mLt_f c0, mF_t w4, hc 2 (by decide) (by decide), E_peek_t (by omega) (VcW_r (WK_Vc hW) (o := 453 + 2) (by decide)) hk.1 (by omega), mC_s, E_topOf (by omega) hn.1 hn.2, mC_s, show (453 : Int) + 2 = 455 by decide, y2]
  by_cases c1 : n / 1000000 ≤ cvE s p k 2
  rotate_left
  · rw [mLt_t (by omega), mZ_0, bI_f (fun x => c1 x.2.1)]
  rw [mLt_f c1, mF_t w4, hc 1 (by decide) (by decide), E_peek_t (by omega) (VcW_r (WK_Vc hW) (o := 453 + 1) (by decide)) hk.1 (by omega), mC_s, E_rightOf (by omega) hn.1 hn.2, mC_s, show (453 : Int) + 1 = 454 by decide, y1]
  by_cases c2 : cvE s p k 1 ≤ n % 100
  rotate_left
  · rw [mLt_t (by omega), mZ_0, bI_f (fun x => c2 x.2.2.1)]
  rw [mLt_f c2, mF_t w4, hc 3 (by decide) (by decide), E_peek_t (by omega) (VcW_r (WK_Vc hW) (o := 453 + 3) (by decide)) hk.1 (by omega), mC_s, E_leftOf (by omega) hn.1 hn.2, mC_s, show (453 : Int) + 3 = 456 by decide, y3]
  by_cases c3 : n / 10000 % 100 ≤ cvE s p k 3
  · rw [mLt_f c3, mZ_1, bI_t ⟨c0, c1, c2, c3⟩]
  · rw [mLt_t (by omega), mZ_0, bI_f (fun x => c3 x.2.2.2)]
theorem E_writeFive (hd : 3 ≤ d) (hW : WK w) (hK : HK h) {p n q a k : Int} (hC : CCd h (aCel s p) (aWi s) (aHi s)) (hI : aI s) (hn : isRect (aHi s) (aWi s) n) (hm : n < 2147483648) (hk : 0 ≤ k ∧ k < cvP s p) (hq : 0 ≤ q ∧ q < 4) (ha : 0 ≤ a ∧ a + 5 ≤ 60) : ∃ h', mm_P d 198 [(2, 1), (0, q), (0, a), (0, k), (0, n)] w h = some ((9, 0), w, h') ∧ (∀ b : Int, b ≠ 468 → h' b = h b) ∧ ∀ j : Int, h' 468 j = if 60 * q + a ≤ j ∧ j < 60 * q + a + 5 then mS (mS (fiv s p n k (j - (60 * q + a)))) else h 468 j := by
  obtain ⟨d, rfl, hd2⟩ := mm_dS hd; clear hd; have hd := hd2; clear hd2
  have w1 : (w.1 1).1 = 12 := by rw [hW.1.1]
  have w4 := VcW_4 (WK_Vc hW)
  have hc := HK_Vc hK
  have i1 := hI.1; have i2 := hI.2.1
  have nb := cvN_in (f := aCel s p) (wi := aWi s) (hi := aHi s) ⟨by omega, hI.1.2⟩
  have hn' := hn
  unfold isRect at hn'
  unfold cvP at hk
  have di := cvD_in (f := aCel s p) (wi := aWi s) (hi := aHi s) ⟨by omega, i1.2⟩ i2.2 hk.1 hk.2
  obtain ⟨y0, y1, y2, y3, y4⟩ := hC.2.1 k hk.1 hk.2
  have e : ∀ x : Int, cvE s p k x = cvD (aCel s p) (aWi s) (aHi s) (kSt (aCel s p) (aWi s) k) x := fun _ => rfl
  rw [← e] at y0 y1 y2 y3 y4
  rw [← e, ← e, ← e, ← e] at di
  have d4 : -2147483648 ≤ mMax (cvE s p k 0) (n / 1000000) - n / 1000000 ∧ mMax (cvE s p k 0) (n / 1000000) - n / 1000000 < 2147483648 := by unfold mMax; split <;> omega
  have d5 : -2147483648 ≤ mMax (cvE s p k 1) (n / 10000 % 100) - n / 10000 % 100 ∧ mMax (cvE s p k 1) (n / 10000 % 100) - n / 10000 % 100 < 2147483648 := by unfold mMax; split <;> omega
  have d6 : -2147483648 ≤ mMin (cvE s p k 2) (n / 100 % 100) - n / 1000000 ∧ mMin (cvE s p k 2) (n / 100 % 100) - n / 1000000 < 2147483648 := by unfold mMin; split <;> omega
  have d7 : -2147483648 ≤ mMin (cvE s p k 3) (n % 100) - n / 10000 % 100 ∧ mMin (cvE s p k 3) (n % 100) - n / 10000 % 100 < 2147483648 := by unfold mMin; split <;> omega
  have st : ∀ (h1 : mm_H) (v i : Int), (∀ b : Int, b ≠ 468 → h1 b = h b) → 0 ≤ i → i < 60 → ∃ h2, mm_P d 196 [(2, 1), (0, q), (0, i), (0, v)] w h1 = some ((9, 0), w, h2) ∧ (∀ b : Int, b ≠ 468 → h2 b = h b) ∧ ∀ j : Int, h2 468 j = if j = q * 60 + i then mS (mS v) else h1 468 j := fun h1 v i hh i0 i1 => ⟨_, E_setShort (by omega) hW (HK_468 hK hh) hq ⟨i0, i1⟩, fun b hb => by rw [mUp_row hb, hh b hb], fun j => by
    by_cases c : j = q * 60 + i
    · rw [if_pos c, c, mUp_s]
    · rw [if_neg c, mUp_n (Or.inr c)]⟩
  obtain ⟨g1, a1, b1, r1⟩ := st h (mMax (cvE s p k 0) (n / 1000000) - n / 1000000) a (fun _ _ => rfl) ha.1 (by omega)
  obtain ⟨g2, a2, b2, r2⟩ := st g1 (mMax (cvE s p k 1) (n / 10000 % 100) - n / 10000 % 100) (a + 1) b1 (by omega) (by omega)
  obtain ⟨g3, a3, b3, r3⟩ := st g2 (mMin (cvE s p k 2) (n / 100 % 100) - n / 1000000) (a + 2) b2 (by omega) (by omega)
  obtain ⟨g4, a4, b4, r4⟩ := st g3 (mMin (cvE s p k 3) (n % 100) - n / 10000 % 100) (a + 3) b3 (by omega) (by omega)
  obtain ⟨g5, a5, b5, r5⟩ := st g4 (cvE s p k 4) (a + 4) b4 (by omega) (by omega)
  have k6 : ∀ h1 : mm_H, (∀ b : Int, b ≠ 468 → h1 b = h b) → h1 1 6 = 452 := fun h1 hh => by rw [hh 1 (by decide)]; exact HK_16 hK
  have pe : ∀ (h1 : mm_H) (o : Int), (∀ b : Int, b ≠ 468 → h1 b = h b) → 0 ≤ o → o < 5 → mm_P d 199 [(2, h1 452 o), (0, k)] w h1 = some ((0, h (453 + o) k), w, h1) := fun h1 o hh o0 o1 => by
    rw [hh 452 (by decide), hc o o0 (by omega), E_peek_t (by omega) (VcW_r (WK_Vc hW) (o := 453 + o) (by omega)) hk.1 (by omega), hh (453 + o) (by omega)]
  refine ⟨g5, ?_, b5, fun j => ?_⟩
  · rw [P_F_writeFive, E_topOf (by omega) hn'.1 hm, mC_s, E_leftOf (by omega) hn'.1 hm, mC_s, mF_t w1, k6 h (fun _ _ => rfl), mF_t w4, pe h 0 (fun _ _ => rfl) (by decide) (by decide), mC_s, show (453 : Int) + 0 = 453 by decide, y0]
    try dsimp only
    rw [mF_t w1, mI_id d4.1 d4.2, a1, mC_s, mF_t w1, k6 g1 b1, mF_t w4, pe g1 1 b1 (by decide) (by decide), mC_s, show (453 : Int) + 1 = 454 by decide, y1]
    try dsimp only
    rw [mF_t w1, mI_id d5.1 d5.2, mI_id (x := a + 1) (by omega) (by omega), a2, mC_s, mF_t w1, k6 g2 b2, mF_t w4, pe g2 2 b2 (by decide) (by decide), mC_s, show (453 : Int) + 2 = 455 by decide, y2, E_bottomOf (by omega) hn'.1 hm, mC_s]
    try dsimp only
    rw [mF_t w1, mI_id d6.1 d6.2, mI_id (x := a + 2) (by omega) (by omega), a3, mC_s, mF_t w1, k6 g3 b3, mF_t w4, pe g3 3 b3 (by decide) (by decide), mC_s, show (453 : Int) + 3 = 456 by decide, y3, E_rightOf (by omega) hn'.1 hm, mC_s]
    try dsimp only
    rw [mF_t w1, mI_id d7.1 d7.2, mI_id (x := a + 3) (by omega) (by omega), a4, mC_s, mF_t w1, k6 g4 b4, mF_t w4, pe g4 4 b4 (by decide) (by decide), mC_s, show (453 : Int) + 4 = 457 by decide, y4, mF_t w1, mI_id (x := a + 4) (by omega) (by omega), a5, mC_s]
  · rw [r5 j, r4 j, r3 j, r2 j, r1 j]
    unfold fiv
    by_cases c : 60 * q + a ≤ j ∧ j < 60 * q + a + 5
    · rw [if_pos c]
      rcases (show j = 60 * q + a ∨ j = 60 * q + a + 1 ∨ j = 60 * q + a + 2 ∨ j = 60 * q + a + 3 ∨ j = 60 * q + a + 4 by omega) with z | z | z | z | z
      · rw [if_neg (by omega), if_neg (by omega), if_neg (by omega), if_neg (by omega), if_pos (by omega), if_pos (by omega)]
      · rw [if_neg (by omega), if_neg (by omega), if_neg (by omega), if_pos (by omega), if_neg (by omega), if_pos (by omega)]
      · rw [if_neg (by omega), if_neg (by omega), if_pos (by omega), if_neg (by omega), if_neg (by omega), if_pos (by omega)]
      · rw [if_neg (by omega), if_pos (by omega), if_neg (by omega), if_neg (by omega), if_neg (by omega), if_pos (by omega)]
      · rw [if_pos (by omega), if_neg (by omega), if_neg (by omega), if_neg (by omega), if_neg (by omega)]
    · rw [if_neg c, if_neg (by omega), if_neg (by omega), if_neg (by omega), if_neg (by omega), if_neg (by omega)]
theorem L_clp0 (hd : 2 ≤ d) (hW : WK w) (hK : HK h) {q i p n : Int} (hC : CCd h (aCel s p) (aWi s) (aHi s)) (hI : aI s) (hn : 0 ≤ n ∧ n < 2147483648) : ∀ (m : Nat) (k acc : Int), 0 ≤ k → k + m = cvP s p → 0 ≤ acc → acc + m < 1000 → l_F_clip_0 (mm_P d) 1 q i p n (cvP s p) acc k w h = some (.inr (90, [(2, 1), (0, q), (0, i), (0, p), (0, n), (0, cvP s p), (0, acc + mtN s p n m k), (0, cvP s p), (9, 0)], w, h)) := by
  have w1 : (w.1 1).1 = 12 := by rw [hW.1.1]
  have w4 := VcW_4 (WK_Vc hW)
  have nb := cvN_in (f := aCel s p) (wi := aWi s) (hi := aHi s) ⟨by have := hI.1; omega, hI.1.2⟩
  have hb : cvP s p ≤ 256 := nb.2
  intro m
  induction m with
  | zero =>
    intro k acc k0 k1 a0 a1
    have e : mtN s p n 0 k = 0 := rfl
    rw [l_F_clip_0_eq, mLe_t (by omega), e, show k = cvP s p by omega, Int.add_zero]
  | succ m ih =>
    intro k acc k0 k1 a0 a1
    rw [l_F_clip_0_eq, mLe_f (by omega), mF_t w1, HK_16 hK, mF_t w4, E_meets hd hW hK hC hI hn ⟨k0, by omega⟩, mC_s, mtN_s]
    try dsimp only
    rw [mI_id (x := k + 1) (by omega) (by omega), mI_id (x := acc + 1) (by omega) (by omega)]
    by_cases c : mtR s p n k
    · rw [bI_t c, mEq_f (by decide), ih (k + 1) (acc + 1) (by omega) (by omega) (by omega) (by omega), Int.add_assoc]
    · rw [bI_f c, mEq_t rfl, ih (k + 1) acc (by omega) (by omega) (by omega) (by omega), Int.zero_add]
theorem L_clp1 (hd : 3 ≤ d) (hW : WK w) {q i p n z fo : Int} (hI : aI s) (hn : isRect (aHi s) (aWi s) n) (hm : n < 2147483648) (hq : 0 ≤ q ∧ q < 4) (hz : z ≤ 60) : ∀ (m : Nat) (k a : Int) (h : mm_H), HK h → CCd h (aCel s p) (aWi s) (aHi s) → 0 ≤ k → k + m = cvP s p → 0 ≤ a → a + 5 * mtN s p n m k ≤ z → ∃ (h' : mm_H) (a' : Int), l_F_clip_1 (mm_P d) 1 q i p n (cvP s p) fo a k w h = some (.inr (158, [(2, 1), (0, q), (0, i), (0, p), (0, n), (0, cvP s p), (0, fo), (0, a'), (0, cvP s p)], w, h')) ∧ (∀ b : Int, b ≠ 468 → h' b = h b) ∧ (∀ j : Int, 0 ≤ j → j < z → h' 468 (60 * q + j) = clF s p n m k a (fun j => h 468 (60 * q + j)) j) ∧ ∀ j : Int, (j < 60 * q ∨ 60 * q + z ≤ j) → h' 468 j = h 468 j := by
  have w1 : (w.1 1).1 = 12 := by rw [hW.1.1]
  have w4 := VcW_4 (WK_Vc hW)
  have nb := cvN_in (f := aCel s p) (wi := aWi s) (hi := aHi s) ⟨by have := hI.1; omega, hI.1.2⟩
  have hb : cvP s p ≤ 256 := nb.2
  have hn' := hn
  unfold isRect at hn'
  intro m
  induction m with
  | zero =>
    intro k a h hK hC k0 k1 a0 a1
    rw [l_F_clip_1_eq, mLe_t (by omega), show k = cvP s p by omega]
    exact ⟨h, a, rfl, fun _ _ => rfl, fun _ _ _ => rfl, fun _ _ => rfl⟩
  | succ m ih =>
    intro k a h hK hC k0 k1 a0 a1
    rw [mtN_s] at a1
    have mi := mtN_in s p n m (k + 1)
    rw [l_F_clip_1_eq, mLe_f (by omega), mF_t w1, HK_16 hK, mF_t w4, E_meets (by omega) hW hK hC hI ⟨hn'.1, hm⟩ ⟨k0, by omega⟩, mC_s]
    try dsimp only
    rw [mI_id (x := k + 1) (by omega) (by omega)]
    by_cases c : mtR s p n k
    · rw [bI_t c] at a1 ⊢
      rw [mEq_f (by decide), mF_t w1, mI_id (x := a + 5) (by omega) (by omega)]
      obtain ⟨h1, x1, x2, x3⟩ := E_writeFive hd hW hK (q := q) (a := a) hC hI hn hm ⟨k0, by omega⟩ hq (by omega)
      obtain ⟨h2, a2, y1, y2, y3, y4⟩ := ih (k + 1) (a + 5) h1 (HK_468 hK x2) (by
        unfold CCd
        rw [x2 452 (by decide), x2 453 (by decide), x2 454 (by decide), x2 455 (by decide), x2 456 (by decide), x2 457 (by decide), x2 458 (by decide)]
        exact hC) (by omega) (by omega) (by omega) (by omega)
      rw [x1, mC_s, y1]
      refine ⟨h2, a2, rfl, fun b hb => by rw [y2 b hb, x2 b hb], fun j j0 j1 => ?_, fun j hj => by rw [y4 j hj, x3, if_neg (by omega)]⟩
      rw [y3 j j0 j1, clF_t c]
      refine clF_ext _ _ _ _ _ (fun i i0 i1 => ?_) j j0 j1
      show h1 468 (60 * q + i) = wF s p n k a (fun j => h 468 (60 * q + j)) i
      rw [x3]
      unfold wF
      by_cases e : a ≤ i ∧ i < a + 5
      · rw [if_pos (by omega), if_pos e, show 60 * q + i - (60 * q + a) = i - a by omega]
      · rw [if_neg (by omega), if_neg e]
    · rw [bI_f c] at a1 ⊢
      rw [mEq_t rfl, clF_f c]
      exact ih (k + 1) a h hK hC (by omega) (by omega) a0 (by omega)
/-- a clip may change the cover and the shelves -/
def CNs (h h' : mm_H) : Prop := (∀ b : Int, b ≠ 468 → ¬ (452 ≤ b ∧ b < 461) → h' b = h b)
theorem QS_468 {h' : mm_H} (hQ : QS w h A) (e : ∀ b : Int, b ≠ 468 → h' b = h b) : QS w h' A := by
  obtain ⟨hW, hK, hc, hF⟩ := hQ
  refine ⟨hW, HK_468 hK e, cHist_gr hc ⟨Int.le_refl _, fun a a0 _ => ⟨rfl, e a (by omega)⟩⟩ (fun b b0 b1 => e b (by omega)) (e 2 (by decide)), ?_⟩
  unfold cFr
  rw [e 1 (by decide)]
  exact hF.imp id (fun x => ⟨x.1, cVw_fr x.2 (fun b b0 b1 => e b (by omega))⟩)
theorem E_F_clip (hd : 30 ≤ d) (hQ : QS w h A) (hs : shl h 469 468 A) (q i p : Int) {n : Int} (hn : n < 2147483648) : ∃ h', mm_P d 181 [(2, 1), (0, q), (0, i), (0, p), (0, n)] w h = some ((0, fClip A q i p n), w, h') ∧ QS w h' A ∧ shl h' 469 468 (gClip A q i p n) ∧ CNs h h' := by
  obtain ⟨d, rfl, hd2⟩ := mm_dS (show 29 + 1 ≤ d by omega)
  obtain ⟨n1, n2, n3⟩ := Q_now hQ
  have hW := hQ.1
  have hK := hQ.2.1
  have w1 : (w.1 1).1 = 12 := by rw [hW.1.1]
  have w4 := VcW_4 (WK_Vc hW)
  have wS : (w.1 (gAt (h 2 2) (gD A))).1 = 9 := by rw [n1.2.1]
  have i1 := n3.1; have i2 := n3.2.1
  unfold fClip
  rw [P_F_clip, E_isShelf (by omega), mC_s]
  by_cases c0 : 0 ≤ q ∧ q < 4
  rotate_left
  · rw [bI_f c0, mEq_t rfl, iC_f (fun x => c0 x.1)]
    exact ⟨h, rfl, hQ, gClip_no (fun x => c0 x.1.1) hs, fun _ _ _ => rfl⟩
  rw [bI_t c0, mEq_f (by decide), E_isProperty (by omega), mC_s]
  by_cases c1 : 0 ≤ p ∧ p < 4
  rotate_left
  · rw [bI_f c1, mEq_t rfl, iC_f (fun x => c1 x.2.1)]
    exact ⟨h, rfl, hQ, gClip_no (fun x => c1 x.1.2.1) hs, fun _ _ _ => rfl⟩
  rw [bI_t c1, mEq_f (by decide), mF_t w1, E_now (by omega) hW hK hQ.2.2.1, mC_s, mF_t wS, E_hasRect (by omega) n1 hn, mC_s, n2.2.1.1, n2.2.1.2.1]
  by_cases c2 : isRect (aHi (gNow A)) (aWi (gNow A)) n
  rotate_left
  · rw [bI_f c2, mEq_t rfl, iC_f (fun x => c2 x.2.2)]
    exact ⟨h, rfl, hQ, gClip_no (fun x => c2 x.1.2.2) hs, fun _ _ _ => rfl⟩
  have c2' := c2
  unfold isRect at c2'
  have hO : clO A q p n := ⟨c0, c1, c2⟩
  rw [bI_t c2, mEq_f (by decide), mF_t w1, E_sizeOf (by omega) hW hK hs c0, mC_s, iC_t hO]
  by_cases c3 : gSz A q < 0
  · rw [mLe_f c3, iC_t c3]
    exact ⟨h, rfl, hQ, gClip_no (fun x => by omega) hs, fun _ _ _ => rfl⟩
  obtain ⟨h1, x1, x2, x3⟩ := E_cvTake (d := d) (by omega) (WK_Vc hW) (HK_Vc hK) (gAt_ok (base := h 2 2) (k := gD A)) n1 n3 n2 c1
  have Q1 := (QS_cv hQ x2).1
  have hs1 : shl h1 469 468 A := fun a a0 a1 => by rw [x2.1 469 (by decide), x2.1 468 (by decide)]; exact hs a a0 a1
  have nb := cvN_in (f := aCel (gNow A) p) (wi := aWi (gNow A)) (hi := aHi (gNow A)) ⟨by omega, i1.2⟩
  have eN : cvN (aCel (gNow A) p) (aWi (gNow A)) (aHi (gNow A)) = cvP (gNow A) p := rfl
  rw [eN] at x1 nb
  have g := L_clp0 (d := d) (q := q) (i := i) (by omega) hW Q1.2.1 x3 n3 ⟨c2'.1, hn⟩ (cvP (gNow A) p).toNat 0 0 (Int.le_refl _) (by omega) (Int.le_refl _) (by omega)
  have mi := mtN_in (gNow A) p n (cvP (gNow A) p).toNat 0
  have eM : mtN (gNow A) p n (cvP (gNow A) p).toNat 0 = clM A p n := rfl
  rw [eM] at g mi
  have o1 : CNs h h1 := fun b b0 b1 => x2.1 b (by omega)
  rw [mLe_t (by omega), iC_f c3, mF_t w1, mF_t w1, E_now (by omega) hW hK hQ.2.2.1, mC_s, HK_16 hK, mF_t w4, x1, mC_s, g, mK_r, if_pos rfl]
  simp only [mP_0, mP_1, mP_2, mP_3, mP_4, mP_5, mP_6]
  by_cases c4 : 0 ≤ i
  rotate_left
  · rw [mLt_t (by omega), iC_f (fun x => c4 x.1)]
    exact ⟨h1, rfl, Q1, gClip_no (fun x => c4 x.2.2.1) hs1, o1⟩
  obtain ⟨s1, s2, s3⟩ := hs q c0.1 c0.2
  rw [mLt_f c4, mF_t w1, E_sizeOf (by omega) hW Q1.2.1 hs1 c0, mC_s, Int.zero_add, mI_id (x := 5 * clM A p n) (by omega) (by omega), mI_id (x := gSz A q - 5 * clM A p n) (by omega) (by omega)]
  by_cases c5 : i ≤ gSz A q - 5 * clM A p n
  rotate_left
  · rw [mLe_f (by omega), iC_f (fun x => c5 x.2)]
    exact ⟨h1, rfl, Q1, gClip_no (fun x => c5 x.2.2.2) hs1, o1⟩
  obtain ⟨h2, a2, y1, y2, y3, y4⟩ := L_clp1 (d := d) (i := i) (fo := clM A p n) (by omega) hW n3 c2 hn c0 s2.2 (cvP (gNow A) p).toNat 0 i h1 Q1.2.1 x3 (Int.le_refl _) (by omega) c4 (by rw [eM]; omega)
  rw [mLe_t c5, y1, mK_r, if_pos rfl]
  simp only [mP_6]
  rw [iC_t ⟨c4, c5⟩]
  exact ⟨h2, rfl, QS_468 Q1 y2, gClip_yes ⟨hO, by omega, c4, c5⟩ hs1 (y2 469 (by decide)) y3 y4, fun b b0 b1 => by rw [y2 b b0, o1 b b0 b1]⟩
end PU
