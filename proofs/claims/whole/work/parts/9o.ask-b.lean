/-! PURE: the class is asked, more. Printed by wip/whole/gen/gen9o.py. -/
section PU
variable {d : Nat} {w : mm_W} {h : mm_H} {A : aG}
/-- which rules are idle -/
noncomputable def idlA (s : aS) : Nat → Int
  | 0 => 0
  | n + 1 => if shbN s (n : Int) = 0 then mOr (idlA s n) (mShl 1 (n : Int)) else idlA s n
theorem L_idle (hd : 4 ≤ d) {V S : Int} {s : aS} (hV : vOk V) (hVW : VW w V) (hW : ShW w S) (hI : aI s) (hH : VH h V) (hC : cVw h V s) (hR : RC w h S s) : ∀ (m k : Nat), (k : Int) + m = aN s → l_F_idle_0 (mm_P d) 1 S V (idlA s k) (k : Int) w h = some (.inr (55, [(2, 1), (2, S), (2, V), (0, idlA s (aN s).toNat), (0, aN s)], w, h)) := by
  have wS : (w.1 S).1 = 9 := by rw [hW.2.1]
  have wV : (w.1 V).1 = 11 := by rw [hVW.1]
  have hn := hI.2.2.1
  intro m
  induction m with
  | zero =>
    intro k hk
    rw [l_F_idle_0_eq, mF_t wS, hR.2.1.2.2, mLe_t (by omega), show (k : Int) = aN s by omega, show (aN s).toNat = k by omega]
  | succ m ih =>
    intro k hk
    have k1 : 0 ≤ (k : Int) ∧ (k : Int) < aN s := by omega
    have o1 : (w.1 (h (S + 5) (k : Int))).1 = 7 := by rw [(Sh_rul hW hR.1 k1.1 (show (k : Int) < 6 by omega)).1]
    have hp4 := (hI.2.2.2.2.2.2.2.2 (k : Int) k1.1 k1.2).2.2.1
    have e : idlA s (k + 1) = if shbN s (k : Int) = 0 then mOr (idlA s k) (mShl 1 (k : Int)) else idlA s k := rfl
    have es : sum2 (fun r c => bI (fromA s (aRul s (k : Int) 4) r c = 4 + (k : Int))) (aHi s).toNat (aWi s).toNat 0 0 = shbN s (k : Int) := rfl
    rw [l_F_idle_0_eq, mF_t wS, hR.2.1.2.2, mLe_f (by omega), mF_t wS, E_ruleAt (by omega) hW hR.1 k1.1 (by omega), mC_s, mF_t o1, mF_t wV, (hR.2.2.2.2.2.2.2 (k : Int) k1.1 k1.2).1 4 (by decide) (by decide), E_shby (by omega) hV hVW hH hI hC k1 hp4, mC_s, es]
    try dsimp only
    rw [mI_id (by omega) (by omega), show (k : Int) + 1 = ((k + 1 : Nat) : Int) by omega]
    by_cases c : shbN s (k : Int) = 0
    · rw [mEq_t c, ← ih (k + 1) (by omega), e, if_pos c]
    · rw [mEq_f c, ← ih (k + 1) (by omega), e, if_neg c]
theorem E_F_idle (hd : 30 ≤ d) (hQ : QS w h A)  : ∃ h', mm_P d 164 [(2, 1)] w h = some ((0, idlA (gNow A) (aN (gNow A)).toNat), w, h') ∧ QS w h' A ∧ CN h h' := by
  obtain ⟨d, rfl, hd2⟩ := mm_dS (show 29 + 1 ≤ d by omega)
  obtain ⟨n1, n2, n3⟩ := Q_now hQ
  have hW := hQ.1
  have hK := hQ.2.1
  have hc := hQ.2.2.1
  have w1 : (w.1 1).1 = 12 := by rw [hW.1.1]
  have wS : (w.1 (gAt (h 2 2) (gD A))).1 = 9 := by rw [n1.2.1]
  have wV : (w.1 438).1 = 11 := by rw [(WK_V1 hW).1]
  have i1 := n3.1
  have i2 := n3.2.1
  obtain ⟨h1, f1, f2, f3, f4, f5⟩ := E_fresh (d := d) (by omega) hQ
  have hn := n3.2.2.1
  have hin := gAt_in (base := h 2 2) (k := gD A)
  have R1 : RC w h1 (gAt (h 2 2) (gD A)) (gNow A) := RC_fr n2 n3 ⟨Int.le_refl _, fun a a0 _ => ⟨rfl, f3.1 a (by omega) (by omega) (by omega)⟩⟩ (fun b b0 b1 => f3.1 b (by omega) (by omega) (by omega))
  have g := L_idle (d := d) (by omega) (Or.inl rfl) (WK_V1 hW) n1 n3 f5 f4 R1 (aN (gNow A)).toNat 0 (by omega)
  have g : l_F_idle_0 (mm_P d) 1 (gAt (h 2 2) (gD A)) 438 0 0 w h1 = _ := g
  rw [P_F_idle, mF_t w1, E_now (by omega) hW hK hc, mC_s, mF_t w1, f1, mC_s, g, mK_r, if_pos rfl]
  simp only [mP_3]
  exact ⟨h1, rfl, f2, f3⟩
/-- what all of a rectangle show -/
noncomputable def allA (s : aS) (p n : Int) : Int := iC (shwN s p (numA s p (n / 1000000) (n / 10000 % 100)) n = (n / 100 % 100 - n / 1000000 + 1) * (n % 100 - n / 10000 % 100 + 1)) (numA s p (n / 1000000) (n / 10000 % 100)) (-5)
noncomputable def fAll (A : aG) (p n : Int) : Int := iC ((0 ≤ p ∧ p < 4) ∧ isRect (aHi (gNow A)) (aWi (gNow A)) n) (allA (gNow A) p n) (-2)
theorem E_F_all (hd : 30 ≤ d) (hQ : QS w h A) {n : Int} (hn : n < 2147483648) (p : Int) : ∃ h', mm_P d 170 [(2, 1), (0, p), (0, n)] w h = some ((0, fAll A p n), w, h') ∧ QS w h' A ∧ CN h h' := by
  obtain ⟨d, rfl, hd2⟩ := mm_dS (show 29 + 1 ≤ d by omega)
  obtain ⟨n1, n2, n3⟩ := Q_now hQ
  have hW := hQ.1
  have hK := hQ.2.1
  have hc := hQ.2.2.1
  have w1 : (w.1 1).1 = 12 := by rw [hW.1.1]
  have wS : (w.1 (gAt (h 2 2) (gD A))).1 = 9 := by rw [n1.2.1]
  have wV : (w.1 438).1 = 11 := by rw [(WK_V1 hW).1]
  have i1 := n3.1
  have i2 := n3.2.1
  unfold fAll
  rw [P_F_all]
  rw [E_isProperty (by omega), mC_s]
  by_cases c1 : 0 ≤ p ∧ p < 4
  rotate_left
  · rw [bI_f c1, mEq_t rfl, iC_f (fun x => c1 x.1)]
    exact ⟨h, rfl, hQ, CN_rf h⟩
  rw [bI_t c1, mEq_f (by decide)]
  rw [mF_t w1, E_now (by omega) hW hK hc, mC_s, mF_t wS]
  rw [E_hasRect (by omega) n1 hn, mC_s, n2.2.1.1, n2.2.1.2.1]
  by_cases c0 : isRect (aHi (gNow A)) (aWi (gNow A)) n
  rotate_left
  · rw [bI_f c0, mEq_t rfl, iC_f (fun x => c0 x.2)]
    exact ⟨h, rfl, hQ, CN_rf h⟩
  have c0' := c0
  unfold isRect at c0'
  rw [bI_t c0, mEq_f (by decide)]
  obtain ⟨h1, f1, f2, f3, f4, f5⟩ := E_fresh (d := d) (by omega) hQ
  have hm1 : (n / 100 % 100 - n / 1000000 + 1) * (n % 100 - n / 10000 % 100 + 1) ≤ 16 * 16 := Int.mul_le_mul (by omega) (by omega) (by omega) (by decide)
  have hm0 : 0 ≤ (n / 100 % 100 - n / 1000000 + 1) * (n % 100 - n / 10000 % 100 + 1) := Int.mul_nonneg (by omega) (by omega)
  rw [mF_t w1, f1, mC_s, E_topOf (by omega) c0'.1 hn, mC_s, E_leftOf (by omega) c0'.1 hn, mC_s, mF_t wV, E_vNumber (by omega) (Or.inl rfl) (WK_V1 hW) f5 n3 f4 c1 (by omega) (by omega), mC_s, E_bottomOf (by omega) c0'.1 hn, mC_s, E_topOf (by omega) c0'.1 hn, mC_s, E_rightOf (by omega) c0'.1 hn, mC_s, E_leftOf (by omega) c0'.1 hn, mC_s]
  try dsimp only
  rw [mF_t wV, E_shwg (by omega) (Or.inl rfl) (WK_V1 hW) f5 n3 f4 c1 c0 hn, mC_s, mI_id (x := n / 100 % 100 - n / 1000000) (by omega) (by omega), mI_id (x := n / 100 % 100 - n / 1000000 + 1) (by omega) (by omega), mI_id (x := n % 100 - n / 10000 % 100) (by omega) (by omega), mI_id (x := n % 100 - n / 10000 % 100 + 1) (by omega) (by omega), mI_id (x := (n / 100 % 100 - n / 1000000 + 1) * (n % 100 - n / 10000 % 100 + 1)) (by omega) (by omega), iC_t ⟨c1, c0⟩]
  unfold allA
  by_cases c : shwN (gNow A) p (numA (gNow A) p (n / 1000000) (n / 10000 % 100)) n = (n / 100 % 100 - n / 1000000 + 1) * (n % 100 - n / 10000 % 100 + 1)
  · rw [mEq_t c, iC_t c]
    exact ⟨h1, rfl, f2, f3⟩
  · rw [mEq_f c, iC_f c]
    exact ⟨h1, rfl, f2, f3⟩
noncomputable def fMany (A : aG) (p v n : Int) : Int := iC ((0 ≤ p ∧ p < 4) ∧ (0 ≤ v ∧ v ≤ 9) ∧ isRect (aHi (gNow A)) (aWi (gNow A)) n) (shwN (gNow A) p v n) (-2)
theorem E_F_many (hd : 30 ≤ d) (hQ : QS w h A) {n : Int} (hn : n < 2147483648) (p v : Int) : ∃ h', mm_P d 171 [(2, 1), (0, p), (0, v), (0, n)] w h = some ((0, fMany A p v n), w, h') ∧ QS w h' A ∧ CN h h' := by
  obtain ⟨d, rfl, hd2⟩ := mm_dS (show 29 + 1 ≤ d by omega)
  obtain ⟨n1, n2, n3⟩ := Q_now hQ
  have hW := hQ.1
  have hK := hQ.2.1
  have hc := hQ.2.2.1
  have w1 : (w.1 1).1 = 12 := by rw [hW.1.1]
  have wS : (w.1 (gAt (h 2 2) (gD A))).1 = 9 := by rw [n1.2.1]
  have wV : (w.1 438).1 = 11 := by rw [(WK_V1 hW).1]
  have i1 := n3.1
  have i2 := n3.2.1
  unfold fMany
  rw [P_F_many]
  rw [E_isProperty (by omega), mC_s]
  by_cases c1 : 0 ≤ p ∧ p < 4
  rotate_left
  · rw [bI_f c1, mEq_t rfl, iC_f (fun x => c1 x.1)]
    exact ⟨h, rfl, hQ, CN_rf h⟩
  rw [bI_t c1, mEq_f (by decide)]
  rw [E_isNumber (by omega), mC_s]
  by_cases c2 : 0 ≤ v ∧ v ≤ 9
  rotate_left
  · rw [bI_f c2, mEq_t rfl, iC_f (fun x => c2 x.2.1)]
    exact ⟨h, rfl, hQ, CN_rf h⟩
  rw [bI_t c2, mEq_f (by decide)]
  rw [mF_t w1, E_now (by omega) hW hK hc, mC_s, mF_t wS]
  rw [E_hasRect (by omega) n1 hn, mC_s, n2.2.1.1, n2.2.1.2.1]
  by_cases c0 : isRect (aHi (gNow A)) (aWi (gNow A)) n
  rotate_left
  · rw [bI_f c0, mEq_t rfl, iC_f (fun x => c0 x.2.2)]
    exact ⟨h, rfl, hQ, CN_rf h⟩
  have c0' := c0
  unfold isRect at c0'
  rw [bI_t c0, mEq_f (by decide)]
  obtain ⟨h1, f1, f2, f3, f4, f5⟩ := E_fresh (d := d) (by omega) hQ
  rw [mF_t w1, f1, mC_s, mF_t wV, E_shwg (by omega) (Or.inl rfl) (WK_V1 hW) f5 n3 f4 c1 c0 hn, mC_s, iC_t ⟨c1, c2, c0⟩]
  exact ⟨h1, rfl, f2, f3⟩
noncomputable def fGreatest (A : aG) (p v q : Int) : Int := iC ((0 ≤ p ∧ p < 4) ∧ (0 ≤ v ∧ v ≤ 9) ∧ (q = 0 ∨ q = 1)) (if q = 0 then (grA (gNow A) p v).1 else (grA (gNow A) p v).2) (-2)
theorem E_F_greatest (hd : 30 ≤ d) (hQ : QS w h A) (p v q : Int) : ∃ h', mm_P d 172 [(2, 1), (0, p), (0, v), (0, q)] w h = some ((0, fGreatest A p v q), w, h') ∧ QS w h' A ∧ CN h h' := by
  obtain ⟨d, rfl, hd2⟩ := mm_dS (show 29 + 1 ≤ d by omega)
  obtain ⟨n1, n2, n3⟩ := Q_now hQ
  have hW := hQ.1
  have hK := hQ.2.1
  have hc := hQ.2.2.1
  have w1 : (w.1 1).1 = 12 := by rw [hW.1.1]
  have wS : (w.1 (gAt (h 2 2) (gD A))).1 = 9 := by rw [n1.2.1]
  have wV : (w.1 438).1 = 11 := by rw [(WK_V1 hW).1]
  have i1 := n3.1
  have i2 := n3.2.1
  unfold fGreatest
  rw [P_F_greatest]
  rw [E_isProperty (by omega), mC_s]
  by_cases c1 : 0 ≤ p ∧ p < 4
  rotate_left
  · rw [bI_f c1, mEq_t rfl, iC_f (fun x => c1 x.1)]
    exact ⟨h, rfl, hQ, CN_rf h⟩
  rw [bI_t c1, mEq_f (by decide)]
  rw [E_isNumber (by omega), mC_s]
  by_cases c2 : 0 ≤ v ∧ v ≤ 9
  rotate_left
  · rw [bI_f c2, mEq_t rfl, iC_f (fun x => c2 x.2.1)]
    exact ⟨h, rfl, hQ, CN_rf h⟩
  rw [bI_t c2, mEq_f (by decide)]
  rw [E_isFlag (by omega), mC_s]
  by_cases c3 : q = 0 ∨ q = 1
  rotate_left
  · rw [bI_f c3, mEq_t rfl, iC_f (fun x => c3 x.2.2)]
    exact ⟨h, rfl, hQ, CN_rf h⟩
  rw [bI_t c3, mEq_f (by decide)]
  obtain ⟨h1, f1, f2, f3, f4, f5⟩ := E_fresh (d := d) (by omega) hQ
  obtain ⟨h2, g1, g2, g3, g4, g5⟩ := E_great (d := d) (h := h1) (v := v) (by omega) (Or.inl rfl) (WK_V1 hW) n3 c1 f5 f4
  obtain ⟨k1, k2⟩ := QS_row f2 f4 (fun b _ x1 x2 => g2 b x1 (by omega)) g3
  rw [mF_t w1, f1, mC_s, mF_t wV, g1, mC_s, iC_t ⟨c1, c2, c3⟩]
  by_cases q0 : q = 0
  · rw [mEq_t q0, mF_t wV, g4, if_pos q0]
    exact ⟨h2, rfl, k1, CN_tr f3 k2⟩
  · rw [mEq_f q0, mF_t wV, g5, if_neg q0]
    exact ⟨h2, rfl, k1, CN_tr f3 k2⟩
noncomputable def fAlike (A : aG) (n : Int) : Int := iC (isCell (aHi (gNow A)) (aWi (gNow A)) n) (sum2 (fun r c => bI (lookA (gNow A) r c = lookA (gNow A) (n / 100) (n % 100))) (aHi (gNow A)).toNat (aWi (gNow A)).toNat 0 0) (-2)
theorem E_F_alike (hd : 30 ≤ d) (hQ : QS w h A) {n : Int} (hn : n < 2147483648) : ∃ h', mm_P d 173 [(2, 1), (0, n)] w h = some ((0, fAlike A n), w, h') ∧ QS w h' A ∧ CN h h' := by
  obtain ⟨d, rfl, hd2⟩ := mm_dS (show 29 + 1 ≤ d by omega)
  obtain ⟨n1, n2, n3⟩ := Q_now hQ
  have hW := hQ.1
  have hK := hQ.2.1
  have hc := hQ.2.2.1
  have w1 : (w.1 1).1 = 12 := by rw [hW.1.1]
  have wS : (w.1 (gAt (h 2 2) (gD A))).1 = 9 := by rw [n1.2.1]
  have wV : (w.1 438).1 = 11 := by rw [(WK_V1 hW).1]
  have i1 := n3.1
  have i2 := n3.2.1
  unfold fAlike
  rw [P_F_alike, mF_t w1, E_now (by omega) hW hK hc, mC_s, mF_t wS, E_hasCell (by omega) n1 hn, mC_s, n2.2.1.1, n2.2.1.2.1]
  by_cases c0 : isCell (aHi (gNow A)) (aWi (gNow A)) n
  rotate_left
  · rw [bI_f c0, mEq_t rfl, iC_f (c0)]
    exact ⟨h, rfl, hQ, CN_rf h⟩
  have c0' := c0
  unfold isCell at c0'
  rw [bI_t c0, mEq_f (by decide)]
  obtain ⟨h1, f1, f2, f3, f4, f5⟩ := E_fresh (d := d) (by omega) hQ
  rw [mF_t w1, f1, mC_s, mD_t (by decide), mD_t (by decide), mF_t wV, Int.tdiv_eq_ediv_of_nonneg c0'.1, Int.tmod_eq_emod_of_nonneg c0'.1, mI_id (x := n / 100) (by omega) (by omega), E_vLook (by omega) (Or.inl rfl) (WK_V1 hW) f5 n3 f4 (by omega) (by omega), mC_s, mF_t wV, E_lkng (by omega) (Or.inl rfl) (WK_V1 hW) f5 n3 f4, mC_s, iC_t c0]
  exact ⟨h1, rfl, f2, f3⟩
theorem E_F_looks (hd : 30 ≤ d) (hQ : QS w h A)  : ∃ h', mm_P d 174 [(2, 1)] w h = some ((0, looksN (gNow A)), w, h') ∧ QS w h' A ∧ CN h h' := by
  obtain ⟨d, rfl, hd2⟩ := mm_dS (show 29 + 1 ≤ d by omega)
  obtain ⟨n1, n2, n3⟩ := Q_now hQ
  have hW := hQ.1
  have hK := hQ.2.1
  have hc := hQ.2.2.1
  have w1 : (w.1 1).1 = 12 := by rw [hW.1.1]
  have wS : (w.1 (gAt (h 2 2) (gD A))).1 = 9 := by rw [n1.2.1]
  have wV : (w.1 438).1 = 11 := by rw [(WK_V1 hW).1]
  have i1 := n3.1
  have i2 := n3.2.1
  obtain ⟨h1, f1, f2, f3, f4, f5⟩ := E_fresh (d := d) (by omega) hQ
  obtain ⟨h2, g1, g2⟩ := E_vLooks (d := d) (h := h1) (by omega) (Or.inl rfl) (WK_V1 hW) f5 n3 f4
  obtain ⟨k1, k2⟩ := QS_row f2 f4 (fun b x0 _ _ => g2 b (by omega)) (fun i _ _ => by rw [g2 438 (by decide)])
  rw [P_F_looks, mF_t w1, f1, mC_s, mF_t wV, g1, mC_s]
  exact ⟨h2, rfl, k1, CN_tr f3 k2⟩
noncomputable def fStripes (A : aG) (r : Int) : Int := iC (0 ≤ r ∧ r < aHi (gNow A)) (strN (gNow A) r) (-2)
theorem E_F_stripes (hd : 30 ≤ d) (hQ : QS w h A) (r : Int) : ∃ h', mm_P d 175 [(2, 1), (0, r)] w h = some ((0, fStripes A r), w, h') ∧ QS w h' A ∧ CN h h' := by
  obtain ⟨d, rfl, hd2⟩ := mm_dS (show 29 + 1 ≤ d by omega)
  obtain ⟨n1, n2, n3⟩ := Q_now hQ
  have hW := hQ.1
  have hK := hQ.2.1
  have hc := hQ.2.2.1
  have w1 : (w.1 1).1 = 12 := by rw [hW.1.1]
  have wS : (w.1 (gAt (h 2 2) (gD A))).1 = 9 := by rw [n1.2.1]
  have wV : (w.1 438).1 = 11 := by rw [(WK_V1 hW).1]
  have i1 := n3.1
  have i2 := n3.2.1
  unfold fStripes
  rw [P_F_stripes]
  by_cases c0 : r < 0
  · rw [mLt_t c0, iC_f (by omega)]
    exact ⟨h, rfl, hQ, CN_rf h⟩
  rw [mLt_f (by omega), mF_t w1, E_now (by omega) hW hK hc, mC_s, mF_t wS, n2.2.1.1]
  by_cases c1 : r < aHi (gNow A)
  rotate_left
  · rw [mLt_f (by omega), iC_f (by omega)]
    exact ⟨h, rfl, hQ, CN_rf h⟩
  obtain ⟨h1, f1, f2, f3, f4, f5⟩ := E_fresh (d := d) (by omega) hQ
  rw [mLt_t c1, mF_t w1, f1, mC_s, mF_t wV, E_strp (by omega) (Or.inl rfl) (WK_V1 hW) f5 n3 f4 (by omega), mC_s, iC_t (by omega)]
  exact ⟨h1, rfl, f2, f3⟩
/-- against the image -/
noncomputable def fDiffers (A : aG) : Int := iC (gIk A = 0) (-3) (iC (aHi (gNow A) = aHi (gI A) ∧ aWi (gNow A) = aWi (gI A)) (sum2 (fun r c => bI (lookA (gNow A) r c ≠ lookA (gI A) r c)) (aHi (gNow A)).toNat (aWi (gNow A)).toNat 0 0) (-1))
theorem E_F_differs (hd : 30 ≤ d) (hQ : QS w h A) (hi : cImg w h A) : ∃ h', mm_P d 187 [(2, 1)] w h = some ((0, fDiffers A), w, h') ∧ QS w h' A ∧ CN h h' := by
  obtain ⟨d, rfl, hd2⟩ := mm_dS (show 29 + 1 ≤ d by omega)
  obtain ⟨n1, n2, n3⟩ := Q_now hQ
  have hW := hQ.1
  have hK := hQ.2.1
  have hc := hQ.2.2.1
  have w1 : (w.1 1).1 = 12 := by rw [hW.1.1]
  have wS : (w.1 (gAt (h 2 2) (gD A))).1 = 9 := by rw [n1.2.1]
  have wV : (w.1 438).1 = 11 := by rw [(WK_V1 hW).1]
  have i1 := n3.1
  have i2 := n3.2.1
  unfold fDiffers
  obtain ⟨m1, m2, m3⟩ := hi
  have hin := gAt_in (base := h 2 2) (k := gD A)
  rw [P_F_differs, mF_t w1, m1]
  by_cases c0 : gIk A = 0
  · rw [mEq_t c0, iC_t c0]
    exact ⟨h, rfl, hQ, CN_rf h⟩
  obtain ⟨r1, r2⟩ := m3 (by omega)
  have S470 : ShW w 470 := hW.2.2.2.2.2.2.2.2.1
  have w470 : (w.1 470).1 = 9 := by rw [S470.2.1]
  have k13 : h 1 13 = 470 := hK.1.2.2.2.2.2.2.2.2.2.2.2.2.2
  have k5 : h 1 5 = 445 := hK.1.2.2.2.2.2.1
  have k3 : h 1 3 = 436 := hK.1.2.2.2.1
  have wU : (w.1 445).1 = 11 := by rw [(WK_V2 hW).1]
  rw [mEq_f c0, iC_f c0, mF_t w1, E_now (by omega) hW hK hc, mC_s, mF_t wS, mF_t w1, k13, mF_t w470, n2.2.1.1, r1.2.1.1]
  by_cases c1 : aHi (gNow A) = aHi (gI A)
  rotate_left
  · rw [mEq_f c1, iC_f (fun x => c1 x.1)]
    exact ⟨h, rfl, hQ, CN_rf h⟩
  rw [mEq_t c1, mF_t wS, mF_t w1, mF_t w470, n2.2.1.2.1, r1.2.1.2.1]
  by_cases c2 : aWi (gNow A) = aWi (gI A)
  rotate_left
  · rw [mEq_f c2, iC_f (fun x => c2 x.2)]
    exact ⟨h, rfl, hQ, CN_rf h⟩
  obtain ⟨h1, t1, t2, t3⟩ := E_take (d := d) (by omega) (WK_PW hW) (Or.inr rfl) (Or.inr rfl) (WK_V2 hW) S470 r2 (HK_V2 hK) r1 (HK_436 hK)
  have K1 := HK_vt (Or.inr rfl) hK t2
  have C1 := cHist_vt (Or.inr rfl) hc t2
  have Q1 : QS w h1 A := ⟨hW, K1, C1, by
    have e1 := t2.1 1 (by decide) (by decide) (by decide)
    rcases hQ.2.2.2 with x | ⟨x, y⟩
    · exact Or.inl (by rw [e1]; exact x)
    · refine Or.inr ⟨by rw [e1]; exact x, cVw_fr y (fun b x0 x1 => t2.1 b (by omega) (by omega) (by omega))⟩⟩
  have cn1 := CN_vt (Or.inr rfl) t2
  obtain ⟨h2, f1, f2, f3, f4, f5, f6⟩ := E_freshX (d := d) (by omega) Q1
  rw [mEq_t c2, mF_t w1, mF_t w1, mF_t w1, k5, k3, mF_t wU, t1, mC_s, mF_t w1, f1, mC_s, mF_t w1, mF_t wV]
  have e5 : h2 1 5 = 445 := by rw [f3.2 5 (by decide), cn1.2 5 (by decide)]; exact k5
  have H2 : VH h2 445 := fun i x0 x1 => by rw [f6 445 (by decide) (by decide)]; exact VT_VH t2 (HK_V2 hK) i x0 x1
  have C2 : cVw h2 445 (gI A) := cVw_fr t3 (fun b x0 x1 => f6 b x0 (by omega))
  rw [e5, E_unlk (by omega) (Or.inl rfl) (WK_V1 hW) f5 n3 f4 (Or.inr rfl) (WK_V2 hW) H2 r2 C2 ⟨c1.symm, c2.symm⟩, mC_s, iC_t ⟨c1, c2⟩]
  exact ⟨h2, rfl, f2, CN_tr cn1 f3⟩
/-- what was shown -/
noncomputable def fBefore (A : aG) (k n p : Int) : Int := iC ((0 ≤ k ∧ k ≤ gD A) ∧ (0 ≤ p ∧ p < 4) ∧ 0 ≤ n ∧ n / 100 < 16 ∧ n % 100 < 16) (iC (isCell (aHi (gH A k)) (aWi (gH A k)) n) (numA (gH A k) p (n / 100) (n % 100)) (-1)) (-2)
theorem E_F_before (hd : 30 ≤ d) (hQ : QS w h A) {n : Int} (hn : n < 2147483648) (k p : Int) : ∃ h', mm_P d 157 [(2, 1), (0, k), (0, n), (0, p)] w h = some ((0, fBefore A k n p), w, h') ∧ QS w h' A ∧ CN h h' := by
  obtain ⟨d, rfl, hd2⟩ := mm_dS (show 29 + 1 ≤ d by omega)
  obtain ⟨n1, n2, n3⟩ := Q_now hQ
  have hW := hQ.1
  have hK := hQ.2.1
  have hc := hQ.2.2.1
  have w1 : (w.1 1).1 = 12 := by rw [hW.1.1]
  have wS : (w.1 (gAt (h 2 2) (gD A))).1 = 9 := by rw [n1.2.1]
  have wV : (w.1 438).1 = 11 := by rw [(WK_V1 hW).1]
  have i1 := n3.1
  have i2 := n3.2.1
  unfold fBefore
  have w2 : (w.1 2).1 = 4 := by rw [hW.1.2.1]
  have w436 : (w.1 436).1 = 5 := by rw [(WK_PW hW).1]
  have k0' : h 1 0 = 2 := hK.1.1
  have k3 : h 1 3 = 436 := hK.1.2.2.2.1
  have hc4 := hc.2.2.2.1
  rw [P_F_before]
  by_cases c0 : k < 0
  · rw [mLt_t c0, iC_f (by omega)]
    exact ⟨h, rfl, hQ, CN_rf h⟩
  rw [mLt_f (by omega), mF_t w1, k0', mF_t w2, hc.2.1]
  by_cases c1 : k ≤ gD A
  rotate_left
  · rw [mLt_t (by omega), iC_f (by omega)]
    exact ⟨h, rfl, hQ, CN_rf h⟩
  rw [mLt_f (by omega), E_isProperty (by omega), mC_s]
  by_cases c2 : 0 ≤ p ∧ p < 4
  rotate_left
  · rw [bI_f c2, mEq_t rfl, iC_f (fun x => c2 x.2.1)]
    exact ⟨h, rfl, hQ, CN_rf h⟩
  rw [bI_t c2, mEq_f (by decide)]
  by_cases c3 : n < 0
  · rw [mLt_t c3, iC_f (by omega)]
    exact ⟨h, rfl, hQ, CN_rf h⟩
  rw [mLt_f (by omega), mD_t (by decide), Int.tdiv_eq_ediv_of_nonneg (by omega), mI_id (x := n / 100) (by omega) (by omega)]
  by_cases c4 : n / 100 < 16
  rotate_left
  · rw [mLe_t (by omega), iC_f (by omega)]
    exact ⟨h, rfl, hQ, CN_rf h⟩
  rw [mLe_f c4, mD_t (by decide), Int.tmod_eq_emod_of_nonneg (by omega)]
  by_cases c5 : n % 100 < 16
  rotate_left
  · rw [mLt_f (by omega), iC_f (by omega)]
    exact ⟨h, rfl, hQ, CN_rf h⟩
  obtain ⟨q1, q2⟩ := hc.2.2.2.2 k (by omega) (by omega)
  have sW := WK_sh hW (base := h 2 2) (k := k)
  have wT : (w.1 (gAt (h 2 2) k)).1 = 9 := by rw [sW.2.1]
  rw [mLt_t c5, mF_t w1, k0', mF_t w2, E_stateAt (by omega) hW hK hc.1 (by omega) (by omega), mC_s, mF_t wT, E_hasCell (by omega) sW hn, mC_s, q1.2.1.1, q1.2.1.2.1, iC_t (by omega)]
  by_cases c6 : isCell (aHi (gH A k)) (aWi (gH A k)) n
  rotate_left
  · rw [bI_f c6, mEq_t rfl, iC_f c6]
    exact ⟨h, rfl, hQ, CN_rf h⟩
  have c6' := c6
  unfold isCell at c6'
  have hr : 0 ≤ n / 100 ∧ n / 100 < aHi (gH A k) := by omega
  have hcc : 0 ≤ n % 100 ∧ n % 100 < aWi (gH A k) := by omega
  obtain ⟨h1, m1, m2⟩ := E_maskAt (d := d) (by omega) (WK_PW hW) (gAt_ok (base := h 2 2) (k := k)) sW q2 hr hcc (HK_436 hK) q1
  have R1 := RC_PO (gAt_ok (base := h 2 2) (k := k)) q2 q1 m2
  have vt := VT_vo (VO_po (V := 438) (Or.inl rfl) m2)
  rw [bI_t c6, mEq_f (by decide), mD_t (by decide), mD_t (by decide)]
  try dsimp only
  have es := E_sourceOf (d := d) (h := h1) (by omega) sW q2 R1 (H := fun j => hldA (gH A k) j (n / 100) (n % 100)) (p := p) (bits_A q2) c2 hr hcc
  have es2 : frm (gH A k) p (n / 100) (n % 100) (srcR (fun j => hldA (gH A k) j (n / 100) (n % 100)) (gH A k) p (aN (gH A k)).toNat 0) = frm (gH A k) p (n / 100) (n % 100) (srcA (gH A k) p (n / 100) (n % 100)) := rfl
  rw [es2] at es
  rw [mF_t w1, k3, mF_t w436, m1, mC_s, mF_t wT, es, mC_s, mF_t wT, E_numberFrom (by omega) sW q2 R1 c2 hr hcc (srcA_in q2 p _ _), mC_s, iC_t c6]
  refine ⟨h1, rfl, ⟨hW, HK_vt (Or.inl rfl) hK vt, cHist_vt (Or.inl rfl) hc vt, ?_⟩, CN_vt (Or.inl rfl) vt⟩
  have e1 := m2.1 1 (by decide) (by decide)
  rcases hQ.2.2.2 with x | ⟨x, y⟩
  · exact Or.inl (by rw [e1]; exact x)
  · exact Or.inr ⟨by rw [e1]; exact x, cVw_fr y (fun b x0 x1 => m2.1 b (by omega) (by omega))⟩
end PU
