/-! PURE: the reference's greatest alike rectangle, asked. -/
section PU
variable {d : Nat} {w : mm_W} {h : mm_H} {s : aS} {A : aG}
theorem E_M_within (hd : 1 ≤ d) (hW : MW w) (hI : aI s) (hH : MH h) {p v : Int} (hS : sumK h s p v (aHi s).toNat) {t l b r : Nat} (hb : (b : Int) < aHi s) (ht : t ≤ b) (hr : (r : Int) < aWi s) (hl : l ≤ r) : mm_P d 306 [(2, 483), (0, (t : Int)), (0, (l : Int)), (0, (b : Int)), (0, (r : Int))] w h = some ((0, pre (fP s p v) (b + 1) (r + 1) - pre (fP s p v) t (r + 1) - pre (fP s p v) (b + 1) l + pre (fP s p v) t l), w, h) := by
  obtain ⟨d, rfl, hd2⟩ := mm_dS hd; clear hd; have hd := hd2; clear hd2
  have hw : (w.1 483).1 = 13 := by rw [hW.1]
  have i1 := hI.1; have i2 := hI.2.1
  have v1 := hS (b + 1) (r + 1) (by omega) (by omega)
  have v2 := hS t (r + 1) (by omega) (by omega)
  have v3 := hS (b + 1) l (by omega) (by omega)
  have v4 := hS t l (by omega) (by omega)
  have b1 := pre_in (fP_in s p v) (j := r + 1) (by omega) (b + 1)
  have b2 := pre_in (fP_in s p v) (j := r + 1) (by omega) t
  have b3 := pre_in (fP_in s p v) (j := l) (by omega) (b + 1)
  have b4 := pre_in (fP_in s p v) (j := l) (by omega) t
  have w1 : 17 * ((b : Int) + 1) + (r : Int) + 1 = 17 * ((b + 1 : Nat) : Int) + ((r + 1 : Nat) : Int) := by omega
  have w2 : 17 * (t : Int) + (r : Int) + 1 = 17 * (t : Int) + ((r + 1 : Nat) : Int) := by omega
  have w3 : 17 * ((b : Int) + 1) + (l : Int) = 17 * ((b + 1 : Nat) : Int) + (l : Int) := by omega
  rw [P_M_within]
  simp only [mF_t hw]
  rw [MH_34 hH, mI_id (x := (b : Int) + 1) (by omega) (by omega), mI_id (x := 17 * ((b : Int) + 1)) (by omega) (by omega), mI_id (x := 17 * ((b : Int) + 1) + (r : Int)) (by omega) (by omega), mI_id (x := 17 * ((b : Int) + 1) + (r : Int) + 1) (by omega) (by omega), mI_id (x := 17 * (t : Int)) (by omega) (by omega), mI_id (x := 17 * (t : Int) + (r : Int)) (by omega) (by omega), mI_id (x := 17 * (t : Int) + (r : Int) + 1) (by omega) (by omega), mI_id (x := 17 * ((b : Int) + 1) + (l : Int)) (by omega) (by omega), mI_id (x := 17 * (t : Int) + (l : Int)) (by omega) (by omega), mA_t (MW_497 hW) (by omega) (by omega), mA_t (MW_497 hW) (by omega) (by omega), mA_t (MW_497 hW) (by omega) (by omega), mA_t (MW_497 hW) (by omega) (by omega), w1, w2, w3, v1, v2, v3, v4]
  clear v1 v2 v3 v4 w1 w2 w3 hS
  generalize pre (fP s p v) (b + 1) (r + 1) = z1 at b1 ⊢
  generalize pre (fP s p v) t (r + 1) = z2 at b2 ⊢
  generalize pre (fP s p v) (b + 1) l = z3 at b3 ⊢
  generalize pre (fP s p v) t l = z4 at b4 ⊢
  rw [mI_id (x := z1 - z2) (by omega) (by omega), mI_id (x := z1 - z2 - z3) (by omega) (by omega), mI_id (by omega) (by omega)]
/-- the greatest so far, widths up to n tried -/
noncomputable def stN (s : aS) (p v : Int) (t l m : Nat) (x : Int × Int) (n : Nat) : Int × Int := if x.1 < ((min n (wdA s p v t l (m + 1)).toNat : Nat) : Int) * ((m : Int) + 1) then (((min n (wdA s p v t l (m + 1)).toNat : Nat) : Int) * ((m : Int) + 1), rectC t l (t + m) (l + ((min n (wdA s p v t l (m + 1)).toNat : Nat) : Int) - 1)) else x
theorem stN_same {p v : Int} {t l m n : Nat} {x : Int × Int} (h : (wdA s p v t l (m + 1)).toNat ≤ n) : stN s p v t l m x (n + 1) = stN s p v t l m x n := by
  unfold stN
  rw [Nat.min_eq_right h, Nat.min_eq_right (show (wdA s p v t l (m + 1)).toNat ≤ n + 1 by omega)]
theorem stN_skip {p v : Int} {t l m n : Nat} {x : Int × Int} (hx : 0 ≤ x.1) (h : ((n : Int) + 1) * ((m : Int) + 1) ≤ (stN s p v t l m x n).1) : stN s p v t l m x (n + 1) = stN s p v t l m x n := by
  by_cases c : (wdA s p v t l (m + 1)).toNat ≤ n
  · exact stN_same c
  · have e1 : ((n : Int) + 1) * ((m : Int) + 1) = (n : Int) * ((m : Int) + 1) + ((m : Int) + 1) := by rw [Int.add_mul, Int.one_mul]
    unfold stN at h ⊢
    rw [Nat.min_eq_left (show n ≤ (wdA s p v t l (m + 1)).toNat by omega)] at h ⊢
    rw [Nat.min_eq_left (show n + 1 ≤ (wdA s p v t l (m + 1)).toNat by omega), show ((n + 1 : Nat) : Int) = (n : Int) + 1 by omega]
    by_cases q : x.1 < (n : Int) * ((m : Int) + 1)
    · rw [if_pos q] at h
      have h : ((n : Int) + 1) * ((m : Int) + 1) ≤ (n : Int) * ((m : Int) + 1) := h
      omega
    · rw [if_neg q] at h ⊢
      rw [if_neg (by omega)]
theorem stN_next {p v : Int} {t l m n : Nat} {x : Int × Int} (hw : n + 1 ≤ (wdA s p v t l (m + 1)).toNat) (h : (stN s p v t l m x n).1 < ((n : Int) + 1) * ((m : Int) + 1)) : stN s p v t l m x (n + 1) = (((n : Int) + 1) * ((m : Int) + 1), rectC t l (t + m) (l + n)) := by
  have e1 : ((n : Int) + 1) * ((m : Int) + 1) = (n : Int) * ((m : Int) + 1) + ((m : Int) + 1) := by rw [Int.add_mul, Int.one_mul]
  unfold stN at h ⊢
  rw [Nat.min_eq_left (show n ≤ (wdA s p v t l (m + 1)).toNat by omega)] at h
  rw [Nat.min_eq_left hw, show ((n + 1 : Nat) : Int) = (n : Int) + 1 by omega]
  have q : x.1 < ((n : Int) + 1) * ((m : Int) + 1) := by
    by_cases q : x.1 < (n : Int) * ((m : Int) + 1)
    · omega
    · rw [if_neg q] at h; exact h
  rw [if_pos q, show (l : Int) + ((n : Int) + 1) - 1 = (l : Int) + (n : Int) by omega]
theorem L_mg5 (hd : 1 ≤ d) (hW : MW w) (hI : aI s) (hK : KQ h s) {p v q0 : Int} (hS : sumK h s p v (aHi s).toNat) {t l m : Nat} (hm : (t : Int) + m < aHi s) (hl : (l : Int) < aWi s) {x : Int × Int} (hx : 0 ≤ x.1) : ∀ (k n : Nat), (l : Int) + n + k = aWi s → l_M_greatest_5 (mm_P d) 483 p v q0 17 (stN s p v t l m x n).1 (stN s p v t l m x n).2 (t : Int) (l : Int) ((t : Int) + (m : Int)) ((l : Int) + (n : Int)) w h = some (.inr (295, [(2, 483), (0, p), (0, v), (0, q0), (0, 17), (0, (stN s p v t l m x (n + k)).1), (0, (stN s p v t l m x (n + k)).2), (0, (t : Int)), (0, (l : Int)), (0, (t : Int) + (m : Int)), (0, aWi s), (9, 0)], w, h)) := by
  have hw : (w.1 483).1 = 13 := by rw [hW.1]
  have i1 := hI.1; have i2 := hI.2.1
  intro k
  induction k with
  | zero =>
    intro n hn
    rw [l_M_greatest_5_eq, mF_t hw, hK.1.1, mA_t hW.2.1 (by omega) (by omega), hK.2.1.1.2.1, mLe_t (by omega), show (l : Int) + (n : Int) = aWi s by omega]
    rfl
  | succ k ih =>
    intro n hn
    have ih := ih (n + 1) (by omega)
    rw [show n + (k + 1) = n + 1 + k by omega, ← ih]
    have ea : (m : Int) + 1 = ((m + 1 : Nat) : Int) := by omega
    have eb : (n : Int) + 1 = ((n + 1 : Nat) : Int) := by omega
    have hle : ((m : Int) + 1) * ((n : Int) + 1) ≤ 16 * 16 := Int.mul_le_mul (by omega) (by omega) (by omega) (by decide)
    have hge : 0 ≤ ((m : Int) + 1) * ((n : Int) + 1) := Int.mul_nonneg (by omega) (by omega)
    have hcm : ((m : Int) + 1) * ((n : Int) + 1) = ((n : Int) + 1) * ((m : Int) + 1) := Int.mul_comm _ _
    rw [l_M_greatest_5_eq, mF_t hw, hK.1.1, mA_t hW.2.1 (by omega) (by omega), hK.2.1.1.2.1, mLe_f (by omega), mI_id (x := (t : Int) + (m : Int) - (t : Int)) (by omega) (by omega), show (t : Int) + (m : Int) - (t : Int) = (m : Int) by omega, mI_id (x := (m : Int) + 1) (by omega) (by omega), mI_id (x := (l : Int) + (n : Int) - (l : Int)) (by omega) (by omega), show (l : Int) + (n : Int) - (l : Int) = (n : Int) by omega, mI_id (x := (n : Int) + 1) (by omega) (by omega), mI_id (x := ((m : Int) + 1) * ((n : Int) + 1)) (by omega) (by omega), mI_id (x := (l : Int) + (n : Int) + 1) (by omega) (by omega), show (l : Int) + (n : Int) + 1 = (l : Int) + ((n + 1 : Nat) : Int) by omega]
    try dsimp only
    by_cases c1 : ((m : Int) + 1) * ((n : Int) + 1) ≤ (stN s p v t l m x n).1
    · rw [mLe_t c1, stN_skip hx (by rw [← hcm]; exact c1)]
    · have gw := E_M_within hd hW hI hK.1 hS (t := t) (l := l) (b := t + m) (r := l + n) (by omega) (by omega) (by omega) (by omega)
      rw [show ((t + m : Nat) : Int) = (t : Int) + (m : Int) by omega, show ((l + n : Nat) : Int) = (l : Int) + (n : Int) by omega] at gw
      have ga := G_all (s := s) (p := p) (v := v) (t := t) (l := l) (n := n + 1) (m := m + 1) (by omega) (by omega)
      rw [show t + (m + 1) = t + m + 1 by omega, show l + (n + 1) = l + n + 1 by omega, ← ea, ← eb] at ga
      have hwd := wdA_in hI (s := s) (p := p) (v := v) (t := (t : Int)) (l := (l : Int)) (by omega) (m + 1)
      rw [mLe_f (by omega), mF_t hw, gw, mC_s]
      by_cases c2 : (n : Int) + 1 ≤ wdA s p v (t : Int) (l : Int) (m + 1)
      · rw [mEq_t (ga.mpr c2), mI_id (x := 1000000 * (t : Int)) (by omega) (by omega), mI_id (x := 10000 * (l : Int)) (by omega) (by omega), mI_id (x := 1000000 * (t : Int) + 10000 * (l : Int)) (by omega) (by omega), mI_id (x := 100 * ((t : Int) + (m : Int))) (by omega) (by omega), mI_id (x := 1000000 * (t : Int) + 10000 * (l : Int) + 100 * ((t : Int) + (m : Int))) (by omega) (by omega), mI_id (x := 1000000 * (t : Int) + 10000 * (l : Int) + 100 * ((t : Int) + (m : Int)) + ((l : Int) + (n : Int))) (by omega) (by omega)]
        rw [stN_next (by omega) (by rw [← hcm]; omega), hcm]
        unfold rectC
        rw [if_pos (by omega)]
      · rw [mEq_f (fun e => c2 (ga.mp e)), stN_same (by omega)]
theorem stN_end (hI : aI s) {p v : Int} {t l m n : Nat} {x : Int × Int} (hl : (l : Int) + n = aWi s) (hn : 1 ≤ n) : stN s p v t l m x n = if x.1 < wdA s p v t l (m + 1) * ((m : Int) + 1) then (wdA s p v t l (m + 1) * ((m : Int) + 1), rectC t l (t + m) (l + wdA s p v t l (m + 1) - 1)) else x := by
  have hwd := wdA_in hI (s := s) (p := p) (v := v) (t := (t : Int)) (l := (l : Int)) (by omega) (m + 1)
  have e : ((min n (wdA s p v t l (m + 1)).toNat : Nat) : Int) = wdA s p v t l (m + 1) := by
    have := hwd.2.2 (by omega)
    rw [Nat.min_eq_right (by omega)]
    omega
  unfold stN
  rw [e]
theorem stN_0 {p v : Int} {t l m : Nat} {x : Int × Int} (hx : 0 ≤ x.1) : stN s p v t l m x 0 = x := by
  unfold stN
  rw [Nat.zero_min, if_neg (by rw [show (((0 : Nat) : Int)) = 0 from rfl, Int.zero_mul]; omega)]
theorem L_mg4 (hd : 1 ≤ d) (hW : MW w) (hI : aI s) (hK : KQ h s) {p v q0 : Int} (hS : sumK h s p v (aHi s).toNat) {t l : Nat} (hl : (l : Int) < aWi s) {x : Int × Int} (hx : 0 ≤ x.1 ∧ x.1 ≤ 256) : ∀ (k m : Nat), (t : Int) + m + k = aHi s → l_M_greatest_4 (mm_P d) 483 p v q0 17 (gB s p v t l m x).1 (gB s p v t l m x).2 (t : Int) (l : Int) ((t : Int) + (m : Int)) w h = some (.inr (301, [(2, 483), (0, p), (0, v), (0, q0), (0, 17), (0, (gB s p v t l (m + k) x).1), (0, (gB s p v t l (m + k) x).2), (0, (t : Int)), (0, (l : Int)), (0, aHi s), (9, 0), (9, 0)], w, h)) := by
  have hw : (w.1 483).1 = 13 := by rw [hW.1]
  have i1 := hI.1; have i2 := hI.2.1
  intro k
  induction k with
  | zero =>
    intro m hm
    rw [l_M_greatest_4_eq, mF_t hw, hK.1.1, mA_t hW.2.1 (by omega) (by omega), hK.2.1.1.1, mLe_t (by omega), show (t : Int) + (m : Int) = aHi s by omega]
    rfl
  | succ k ih =>
    intro m hm
    have hg := gB_in hI (p := p) (v := v) (t := (t : Int)) (l := (l : Int)) (by omega) m x (by omega) hx
    have ih := ih (m + 1) (by omega)
    have z := L_mg5 hd hW hI hK (q0 := q0) hS (t := t) (l := l) (m := m) (by omega) hl (x := gB s p v t l m x) hg.1 (aWi s - l).toNat 0 (by omega)
    rw [stN_0 hg.1, Nat.zero_add, stN_end hI (by omega) (by omega)] at z
    have eg : gB s p v (t : Int) (l : Int) (m + 1) x = if (gB s p v t l m x).1 < wdA s p v t l (m + 1) * ((m : Int) + 1) then (wdA s p v t l (m + 1) * ((m : Int) + 1), rectC t l (t + m) (l + wdA s p v t l (m + 1) - 1)) else gB s p v t l m x := rfl
    rw [← eg, show (l : Int) + ((0 : Nat) : Int) = (l : Int) by omega] at z
    rw [l_M_greatest_4_eq, mF_t hw, hK.1.1, mA_t hW.2.1 (by omega) (by omega), hK.2.1.1.1, mLe_f (by omega), z, mK_r, if_pos rfl]
    simp only [mP_0, mP_1, mP_2, mP_3, mP_4, mP_5, mP_6, mP_7, mP_8, mP_9]
    rw [mI_id (x := (t : Int) + (m : Int) + 1) (by omega) (by omega), show (t : Int) + (m : Int) + 1 = (t : Int) + ((m + 1 : Nat) : Int) by omega, ih, show m + 1 + k = m + (k + 1) by omega]
theorem L_mg3 (hd : 1 ≤ d) (hW : MW w) (hI : aI s) (hK : KQ h s) {p v q0 : Int} (hS : sumK h s p v (aHi s).toNat) {t : Nat} (ht : (t : Int) < aHi s) {x : Int × Int} (hx : 0 ≤ x.1 ∧ x.1 ≤ 256) : ∀ (k l : Nat), (l : Int) + k = aWi s → l_M_greatest_3 (mm_P d) 483 p v q0 17 (ggL s p v t l x).1 (ggL s p v t l x).2 (t : Int) (l : Int) w h = some (.inr (307, [(2, 483), (0, p), (0, v), (0, q0), (0, 17), (0, (ggL s p v t (l + k) x).1), (0, (ggL s p v t (l + k) x).2), (0, (t : Int)), (0, aWi s), (9, 0), (9, 0), (9, 0)], w, h)) := by
  have hw : (w.1 483).1 = 13 := by rw [hW.1]
  have i1 := hI.1; have i2 := hI.2.1
  intro k
  induction k with
  | zero =>
    intro l hl
    rw [l_M_greatest_3_eq, mF_t hw, hK.1.1, mA_t hW.2.1 (by omega) (by omega), hK.2.1.1.2.1, mLe_t (by omega), show (l : Int) = aWi s by omega]
    rfl
  | succ k ih =>
    intro l hl
    have hg := ggL_in hI (p := p) (v := v) (t := (t : Int)) (by omega) l x (by omega) hx
    have z := L_mg4 hd hW hI hK (q0 := q0) hS (t := t) (l := l) (by omega) (x := ggL s p v t l x) hg (aHi s - t).toNat 0 (by omega)
    have z0 : gB s p v (t : Int) (l : Int) 0 (ggL s p v t l x) = ggL s p v t l x := rfl
    have eg : ggL s p v (t : Int) (l + 1) x = gB s p v (t : Int) (l : Int) (aHi s - (t : Int)).toNat (ggL s p v t l x) := rfl
    rw [z0, Nat.zero_add, ← eg, show (t : Int) + ((0 : Nat) : Int) = (t : Int) by omega] at z
    rw [l_M_greatest_3_eq, mF_t hw, hK.1.1, mA_t hW.2.1 (by omega) (by omega), hK.2.1.1.2.1, mLe_f (by omega), z, mK_r, if_pos rfl]
    simp only [mP_0, mP_1, mP_2, mP_3, mP_4, mP_5, mP_6, mP_7, mP_8]
    rw [mI_id (x := (l : Int) + 1) (by omega) (by omega), show (l : Int) + 1 = ((l + 1 : Nat) : Int) by omega, ih (l + 1) (by omega), show l + 1 + k = l + (k + 1) by omega]
theorem ggT_z (hI : aI s) {p v : Int} : ∀ m : Nat, 0 ≤ (ggT s p v m (0, -1)).1 ∧ (ggT s p v m (0, -1)).1 ≤ 256 := by
  intro m
  have i2 := hI.2.1
  induction m with
  | zero => exact ⟨Int.le_refl _, (by decide : (0 : Int) ≤ 256)⟩
  | succ m ih => exact ggL_in hI (by omega) _ _ (by omega) ih
theorem L_mg2 (hd : 1 ≤ d) (hW : MW w) (hI : aI s) (hK : KQ h s) {p v q0 : Int} (hS : sumK h s p v (aHi s).toNat) : ∀ (k t : Nat), (t : Int) + k = aHi s → l_M_greatest_2 (mm_P d) 483 p v q0 17 (ggT s p v t (0, -1)).1 (ggT s p v t (0, -1)).2 (t : Int) w h = some (.inr (313, [(2, 483), (0, p), (0, v), (0, q0), (0, 17), (0, (ggT s p v (t + k) (0, -1)).1), (0, (ggT s p v (t + k) (0, -1)).2), (0, aHi s), (9, 0), (9, 0), (9, 0), (9, 0)], w, h)) := by
  have hw : (w.1 483).1 = 13 := by rw [hW.1]
  have i1 := hI.1; have i2 := hI.2.1
  intro k
  induction k with
  | zero =>
    intro t ht
    rw [l_M_greatest_2_eq, mF_t hw, hK.1.1, mA_t hW.2.1 (by omega) (by omega), hK.2.1.1.1, mLe_t (by omega), show (t : Int) = aHi s by omega]
    rfl
  | succ k ih =>
    intro t ht
    have z := L_mg3 hd hW hI hK (q0 := q0) hS (t := t) (by omega) (ggT_z hI (p := p) (v := v) t) (aWi s).toNat 0 (by omega)
    have z0 : ggL s p v (t : Int) 0 (ggT s p v t (0, -1)) = ggT s p v t (0, -1) := rfl
    have eg : ggT s p v (t + 1) (0, -1) = ggL s p v (t : Int) (aWi s).toNat (ggT s p v t (0, -1)) := rfl
    rw [z0, Nat.zero_add, ← eg, show ((0 : Nat) : Int) = 0 from rfl] at z
    rw [l_M_greatest_2_eq, mF_t hw, hK.1.1, mA_t hW.2.1 (by omega) (by omega), hK.2.1.1.1, mLe_f (by omega), z, mK_r, if_pos rfl]
    simp only [mP_0, mP_1, mP_2, mP_3, mP_4, mP_5, mP_6, mP_7]
    rw [mI_id (x := (t : Int) + 1) (by omega) (by omega), show (t : Int) + 1 = ((t + 1 : Nat) : Int) by omega, ih (t + 1) (by omega), show t + 1 + k = t + (k + 1) by omega]
theorem E_M_greatest (hd : 30 ≤ d) (hT : QT w h A) (p v q : Int) : ∃ h', mm_P d 307 [(2, 483), (0, p), (0, v), (0, q)] w h = some ((0, fGreatest A p v q), w, h') ∧ QT w h' A ∧ MN h h' := by
  obtain ⟨d, rfl, hd2⟩ := mm_dS (show 29 + 1 ≤ d by omega)
  have hI := QT_I hT
  have i1 := hI.1; have i2 := hI.2.1
  unfold fGreatest
  rw [P_M_greatest, E_M_isProperty (by omega), mC_s]
  by_cases c1 : 0 ≤ p ∧ p < 4
  rotate_left
  · rw [bI_f c1, mEq_t rfl, iC_f (fun x => c1 x.1)]
    exact ⟨h, rfl, hT, MN_rf h⟩
  rw [bI_t c1, mEq_f (by decide), E_M_in (by omega), mC_s]
  by_cases c2 : 0 ≤ v ∧ v ≤ 9
  rotate_left
  · rw [bI_f c2, mEq_t rfl, iC_f (fun x => c2 x.2.1)]
    exact ⟨h, rfl, hT, MN_rf h⟩
  rw [bI_t c2, mEq_f (by decide), E_M_in (by omega), mC_s]
  by_cases c3 : q = 0 ∨ q = 1
  rotate_left
  · rw [bI_f (by omega), mEq_t rfl, iC_f (fun x => c3 x.2.2)]
    exact ⟨h, rfl, hT, MN_rf h⟩
  rw [bI_t (by omega), mEq_f (by decide), iC_t ⟨c1, c2, c3⟩]
  obtain ⟨h1, x1, x2, x3, x4⟩ := L_mg0 (d := d) (by omega) hT.1 hI (v := v) (q0 := q) c1 (aHi (gNow A)).toNat 0 h (QT_KQ hT) hT.2.2.1.2 (fun a b ha hb => by
    have : a = 0 := by omega
    subst this
    rw [show 17 * ((0 : Nat) : Int) + (b : Int) = (b : Int) by omega]
    exact (hT.2.2.1.2 (b : Int) (by omega) (by omega)).1) (by omega)
  have x1 : l_M_greatest_0 (mm_P d) 483 p v q 17 0 w h = _ := x1
  rw [x1, mK_r, if_pos rfl]
  simp only [mP_0, mP_1, mP_2, mP_3, mP_4]
  have z := L_mg2 (d := d) (by omega) hT.1 hI x3 (q0 := q) x4 (aHi (gNow A)).toNat 0 (by omega)
  have z : l_M_greatest_2 (mm_P d) 483 p v q 17 0 (-1) 0 w h1 = _ := z
  rw [z, mK_r, if_pos rfl, Nat.zero_add]
  simp only [mP_3, mP_5, mP_6]
  have o : MN h h1 := ⟨fun b hb _ hb7 => x2.1 b hb.1 (by unfold qRow at hb; omega) (by unfold qRow at hb; omega) hb7, fun i hi => x2.2.1 i hi.1 (by unfold qFd at hi; omega) (by unfold qFd at hi; omega) (by unfold qFd at hi; omega)⟩
  have T1 : QT w h1 A := ⟨hT.1, MN_MH o hT.2.1, ⟨MN_His o hT.2.2.1.1, fun j j0 j1 => by rw [x2.2.2 j (Or.inl j1), x2.2.2 (17 * j) (by omega)]; exact hT.2.2.1.2 j j0 j1⟩, x3.2⟩
  rcases c3 with rfl | rfl
  · rw [mEq_t rfl, if_pos rfl]
    exact ⟨h1, rfl, T1, o⟩
  · rw [mEq_f (by decide), if_neg (by decide)]
    exact ⟨h1, rfl, T1, o⟩
end PU
