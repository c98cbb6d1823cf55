/-! PURE: the reference is asked, more. -/
/-- what a cell of the reference is read from -/
def KQ (h : mm_H) (s : aS) : Prop := MH h ∧ RM (h 484) s ∧ mFr h s
theorem KQ_FQ {h h' : mm_H} {s : aS} (hk : KQ h s) (o : FQ h h') (hF : mFs h' s) : KQ h' s := ⟨FQ_MH o hk.1, FQ_RM o hk.2.1, fun _ => hF.2⟩
theorem or_0 : ∀ m : Nat, m < 64 → mOr (m : Int) 0 = m := by decide +kernel
theorem idlA_in (s : aS) : ∀ n : Nat, n ≤ 6 → 0 ≤ idlA s n ∧ idlA s n < 2 ^ n := by
  intro n
  induction n with
  | zero => intro _; exact ⟨Int.le_refl _, (by decide : (0 : Int) < 2 ^ 0)⟩
  | succ n ih =>
    intro hn
    have := ih (by omega)
    have e2 : (2 : Int) ^ (n + 1) = 2 * 2 ^ n := by rw [Int.pow_succ]; omega
    unfold idlA
    by_cases c : shbN s (n : Int) = 0
    · obtain ⟨m, hm⟩ : ∃ m : Nat, idlA s n = (m : Int) := ⟨(idlA s n).toNat, by omega⟩
      have hm2 : m < 2 ^ n := by
        have h2 : ((2 ^ n : Nat) : Int) = 2 ^ n := by simp
        omega
      rw [if_pos c, hm, or_bit n (by omega) m hm2]
      have : ((2 ^ n : Nat) : Int) = 2 ^ n := by simp
      omega
    · rw [if_neg c]; omega
section PU
variable {d : Nat} {w : mm_W} {h : mm_H} {s : aS} {A : aG}
theorem T_rect (hd : 2 ≤ d) (hT : QT w h A) {n : Int} (hn : n < 2147483648) : ∃ h', mm_P d 226 [(2, 483), (0, n)] w h = some ((0, bI (isRect (aHi (gNow A)) (aWi (gNow A)) n)), w, h') ∧ QT w h' A ∧ QM h h' ∧ (0 ≤ n → h' 483 8 = n / 1000000 ∧ h' 483 9 = n / 10000 % 100 ∧ h' 483 10 = n / 100 % 100 ∧ h' 483 11 = n % 100) := by
  by_cases c : 0 ≤ n
  · refine ⟨mTk h n, ?_, QT_tk hT n, QM_tk h n, fun _ => mTk_8 h n⟩
    rw [E_M_takesRect hd hT.1 hT.2.1 c hn, hT.2.2.2.1.1.1, hT.2.2.2.1.1.2.1]
  · refine ⟨h, ?_, hT, QM_rf h, fun x => absurd x c⟩
    rw [E_M_takesRect_f (by omega) (by omega), bI_f (fun x => c x.1)]
theorem L_mcs1 (hd : 14 ≤ d) (hW : MW w) (hI : aI s) {p v n r : Int} (hp : 0 ≤ p ∧ p < 4) (hn : isRect (aHi s) (aWi s) n) (hr : 0 ≤ r ∧ r < aHi s) : ∀ (m : Nat) (c acc : Int) (h : mm_H), KQ h s → h 483 11 = n % 100 → n / 10000 % 100 ≤ c → c + m = n % 100 + 1 → 0 ≤ acc → acc + m < 1000 → ∃ h', l_M_countShown_1 (mm_P d) 483 p v acc r c w h = some (.inr (59, [(2, 483), (0, p), (0, v), (0, acc + sumN (fun c => bI (numA s p r c = v)) m c), (0, r), (0, n % 100 + 1)], w, h')) ∧ FQ h h' ∧ KQ h' s := by
  have hw : (w.1 483).1 = 13 := by rw [hW.1]
  have i1 := hI.1; have i2 := hI.2.1
  have hn' := hn
  unfold isRect at hn'
  intro m
  induction m with
  | zero =>
    intro c acc h hK a0 a1 a2 a3 a4
    rw [l_M_countShown_1_eq, mF_t hw, a0, mLt_t (by omega)]
    have e : sumN (fun c => bI (numA s p r c = v)) 0 c = 0 := rfl
    rw [e, show c = n % 100 + 1 by omega, show acc + 0 = acc by omega]
    exact ⟨h, rfl, FQ_rf h, hK⟩
  | succ m ih =>
    intro c acc h hK a0 a1 a2 a3 a4
    have e : sumN (fun c => bI (numA s p r c = v)) (m + 1) c = bI (numA s p r c = v) + sumN (fun c => bI (numA s p r c = v)) m (c + 1) := rfl
    obtain ⟨h1, x1, x2, x3⟩ := E_M_shows hd hW hI hK.1 hK.2.1 hK.2.2 hp hr (c := c) (by omega)
    have K1 := KQ_FQ hK x2 x3
    have a01 : h1 483 11 = n % 100 := by rw [x2.2 11 (by decide) (by decide) (by decide) (by decide)]; exact a0
    rw [l_M_countShown_1_eq, mF_t hw, a0, mLt_f (by omega), mF_t hw, x1, mC_s, e]
    try dsimp only
    rw [mI_id (x := c + 1) (by omega) (by omega), mI_id (x := acc + 1) (by omega) (by omega), mI_id (x := acc + 0) (by omega) (by omega)]
    by_cases q : numA s p r c = v
    · obtain ⟨h2, y1, y2, y3⟩ := ih (c + 1) (acc + 1) h1 K1 a01 (by omega) (by omega) (by omega) (by omega)
      rw [bI_t q, mEq_t q, y1, Int.add_assoc]
      exact ⟨h2, rfl, FQ_tr x2 y2, y3⟩
    · obtain ⟨h2, y1, y2, y3⟩ := ih (c + 1) acc h1 K1 a01 (by omega) (by omega) (by omega) (by omega)
      rw [bI_f q, mEq_f q, Int.add_zero, y1, Int.zero_add]
      exact ⟨h2, rfl, FQ_tr x2 y2, y3⟩
theorem L_mcs0 (hd : 14 ≤ d) (hW : MW w) (hI : aI s) {p v n : Int} (hp : 0 ≤ p ∧ p < 4) (hn : isRect (aHi s) (aWi s) n) : ∀ (m : Nat) (r acc : Int) (h : mm_H), KQ h s → (h 483 9 = n / 10000 % 100 ∧ h 483 10 = n / 100 % 100 ∧ h 483 11 = n % 100) → n / 1000000 ≤ r → r + m = n / 100 % 100 + 1 → 0 ≤ acc → acc + 16 * m < 900 → ∃ h', l_M_countShown_0 (mm_P d) 483 p v acc r w h = some (.inr (65, [(2, 483), (0, p), (0, v), (0, acc + sumN (fun r => sumN (fun c => bI (numA s p r c = v)) (n % 100 - n / 10000 % 100 + 1).toNat (n / 10000 % 100)) m r), (0, n / 100 % 100 + 1), (9, 0)], w, h')) ∧ FQ h h' ∧ KQ h' s := by
  have hw : (w.1 483).1 = 13 := by rw [hW.1]
  have i1 := hI.1; have i2 := hI.2.1
  have hn' := hn
  unfold isRect at hn'
  intro m
  induction m with
  | zero =>
    intro r acc h hK a0 a1 a2 a3 a4
    rw [l_M_countShown_0_eq, mF_t hw, a0.2.1, mLt_t (by omega)]
    have e : sumN (fun r => sumN (fun c => bI (numA s p r c = v)) (n % 100 - n / 10000 % 100 + 1).toNat (n / 10000 % 100)) 0 r = 0 := rfl
    rw [e, show r = n / 100 % 100 + 1 by omega, show acc + 0 = acc by omega]
    exact ⟨h, rfl, FQ_rf h, hK⟩
  | succ m ih =>
    intro r acc h hK a0 a1 a2 a3 a4
    have e : sumN (fun r => sumN (fun c => bI (numA s p r c = v)) (n % 100 - n / 10000 % 100 + 1).toNat (n / 10000 % 100)) (m + 1) r = sumN (fun c => bI (numA s p r c = v)) (n % 100 - n / 10000 % 100 + 1).toNat (n / 10000 % 100) + sumN (fun r => sumN (fun c => bI (numA s p r c = v)) (n % 100 - n / 10000 % 100 + 1).toNat (n / 10000 % 100)) m (r + 1) := rfl
    have b := sumN_le (f := fun c => bI (numA s p r c = v)) (a := 0) (b := 1) (n % 100 - n / 10000 % 100 + 1).toNat (n / 10000 % 100) (fun c _ _ => bI_le _)
    obtain ⟨h1, x1, x2, x3⟩ := L_mcs1 hd hW hI (v := v) hp hn (r := r) (by omega) (n % 100 - n / 10000 % 100 + 1).toNat (n / 10000 % 100) acc h hK a0.2.2 (Int.le_refl _) (by omega) a3 (by omega)
    rw [l_M_countShown_0_eq, mF_t hw, a0.2.1, mLt_f (by omega), mF_t hw]
    try dsimp only
    rw [a0.1, x1, mK_r, if_pos rfl]
    simp only [mP_0, mP_1, mP_2, mP_3, mP_4, mP_5]
    rw [mI_id (x := r + 1) (by omega) (by omega)]
    obtain ⟨h2, y1, y2, y3⟩ := ih (r + 1) (acc + sumN (fun c => bI (numA s p r c = v)) (n % 100 - n / 10000 % 100 + 1).toNat (n / 10000 % 100)) h1 x3 ⟨by rw [x2.2 9 (by decide) (by decide) (by decide) (by decide)]; exact a0.1, by rw [x2.2 10 (by decide) (by decide) (by decide) (by decide)]; exact a0.2.1, by rw [x2.2 11 (by decide) (by decide) (by decide) (by decide)]; exact a0.2.2⟩ (by omega) (by omega) (by omega) (by omega)
    rw [y1, e, Int.add_assoc]
    exact ⟨h2, rfl, FQ_tr x2 y2, y3⟩
theorem E_M_countShown (hd : 15 ≤ d) (hW : MW w) (hI : aI s) {p v n : Int} (hp : 0 ≤ p ∧ p < 4) (hn : isRect (aHi s) (aWi s) n) (hK : KQ h s) (a0 : h 483 8 = n / 1000000 ∧ h 483 9 = n / 10000 % 100 ∧ h 483 10 = n / 100 % 100 ∧ h 483 11 = n % 100) : ∃ h', mm_P d 304 [(2, 483), (0, p), (0, v)] w h = some ((0, shwN s p v n), w, h') ∧ FQ h h' ∧ KQ h' s := by
  obtain ⟨d, rfl, hd2⟩ := mm_dS (show 14 + 1 ≤ d by omega)
  have hw : (w.1 483).1 = 13 := by rw [hW.1]
  have i1 := hI.1; have i2 := hI.2.1
  have hn' := hn
  unfold isRect at hn'
  obtain ⟨h1, x1, x2, x3⟩ := L_mcs0 hd2 hW hI (v := v) hp hn (n / 100 % 100 - n / 1000000 + 1).toNat (n / 1000000) 0 h hK a0.2 (Int.le_refl _) (by omega) (by decide) (by omega)
  rw [P_M_countShown, mF_t hw]
  try dsimp only
  rw [a0.1, x1, mK_r, if_pos rfl]
  simp only [mP_3]
  rw [Int.zero_add]
  exact ⟨h1, rfl, x2, x3⟩
theorem QT_KQ (hT : QT w h A) : KQ h (gNow A) := ⟨hT.2.1, hT.2.2.2.1, hT.2.2.2.2⟩
theorem QT_KF {h' : mm_H} (hT : QT w h A) (o : FQ h h') (hK : KQ h' (gNow A)) : QT w h' A := QT_QM hT (FQ_QM o) hK.2.2
theorem E_M_many (hd : 30 ≤ d) (hT : QT w h A) {n : Int} (hn : n < 2147483648) (p v : Int) : ∃ h', mm_P d 305 [(2, 483), (0, p), (0, v), (0, n)] w h = some ((0, fMany A p v n), w, h') ∧ QT w h' A ∧ MN h h' := by
  obtain ⟨d, rfl, hd2⟩ := mm_dS (show 29 + 1 ≤ d by omega)
  have hw : (w.1 483).1 = 13 := by rw [hT.1.1]
  have hI := QT_I hT
  unfold fMany
  rw [P_M_many, E_M_isProperty (by omega), mC_s]
  by_cases c1 : 0 ≤ p ∧ p < 4
  rotate_left
  · rw [bI_f c1, mEq_t rfl, iC_f (fun x => c1 x.1)]
    exact ⟨h, rfl, hT, MN_rf h⟩
  rw [bI_t c1, mEq_f (by decide), E_M_in (by omega), mC_s]
  by_cases c2 : 0 ≤ v ∧ v ≤ 9
  rotate_left
  · rw [bI_f c2, mEq_t rfl, iC_f (fun x => c2 x.2.1)]
    exact ⟨h, rfl, hT, MN_rf h⟩
  obtain ⟨h1, x1, x2, x3, x4⟩ := T_rect (d := d) (by omega) hT hn
  rw [bI_t c2, mEq_f (by decide), mF_t hw, x1, mC_s]
  by_cases c0 : isRect (aHi (gNow A)) (aWi (gNow A)) n
  rotate_left
  · rw [bI_f c0, mEq_t rfl, iC_f (fun x => c0 x.2.2)]
    exact ⟨h1, rfl, x2, MN_QM x3⟩
  obtain ⟨h2, y1, y2, y3⟩ := E_M_countShown (d := d) (by omega) hT.1 hI (v := v) c1 c0 (QT_KQ x2) (x4 c0.1)
  rw [bI_t c0, mEq_f (by decide), mF_t hw, y1, mC_s, iC_t ⟨c1, c2, c0⟩]
  exact ⟨h2, rfl, QT_KF x2 y2 y3, MN_tr (MN_QM x3) (MN_FQ y2)⟩
theorem E_M_all (hd : 30 ≤ d) (hT : QT w h A) {n : Int} (hn : n < 2147483648) (p : Int) : ∃ h', mm_P d 303 [(2, 483), (0, p), (0, n)] w h = some ((0, fAll A p n), w, h') ∧ QT w h' A ∧ MN h h' := by
  obtain ⟨d, rfl, hd2⟩ := mm_dS (show 29 + 1 ≤ d by omega)
  have hw : (w.1 483).1 = 13 := by rw [hT.1.1]
  have hI := QT_I hT
  have i1 := hI.1; have i2 := hI.2.1
  unfold fAll
  rw [P_M_all, E_M_isProperty (by omega), mC_s]
  by_cases c1 : 0 ≤ p ∧ p < 4
  rotate_left
  · rw [bI_f c1, mEq_t rfl, iC_f (fun x => c1 x.1)]
    exact ⟨h, rfl, hT, MN_rf h⟩
  obtain ⟨h1, x1, x2, x3, x4⟩ := T_rect (d := d) (by omega) hT hn
  rw [bI_t c1, mEq_f (by decide), mF_t hw, x1, mC_s]
  by_cases c0 : isRect (aHi (gNow A)) (aWi (gNow A)) n
  rotate_left
  · rw [bI_f c0, mEq_t rfl, iC_f (fun x => c0 x.2)]
    exact ⟨h1, rfl, x2, MN_QM x3⟩
  have x4 := x4 c0.1
  have c0' := c0
  unfold isRect at c0'
  obtain ⟨h2, y1, y2, y3⟩ := E_M_shows (d := d) (by omega) hT.1 hI x2.2.1 x2.2.2.2.1 x2.2.2.2.2 c1 (r := n / 1000000) (c := n / 10000 % 100) (by omega) (by omega)
  have T2 := QT_FQ x2 y2 y3
  have z4 : h2 483 8 = n / 1000000 ∧ h2 483 9 = n / 10000 % 100 ∧ h2 483 10 = n / 100 % 100 ∧ h2 483 11 = n % 100 := ⟨by rw [y2.2 8 (by decide) (by decide) (by decide) (by decide)]; exact x4.1, by rw [y2.2 9 (by decide) (by decide) (by decide) (by decide)]; exact x4.2.1, by rw [y2.2 10 (by decide) (by decide) (by decide) (by decide)]; exact x4.2.2.1, by rw [y2.2 11 (by decide) (by decide) (by decide) (by decide)]; exact x4.2.2.2⟩
  obtain ⟨h3, u1, u2, u3⟩ := E_M_countShown (d := d) (by omega) hT.1 hI (v := numA (gNow A) p (n / 1000000) (n / 10000 % 100)) c1 c0 (QT_KQ T2) z4
  have hm1 : (n / 100 % 100 - n / 1000000 + 1) * (n % 100 - n / 10000 % 100 + 1) ≤ 16 * 16 := Int.mul_le_mul (by omega) (by omega) (by omega) (by decide)
  have hm0 : 0 ≤ (n / 100 % 100 - n / 1000000 + 1) * (n % 100 - n / 10000 % 100 + 1) := Int.mul_nonneg (by omega) (by omega)
  rw [bI_t c0, mEq_f (by decide)]
  simp only [mF_t hw]
  rw [x4.1, x4.2.1, y1, mC_s, u1, mC_s]
  simp only [mF_t hw]
  rw [u2.2 8 (by decide) (by decide) (by decide) (by decide), u2.2 9 (by decide) (by decide) (by decide) (by decide), u2.2 10 (by decide) (by decide) (by decide) (by decide), u2.2 11 (by decide) (by decide) (by decide) (by decide), z4.1, z4.2.1, z4.2.2.1, z4.2.2.2, mI_id (x := n / 100 % 100 - n / 1000000) (by omega) (by omega), mI_id (x := n / 100 % 100 - n / 1000000 + 1) (by omega) (by omega), mI_id (x := n % 100 - n / 10000 % 100) (by omega) (by omega), mI_id (x := n % 100 - n / 10000 % 100 + 1) (by omega) (by omega), mI_id (x := (n / 100 % 100 - n / 1000000 + 1) * (n % 100 - n / 10000 % 100 + 1)) (by omega) (by omega), iC_t ⟨c1, c0⟩]
  have T3 := QT_KF T2 u2 u3
  have o3 := MN_tr (MN_tr (MN_QM x3) (MN_FQ y2)) (MN_FQ u2)
  unfold allA
  by_cases c : shwN (gNow A) p (numA (gNow A) p (n / 1000000) (n / 10000 % 100)) n = (n / 100 % 100 - n / 1000000 + 1) * (n % 100 - n / 10000 % 100 + 1)
  · rw [mEq_t c, iC_t c]
    exact ⟨h3, rfl, T3, o3⟩
  · rw [mEq_f c, iC_f c]
    exact ⟨h3, rfl, T3, o3⟩
end PU
