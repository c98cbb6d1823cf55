/-! PURE: the reference is asked of what would be, of what is drawn. -/
section PU
variable {d : Nat} {w : mm_W} {h : mm_H} {s : aS} {A : aG}
theorem E_M_again (hd : 2 ≤ d) (hW : MW w) (hH : MH h) : ∃ h', mm_P d 224 [(2, 483)] w h = some ((9, 0), w, h') ∧ (∀ b : Int, b ≠ 483 → b ≠ 484 → h' b = h b) ∧ (∀ i : Int, i ≠ 4 → h' 483 i = h 483 i) ∧ h' 483 4 = 0 ∧ ∀ j : Int, 0 ≤ j → j < 3863 → h' 484 j = h 487 j := by
  obtain ⟨d, rfl, hd2⟩ := mm_dS hd; clear hd; have hd := hd2; clear hd2
  have hw : (w.1 483).1 = 13 := by rw [hW.1]
  have e7 : h 483 7 = 487 := hH.2.2.2.1
  obtain ⟨h', v1, v2, v3, v4, v5⟩ := E_M_becomes (d := d) hd hW hH (a := 487) hW.2.2.2.2.1 (by decide) (p := 0) (by decide)
  rw [P_M_again, mF_t hw, mF_t hw, e7, v1, mC_s]
  exact ⟨h', rfl, v2, v3, v4, fun j j0 j1 => by rw [v5 j j0 j1, Int.zero_add]⟩
/-- what was thought of is put away again -/
theorem T_again (hd : 2 ≤ d) (hT : QT w h A) {h2 : mm_H} (o : MN h h2) (e7 : ∀ j : Int, 0 ≤ j → j < 3863 → h2 487 j = h 484 j) (e97 : h2 497 = h 497) : ∃ h3, mm_P d 224 [(2, 483)] w h2 = some ((9, 0), w, h3) ∧ QT w h3 A ∧ MN h h3 ∧ (∀ i : Int, i ≠ 4 → h3 483 i = h2 483 i) ∧ ∀ b : Int, b ≠ 483 → b ≠ 484 → h3 b = h2 b := by
  obtain ⟨h3, v1, v2, v3, v4, v5⟩ := E_M_again (d := d) hd hT.1 (MN_MH o hT.2.1)
  have o2 : MN h h3 := MN_tr o ⟨fun b hb b4 _ => v2 b (by unfold qRow at hb; omega) b4, fun i hi => v3 i (by unfold qFd at hi; omega)⟩
  have R3 : RM (h3 484) (gNow A) := RM_ext (QT_I hT) hT.2.2.2.1 (fun j j0 j1 => by rw [v5 j j0 j1, e7 j j0 j1])
  have x97 : h3 497 = h 497 := by rw [v2 497 (by decide) (by decide), e97]
  exact ⟨h3, v1, ⟨hT.1, MN_MH o2 hT.2.1, ⟨MN_His o2 hT.2.2.1.1, fun j j0 j1 => by rw [x97]; exact hT.2.2.1.2 j j0 j1⟩, R3, fun x => absurd v4 x⟩, o2, v3, v2⟩
theorem E_M_would (hd : 30 ≤ d) (hT : QT w h A) {n : Int} (hn : n < 2147483648) (p v : Int) : ∃ h', mm_P d 300 [(2, 483), (0, p), (0, v), (0, n)] w h = some ((0, fWould A p v n), w, h') ∧ QT w h' A ∧ MN h h' := by
  obtain ⟨d, rfl, hd2⟩ := mm_dS (show 29 + 1 ≤ d by omega)
  have hw : (w.1 483).1 = 13 := by rw [hT.1.1]
  have hI := QT_I hT
  have i1 := hI.1; have i2 := hI.2.1
  unfold fWould
  rw [P_M_would, mF_t hw]
  by_cases c0 : n < 0
  · rw [E_M_takesRect_f (by omega) c0, mC_s, mEq_t rfl, iC_f (fun x => by have := x.2.2.1; omega)]
    exact ⟨h, rfl, hT, MN_rf h⟩
  have T0 := QT_tk hT n
  have o0 := MN_QM (QM_tk h n)
  rw [E_M_takesRect (by omega) hT.1 hT.2.1 (by omega) hn, mC_s, hT.2.2.2.1.1.1, hT.2.2.2.1.1.2.1]
  by_cases c1 : isRect (aHi (gNow A)) (aWi (gNow A)) n
  rotate_left
  · rw [bI_f c1, mEq_t rfl, iC_f (fun x => c1 x.2.2)]
    exact ⟨_, rfl, T0, o0⟩
  rw [bI_t c1, mEq_f (by decide), E_M_isProperty (by omega), mC_s]
  by_cases c2 : 0 ≤ p ∧ p < 4
  rotate_left
  · rw [bI_f c2, mEq_t rfl, iC_f (fun x => c2 x.1)]
    exact ⟨_, rfl, T0, o0⟩
  rw [bI_t c2, mEq_f (by decide), E_M_isTold (by omega), mC_s]
  by_cases c3 : -1 ≤ v ∧ v ≤ 9
  rotate_left
  · rw [bI_f c3, mEq_t rfl, iC_f (fun x => c3 x.2.1)]
    exact ⟨_, rfl, T0, o0⟩
  have c1' := c1
  unfold isRect at c1'
  have k8 : mTk h n 483 8 = n / 1000000 := by unfold mTk; rw [mUp_n (Or.inr (by decide)), mUp_n (Or.inr (by decide)), mUp_n (Or.inr (by decide)), mUp_s]
  have k9 : mTk h n 483 9 = n / 10000 % 100 := by unfold mTk; rw [mUp_n (Or.inr (by decide)), mUp_n (Or.inr (by decide)), mUp_s]
  have k10 : mTk h n 483 10 = n / 100 % 100 := by unfold mTk; rw [mUp_n (Or.inr (by decide)), mUp_s]
  have k11 : mTk h n 483 11 = n % 100 := by unfold mTk; rw [mUp_s]
  obtain ⟨h1, x1, x2, x3⟩ := E_M_aside (d := d) (by omega) hT.1 T0.2.1
  have H1 : MH h1 := MH_fr T0.2.1 (fun i _ => by rw [x2 483 (by decide)])
  have R1 : RM (h1 484) (gNow A) := by rw [x2 484 (by decide)]; exact T0.2.2.2.1
  obtain ⟨h2, y1, y2, y3⟩ := E_M_paints (d := d) (by omega) hT.1 H1 hI R1 (v := v) (t := n / 1000000) (l := n / 10000 % 100) (b := n / 100 % 100) (r := n % 100) c2 (by omega) (by omega) (by omega) (by omega)
  have H2 : MH h2 := MH_fr H1 (fun i _ => by rw [y3 483 (by decide)])
  have I2 : aI (F_paint (gNow A) p v (n / 1000000) (n / 10000 % 100) (n / 100 % 100) (n % 100)) := aI_paint hI c3
  obtain ⟨h3, z1, z2, z3⟩ := E_M_coversOf (d := d) (by omega) hT.1 I2 c2 H2 y2
  have o3 : MN (mTk h n) h3 := ⟨fun b hb b4 b7 => by rw [z2.1 b (by unfold qRow at hb; omega) (by unfold qRow at hb; omega), y3 b b4, x2 b (by unfold qRow at hb; omega)], fun i hi => by rw [z2.2 i (by unfold qFd at hi; omega), y3 483 (by decide), x2 483 (by decide)]⟩
  obtain ⟨h4, v1, v2, v3, v4, v5⟩ := T_again (d := d) (by omega) T0 o3 (fun j j0 j1 => by rw [z2.1 487 (by decide) (by decide), y3 487 (by decide), x3 j j0 j1]) (by rw [z2.1 497 (by decide) (by decide), y3 497 (by decide), x2 497 (by decide)])
  rw [bI_t c3, mEq_f (by decide), mF_t hw, x1, mC_s]
  simp only [mF_t hw]
  rw [x2 483 (by decide), k8, k9, k10, k11, y1, mC_s, z1, mC_s, v1, mC_s, v4 32 (by decide), z3.1, iC_t ⟨c2, c3, c1⟩]
  simp only [mF_t hw]
  exact ⟨h4, rfl, v2, MN_tr o0 v3⟩
theorem E_M_draws (hd : 1 ≤ d) (hw : (w.1 483).1 = 13) {z m : Int} (hz : h 483 33 = z) (hm : 0 < m) : ∃ h', mm_P d 301 [(2, 483), (0, m)] w h = some ((0, daZ (nxZ z) m), w, h') ∧ h' 483 33 = nxZ z ∧ (∀ b : Int, b ≠ 483 → h' b = h b) ∧ ∀ i : Int, i ≠ 33 → h' 483 i = h 483 i := by
  obtain ⟨d, rfl, hd2⟩ := mm_dS hd; clear hd; have hd := hd2; clear hd2
  rw [P_M_draws, mF_t hw, mF_t hw]
  try dsimp only
  rw [mF_t hw, mD_t (by omega), hz]
  have e : mI (mI (z * 1103515245) + 12345) = nxZ z := rfl
  rw [e, mUp_s, Int.tmod_eq_emod_of_nonneg (mUsh_9 _).1]
  exact ⟨_, rfl, mUp_s, fun b hb => mUp_row hb, fun i hi => mUp_n (Or.inr hi)⟩
theorem L_mdrw (hd : 3 ≤ d) (hW : MW w) {z0 n p q : Int} (hp : 0 ≤ p ∧ p < 4) (hn : n ≤ 30) : ∀ (m : Nat) (k z : Int) (s : aS) (h : mm_H), aI s → MH h → RM (h 484) s → h 483 33 = z → 0 ≤ k → k + m = n → ∃ h', l_M_drawn_0 (mm_P d) 483 z0 n p q k w h = some (.inr (150, [(2, 483), (0, z0), (0, n), (0, p), (0, q), (0, n), (9, 0), (9, 0), (9, 0), (9, 0), (9, 0)], w, h')) ∧ MH h' ∧ RM (h' 484) (dsN p m s z) ∧ (∀ b : Int, b ≠ 483 → b ≠ 484 → h' b = h b) ∧ ∀ i : Int, i ≠ 33 → h' 483 i = h 483 i := by
  have hw : (w.1 483).1 = 13 := by rw [hW.1]
  intro m
  induction m with
  | zero =>
    intro k z s h hI hH hR hz k0 hm
    rw [l_M_drawn_0_eq, mLe_t (by omega), show k = n by omega]
    exact ⟨h, rfl, hH, hR, fun _ _ _ => rfl, fun _ _ => rfl⟩
  | succ m ih =>
    intro k z s h hI hH hR hz k0 hm
    have i1 := hI.1; have i2 := hI.2.1
    obtain ⟨g1, a1, b1, c1, e1⟩ := E_M_draws (d := d) (by omega) hw hz (m := aHi s) (by omega)
    have H1 : MH g1 := MH_fr hH (fun i hi => e1 i (by unfold mRef at hi; omega))
    obtain ⟨g2, a2, b2, c2, e2⟩ := E_M_draws (d := d) (by omega) hw b1 (m := aHi s) (by omega)
    have H2 : MH g2 := MH_fr H1 (fun i hi => e2 i (by unfold mRef at hi; omega))
    obtain ⟨g3, a3, b3, c3, e3⟩ := E_M_draws (d := d) (by omega) hw b2 (m := aWi s) (by omega)
    have H3 : MH g3 := MH_fr H2 (fun i hi => e3 i (by unfold mRef at hi; omega))
    obtain ⟨g4, a4, b4, c4, e4⟩ := E_M_draws (d := d) (by omega) hw b3 (m := aWi s) (by omega)
    have H4 : MH g4 := MH_fr H3 (fun i hi => e4 i (by unfold mRef at hi; omega))
    obtain ⟨g5, a5, b5, c5, e5⟩ := E_M_draws (d := d) (by omega) hw b4 (m := 11) (by decide)
    have H5 : MH g5 := MH_fr H4 (fun i hi => e5 i (by unfold mRef at hi; omega))
    have q1 : g1 484 = h 484 := c1 484 (by decide)
    have q2 : g2 484 = h 484 := by rw [c2 484 (by decide), q1]
    have q3 : g3 484 = h 484 := by rw [c3 484 (by decide), q2]
    have q5 : g5 484 = h 484 := by rw [c5 484 (by decide), c4 484 (by decide), q3]
    have m1 := mm_in (daZ_in (nxZ z) (m := aHi s) (by omega)) (daZ_in (nxZ (nxZ z)) (m := aHi s) (by omega))
    have m2 := mm_in (daZ_in (nxZ (nxZ (nxZ z))) (m := aWi s) (by omega)) (daZ_in (nxZ (nxZ (nxZ (nxZ z)))) (m := aWi s) (by omega))
    have m5 := daZ_in (nx5 z) (m := 11) (by decide)
    obtain ⟨g6, y1, y2, y3⟩ := E_M_paints (d := d) (h := g5) (by omega) hW H5 hI (by rw [q5]; exact hR) (v := daZ (nx5 z) 11 - 1) (t := mMin (daZ (nxZ z) (aHi s)) (daZ (nxZ (nxZ z)) (aHi s))) (l := mMin (daZ (nxZ (nxZ (nxZ z))) (aWi s)) (daZ (nxZ (nxZ (nxZ (nxZ z)))) (aWi s))) (b := mMax (daZ (nxZ z) (aHi s)) (daZ (nxZ (nxZ z)) (aHi s))) (r := mMax (daZ (nxZ (nxZ (nxZ z))) (aWi s)) (daZ (nxZ (nxZ (nxZ (nxZ z)))) (aWi s))) hp (by omega) (by omega) (by omega) (by omega)
    obtain ⟨h', x1, x2, x3, x4, x5⟩ := ih (k + 1) (nx5 z) (dwS s p z) g6 (dwS_I hI p z) (MH_fr H5 (fun i _ => by rw [y3 483 (by decide)])) y2 (by rw [y3 483 (by decide)]; exact b5) (by omega) (by omega)
    have R0 : h 484 0 = aHi s := hR.1.1
    have R1 : h 484 1 = aWi s := hR.1.2.1
    rw [l_M_drawn_0_eq, mLe_f (by omega), mF_t hw, hH.1, mA_t hW.2.1 (by omega) (by omega), R0, mF_t hw, a1, mC_s, mF_t hw, H1.1, mA_t hW.2.1 (by omega) (by omega), q1, R0, mF_t hw, a2, mC_s, mF_t hw, H2.1, mA_t hW.2.1 (by omega) (by omega), q2, R1, mF_t hw, a3, mC_s, mF_t hw, H3.1, mA_t hW.2.1 (by omega) (by omega), q3, R1, mF_t hw, a4, mC_s, mF_t hw, a5, mC_s]
    try dsimp only
    have e5' : nxZ (nxZ (nxZ (nxZ (nxZ z)))) = nx5 z := rfl
    rw [e5', mF_t hw, mI_id (x := daZ (nx5 z) 11 - 1) (by omega) (by omega), y1, mC_s]
    try dsimp only
    rw [mI_id (x := k + 1) (by omega) (by omega), x1]
    refine ⟨h', rfl, x2, x3, fun b hb hb' => by rw [x4 b hb hb', y3 b hb', c5 b hb, c4 b hb, c3 b hb, c2 b hb, c1 b hb], fun i hi => by rw [x5 i hi, y3 483 (by decide), e5 i hi, e4 i hi, e3 i hi, e2 i hi, e1 i hi]⟩
theorem L_mdc2 (hd : 3 ≤ d) (hW : MW w) (hI : aI s) (hH : MH h) (hR : RM (h 484) s) {z n p q i : Int} (hp : 0 ≤ p ∧ p < 4) (hi : 0 ≤ i ∧ i < aHi s) : ∀ (m : Nat) (c acc : Int), 0 ≤ c → c + m = aWi s → 0 ≤ acc → acc + m < 1000 → l_M_drawn_2 (mm_P d) 483 z n p q acc i c w h = some (.inr (215, [(2, 483), (0, z), (0, n), (0, p), (0, q), (0, acc + sumN (fun c => bI (aCel s p i c ≠ -1)) m c), (0, i), (0, aWi s), (9, 0), (9, 0), (9, 0)], w, h)) := by
  have hw : (w.1 483).1 = 13 := by rw [hW.1]
  have i2 := hI.2.1
  intro m
  induction m with
  | zero =>
    intro c acc a1 a2 a3 a4
    rw [l_M_drawn_2_eq, mF_t hw, hH.1, mA_t hW.2.1 (by omega) (by omega), hR.1.2.1, mLe_t (by omega)]
    have e : sumN (fun c => bI (aCel s p i c ≠ -1)) 0 c = 0 := rfl
    rw [e, show c = aWi s by omega, show acc + 0 = acc by omega]
  | succ m ih =>
    intro c acc a1 a2 a3 a4
    have e : sumN (fun c => bI (aCel s p i c ≠ -1)) (m + 1) c = bI (aCel s p i c ≠ -1) + sumN (fun c => bI (aCel s p i c ≠ -1)) m (c + 1) := rfl
    rw [l_M_drawn_2_eq, mF_t hw, hH.1, mA_t hW.2.1 (by omega) (by omega), hR.1.2.1, mLe_f (by omega), mF_t hw, T_own (by omega) hW hI hH hR hp hi (j := c) (by omega), mC_s, e]
    try dsimp only
    rw [mI_id (x := c + 1) (by omega) (by omega), mI_id (x := acc + 1) (by omega) (by omega), mI_id (x := acc + 0) (by omega) (by omega), Int.add_zero]
    by_cases q : aCel s p i c = -1
    · rw [mEq_t q, bI_f (fun x => x q), ih (c + 1) acc (by omega) (by omega) (by omega) (by omega), Int.zero_add]
    · rw [mEq_f q, bI_t q, ih (c + 1) (acc + 1) (by omega) (by omega) (by omega) (by omega), Int.add_assoc]
theorem L_mdc1 (hd : 3 ≤ d) (hW : MW w) (hI : aI s) (hH : MH h) (hR : RM (h 484) s) {z n p q : Int} (hp : 0 ≤ p ∧ p < 4) : ∀ (m : Nat) (r acc : Int), 0 ≤ r → r + m = aHi s → 0 ≤ acc → acc + 16 * m < 900 → l_M_drawn_1 (mm_P d) 483 z n p q acc r w h = some (.inr (221, [(2, 483), (0, z), (0, n), (0, p), (0, q), (0, acc + sumN (fun r => sumN (fun c => bI (aCel s p r c ≠ -1)) (aWi s).toNat 0) m r), (0, aHi s), (9, 0), (9, 0), (9, 0), (9, 0)], w, h)) := by
  have hw : (w.1 483).1 = 13 := by rw [hW.1]
  have i1 := hI.1; have i2 := hI.2.1
  intro m
  induction m with
  | zero =>
    intro r acc a1 a2 a3 a4
    rw [l_M_drawn_1_eq, mF_t hw, hH.1, mA_t hW.2.1 (by omega) (by omega), hR.1.1, mLe_t (by omega)]
    have e : sumN (fun r => sumN (fun c => bI (aCel s p r c ≠ -1)) (aWi s).toNat 0) 0 r = 0 := rfl
    rw [e, show r = aHi s by omega, show acc + 0 = acc by omega]
  | succ m ih =>
    intro r acc a1 a2 a3 a4
    have e : sumN (fun r => sumN (fun c => bI (aCel s p r c ≠ -1)) (aWi s).toNat 0) (m + 1) r = sumN (fun c => bI (aCel s p r c ≠ -1)) (aWi s).toNat 0 + sumN (fun r => sumN (fun c => bI (aCel s p r c ≠ -1)) (aWi s).toNat 0) m (r + 1) := rfl
    have b := sumN_le (f := fun c => bI (aCel s p r c ≠ -1)) (a := 0) (b := 1) (aWi s).toNat 0 (fun c _ _ => bI_le _)
    rw [l_M_drawn_1_eq, mF_t hw, hH.1, mA_t hW.2.1 (by omega) (by omega), hR.1.1, mLe_f (by omega), L_mdc2 hd hW hI hH hR hp (i := r) (by omega) (aWi s).toNat 0 acc (Int.le_refl _) (by omega) a3 (by omega), mK_r, if_pos rfl]
    simp only [mP_0, mP_1, mP_2, mP_3, mP_4, mP_5, mP_6]
    rw [mI_id (x := r + 1) (by omega) (by omega), ih (r + 1) _ (by omega) (by omega) (by omega) (by omega), e, Int.add_assoc]
theorem E_M_drawn (hd : 30 ≤ d) (hT : QT w h A) (z n p q : Int) : ∃ h', mm_P d 302 [(2, 483), (0, z), (0, n), (0, p), (0, q)] w h = some ((0, fDrawn A z n p q), w, h') ∧ QT w h' A ∧ MN h h' := by
  obtain ⟨d, rfl, hd2⟩ := mm_dS (show 29 + 1 ≤ d by omega)
  have hw : (w.1 483).1 = 13 := by rw [hT.1.1]
  have hI := QT_I hT
  have i1 := hI.1; have i2 := hI.2.1
  unfold fDrawn
  rw [P_M_drawn, E_M_in (by omega), mC_s]
  by_cases c0 : 0 ≤ n ∧ n ≤ 30
  rotate_left
  · rw [bI_f c0, mEq_t rfl, iC_f (fun x => c0 x.1)]
    exact ⟨h, rfl, hT, MN_rf h⟩
  rw [bI_t c0, mEq_f (by decide), E_M_isProperty (by omega), mC_s]
  by_cases c2 : 0 ≤ p ∧ p < 4
  rotate_left
  · rw [bI_f c2, mEq_t rfl, iC_f (fun x => c2 x.2.1)]
    exact ⟨h, rfl, hT, MN_rf h⟩
  rw [bI_t c2, mEq_f (by decide), E_M_in (by omega), mC_s]
  by_cases c3 : q = 0 ∨ q = 1
  rotate_left
  · rw [bI_f (by omega), mEq_t rfl, iC_f (fun x => c3 x.2.2)]
    exact ⟨h, rfl, hT, MN_rf h⟩
  obtain ⟨h1, x1, x2, x3⟩ := E_M_aside (d := d) (by omega) hT.1 hT.2.1
  have H1 : MH h1 := MH_fr hT.2.1 (fun i _ => by rw [x2 483 (by decide)])
  have R1 : RM (h1 484) (gNow A) := by rw [x2 484 (by decide)]; exact hT.2.2.2.1
  rw [bI_t (by omega), mEq_f (by decide), mF_t hw, x1, mC_s, mF_t hw, iC_t ⟨c0, c2, c3⟩]
  try dsimp only
  generalize hg : mUp h1 483 33 z = h2
  have u1 : ∀ b : Int, b ≠ 483 → h2 b = h1 b := fun b hb => by rw [← hg, mUp_row hb]
  have u2 : ∀ i : Int, i ≠ 33 → h2 483 i = h1 483 i := fun i hi => by rw [← hg, mUp_n (Or.inr hi)]
  have u3 : h2 483 33 = z := by rw [← hg, mUp_s]
  obtain ⟨h3, y1, y2, y3, y4, y5⟩ := L_mdrw (d := d) (by omega) hT.1 (z0 := z) (q := q) c2 c0.2 n.toNat 0 z (gNow A) h2 hI (MH_fr H1 (fun i hi => u2 i (by unfold mRef at hi; omega))) (by rw [u1 484 (by decide)]; exact R1) u3 (Int.le_refl _) (by omega)
  have I3 := dsN_I p n.toNat (gNow A) z hI
  have sz := dsN_sz p n.toNat (gNow A) z
  obtain ⟨h4, z1, z2, z3⟩ := E_M_coversOf (d := d) (by omega) hT.1 I3 c2 y2 y3
  have j1 := I3.1; have j2 := I3.2.1
  have g := L_mdc1 (d := d) (z := z) (n := n) (q := q) (by omega) hT.1 I3 (CQ_MH z2 y2) (CQ_RM z2 y3) c2 (aHi (dsN p n.toNat (gNow A) z)).toNat 0 0 (Int.le_refl _) (by omega) (Int.le_refl _) (by omega)
  have o4 : MN h h4 := ⟨fun b hb b4 b7 => by rw [z2.1 b (by unfold qRow at hb; omega) (by unfold qRow at hb; omega), y4 b (by unfold qRow at hb; omega) b4, u1 b (by unfold qRow at hb; omega), x2 b (by unfold qRow at hb; omega)], fun i hi => by rw [z2.2 i (by unfold qFd at hi; omega), y5 i (by unfold qFd at hi; omega), u2 i (by unfold qFd at hi; omega), x2 483 (by decide)]⟩
  obtain ⟨h5, v1, v2, v3, v4, v5⟩ := T_again (d := d) (by omega) hT o4 (fun j j0 j1 => by rw [z2.1 487 (by decide) (by decide), y4 487 (by decide) (by decide), u1 487 (by decide), x3 j j0 j1]) (by rw [z2.1 497 (by decide) (by decide), y4 497 (by decide) (by decide), u1 497 (by decide), x2 497 (by decide)])
  rw [y1, mK_r, if_pos rfl]
  simp only [mP_0, mP_1, mP_2, mP_3, mP_4, mP_5, mP_6]
  rw [mF_t hw, z1, mC_s, g, mK_r, if_pos rfl]
  simp only [mP_0, mP_1, mP_2, mP_3, mP_4, mP_5, mP_6]
  rw [mF_t hw, v1, mC_s]
  by_cases q0 : q = 0
  · rw [mEq_t q0, if_pos q0, mF_t hw, v4 32 (by decide), z3.1]
    exact ⟨h5, rfl, v2, v3⟩
  · rw [mEq_f q0, if_neg q0, Int.zero_add]
    exact ⟨h5, rfl, v2, v3⟩
end PU
