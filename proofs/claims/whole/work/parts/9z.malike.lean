/-! PURE: the reference is asked of looks. -/
section PU
variable {d : Nat} {w : mm_W} {h : mm_H} {s : aS} {A : aG}
theorem KQ_up {b i z : Int} (hK : KQ h s) (hb : b ≠ 483 ∧ b ≠ 484 ∧ b ≠ 494) : KQ (mUp h b i z) s := by
  refine ⟨MH_fr hK.1 (fun j _ => by rw [mUp_row (by omega)]), by rw [mUp_row (by omega)]; exact hK.2.1, ?_⟩
  have h3 := hK.2.2
  unfold mFr HCs HC at h3 ⊢
  rw [mUp_row (by omega), mUp_row (by omega)]
  exact h3
theorem MH_35 (hH : MH h) : h 483 35 = 498 := hH.2.2.2.2.2.2.2.2.2.2.2.2.2.2.1
theorem MW_498 (hW : MW w) : w.1 498 = (52, 10000) := hW.2.2.2.2.2.2.2.2.2.2.2.2.2.2.2.1
theorem L_mal1 (hd : 15 ≤ d) (hW : MW w) (hI : aI s) {n : Int} (hn : isCell (aHi s) (aWi s) n) (hm : n < 2147483648) {r : Int} (hr : 0 ≤ r ∧ r < aHi s) : ∀ (m : Nat) (c acc : Int) (h : mm_H), KQ h s → 0 ≤ c → c + m = aWi s → 0 ≤ acc → acc + m < 1000 → ∃ h', l_M_alike_1 (mm_P d) 483 n acc r c w h = some (.inr (75, [(2, 483), (0, n), (0, acc + sumN (fun c => bI (lookA s r c = lookA s (n / 100) (n % 100))) m c), (0, r), (0, aWi s)], w, h')) ∧ FQ h h' ∧ KQ h' s := by
  have hw : (w.1 483).1 = 13 := by rw [hW.1]
  have i1 := hI.1; have i2 := hI.2.1
  have hn' := hn
  unfold isCell at hn'
  intro m
  induction m with
  | zero =>
    intro c acc h hK a1 a2 a3 a4
    rw [l_M_alike_1_eq, mF_t hw, hK.1.1, mA_t hW.2.1 (by omega) (by omega), hK.2.1.1.2.1, mLe_t (by omega)]
    have e : sumN (fun c => bI (lookA s r c = lookA s (n / 100) (n % 100))) 0 c = 0 := rfl
    rw [e, show c = aWi s by omega, show acc + 0 = acc by omega]
    exact ⟨h, rfl, FQ_rf h, hK⟩
  | succ m ih =>
    intro c acc h hK a1 a2 a3 a4
    have e : sumN (fun c => bI (lookA s r c = lookA s (n / 100) (n % 100))) (m + 1) c = bI (lookA s r c = lookA s (n / 100) (n % 100)) + sumN (fun c => bI (lookA s r c = lookA s (n / 100) (n % 100))) m (c + 1) := rfl
    obtain ⟨h1, x1, x2, x3⟩ := E_M_look hd hW hI hK.1 hK.2.1 hK.2.2 hr (c := c) (by omega)
    have K1 := KQ_FQ hK x2 x3
    rw [l_M_alike_1_eq, mF_t hw, hK.1.1, mA_t hW.2.1 (by omega) (by omega), hK.2.1.1.2.1, mLe_f (by omega), mF_t hw, x1, mC_s, mD_t (by decide), mD_t (by decide), mF_t hw, (n100 hn.1 hm).1, (n100 hn.1 hm).2, E_M_look_s (by omega) hW hI K1.1 K1.2.1 x3 (by omega) (by omega), mC_s, e]
    try dsimp only
    rw [mI_id (x := c + 1) (by omega) (by omega), mI_id (x := acc + 1) (by omega) (by omega), mI_id (x := acc + 0) (by omega) (by omega), Int.add_zero]
    by_cases q : lookA s r c = lookA s (n / 100) (n % 100)
    · obtain ⟨h2, y1, y2, y3⟩ := ih (c + 1) (acc + 1) h1 K1 (by omega) (by omega) (by omega) (by omega)
      rw [bI_t q, mEq_t q, y1, Int.add_assoc]
      exact ⟨h2, rfl, FQ_tr x2 y2, y3⟩
    · obtain ⟨h2, y1, y2, y3⟩ := ih (c + 1) acc h1 K1 (by omega) (by omega) (by omega) (by omega)
      rw [bI_f q, mEq_f q, y1, Int.zero_add]
      exact ⟨h2, rfl, FQ_tr x2 y2, y3⟩
theorem L_mal0 (hd : 15 ≤ d) (hW : MW w) (hI : aI s) {n : Int} (hn : isCell (aHi s) (aWi s) n) (hm : n < 2147483648) : ∀ (m : Nat) (r acc : Int) (h : mm_H), KQ h s → 0 ≤ r → r + m = aHi s → 0 ≤ acc → acc + 16 * m < 900 → ∃ h', l_M_alike_0 (mm_P d) 483 n acc r w h = some (.inr (81, [(2, 483), (0, n), (0, acc + sumN (fun r => sumN (fun c => bI (lookA s r c = lookA s (n / 100) (n % 100))) (aWi s).toNat 0) m r), (0, aHi s), (9, 0)], w, h')) ∧ FQ h h' ∧ KQ h' s := by
  have hw : (w.1 483).1 = 13 := by rw [hW.1]
  have i1 := hI.1; have i2 := hI.2.1
  intro m
  induction m with
  | zero =>
    intro r acc h hK a1 a2 a3 a4
    rw [l_M_alike_0_eq, mF_t hw, hK.1.1, mA_t hW.2.1 (by omega) (by omega), hK.2.1.1.1, mLe_t (by omega)]
    have e : sumN (fun r => sumN (fun c => bI (lookA s r c = lookA s (n / 100) (n % 100))) (aWi s).toNat 0) 0 r = 0 := rfl
    rw [e, show r = aHi s by omega, show acc + 0 = acc by omega]
    exact ⟨h, rfl, FQ_rf h, hK⟩
  | succ m ih =>
    intro r acc h hK a1 a2 a3 a4
    have e : sumN (fun r => sumN (fun c => bI (lookA s r c = lookA s (n / 100) (n % 100))) (aWi s).toNat 0) (m + 1) r = sumN (fun c => bI (lookA s r c = lookA s (n / 100) (n % 100))) (aWi s).toNat 0 + sumN (fun r => sumN (fun c => bI (lookA s r c = lookA s (n / 100) (n % 100))) (aWi s).toNat 0) m (r + 1) := rfl
    have b := sumN_le (f := fun c => bI (lookA s r c = lookA s (n / 100) (n % 100))) (a := 0) (b := 1) (aWi s).toNat 0 (fun c _ _ => bI_le _)
    obtain ⟨h1, x1, x2, x3⟩ := L_mal1 hd hW hI hn hm (r := r) (by omega) (aWi s).toNat 0 acc h hK (Int.le_refl _) (by omega) a3 (by omega)
    rw [l_M_alike_0_eq, mF_t hw, hK.1.1, mA_t hW.2.1 (by omega) (by omega), hK.2.1.1.1, mLe_f (by omega), x1, mK_r, if_pos rfl]
    simp only [mP_0, mP_1, mP_2, mP_3, mP_4, mP_5]
    rw [mI_id (x := r + 1) (by omega) (by omega)]
    obtain ⟨h2, y1, y2, y3⟩ := ih (r + 1) (acc + sumN (fun c => bI (lookA s r c = lookA s (n / 100) (n % 100))) (aWi s).toNat 0) h1 x3 (by omega) (by omega) (by omega) (by omega)
    rw [y1, e, Int.add_assoc]
    exact ⟨h2, rfl, FQ_tr x2 y2, y3⟩
theorem E_M_alike (hd : 30 ≤ d) (hT : QT w h A) {n : Int} (hn : n < 2147483648) : ∃ h', mm_P d 309 [(2, 483), (0, n)] w h = some ((0, fAlike A n), w, h') ∧ QT w h' A ∧ MN h h' := by
  obtain ⟨d, rfl, hd2⟩ := mm_dS (show 29 + 1 ≤ d by omega)
  have hw : (w.1 483).1 = 13 := by rw [hT.1.1]
  have hI := QT_I hT
  have i1 := hI.1; have i2 := hI.2.1
  unfold fAlike
  rw [P_M_alike, mF_t hw, T_cell (by omega) hT hn, mC_s]
  by_cases c1 : isCell (aHi (gNow A)) (aWi (gNow A)) n
  rotate_left
  · rw [bI_f c1, mEq_t rfl, iC_f c1]
    exact ⟨h, rfl, hT, MN_rf h⟩
  obtain ⟨h1, x1, x2, x3⟩ := L_mal0 (d := d) (by omega) hT.1 hI c1 hn (aHi (gNow A)).toNat 0 0 h (QT_KQ hT) (Int.le_refl _) (by omega) (Int.le_refl _) (by omega)
  rw [bI_t c1, mEq_f (by decide), x1, mK_r, if_pos rfl, iC_t c1]
  simp only [mP_2]
  rw [Int.zero_add]
  exact ⟨h1, rfl, QT_KF hT x2 x3, MN_FQ x2⟩
theorem L_mstr (hd : 15 ≤ d) (hW : MW w) (hI : aI s) {r : Int} (hr : 0 ≤ r ∧ r < aHi s) : ∀ (m : Nat) (c acc : Int) (h : mm_H), KQ h s → 1 ≤ c → c + m = aWi s → 0 ≤ acc → acc + m < 1000 → ∃ h', l_M_stripes_0 (mm_P d) 483 r acc c w h = some (.inr (66, [(2, 483), (0, r), (0, acc + sumN (fun c => bI (lookA s r c ≠ lookA s r (c - 1))) m c), (0, aWi s)], w, h')) ∧ FQ h h' ∧ KQ h' s := by
  have hw : (w.1 483).1 = 13 := by rw [hW.1]
  have i1 := hI.1; have i2 := hI.2.1
  intro m
  induction m with
  | zero =>
    intro c acc h hK a1 a2 a3 a4
    rw [l_M_stripes_0_eq, mF_t hw, hK.1.1, mA_t hW.2.1 (by omega) (by omega), hK.2.1.1.2.1, mLe_t (by omega)]
    have e : sumN (fun c => bI (lookA s r c ≠ lookA s r (c - 1))) 0 c = 0 := rfl
    rw [e, show c = aWi s by omega, show acc + 0 = acc by omega]
    exact ⟨h, rfl, FQ_rf h, hK⟩
  | succ m ih =>
    intro c acc h hK a1 a2 a3 a4
    have e : sumN (fun c => bI (lookA s r c ≠ lookA s r (c - 1))) (m + 1) c = bI (lookA s r c ≠ lookA s r (c - 1)) + sumN (fun c => bI (lookA s r c ≠ lookA s r (c - 1))) m (c + 1) := rfl
    obtain ⟨h1, x1, x2, x3⟩ := E_M_look hd hW hI hK.1 hK.2.1 hK.2.2 hr (c := c) (by omega)
    have K1 := KQ_FQ hK x2 x3
    rw [l_M_stripes_0_eq, mF_t hw, hK.1.1, mA_t hW.2.1 (by omega) (by omega), hK.2.1.1.2.1, mLe_f (by omega), mF_t hw, x1, mC_s, mF_t hw, mI_id (x := c - 1) (by omega) (by omega), E_M_look_s (by omega) hW hI K1.1 K1.2.1 x3 hr (c := c - 1) (by omega), mC_s, e]
    try dsimp only
    rw [mI_id (x := c + 1) (by omega) (by omega), mI_id (x := acc + 1) (by omega) (by omega), mI_id (x := acc + 0) (by omega) (by omega), Int.add_zero]
    by_cases q : lookA s r c = lookA s r (c - 1)
    · obtain ⟨h2, y1, y2, y3⟩ := ih (c + 1) acc h1 K1 (by omega) (by omega) (by omega) (by omega)
      rw [bI_f (fun x => x q), mEq_t q, y1, Int.zero_add]
      exact ⟨h2, rfl, FQ_tr x2 y2, y3⟩
    · obtain ⟨h2, y1, y2, y3⟩ := ih (c + 1) (acc + 1) h1 K1 (by omega) (by omega) (by omega) (by omega)
      rw [bI_t q, mEq_f q, y1, Int.add_assoc]
      exact ⟨h2, rfl, FQ_tr x2 y2, y3⟩
theorem E_M_stripes (hd : 30 ≤ d) (hT : QT w h A) (r : Int) : ∃ h', mm_P d 311 [(2, 483), (0, r)] w h = some ((0, fStripes A r), w, h') ∧ QT w h' A ∧ MN h h' := by
  obtain ⟨d, rfl, hd2⟩ := mm_dS (show 29 + 1 ≤ d by omega)
  have hw : (w.1 483).1 = 13 := by rw [hT.1.1]
  have hI := QT_I hT
  have i1 := hI.1; have i2 := hI.2.1
  unfold fStripes
  rw [P_M_stripes, mF_t hw, hT.2.1.1, mA_t hT.1.2.1 (by omega) (by omega), hT.2.2.2.1.1.1]
  first | rw [mI_id (x := aHi (gNow A) - 1) (by omega) (by omega)] | rw [mJ_id (x := aHi (gNow A) - 1) (by omega) (by omega)]
  rw [E_M_in (by omega), mC_s]
  by_cases c1 : 0 ≤ r ∧ r < aHi (gNow A)
  rotate_left
  · rw [bI_f (by omega), mEq_t rfl, iC_f c1]
    exact ⟨h, rfl, hT, MN_rf h⟩
  obtain ⟨h1, x1, x2, x3⟩ := L_mstr (d := d) (by omega) hT.1 hI c1 (aWi (gNow A) - 1).toNat 1 1 h (QT_KQ hT) (Int.le_refl _) (by omega) (by decide) (by omega)
  rw [bI_t (by omega), mEq_f (by decide), x1, mK_r, if_pos rfl, iC_t c1]
  simp only [mP_2]
  exact ⟨h1, rfl, QT_KF hT x2 x3, MN_FQ x2⟩
theorem L_mlk0 (hW : MW w) : ∀ (m : Nat) (i : Int) (h : mm_H), MH h → 0 ≤ i → i + m = 10000 → ∃ h', l_M_looks_0 (mm_P d) 483 i w h = some (.inr (22, [(2, 483), (0, 10000), (9, 0), (9, 0), (9, 0)], w, h')) ∧ (∀ b : Int, b ≠ 498 → h' b = h b) ∧ (∀ j : Int, j < i → h' 498 j = h 498 j) ∧ ∀ j : Int, i ≤ j → j < 10000 → h' 498 j = 0 := by
  have hw : (w.1 483).1 = 13 := by rw [hW.1]
  intro m
  induction m with
  | zero =>
    intro i h hH a1 a2
    rw [l_M_looks_0_eq, mLe_t (by omega), show i = 10000 by omega]
    exact ⟨h, rfl, fun _ _ => rfl, fun _ _ => rfl, fun j j0 j1 => by omega⟩
  | succ m ih =>
    intro i h hH a1 a2
    obtain ⟨h1, x1, x2, x3, x4⟩ := ih (i + 1) (mUp h 498 i 0) (MH_fr hH (fun j _ => by rw [mUp_row (by decide)])) (by omega) (by omega)
    rw [l_M_looks_0_eq, mLe_f (by omega), mF_t hw, mZ_0, MH_35 hH, mA_t (MW_498 hW) (by omega) (by omega)]
    try dsimp only
    rw [mI_id (x := i + 1) (by omega) (by omega), x1]
    refine ⟨h1, rfl, fun b hb => by rw [x2 b hb, mUp_row hb], fun j hj => by rw [x3 j (by omega), mUp_n (Or.inr (by omega))], fun j j0 j1 => ?_⟩
    by_cases e : j = i
    · rw [e, x3 i (by omega), mUp_s]
    · exact x4 j (by omega) j1
def metM (h : mm_H) (s : aS) (r c : Int) : Prop := ∀ v : Int, 0 ≤ v → v < 10000 → h 498 v = bI (seenA s r c v)
theorem L_mlk2 (hd : 15 ≤ d) (hW : MW w) (hI : aI s) {r : Int} (hr : 0 ≤ r ∧ r < aHi s) : ∀ (m : Nat) (c acc : Int) (h : mm_H), KQ h s → metM h s r c → 0 ≤ c → c + m = aWi s → 0 ≤ acc → acc + m < 1000 → ∃ h', l_M_looks_2 (mm_P d) 483 acc r c w h = some (.inr (88, [(2, 483), (0, acc + sumN (fun c => bI (¬ seenA s r c (lookA s r c))) m c), (0, r), (0, aWi s), (9, 0)], w, h')) ∧ QM h h' ∧ KQ h' s ∧ metM h' s r (aWi s) := by
  have hw : (w.1 483).1 = 13 := by rw [hW.1]
  have i1 := hI.1; have i2 := hI.2.1
  intro m
  induction m with
  | zero =>
    intro c acc h hK hM a1 a2 a3 a4
    rw [l_M_looks_2_eq, mF_t hw, hK.1.1, mA_t hW.2.1 (by omega) (by omega), hK.2.1.1.2.1, mLe_t (by omega)]
    have e : sumN (fun c => bI (¬ seenA s r c (lookA s r c))) 0 c = 0 := rfl
    have ec : c = aWi s := by omega
    rw [ec] at hM
    rw [e, ec, show acc + 0 = acc by omega]
    exact ⟨h, rfl, QM_rf h, hK, hM⟩
  | succ m ih =>
    intro c acc h hK hM a1 a2 a3 a4
    have e : sumN (fun c => bI (¬ seenA s r c (lookA s r c))) (m + 1) c = bI (¬ seenA s r c (lookA s r c)) + sumN (fun c => bI (¬ seenA s r c (lookA s r c))) m (c + 1) := rfl
    have hl := lookA_in hI hr (c := c) (by omega)
    obtain ⟨h1, x1, x2, x3⟩ := E_M_look hd hW hI hK.1 hK.2.1 hK.2.2 hr (c := c) (by omega)
    have K1 := KQ_FQ hK x2 x3
    have M1 : metM h1 s r c := fun v v0 v1 => by rw [x2.1 498 (by decide) (by decide) (by decide)]; exact hM v v0 v1
    have K2 : KQ (mUp h1 498 (lookA s r c) 1) s := KQ_up K1 (by decide)
    have M2 : metM (mUp h1 498 (lookA s r c) 1) s r (c + 1) := fun v v0 v1 => by
      rw [bI_eq (seen_next (v := v) hr.1 (c := c) (by omega))]
      by_cases ev : v = lookA s r c
      · rw [ev, mUp_s, bI_t (Or.inr rfl)]
      · rw [mUp_n (Or.inr ev), M1 v v0 v1]
        exact bI_eq ⟨fun x => Or.inl x, fun x => x.resolve_right (fun y => ev y.symm)⟩
    have Q2 : QM h (mUp h1 498 (lookA s r c) 1) := QM_tr (FQ_QM x2) (QM_row (by unfold qRow; omega) (by decide))
    rw [l_M_looks_2_eq, mF_t hw, hK.1.1, mA_t hW.2.1 (by omega) (by omega), hK.2.1.1.2.1, mLe_f (by omega), mF_t hw, x1, mC_s, mF_t hw, MH_35 K1.1, mAb_t (MW_498 hW) (Or.inl rfl) (by omega) (by omega), M1 _ hl.1 (by omega), e]
    simp only [mF_t hw]
    rw [mZ_1, mZ_1, mA_t (MW_498 hW) (by omega) (by omega), mA_t (MW_498 hW) (by omega) (by omega), mI_id (x := c + 1) (by omega) (by omega), mI_id (x := acc + 1) (by omega) (by omega), mI_id (x := acc + 0) (by omega) (by omega), Int.add_zero]
    by_cases q : seenA s r c (lookA s r c)
    · obtain ⟨h2, y1, y2, y3, y4⟩ := ih (c + 1) acc _ K2 M2 (by omega) (by omega) (by omega) (by omega)
      rw [bI_t q, bI_f (fun x => x q), mEq_f (by decide), y1, Int.zero_add]
      exact ⟨h2, rfl, QM_tr Q2 y2, y3, y4⟩
    · obtain ⟨h2, y1, y2, y3, y4⟩ := ih (c + 1) (acc + 1) _ K2 M2 (by omega) (by omega) (by omega) (by omega)
      rw [bI_f q, bI_t q, mEq_t rfl, y1, Int.add_assoc]
      exact ⟨h2, rfl, QM_tr Q2 y2, y3, y4⟩
theorem L_mlk1 (hd : 15 ≤ d) (hW : MW w) (hI : aI s) : ∀ (m : Nat) (r acc : Int) (h : mm_H), KQ h s → metM h s r 0 → 0 ≤ r → r + m = aHi s → 0 ≤ acc → acc + 16 * m < 900 → ∃ h', l_M_looks_1 (mm_P d) 483 acc r w h = some (.inr (94, [(2, 483), (0, acc + sumN (fun r => sumN (fun c => bI (¬ seenA s r c (lookA s r c))) (aWi s).toNat 0) m r), (0, aHi s), (9, 0), (9, 0)], w, h')) ∧ QM h h' ∧ KQ h' s := by
  have hw : (w.1 483).1 = 13 := by rw [hW.1]
  have i1 := hI.1; have i2 := hI.2.1
  intro m
  induction m with
  | zero =>
    intro r acc h hK hM a1 a2 a3 a4
    rw [l_M_looks_1_eq, mF_t hw, hK.1.1, mA_t hW.2.1 (by omega) (by omega), hK.2.1.1.1, mLe_t (by omega)]
    have e : sumN (fun r => sumN (fun c => bI (¬ seenA s r c (lookA s r c))) (aWi s).toNat 0) 0 r = 0 := rfl
    rw [e, show r = aHi s by omega, show acc + 0 = acc by omega]
    exact ⟨h, rfl, QM_rf h, hK⟩
  | succ m ih =>
    intro r acc h hK hM a1 a2 a3 a4
    have e : sumN (fun r => sumN (fun c => bI (¬ seenA s r c (lookA s r c))) (aWi s).toNat 0) (m + 1) r = sumN (fun c => bI (¬ seenA s r c (lookA s r c))) (aWi s).toNat 0 + sumN (fun r => sumN (fun c => bI (¬ seenA s r c (lookA s r c))) (aWi s).toNat 0) m (r + 1) := rfl
    have b := sumN_le (f := fun c => bI (¬ seenA s r c (lookA s r c))) (a := 0) (b := 1) (aWi s).toNat 0 (fun c _ _ => bI_le _)
    obtain ⟨h1, x1, x2, x3, x4⟩ := L_mlk2 hd hW hI (r := r) (by omega) (aWi s).toNat 0 acc h hK hM (Int.le_refl _) (by omega) a3 (by omega)
    rw [l_M_looks_1_eq, mF_t hw, hK.1.1, mA_t hW.2.1 (by omega) (by omega), hK.2.1.1.1, mLe_f (by omega), x1, mK_r, if_pos rfl]
    simp only [mP_0, mP_1, mP_2, mP_3, mP_4, mP_5]
    rw [mI_id (x := r + 1) (by omega) (by omega)]
    have M1 : metM h1 s (r + 1) 0 := fun v v0 v1 => by rw [x4 v v0 v1]; exact bI_eq seen_row
    obtain ⟨h2, y1, y2, y3⟩ := ih (r + 1) (acc + sumN (fun c => bI (¬ seenA s r c (lookA s r c))) (aWi s).toNat 0) h1 x3 M1 (by omega) (by omega) (by omega) (by omega)
    rw [y1, e, Int.add_assoc]
    exact ⟨h2, rfl, QM_tr x2 y2, y3⟩
theorem E_M_looks (hd : 30 ≤ d) (hT : QT w h A) : ∃ h', mm_P d 310 [(2, 483)] w h = some ((0, looksN (gNow A)), w, h') ∧ QT w h' A ∧ MN h h' := by
  obtain ⟨d, rfl, hd2⟩ := mm_dS (show 29 + 1 ≤ d by omega)
  have hI := QT_I hT
  have i1 := hI.1; have i2 := hI.2.1
  obtain ⟨h1, x1, x2, x3, x4⟩ := L_mlk0 (d := d) hT.1 10000 0 h hT.2.1 (Int.le_refl _) (by decide)
  have K1 : KQ h1 (gNow A) := by
    refine ⟨MH_fr hT.2.1 (fun j _ => by rw [x2 483 (by decide)]), by rw [x2 484 (by decide)]; exact hT.2.2.2.1, ?_⟩
    have h3 := hT.2.2.2.2
    unfold mFr HCs HC at h3 ⊢
    rw [x2 483 (by decide), x2 494 (by decide)]
    exact h3
  have M1 : metM h1 (gNow A) 0 0 := fun v v0 v1 => by rw [x4 v v0 v1, bI_f seen_0]
  have Q1 : QM h h1 := ⟨fun b hb => x2 b (by unfold qRow at hb; omega), fun i _ => by rw [x2 483 (by decide)]⟩
  obtain ⟨h2, y1, y2, y3⟩ := L_mlk1 (d := d) (by omega) hT.1 hI (aHi (gNow A)).toNat 0 0 h1 K1 M1 (Int.le_refl _) (by omega) (Int.le_refl _) (by omega)
  rw [P_M_looks, x1, mK_r, if_pos rfl]
  simp only [mP_0]
  rw [y1, mK_r, if_pos rfl]
  simp only [mP_1]
  rw [Int.zero_add]
  exact ⟨h2, rfl, QT_QM hT (QM_tr Q1 y2) y3.2.2, MN_QM (QM_tr Q1 y2)⟩
end PU
