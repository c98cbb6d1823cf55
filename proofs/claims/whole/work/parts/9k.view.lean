/-! PURE: what is counted on a view. Printed by wip/whole/gen/gen9k.py. -/
section PU
variable {d : Nat} {w : mm_W} {h : mm_H} {s : aS} {V : Int}
theorem E_vMask (hd : 2 ≤ d) (hV : vOk V) (hVW : VW w V) (hH : VH h V) (hI : aI s) (hC : cVw h V s) {r c : Int} (hr : 0 ≤ r ∧ r < aHi s) (hc : 0 ≤ c ∧ c < aWi s) : mm_P d 126 [(2, V), (0, r), (0, c)] w h = some ((0, msk s r c (aN s).toNat), w, h) := by
  obtain ⟨d, rfl, hd2⟩ := mm_dS hd; clear hd; have hd := hd2; clear hd2
  have i1 := hI.1; have i2 := hI.2.1
  rw [P_Vw_maskAt, mF_t (by rw [hVW.1]), E_placeOf hd (by omega) (by omega) (by omega) (by omega), mC_s, hH 0 (by decide) (by decide), show V + 1 + 0 = V + 1 by omega, E_peek_t hd hVW.2.1 (by omega) (by omega), mC_s, hC.2.1 r c hr.1 hr.2 hc.1 hc.2]
theorem E_vSource (hd : 2 ≤ d) (hV : vOk V) (hVW : VW w V) (hH : VH h V) (hI : aI s) (hC : cVw h V s) {p r c : Int} (hp : 0 ≤ p ∧ p < 4) (hr : 0 ≤ r ∧ r < aHi s) (hc : 0 ≤ c ∧ c < aWi s) : mm_P d 127 [(2, V), (0, p), (0, r), (0, c)] w h = some ((0, fromA s p r c), w, h) := by
  obtain ⟨d, rfl, hd2⟩ := mm_dS hd; clear hd; have hd := hd2; clear hd2
  have i1 := hI.1; have i2 := hI.2.1
  have e := ((hC.2.2 r c hr.1 hr.2 hc.1 hc.2).1 p hp.1 hp.2).1
  rw [show 256 * p + 16 * r + c = p * 256 + (16 * r + c) by omega] at e
  rw [P_Vw_sourceAt, mF_t (by rw [hVW.1]), E_placeOf hd (by omega) (by omega) (by omega) (by omega), mC_s, hH 1 (by decide) (by decide), show V + 1 + 1 = V + 2 by omega, mI_id (x := p * 256) (by omega) (by omega), mI_id (x := p * 256 + (16 * r + c)) (by omega) (by omega), E_peek_t hd hVW.2.2.1 (by omega) (by omega), mC_s, e]
theorem E_vNumber (hd : 2 ≤ d) (hV : vOk V) (hVW : VW w V) (hH : VH h V) (hI : aI s) (hC : cVw h V s) {p r c : Int} (hp : 0 ≤ p ∧ p < 4) (hr : 0 ≤ r ∧ r < aHi s) (hc : 0 ≤ c ∧ c < aWi s) : mm_P d 128 [(2, V), (0, p), (0, r), (0, c)] w h = some ((0, numA s p r c), w, h) := by
  obtain ⟨d, rfl, hd2⟩ := mm_dS hd; clear hd; have hd := hd2; clear hd2
  have i1 := hI.1; have i2 := hI.2.1
  have e := ((hC.2.2 r c hr.1 hr.2 hc.1 hc.2).1 p hp.1 hp.2).2
  rw [show 256 * p + 16 * r + c = p * 256 + (16 * r + c) by omega] at e
  rw [P_Vw_numberAt, mF_t (by rw [hVW.1]), E_placeOf hd (by omega) (by omega) (by omega) (by omega), mC_s, hH 2 (by decide) (by decide), show V + 1 + 2 = V + 3 by omega, mI_id (x := p * 256) (by omega) (by omega), mI_id (x := p * 256 + (16 * r + c)) (by omega) (by omega), E_peek_t hd hVW.2.2.2.1 (by omega) (by omega), mC_s, e]
theorem E_vLook (hd : 2 ≤ d) (hV : vOk V) (hVW : VW w V) (hH : VH h V) (hI : aI s) (hC : cVw h V s) {r c : Int} (hr : 0 ≤ r ∧ r < aHi s) (hc : 0 ≤ c ∧ c < aWi s) : mm_P d 129 [(2, V), (0, r), (0, c)] w h = some ((0, lookA s r c), w, h) := by
  obtain ⟨d, rfl, hd2⟩ := mm_dS hd; clear hd; have hd := hd2; clear hd2
  have i1 := hI.1; have i2 := hI.2.1
  rw [P_Vw_lookAt, mF_t (by rw [hVW.1]), E_placeOf hd (by omega) (by omega) (by omega) (by omega), mC_s, hH 3 (by decide) (by decide), show V + 1 + 3 = V + 4 by omega, E_peek_t hd hVW.2.2.2.2.1 (by omega) (by omega), mC_s, (hC.2.2 r c hr.1 hr.2 hc.1 hc.2).2]
theorem L_held1 (hd : 2 ≤ d) (hV : vOk V) (hVW : VW w V) (hH : VH h V) (hI : aI s) (hC : cVw h V s) {k : Int} (hk : 0 ≤ k ∧ k < aN s) {r : Int} (hr : 0 ≤ r ∧ r < aHi s) : ∀ (m : Nat) (c acc : Int), 0 ≤ c → c + m = aWi s → 0 ≤ acc → acc + m < 1000 → l_Vw_cellsHeldBy_1 (mm_P d) V k acc r c w h = some (.inr (44, [(2, V), (0, k), (0, acc + sumN (fun c => bI (hldA s k r c)) m c), (0, r), (0, aWi s)], w, h)) := by
  have wV : (w.1 V).1 = 11 := by rw [hVW.1]
  have i1 := hI.1; have i2 := hI.2.1
  intro m
  induction m with
  | zero =>
    intro c acc a1 a2 a3 a4
    rw [l_Vw_cellsHeldBy_1_eq, mF_t wV, hC.1.2, mLe_t (by omega)]
    have e : sumN (fun c => bI (hldA s k r c)) 0 c = 0 := rfl
    rw [e, show c = aWi s by omega, show acc + 0 = acc by omega]
  | succ m ih =>
    intro c acc a1 a2 a3 a4
    have e : sumN (fun c => bI (hldA s k r c)) (m + 1) c = bI (hldA s k r c) + sumN (fun c => bI (hldA s k r c)) m (c + 1) := rfl
    have hc : 0 ≤ c ∧ c < aWi s := by omega
    have b := bI_le (hldA s k r c)
    rw [l_Vw_cellsHeldBy_1_eq, mF_t wV, hC.1.2, mLe_f (by omega), mF_t wV, E_vMask hd hV hVW hH hI hC hr hc, mC_s, e, bits_A hI k hk.1 hk.2]
    try dsimp only
    rw [mI_id (x := c + 1) (by omega) (by omega), mI_id (x := acc + bI (hldA s k r c)) (by omega) (by omega), ih (c + 1) _ (by omega) (by omega) (by omega) (by omega), Int.add_assoc]
theorem L_held0 (hd : 2 ≤ d) (hV : vOk V) (hVW : VW w V) (hH : VH h V) (hI : aI s) (hC : cVw h V s) {k : Int} (hk : 0 ≤ k ∧ k < aN s) : ∀ (m : Nat) (r acc : Int), 0 ≤ r → r + m = aHi s → 0 ≤ acc → acc + 16 * m < 900 → l_Vw_cellsHeldBy_0 (mm_P d) V k acc r w h = some (.inr (50, [(2, V), (0, k), (0, acc + sumN (fun r => sumN (fun c => bI (hldA s k r c)) (aWi s).toNat 0) m r), (0, aHi s), (9, 0)], w, h)) := by
  have wV : (w.1 V).1 = 11 := by rw [hVW.1]
  have i1 := hI.1; have i2 := hI.2.1
  intro m
  induction m with
  | zero =>
    intro r acc a1 a2 a3 a4
    rw [l_Vw_cellsHeldBy_0_eq, mF_t wV, hC.1.1, mLe_t (by omega)]
    have e : sumN (fun r => sumN (fun c => bI (hldA s k r c)) (aWi s).toNat 0) 0 r = 0 := rfl
    rw [e, show r = aHi s by omega, show acc + 0 = acc by omega]
  | succ m ih =>
    intro r acc a1 a2 a3 a4
    have e : sumN (fun r => sumN (fun c => bI (hldA s k r c)) (aWi s).toNat 0) (m + 1) r = sumN (fun c => bI (hldA s k r c)) (aWi s).toNat 0 + sumN (fun r => sumN (fun c => bI (hldA s k r c)) (aWi s).toNat 0) m (r + 1) := rfl
    have b := sumN_le (f := fun c => bI (hldA s k r c)) (a := 0) (b := 1) (aWi s).toNat 0 (fun c _ _ => bI_le _)
    rw [l_Vw_cellsHeldBy_0_eq, mF_t wV, hC.1.1, mLe_f (by omega), L_held1 hd hV hVW hH hI hC hk (by omega) (aWi s).toNat 0 acc (by decide) (by omega) a3 (by omega), mK_r, if_pos rfl]
    simp only [mP_0, mP_1, mP_2, mP_3, mP_4]
    rw [mI_id (x := r + 1) (by omega) (by omega), ih (r + 1) _ (by omega) (by omega) (by omega) (by omega), e, Int.add_assoc]
theorem E_held (hd : 3 ≤ d) (hV : vOk V) (hVW : VW w V) (hH : VH h V) (hI : aI s) (hC : cVw h V s) {k : Int} (hk : 0 ≤ k ∧ k < aN s) : mm_P d 130 [(2, V), (0, k)] w h = some ((0, sum2 (fun r c => bI (hldA s k r c)) (aHi s).toNat (aWi s).toNat 0 0), w, h) := by
  obtain ⟨d, rfl, hd2⟩ := mm_dS hd; clear hd; have hd := hd2; clear hd2
  have i1 := hI.1
  rw [P_Vw_cellsHeldBy, L_held0 (by omega) hV hVW hH hI hC hk (aHi s).toNat 0 0 (by decide) (by omega) (by decide) (by omega), mK_r, if_pos rfl]
  simp only [mP_2, mP_3]
  rw [Int.zero_add]
  rfl
theorem L_shby1 (hd : 2 ≤ d) (hV : vOk V) (hVW : VW w V) (hH : VH h V) (hI : aI s) (hC : cVw h V s) {k p : Int} (hk : 0 ≤ k ∧ k < aN s) (hp : 0 ≤ p ∧ p < 4) {r : Int} (hr : 0 ≤ r ∧ r < aHi s) : ∀ (m : Nat) (c acc : Int), 0 ≤ c → c + m = aWi s → 0 ≤ acc → acc + m < 1000 → l_Vw_cellsShownBy_1 (mm_P d) V k p acc r c w h = some (.inr (50, [(2, V), (0, k), (0, p), (0, acc + sumN (fun c => bI (fromA s p r c = 4 + k)) m c), (0, r), (0, aWi s)], w, h)) := by
  have wV : (w.1 V).1 = 11 := by rw [hVW.1]
  have i1 := hI.1; have i2 := hI.2.1
  intro m
  induction m with
  | zero =>
    intro c acc a1 a2 a3 a4
    rw [l_Vw_cellsShownBy_1_eq, mF_t wV, hC.1.2, mLe_t (by omega)]
    have e : sumN (fun c => bI (fromA s p r c = 4 + k)) 0 c = 0 := rfl
    rw [e, show c = aWi s by omega, show acc + 0 = acc by omega]
  | succ m ih =>
    intro c acc a1 a2 a3 a4
    have e : sumN (fun c => bI (fromA s p r c = 4 + k)) (m + 1) c = bI (fromA s p r c = 4 + k) + sumN (fun c => bI (fromA s p r c = 4 + k)) m (c + 1) := rfl
    have hc : 0 ≤ c ∧ c < aWi s := by omega
    have hn := hI.2.2.1
    rw [l_Vw_cellsShownBy_1_eq, mF_t wV, hC.1.2, mLe_f (by omega), mF_t wV, E_vSource hd hV hVW hH hI hC hp hr hc, mC_s, e, mI_id (x := 4 + k) (by omega) (by omega)]
    try dsimp only
    rw [mI_id (x := c + 1) (by omega) (by omega), mI_id (x := acc + 1) (by omega) (by omega)]
    by_cases q : fromA s p r c = 4 + k
    · rw [bI_t q, mEq_t q, ih (c + 1) (acc + 1) (by omega) (by omega) (by omega) (by omega), Int.add_assoc]
    · rw [bI_f q, mEq_f q, ih (c + 1) acc (by omega) (by omega) (by omega) (by omega), Int.zero_add]
theorem L_shby0 (hd : 2 ≤ d) (hV : vOk V) (hVW : VW w V) (hH : VH h V) (hI : aI s) (hC : cVw h V s) {k p : Int} (hk : 0 ≤ k ∧ k < aN s) (hp : 0 ≤ p ∧ p < 4) : ∀ (m : Nat) (r acc : Int), 0 ≤ r → r + m = aHi s → 0 ≤ acc → acc + 16 * m < 900 → l_Vw_cellsShownBy_0 (mm_P d) V k p acc r w h = some (.inr (56, [(2, V), (0, k), (0, p), (0, acc + sumN (fun r => sumN (fun c => bI (fromA s p r c = 4 + k)) (aWi s).toNat 0) m r), (0, aHi s), (9, 0)], w, h)) := by
  have wV : (w.1 V).1 = 11 := by rw [hVW.1]
  have i1 := hI.1; have i2 := hI.2.1
  intro m
  induction m with
  | zero =>
    intro r acc a1 a2 a3 a4
    rw [l_Vw_cellsShownBy_0_eq, mF_t wV, hC.1.1, mLe_t (by omega)]
    have e : sumN (fun r => sumN (fun c => bI (fromA s p r c = 4 + k)) (aWi s).toNat 0) 0 r = 0 := rfl
    rw [e, show r = aHi s by omega, show acc + 0 = acc by omega]
  | succ m ih =>
    intro r acc a1 a2 a3 a4
    have e : sumN (fun r => sumN (fun c => bI (fromA s p r c = 4 + k)) (aWi s).toNat 0) (m + 1) r = sumN (fun c => bI (fromA s p r c = 4 + k)) (aWi s).toNat 0 + sumN (fun r => sumN (fun c => bI (fromA s p r c = 4 + k)) (aWi s).toNat 0) m (r + 1) := rfl
    have b := sumN_le (f := fun c => bI (fromA s p r c = 4 + k)) (a := 0) (b := 1) (aWi s).toNat 0 (fun c _ _ => bI_le _)
    rw [l_Vw_cellsShownBy_0_eq, mF_t wV, hC.1.1, mLe_f (by omega), L_shby1 hd hV hVW hH hI hC hk hp (by omega) (aWi s).toNat 0 acc (by decide) (by omega) a3 (by omega), mK_r, if_pos rfl]
    simp only [mP_0, mP_1, mP_2, mP_3, mP_4]
    rw [mI_id (x := r + 1) (by omega) (by omega), ih (r + 1) _ (by omega) (by omega) (by omega) (by omega), e, Int.add_assoc]
theorem E_shby (hd : 3 ≤ d) (hV : vOk V) (hVW : VW w V) (hH : VH h V) (hI : aI s) (hC : cVw h V s) {k p : Int} (hk : 0 ≤ k ∧ k < aN s) (hp : 0 ≤ p ∧ p < 4) : mm_P d 131 [(2, V), (0, k), (0, p)] w h = some ((0, sum2 (fun r c => bI (fromA s p r c = 4 + k)) (aHi s).toNat (aWi s).toNat 0 0), w, h) := by
  obtain ⟨d, rfl, hd2⟩ := mm_dS hd; clear hd; have hd := hd2; clear hd2
  have i1 := hI.1
  rw [P_Vw_cellsShownBy, L_shby0 (by omega) hV hVW hH hI hC hk hp (aHi s).toNat 0 0 (by decide) (by omega) (by decide) (by omega), mK_r, if_pos rfl]
  simp only [mP_2, mP_3]
  rw [Int.zero_add]
  rfl
theorem L_lkng1 (hd : 2 ≤ d) (hV : vOk V) (hVW : VW w V) (hH : VH h V) (hI : aI s) (hC : cVw h V s) {k : Int} {r : Int} (hr : 0 ≤ r ∧ r < aHi s) : ∀ (m : Nat) (c acc : Int), 0 ≤ c → c + m = aWi s → 0 ≤ acc → acc + m < 1000 → l_Vw_cellsLooking_1 (mm_P d) V k acc r c w h = some (.inr (44, [(2, V), (0, k), (0, acc + sumN (fun c => bI (lookA s r c = k)) m c), (0, r), (0, aWi s)], w, h)) := by
  have wV : (w.1 V).1 = 11 := by rw [hVW.1]
  have i1 := hI.1; have i2 := hI.2.1
  intro m
  induction m with
  | zero =>
    intro c acc a1 a2 a3 a4
    rw [l_Vw_cellsLooking_1_eq, mF_t wV, hC.1.2, mLe_t (by omega)]
    have e : sumN (fun c => bI (lookA s r c = k)) 0 c = 0 := rfl
    rw [e, show c = aWi s by omega, show acc + 0 = acc by omega]
  | succ m ih =>
    intro c acc a1 a2 a3 a4
    have e : sumN (fun c => bI (lookA s r c = k)) (m + 1) c = bI (lookA s r c = k) + sumN (fun c => bI (lookA s r c = k)) m (c + 1) := rfl
    have hc : 0 ≤ c ∧ c < aWi s := by omega
    rw [l_Vw_cellsLooking_1_eq, mF_t wV, hC.1.2, mLe_f (by omega), mF_t wV, E_vLook hd hV hVW hH hI hC hr hc, mC_s, e]
    try dsimp only
    rw [mI_id (x := c + 1) (by omega) (by omega), mI_id (x := acc + 1) (by omega) (by omega)]
    by_cases q : lookA s r c = k
    · rw [bI_t q, mEq_t q, ih (c + 1) (acc + 1) (by omega) (by omega) (by omega) (by omega), Int.add_assoc]
    · rw [bI_f q, mEq_f q, ih (c + 1) acc (by omega) (by omega) (by omega) (by omega), Int.zero_add]
theorem L_lkng0 (hd : 2 ≤ d) (hV : vOk V) (hVW : VW w V) (hH : VH h V) (hI : aI s) (hC : cVw h V s) {k : Int} : ∀ (m : Nat) (r acc : Int), 0 ≤ r → r + m = aHi s → 0 ≤ acc → acc + 16 * m < 900 → l_Vw_cellsLooking_0 (mm_P d) V k acc r w h = some (.inr (50, [(2, V), (0, k), (0, acc + sumN (fun r => sumN (fun c => bI (lookA s r c = k)) (aWi s).toNat 0) m r), (0, aHi s), (9, 0)], w, h)) := by
  have wV : (w.1 V).1 = 11 := by rw [hVW.1]
  have i1 := hI.1; have i2 := hI.2.1
  intro m
  induction m with
  | zero =>
    intro r acc a1 a2 a3 a4
    rw [l_Vw_cellsLooking_0_eq, mF_t wV, hC.1.1, mLe_t (by omega)]
    have e : sumN (fun r => sumN (fun c => bI (lookA s r c = k)) (aWi s).toNat 0) 0 r = 0 := rfl
    rw [e, show r = aHi s by omega, show acc + 0 = acc by omega]
  | succ m ih =>
    intro r acc a1 a2 a3 a4
    have e : sumN (fun r => sumN (fun c => bI (lookA s r c = k)) (aWi s).toNat 0) (m + 1) r = sumN (fun c => bI (lookA s r c = k)) (aWi s).toNat 0 + sumN (fun r => sumN (fun c => bI (lookA s r c = k)) (aWi s).toNat 0) m (r + 1) := rfl
    have b := sumN_le (f := fun c => bI (lookA s r c = k)) (a := 0) (b := 1) (aWi s).toNat 0 (fun c _ _ => bI_le _)
    rw [l_Vw_cellsLooking_0_eq, mF_t wV, hC.1.1, mLe_f (by omega), L_lkng1 hd hV hVW hH hI hC (k := k) (by omega) (aWi s).toNat 0 acc (by decide) (by omega) a3 (by omega), mK_r, if_pos rfl]
    simp only [mP_0, mP_1, mP_2, mP_3, mP_4]
    rw [mI_id (x := r + 1) (by omega) (by omega), ih (r + 1) _ (by omega) (by omega) (by omega) (by omega), e, Int.add_assoc]
theorem E_lkng (hd : 3 ≤ d) (hV : vOk V) (hVW : VW w V) (hH : VH h V) (hI : aI s) (hC : cVw h V s) {k : Int} : mm_P d 133 [(2, V), (0, k)] w h = some ((0, sum2 (fun r c => bI (lookA s r c = k)) (aHi s).toNat (aWi s).toNat 0 0), w, h) := by
  obtain ⟨d, rfl, hd2⟩ := mm_dS hd; clear hd; have hd := hd2; clear hd2
  have i1 := hI.1
  rw [P_Vw_cellsLooking, L_lkng0 (by omega) hV hVW hH hI hC (k := k) (aHi s).toNat 0 0 (by decide) (by omega) (by decide) (by omega), mK_r, if_pos rfl]
  simp only [mP_2, mP_3]
  rw [Int.zero_add]
  rfl
theorem L_unlk1 (hd : 2 ≤ d) (hV : vOk V) (hVW : VW w V) (hH : VH h V) (hI : aI s) (hC : cVw h V s) {U : Int} {t : aS} (hU : vOk U) (hUW : VW w U) (hUH : VH h U) (hIt : aI t) (hUC : cVw h U t) (hsz : aHi t = aHi s ∧ aWi t = aWi s) {r : Int} (hr : 0 ≤ r ∧ r < aHi s) : ∀ (m : Nat) (c acc : Int), 0 ≤ c → c + m = aWi s → 0 ≤ acc → acc + m < 1000 → l_Vw_cellsUnlike_1 (mm_P d) V U acc r c w h = some (.inr (50, [(2, V), (2, U), (0, acc + sumN (fun c => bI (lookA s r c ≠ lookA t r c)) m c), (0, r), (0, aWi s)], w, h)) := by
  have wV : (w.1 V).1 = 11 := by rw [hVW.1]
  have i1 := hI.1; have i2 := hI.2.1
  intro m
  induction m with
  | zero =>
    intro c acc a1 a2 a3 a4
    rw [l_Vw_cellsUnlike_1_eq, mF_t wV, hC.1.2, mLe_t (by omega)]
    have e : sumN (fun c => bI (lookA s r c ≠ lookA t r c)) 0 c = 0 := rfl
    rw [e, show c = aWi s by omega, show acc + 0 = acc by omega]
  | succ m ih =>
    intro c acc a1 a2 a3 a4
    have e : sumN (fun c => bI (lookA s r c ≠ lookA t r c)) (m + 1) c = bI (lookA s r c ≠ lookA t r c) + sumN (fun c => bI (lookA s r c ≠ lookA t r c)) m (c + 1) := rfl
    have hc : 0 ≤ c ∧ c < aWi s := by omega
    have wU : (w.1 U).1 = 11 := by rw [hUW.1]
    rw [l_Vw_cellsUnlike_1_eq, mF_t wV, hC.1.2, mLe_f (by omega), mF_t wV, E_vLook hd hV hVW hH hI hC hr hc, mC_s, mF_t wU, E_vLook hd hU hUW hUH hIt hUC (by rw [hsz.1]; exact hr) (by rw [hsz.2]; exact hc), mC_s, e]
    try dsimp only
    rw [mI_id (x := c + 1) (by omega) (by omega), mI_id (x := acc + 1) (by omega) (by omega)]
    by_cases q : lookA s r c = lookA t r c
    · rw [bI_f (fun x => x q), mEq_t q, ih (c + 1) acc (by omega) (by omega) (by omega) (by omega), Int.zero_add]
    · rw [bI_t q, mEq_f q, ih (c + 1) (acc + 1) (by omega) (by omega) (by omega) (by omega), Int.add_assoc]
theorem L_unlk0 (hd : 2 ≤ d) (hV : vOk V) (hVW : VW w V) (hH : VH h V) (hI : aI s) (hC : cVw h V s) {U : Int} {t : aS} (hU : vOk U) (hUW : VW w U) (hUH : VH h U) (hIt : aI t) (hUC : cVw h U t) (hsz : aHi t = aHi s ∧ aWi t = aWi s) : ∀ (m : Nat) (r acc : Int), 0 ≤ r → r + m = aHi s → 0 ≤ acc → acc + 16 * m < 900 → l_Vw_cellsUnlike_0 (mm_P d) V U acc r w h = some (.inr (56, [(2, V), (2, U), (0, acc + sumN (fun r => sumN (fun c => bI (lookA s r c ≠ lookA t r c)) (aWi s).toNat 0) m r), (0, aHi s), (9, 0)], w, h)) := by
  have wV : (w.1 V).1 = 11 := by rw [hVW.1]
  have i1 := hI.1; have i2 := hI.2.1
  intro m
  induction m with
  | zero =>
    intro r acc a1 a2 a3 a4
    rw [l_Vw_cellsUnlike_0_eq, mF_t wV, hC.1.1, mLe_t (by omega)]
    have e : sumN (fun r => sumN (fun c => bI (lookA s r c ≠ lookA t r c)) (aWi s).toNat 0) 0 r = 0 := rfl
    rw [e, show r = aHi s by omega, show acc + 0 = acc by omega]
  | succ m ih =>
    intro r acc a1 a2 a3 a4
    have e : sumN (fun r => sumN (fun c => bI (lookA s r c ≠ lookA t r c)) (aWi s).toNat 0) (m + 1) r = sumN (fun c => bI (lookA s r c ≠ lookA t r c)) (aWi s).toNat 0 + sumN (fun r => sumN (fun c => bI (lookA s r c ≠ lookA t r c)) (aWi s).toNat 0) m (r + 1) := rfl
    have b := sumN_le (f := fun c => bI (lookA s r c ≠ lookA t r c)) (a := 0) (b := 1) (aWi s).toNat 0 (fun c _ _ => bI_le _)
    rw [l_Vw_cellsUnlike_0_eq, mF_t wV, hC.1.1, mLe_f (by omega), L_unlk1 hd hV hVW hH hI hC hU hUW hUH hIt hUC hsz (by omega) (aWi s).toNat 0 acc (by decide) (by omega) a3 (by omega), mK_r, if_pos rfl]
    simp only [mP_0, mP_1, mP_2, mP_3, mP_4]
    rw [mI_id (x := r + 1) (by omega) (by omega), ih (r + 1) _ (by omega) (by omega) (by omega) (by omega), e, Int.add_assoc]
theorem E_unlk (hd : 3 ≤ d) (hV : vOk V) (hVW : VW w V) (hH : VH h V) (hI : aI s) (hC : cVw h V s) {U : Int} {t : aS} (hU : vOk U) (hUW : VW w U) (hUH : VH h U) (hIt : aI t) (hUC : cVw h U t) (hsz : aHi t = aHi s ∧ aWi t = aWi s) : mm_P d 134 [(2, V), (2, U)] w h = some ((0, sum2 (fun r c => bI (lookA s r c ≠ lookA t r c)) (aHi s).toNat (aWi s).toNat 0 0), w, h) := by
  obtain ⟨d, rfl, hd2⟩ := mm_dS hd; clear hd; have hd := hd2; clear hd2
  have i1 := hI.1
  rw [P_Vw_cellsUnlike, L_unlk0 (by omega) hV hVW hH hI hC hU hUW hUH hIt hUC hsz (aHi s).toNat 0 0 (by decide) (by omega) (by decide) (by omega), mK_r, if_pos rfl]
  simp only [mP_2, mP_3]
  rw [Int.zero_add]
  rfl
/-- the cells of a rectangle that show a number -/
noncomputable def shwN (s : aS) (p v n : Int) : Int := sum2 (fun r c => bI (numA s p r c = v)) (n / 100 % 100 - n / 1000000 + 1).toNat (n % 100 - n / 10000 % 100 + 1).toNat (n / 1000000) (n / 10000 % 100)
theorem L_shwg1 (hd : 2 ≤ d) (hV : vOk V) (hVW : VW w V) (hH : VH h V) (hI : aI s) (hC : cVw h V s) {p v n r : Int} (hp : 0 ≤ p ∧ p < 4) (hn : isRect (aHi s) (aWi s) n) (hm : n < 2147483648) (hr : 0 ≤ r ∧ r < aHi s) : ∀ (m : Nat) (c acc : Int), n / 10000 % 100 ≤ c → c + m = n % 100 + 1 → 0 ≤ acc → acc + m < 1000 → l_Vw_cellsShowing_1 (mm_P d) V p v n acc r c w h = some (.inr (55, [(2, V), (0, p), (0, v), (0, n), (0, acc + sumN (fun c => bI (numA s p r c = v)) m c), (0, r), (0, n % 100 + 1)], w, h)) := by
  have wV : (w.1 V).1 = 11 := by rw [hVW.1]
  have i1 := hI.1; have i2 := hI.2.1
  have hn' := hn
  unfold isRect at hn'
  intro m
  induction m with
  | zero =>
    intro c acc a1 a2 a3 a4
    rw [l_Vw_cellsShowing_1_eq, E_rightOf (by omega) hn'.1 hm, mC_s, mLt_t (by omega)]
    have e : sumN (fun c => bI (numA s p r c = v)) 0 c = 0 := rfl
    rw [e, show c = n % 100 + 1 by omega, show acc + 0 = acc by omega]
  | succ m ih =>
    intro c acc a1 a2 a3 a4
    have e : sumN (fun c => bI (numA s p r c = v)) (m + 1) c = bI (numA s p r c = v) + sumN (fun c => bI (numA s p r c = v)) m (c + 1) := rfl
    rw [l_Vw_cellsShowing_1_eq, E_rightOf (by omega) hn'.1 hm, mC_s, mLt_f (by omega), mF_t wV, E_vNumber hd hV hVW hH hI hC hp hr (c := c) (by omega), mC_s, e]
    try dsimp only
    rw [mI_id (x := c + 1) (by omega) (by omega), mI_id (x := acc + 1) (by omega) (by omega)]
    by_cases q : numA s p r c = v
    · rw [bI_t q, mEq_t q, ih (c + 1) (acc + 1) (by omega) (by omega) (by omega) (by omega), Int.add_assoc]
    · rw [bI_f q, mEq_f q, ih (c + 1) acc (by omega) (by omega) (by omega) (by omega), Int.zero_add]
theorem L_shwg0 (hd : 2 ≤ d) (hV : vOk V) (hVW : VW w V) (hH : VH h V) (hI : aI s) (hC : cVw h V s) {p v n : Int} (hp : 0 ≤ p ∧ p < 4) (hn : isRect (aHi s) (aWi s) n) (hm : n < 2147483648) : ∀ (m : Nat) (r acc : Int), n / 1000000 ≤ r → r + m = n / 100 % 100 + 1 → 0 ≤ acc → acc + 16 * m < 900 → l_Vw_cellsShowing_0 (mm_P d) V p v n acc r w h = some (.inr (61, [(2, V), (0, p), (0, v), (0, n), (0, acc + sumN (fun r => sumN (fun c => bI (numA s p r c = v)) (n % 100 - n / 10000 % 100 + 1).toNat (n / 10000 % 100)) m r), (0, n / 100 % 100 + 1), (9, 0)], w, h)) := by
  have i1 := hI.1; have i2 := hI.2.1
  have hn' := hn
  unfold isRect at hn'
  intro m
  induction m with
  | zero =>
    intro r acc a1 a2 a3 a4
    rw [l_Vw_cellsShowing_0_eq, E_bottomOf (by omega) hn'.1 hm, mC_s, mLt_t (by omega)]
    have e : sumN (fun r => sumN (fun c => bI (numA s p r c = v)) (n % 100 - n / 10000 % 100 + 1).toNat (n / 10000 % 100)) 0 r = 0 := rfl
    rw [e, show r = n / 100 % 100 + 1 by omega, show acc + 0 = acc by omega]
  | succ m ih =>
    intro r acc a1 a2 a3 a4
    have e : sumN (fun r => sumN (fun c => bI (numA s p r c = v)) (n % 100 - n / 10000 % 100 + 1).toNat (n / 10000 % 100)) (m + 1) r = sumN (fun c => bI (numA s p r c = v)) (n % 100 - n / 10000 % 100 + 1).toNat (n / 10000 % 100) + sumN (fun r => sumN (fun c => bI (numA s p r c = v)) (n % 100 - n / 10000 % 100 + 1).toNat (n / 10000 % 100)) m (r + 1) := rfl
    have b := sumN_le (f := fun c => bI (numA s p r c = v)) (a := 0) (b := 1) (n % 100 - n / 10000 % 100 + 1).toNat (n / 10000 % 100) (fun c _ _ => bI_le _)
    rw [l_Vw_cellsShowing_0_eq, E_bottomOf (by omega) hn'.1 hm, mC_s, mLt_f (by omega), E_leftOf (by omega) hn'.1 hm, mC_s, L_shwg1 hd hV hVW hH hI hC hp hn hm (r := r) (by omega) (n % 100 - n / 10000 % 100 + 1).toNat (n / 10000 % 100) acc (by omega) (by omega) a3 (by omega), mK_r, if_pos rfl]
    simp only [mP_0, mP_1, mP_2, mP_3, mP_4, mP_5]
    rw [mI_id (x := r + 1) (by omega) (by omega), ih (r + 1) _ (by omega) (by omega) (by omega) (by omega), e, Int.add_assoc]
theorem E_shwg (hd : 3 ≤ d) (hV : vOk V) (hVW : VW w V) (hH : VH h V) (hI : aI s) (hC : cVw h V s) {p v n : Int} (hp : 0 ≤ p ∧ p < 4) (hn : isRect (aHi s) (aWi s) n) (hm : n < 2147483648) : mm_P d 132 [(2, V), (0, p), (0, v), (0, n)] w h = some ((0, shwN s p v n), w, h) := by
  obtain ⟨d, rfl, hd2⟩ := mm_dS hd; clear hd; have hd := hd2; clear hd2
  have i1 := hI.1
  have hn' := hn
  unfold isRect at hn'
  rw [P_Vw_cellsShowing, E_topOf (by omega) hn'.1 hm, mC_s, L_shwg0 (by omega) hV hVW hH hI hC hp hn hm (n / 100 % 100 - n / 1000000 + 1).toNat (n / 1000000) 0 (by omega) (by omega) (by decide) (by omega), mK_r, if_pos rfl]
  simp only [mP_4]
  rw [Int.zero_add]
  rfl
/-- stripes -/
theorem L_strp (hd : 2 ≤ d) (hV : vOk V) (hVW : VW w V) (hH : VH h V) (hI : aI s) (hC : cVw h V s) {r : Int} (hr : 0 ≤ r ∧ r < aHi s) : ∀ (m : Nat) (c acc : Int), 1 ≤ c → c + m = aWi s → 0 ≤ acc → acc + m < 1000 → l_Vw_stripesOf_0 (mm_P d) V r acc c w h = some (.inr (38, [(2, V), (0, r), (0, acc + sumN (fun c => bI (lookA s r c ≠ lookA s r (c - 1))) m c), (0, aWi s)], w, h)) := by
  have wV : (w.1 V).1 = 11 := by rw [hVW.1]
  have i1 := hI.1; have i2 := hI.2.1
  intro m
  induction m with
  | zero =>
    intro c acc a1 a2 a3 a4
    rw [l_Vw_stripesOf_0_eq, mF_t wV, hC.1.2, mLe_t (by omega)]
    have e : sumN (fun c => bI (lookA s r c ≠ lookA s r (c - 1))) 0 c = 0 := rfl
    rw [e, show c = aWi s by omega, show acc + 0 = acc by omega]
  | succ m ih =>
    intro c acc a1 a2 a3 a4
    have e : sumN (fun c => bI (lookA s r c ≠ lookA s r (c - 1))) (m + 1) c = bI (lookA s r c ≠ lookA s r (c - 1)) + sumN (fun c => bI (lookA s r c ≠ lookA s r (c - 1))) m (c + 1) := rfl
    rw [l_Vw_stripesOf_0_eq, mF_t wV, hC.1.2, mLe_f (by omega), mF_t wV, E_vLook hd hV hVW hH hI hC hr (c := c) (by omega), mC_s, mF_t wV, mI_id (x := c - 1) (by omega) (by omega), E_vLook hd hV hVW hH hI hC hr (c := c - 1) (by omega), mC_s, e]
    try dsimp only
    rw [mI_id (x := c + 1) (by omega) (by omega), mI_id (x := acc + 1) (by omega) (by omega)]
    by_cases q : lookA s r c = lookA s r (c - 1)
    · rw [bI_f (fun x => x q), mEq_t q, ih (c + 1) acc (by omega) (by omega) (by omega) (by omega), Int.zero_add]
    · rw [bI_t q, mEq_f q, ih (c + 1) (acc + 1) (by omega) (by omega) (by omega) (by omega), Int.add_assoc]
noncomputable def strN (s : aS) (r : Int) : Int := 1 + sumN (fun c => bI (lookA s r c ≠ lookA s r (c - 1))) (aWi s - 1).toNat 1
theorem E_strp (hd : 3 ≤ d) (hV : vOk V) (hVW : VW w V) (hH : VH h V) (hI : aI s) (hC : cVw h V s) {r : Int} (hr : 0 ≤ r ∧ r < aHi s) : mm_P d 136 [(2, V), (0, r)] w h = some ((0, strN s r), w, h) := by
  obtain ⟨d, rfl, hd2⟩ := mm_dS hd; clear hd; have hd := hd2; clear hd2
  have i2 := hI.2.1
  rw [P_Vw_stripesOf, L_strp (by omega) hV hVW hH hI hC hr (aWi s - 1).toNat 1 1 (by decide) (by omega) (by decide) (by omega), mK_r, if_pos rfl]
  simp only [mP_2]
  rfl
end PU
