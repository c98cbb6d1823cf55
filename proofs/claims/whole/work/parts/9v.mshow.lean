/-! PURE: the reference asked what a cell shows. -/
section PU
variable {d : Nat} {w : mm_W} {h : mm_H} {s : aS}
theorem L_mshow (hd : 1 ≤ d) (hW : MW w) (hI : aI s) (hH : MH h) (hR : RM (h 484) s) (hF : HCs h s) {p r c : Int} (hr : 0 ≤ r ∧ r < aHi s) (hc : 0 ≤ c ∧ c < aWi s) : ∀ (m : Nat) (k : Int), 0 ≤ k → k + m = aN s → (srcR (fun k => hldA s k r c) s p m k = -1 → l_M_showing_0 (mm_P d) 483 p r c k w h = some (.inl ((0, -1), w, h)) ∨ ∃ k' : Int, l_M_showing_0 (mm_P d) 483 p r c k w h = some (.inr (91, [(2, 483), (0, p), (0, r), (0, c), (0, k'), (9, 0)], w, h))) ∧ (srcR (fun k => hldA s k r c) s p m k ≠ -1 → l_M_showing_0 (mm_P d) 483 p r c k w h = some (.inl ((0, srcR (fun k => hldA s k r c) s p m k), w, h))) := by
  have hw : (w.1 483).1 = 13 := by rw [hW.1]
  have hn := hI.2.2.1
  have h16 := hI.1; have w16 := hI.2.1
  intro m
  induction m with
  | zero =>
    intro k k0 hk
    rw [l_M_showing_0_eq, mF_t hw, hH.1, mA_t hW.2.1 (by omega) (by omega), hR.1.2.2, mLe_t (by omega)]
    exact ⟨fun _ => Or.inr ⟨k, rfl⟩, fun h => absurd rfl h⟩
  | succ m ih =>
    intro k k0 hk
    have f4 := RM_f hR ⟨k0, by omega⟩ 4 (by decide) (by decide)
    have f6 := RM_f hR ⟨k0, by omega⟩ 6 (by decide) (by decide)
    have hv : h 494 (256 * k + (16 * r + c)) = bI (hldA s k r c) := by rw [← Int.add_assoc]; exact hF k r c k0 (by omega) hr.1 hr.2 hc.1 hc.2
    rw [l_M_showing_0_eq, mF_t hw, hH.1, mA_t hW.2.1 (by omega) (by omega), hR.1.2.2, mLe_f (by omega), mF_t hw, E_M_grid hd (by omega) (by omega) (by omega) (by omega), mC_s, MH_26 hH, mI_id (x := 256 * k) (by omega) (by omega), mI_id (x := 256 * k + (16 * r + c)) (by omega) (by omega), mAb_t (MW_494 hW) (Or.inl rfl) (by omega) (by omega), hv]
    unfold srcR
    by_cases c1 : hldA s k r c
    · rw [if_pos c1, bI_t c1, mEq_f (by decide), mI_id (x := 408 * k) (by omega) (by omega), mI_id (x := 1415 + 408 * k) (by omega) (by omega)]
      try dsimp only
      rw [mF_t hw, hH.1, mI_id (x := 1415 + 408 * k + 4) (by omega) (by omega), mA_t hW.2.1 (by omega) (by omega), f4]
      by_cases c2 : aRul s k 4 = p
      · rw [if_pos c2, mEq_t c2]
        exact ⟨fun h => by omega, fun _ => rfl⟩
      · rw [if_neg c2, mEq_f c2, mF_t hw, mI_id (x := 1415 + 408 * k + 6) (by omega) (by omega), mA_t hW.2.1 (by omega) (by omega), f6]
        by_cases c3 : aRul s k 6 = 1
        · rw [if_pos c3, mEq_t c3]
          exact ⟨fun _ => Or.inl rfl, fun h => absurd rfl h⟩
        · rw [if_neg c3, mEq_f c3]
          try dsimp only
          rw [mI_id (by omega) (by omega)]
          exact ih (k + 1) (by omega) (by omega)
    · rw [if_neg c1, bI_f c1, mEq_t rfl]
      try dsimp only
      rw [mI_id (by omega) (by omega)]
      exact ih (k + 1) (by omega) (by omega)
theorem E_M_showing_s (hd : 2 ≤ d) (hW : MW w) (hI : aI s) (hH : MH h) (hR : RM (h 484) s) (hF : mFs h s) {p r c : Int} (hr : 0 ≤ r ∧ r < aHi s) (hc : 0 ≤ c ∧ c < aWi s) : mm_P d 285 [(2, 483), (0, p), (0, r), (0, c)] w h = some ((0, srcA s p r c), w, h) := by
  obtain ⟨d, rfl, hd2⟩ := mm_dS hd; clear hd; have hd := hd2; clear hd2
  have hw : (w.1 483).1 = 13 := by rw [hW.1]
  have hn := hI.2.2.1
  rw [P_M_showing, mF_t hw, E_M_freshen_s hd hW hF, mC_s]
  obtain ⟨g1, g2⟩ := L_mshow (d := d) (p := p) hd hW hI hH hR hF.2 hr hc (aN s).toNat 0 (Int.le_refl _) (by omega)
  unfold srcA
  by_cases c0 : srcR (fun k => hldA s k r c) s p (aN s).toNat 0 = -1
  · rcases g1 c0 with g | ⟨k', g⟩
    · rw [g, mK_l, c0]
    · rw [g, mK_r, if_pos rfl, c0]
  · rw [g2 c0, mK_l]
theorem E_M_showing (hd : 13 ≤ d) (hW : MW w) (hI : aI s) (hH : MH h) (hR : RM (h 484) s) (hF : mFr h s) {p r c : Int} (hr : 0 ≤ r ∧ r < aHi s) (hc : 0 ≤ c ∧ c < aWi s) : ∃ h', mm_P d 285 [(2, 483), (0, p), (0, r), (0, c)] w h = some ((0, srcA s p r c), w, h') ∧ FQ h h' ∧ mFs h' s := by
  obtain ⟨d, rfl, hd2⟩ := mm_dS (show 12 + 1 ≤ d by omega)
  have hw : (w.1 483).1 = 13 := by rw [hW.1]
  obtain ⟨h1, x1, x2, x3⟩ := E_M_freshen hd2 hW hI hH hR hF
  refine ⟨h1, ?_, x2, x3⟩
  have g := E_M_showing_s (d := d + 1) (by omega) hW hI (FQ_MH x2 hH) (FQ_RM x2 hR) x3 (p := p) hr hc
  rw [P_M_showing, mF_t hw, E_M_freshen_s (by omega) hW x3, mC_s] at g
  rw [P_M_showing, mF_t hw, x1, mC_s]
  exact g
theorem M_num_s (hd : 2 ≤ d) (hW : MW w) (hI : aI s) (hH : MH h) (hR : RM (h 484) s) {p r c k : Int} (hp : 0 ≤ p ∧ p < 4) (hr : 0 ≤ r ∧ r < aHi s) (hc : 0 ≤ c ∧ c < aWi s) (hk : -1 ≤ k ∧ k < aN s) : mEq k (-1) (mF w 483 13 none (mC (mm_P d 232 [(2, 483), (0, p), (0, r), (0, c)] w h) 0 none (fun v4 w5 h6 => mEq v4 (-1) (mF w5 483 13 none (mC (mm_P d 251 [(2, 483), (0, p), (0, r), (0, c)] w5 h6) 0 none (fun v7 w8 h9 => some ((0, v7), w8, h9)))) (mF w5 483 13 none (mC (mm_P d 232 [(2, 483), (0, p), (0, r), (0, c)] w5 h6) 0 none (fun v10 w11 h12 => some ((0, v10), w11, h12))))))) (mF w 483 13 none (mA w (h 483 0) (mI (mI (1415 + mI (408 * k)) + 5)) 50 none (some ((0, h (h 483 0) (mI (mI (1415 + mI (408 * k)) + 5))), w, h)))) = some ((0, num s p r c k), w, h) := by
  have hw : (w.1 483).1 = 13 := by rw [hW.1]
  have hn := hI.2.2.1
  have h16 := hI.1; have w16 := hI.2.1
  unfold num
  by_cases c0 : k = -1
  · rw [mEq_t c0, mF_t hw, E_M_own hd hW hH hp (by omega) (by omega), mC_s, hR.2.2.1 p r c hp.1 hp.2 hr.1 hr.2 hc.1 hc.2, if_neg (by omega)]
    by_cases c1 : aCel s p r c = -1
    · rw [mEq_t c1, mF_t hw, E_M_beneath hd hW hH hI hR hp hr hc, mC_s, if_neg (fun x => x c1)]
    · rw [mEq_f c1, mF_t hw, E_M_own hd hW hH hp (by omega) (by omega), mC_s, hR.2.2.1 p r c hp.1 hp.2 hr.1 hr.2 hc.1 hc.2, if_pos c1]
  · have f5 := RM_f hR (k := k) (by omega) 5 (by decide) (by decide)
    rw [mEq_f c0, mF_t hw, hH.1, mI_id (x := 408 * k) (by omega) (by omega), mI_id (x := 1415 + 408 * k) (by omega) (by omega), mI_id (x := 1415 + 408 * k + 5) (by omega) (by omega), mA_t hW.2.1 (by omega) (by omega), f5, if_pos (by omega)]
theorem E_M_shows_s (hd : 3 ≤ d) (hW : MW w) (hI : aI s) (hH : MH h) (hR : RM (h 484) s) (hF : mFs h s) {p r c : Int} (hp : 0 ≤ p ∧ p < 4) (hr : 0 ≤ r ∧ r < aHi s) (hc : 0 ≤ c ∧ c < aWi s) : mm_P d 286 [(2, 483), (0, p), (0, r), (0, c)] w h = some ((0, numA s p r c), w, h) := by
  obtain ⟨d, rfl, hd2⟩ := mm_dS hd; clear hd; have hd := hd2; clear hd2
  have hw : (w.1 483).1 = 13 := by rw [hW.1]
  rw [P_M_shows, mF_t hw, E_M_showing_s hd hW hI hH hR hF hr hc, mC_s]
  exact M_num_s hd hW hI hH hR hp hr hc (srcA_in hI p r c)
theorem E_M_shows (hd : 14 ≤ d) (hW : MW w) (hI : aI s) (hH : MH h) (hR : RM (h 484) s) (hF : mFr h s) {p r c : Int} (hp : 0 ≤ p ∧ p < 4) (hr : 0 ≤ r ∧ r < aHi s) (hc : 0 ≤ c ∧ c < aWi s) : ∃ h', mm_P d 286 [(2, 483), (0, p), (0, r), (0, c)] w h = some ((0, numA s p r c), w, h') ∧ FQ h h' ∧ mFs h' s := by
  obtain ⟨d, rfl, hd2⟩ := mm_dS (show 13 + 1 ≤ d by omega)
  have hw : (w.1 483).1 = 13 := by rw [hW.1]
  obtain ⟨h1, x1, x2, x3⟩ := E_M_showing hd2 hW hI hH hR hF (p := p) hr hc
  refine ⟨h1, ?_, x2, x3⟩
  rw [P_M_shows, mF_t hw, x1, mC_s]
  exact M_num_s (by omega) hW hI (FQ_MH x2 hH) (FQ_RM x2 hR) hp hr hc (srcA_in hI p r c)
theorem E_M_look_s (hd : 4 ≤ d) (hW : MW w) (hI : aI s) (hH : MH h) (hR : RM (h 484) s) (hF : mFs h s) {r c : Int} (hr : 0 ≤ r ∧ r < aHi s) (hc : 0 ≤ c ∧ c < aWi s) : mm_P d 308 [(2, 483), (0, r), (0, c)] w h = some ((0, lookA s r c), w, h) := by
  obtain ⟨d, rfl, hd2⟩ := mm_dS hd; clear hd; have hd := hd2; clear hd2
  have hw : (w.1 483).1 = 13 := by rw [hW.1]
  have n0 := numA_in hI (p := 0) (by decide) hr hc
  have n1 := numA_in hI (p := 1) (by decide) hr hc
  have n2 := numA_in hI (p := 2) (by decide) hr hc
  have n3 := numA_in hI (p := 3) (by decide) hr hc
  rw [P_M_look, mF_t hw, E_M_shows_s hd hW hI hH hR hF (by decide) hr hc, mC_s, mF_t hw, E_M_shows_s hd hW hI hH hR hF (by decide) hr hc, mC_s, mF_t hw, E_M_shows_s hd hW hI hH hR hF (by decide) hr hc, mC_s, mF_t hw, E_M_shows_s hd hW hI hH hR hF (by decide) hr hc, mC_s]
  rw [mI_id (x := 1000 * numA s 0 r c) (by omega) (by omega), mI_id (x := 100 * numA s 1 r c) (by omega) (by omega), mI_id (x := 10 * numA s 2 r c) (by omega) (by omega), mI_id (x := 1000 * numA s 0 r c + 100 * numA s 1 r c) (by omega) (by omega), mI_id (x := 1000 * numA s 0 r c + 100 * numA s 1 r c + 10 * numA s 2 r c) (by omega) (by omega), mI_id (by omega) (by omega)]
  rfl
theorem E_M_look (hd : 15 ≤ d) (hW : MW w) (hI : aI s) (hH : MH h) (hR : RM (h 484) s) (hF : mFr h s) {r c : Int} (hr : 0 ≤ r ∧ r < aHi s) (hc : 0 ≤ c ∧ c < aWi s) : ∃ h', mm_P d 308 [(2, 483), (0, r), (0, c)] w h = some ((0, lookA s r c), w, h') ∧ FQ h h' ∧ mFs h' s := by
  obtain ⟨d, rfl, hd2⟩ := mm_dS (show 14 + 1 ≤ d by omega)
  have hw : (w.1 483).1 = 13 := by rw [hW.1]
  obtain ⟨h1, x1, x2, x3⟩ := E_M_shows hd2 hW hI hH hR hF (p := 0) (by decide) hr hc
  refine ⟨h1, ?_, x2, x3⟩
  have g := E_M_look_s (d := d + 1) (by omega) hW hI (FQ_MH x2 hH) (FQ_RM x2 hR) x3 hr hc
  rw [P_M_look, mF_t hw, E_M_shows_s (by omega) hW hI (FQ_MH x2 hH) (FQ_RM x2 hR) x3 (by decide) hr hc, mC_s] at g
  rw [P_M_look, mF_t hw, x1, mC_s]
  exact g
end PU
