/-! PURE: the reference works its conditions out for every cell, more. -/
def HNo (h h' : mm_H) : Prop := ∀ b : Int, b ≠ 494 → b ≠ 495 → h' b = h b
theorem HNo_tr {a b c : mm_H} (x : HNo a b) (y : HNo b c) : HNo a c := fun q h1 h2 => (y q h1 h2).trans (x q h1 h2)
/-- only what freshening uses has changed -/
def FQ (h h' : mm_H) : Prop := (∀ b : Int, b ≠ 483 → b ≠ 494 → b ≠ 495 → h' b = h b) ∧ ∀ i : Int, i ≠ 4 → i ≠ 28 → i ≠ 29 → i ≠ 30 → h' 483 i = h 483 i
theorem FQ_rf (h : mm_H) : FQ h h := ⟨fun _ _ _ _ => rfl, fun _ _ _ _ _ => rfl⟩
theorem FQ_tr {a b c : mm_H} (x : FQ a b) (y : FQ b c) : FQ a c := ⟨fun q h1 h2 h3 => (y.1 q h1 h2 h3).trans (x.1 q h1 h2 h3), fun i a b c d => (y.2 i a b c d).trans (x.2 i a b c d)⟩
theorem FQ_QM {h h' : mm_H} (o : FQ h h') : QM h h' := ⟨fun b hb => o.1 b hb.1 (by unfold qRow at hb; omega) (by unfold qRow at hb; omega), fun i hi => o.2 i hi.1 (by unfold qFd at hi; omega) (by unfold qFd at hi; omega) (by unfold qFd at hi; omega)⟩
theorem FQ_MH {h h' : mm_H} (o : FQ h h') (hM : MH h) : MH h' := QM_MH (FQ_QM o) hM
theorem FQ_RM {h h' : mm_H} {s : aS} (o : FQ h h') (hR : RM (h 484) s) : RM (h' 484) s := QM_RM (FQ_QM o) hR
theorem HNo_FQ {h h' : mm_H} (o : HNo h h') : FQ h h' := ⟨fun b _ h2 h3 => o b h2 h3, fun i _ _ _ _ => by rw [o 483 (by decide) (by decide)]⟩
theorem SNo_FQ {h h' : mm_H} (o : SNo h h') : FQ h h' := ⟨fun b h1 _ _ => o.1 b h1, fun i _ h2 h3 h4 => o.2 i h2 h3 h4⟩
section PU
variable {d : Nat} {w : mm_W} {s : aS} {k : Int}
theorem HNo_MX {h h' : mm_H} (o : HNo h h') (hX : MX h s k) : MX h' s k := by
  have e3 := o 483 (by decide) (by decide)
  exact ⟨MH_fr hX.1 (fun i _ => by rw [e3]), by rw [o 484 (by decide) (by decide)]; exact hX.2.1, by rw [e3]; exact hX.2.2.1, by rw [e3]; exact hX.2.2.2.1, by rw [e3]; exact hX.2.2.2.2⟩
theorem L_fr4 (hd : 11 ≤ d) (hW : MW w) (hI : aI s) (hk : 0 ≤ k ∧ k < aN s) {r : Int} (hr : 0 ≤ r ∧ r < aHi s) : ∀ (m : Nat) (c : Int) (h : mm_H), MX h s k → 0 ≤ c → c + m = aWi s → ∃ h', l_M_freshen_4 (mm_P d) 483 k (1415 + 408 * k) r c w h = some (.inr (288, [(2, 483), (0, k), (0, 1415 + 408 * k), (0, r), (0, aWi s), (9, 0)], w, h')) ∧ HNo h h' ∧ (∀ a : Int, a < 256 * k + 16 * r + c → h' 494 a = h 494 a) ∧ ∀ j : Int, c ≤ j → j < aWi s → HC h' s k r j := by
  have hw : (w.1 483).1 = 13 := by rw [hW.1]
  have hb := rul_b hI hk
  have hn := hI.2.2.1
  intro m
  induction m with
  | zero =>
    intro c h hX a1 a2
    rw [l_M_freshen_4_eq, mF_t hw, hX.1.1, mA_t hW.2.1 (by omega) (by omega), hX.2.1.1.2.1, mLe_t (by omega), show c = aWi s by omega]
    exact ⟨h, rfl, fun _ _ _ => rfl, fun _ _ => rfl, fun j j0 j1 => by omega⟩
  | succ m ih =>
    intro c h hX a1 a2
    have hR := hX.2.1
    have f0 := RM_f hR hk 0 (by decide) (by decide)
    have f1 := RM_f hR hk 1 (by decide) (by decide)
    have f2 := RM_f hR hk 2 (by decide) (by decide)
    have f3 := RM_f hR hk 3 (by decide) (by decide)
    rw [Int.add_zero] at f0
    have fin : ∀ (h1 : mm_H), HNo h h1 → h1 494 = h 494 → ∃ h', l_M_freshen_4 (mm_P d) 483 k (1415 + 408 * k) r (c + 1) w (mUp h1 494 (256 * k + 16 * r + c) (bI (hldA s k r c))) = some (.inr (288, [(2, 483), (0, k), (0, 1415 + 408 * k), (0, r), (0, aWi s), (9, 0)], w, h')) ∧ HNo h h' ∧ (∀ a : Int, a < 256 * k + 16 * r + c → h' 494 a = h 494 a) ∧ ∀ j : Int, c ≤ j → j < aWi s → HC h' s k r j := by
      intro h1 o1 e1
      have o2 : HNo h (mUp h1 494 (256 * k + 16 * r + c) (bI (hldA s k r c))) := HNo_tr o1 (fun b b1 _ => mUp_row b1)
      obtain ⟨h', g1, g2, g3, g4⟩ := ih (c + 1) _ (HNo_MX o2 hX) (by omega) (by omega)
      refine ⟨h', g1, HNo_tr o2 g2, fun a ha => by rw [g3 a (by omega), mUp_n (Or.inr (by omega)), e1], fun j j0 j1 => ?_⟩
      by_cases e : j = c
      · unfold HC
        rw [e, g3 _ (by omega), mUp_s]
      · exact g4 j (by omega) j1
    have hg : mI (256 * k) = 256 * k := mI_id (by omega) (by omega)
    have b1 : -2147483648 ≤ 256 * k + (16 * r + c) := by omega
    have b2 : 256 * k + (16 * r + c) < 2147483648 := by omega
    have b3 : 0 ≤ 256 * k + 16 * r + c := by omega
    have b4 : 256 * k + 16 * r + c < 1536 := by omega
    have b5 : 256 * k + (16 * r + c) = 256 * k + 16 * r + c := by omega
    have b6 : mI (c + 1) = c + 1 := mI_id (by omega) (by omega)
    have c3 : c < 1000 := by omega
    have c4 : -1000 ≤ c := by omega
    have c5 : c < aWi s := by omega
    rw [l_M_freshen_4_eq, mF_t hw, hX.1.1, mA_t hW.2.1 (by omega) (by omega), hR.1.2.1, mLe_f (by omega), mF_t hw, mA_t hW.2.1 (by omega) (by omega), mF_t hw, mI_id (x := 1415 + 408 * k + 2) (by omega) (by omega), mA_t hW.2.1 (by omega) (by omega), f0, f2, E_M_in (by omega), mC_s]
    by_cases q1 : aRul s k 0 ≤ r ∧ r ≤ aRul s k 2
    · rw [bI_t q1, mEq_f (show (1 : Int) ≠ 0 by decide), mF_t hw, hX.1.1, mI_id (x := 1415 + 408 * k + 1) (by omega) (by omega), mA_t hW.2.1 (by omega) (by omega), mF_t hw, mI_id (x := 1415 + 408 * k + 3) (by omega) (by omega), mA_t hW.2.1 (by omega) (by omega), f1, f3, E_M_in (by omega), mC_s]
      by_cases q2 : aRul s k 1 ≤ c ∧ c ≤ aRul s k 3
      · rw [bI_t q2, mEq_f (show (1 : Int) ≠ 0 by decide), mF_t hw, E_M_grid (by omega) (by omega) (by omega) c4 c3, mC_s, mEq_f (show (1 : Int) ≠ 0 by decide), mF_t hw]
        obtain ⟨h1, y1, y2⟩ := E_M_isSo hd hW hI hX hk hr ⟨a1, c5⟩
        rw [y1, mC_s, MH_26 hX.1, hg, mI_id b1 b2, b5]
        by_cases q3 : isSoA s k r c
        · rw [bI_t q3, mEq_f (show (1 : Int) ≠ 0 by decide), mZ_1, mA_t (MW_494 hW) b3 b4]
          try dsimp only
          rw [b6]
          have := fin h1 (fun b _ b2 => y2 b b2) (y2 494 (by decide))
          rw [bI_t (show hldA s k r c from ⟨⟨q1, q2⟩, q3⟩)] at this
          exact this
        · rw [bI_f q3, mEq_t rfl, mZ_0, mA_t (MW_494 hW) b3 b4]
          try dsimp only
          rw [b6]
          have := fin h1 (fun b _ b2 => y2 b b2) (y2 494 (by decide))
          rw [bI_f (show ¬ hldA s k r c from fun x => q3 x.2)] at this
          exact this
      · rw [bI_f q2, mEq_t rfl, mF_t hw, E_M_grid (by omega) (by omega) (by omega) c4 c3, mC_s, mEq_t rfl, mZ_0, MH_26 hX.1, hg, mI_id b1 b2, b5, mA_t (MW_494 hW) b3 b4]
        try dsimp only
        rw [b6]
        have := fin h (fun _ _ _ => rfl) rfl
        rw [bI_f (show ¬ hldA s k r c from fun x => q2 x.1.2)] at this
        exact this
    · rw [bI_f q1, mEq_t rfl, mF_t hw, E_M_grid (by omega) (by omega) (by omega) c4 c3, mC_s, mEq_t rfl, mZ_0, MH_26 hX.1, hg, mI_id b1 b2, b5, mA_t (MW_494 hW) b3 b4]
      try dsimp only
      rw [b6]
      have := fin h (fun _ _ _ => rfl) rfl
      rw [bI_f (show ¬ hldA s k r c from fun x => q1 x.1.1)] at this
      exact this
theorem L_fr3 (hd : 11 ≤ d) (hW : MW w) (hI : aI s) (hk : 0 ≤ k ∧ k < aN s) : ∀ (m : Nat) (r : Int) (h : mm_H), MX h s k → 0 ≤ r → r + m = aHi s → ∃ h', l_M_freshen_3 (mm_P d) 483 k (1415 + 408 * k) r w h = some (.inr (294, [(2, 483), (0, k), (0, 1415 + 408 * k), (0, aHi s), (9, 0), (9, 0)], w, h')) ∧ HNo h h' ∧ (∀ a : Int, a < 256 * k + 16 * r → h' 494 a = h 494 a) ∧ ∀ i j : Int, r ≤ i → i < aHi s → 0 ≤ j → j < aWi s → HC h' s k i j := by
  have hw : (w.1 483).1 = 13 := by rw [hW.1]
  have h16 := hI.1; have w16 := hI.2.1
  intro m
  induction m with
  | zero =>
    intro r h hX a1 a2
    rw [l_M_freshen_3_eq, mF_t hw, hX.1.1, mA_t hW.2.1 (by omega) (by omega), hX.2.1.1.1, mLe_t (by omega), show r = aHi s by omega]
    exact ⟨h, rfl, fun _ _ _ => rfl, fun _ _ => rfl, fun i j i0 i1 => by omega⟩
  | succ m ih =>
    intro r h hX a1 a2
    rw [l_M_freshen_3_eq, mF_t hw, hX.1.1, mA_t hW.2.1 (by omega) (by omega), hX.2.1.1.1, mLe_f (by omega)]
    obtain ⟨h1, g1, g2, g3, g4⟩ := L_fr4 hd hW hI hk (r := r) (by omega) (aWi s).toNat 0 h hX (Int.le_refl _) (by omega)
    rw [g1, mK_r, if_pos rfl]
    simp only [mP_0, mP_1, mP_2, mP_3]
    rw [mI_id (x := r + 1) (by omega) (by omega)]
    obtain ⟨h2, y1, y2, y3, y4⟩ := ih (r + 1) h1 (HNo_MX g2 hX) (by omega) (by omega)
    refine ⟨h2, y1, HNo_tr g2 y2, fun a ha => by rw [y3 a (by omega), g3 a (by omega)], fun i j i0 i1 j0 j1 => ?_⟩
    by_cases e : i = r
    · unfold HC
      rw [y3 _ (by omega), e]
      exact g4 j j0 j1
    · exact y4 i j (by omega) i1 j0 j1
/-- what freshening changes -/
theorem L_fr0 (hd : 11 ≤ d) (hW : MW w) (hI : aI s) : ∀ (m : Nat) (k : Int) (h : mm_H), MH h → RM (h 484) s → 0 ≤ k → k + m = aN s → ∃ h', l_M_freshen_0 (mm_P d) 483 k w h = some (.inr (300, [(2, 483), (0, aN s), (9, 0), (9, 0), (9, 0), (9, 0)], w, h')) ∧ FQ h h' ∧ h' 483 4 = h 483 4 ∧ (∀ a : Int, a < 256 * k → h' 494 a = h 494 a) ∧ ∀ n i j : Int, k ≤ n → n < aN s → 0 ≤ i → i < aHi s → 0 ≤ j → j < aWi s → HC h' s n i j := by
  have hw : (w.1 483).1 = 13 := by rw [hW.1]
  have h16 := hI.1; have w16 := hI.2.1; have n6 := hI.2.2.1
  intro m
  induction m with
  | zero =>
    intro k h hH hR a1 a2
    rw [l_M_freshen_0_eq, mF_t hw, hH.1, mA_t hW.2.1 (by omega) (by omega), hR.1.2.2, mLe_t (by omega), show k = aN s by omega]
    exact ⟨h, rfl, FQ_rf h, rfl, fun _ _ => rfl, fun n i j n0 n1 => by omega⟩
  | succ m ih =>
    intro k h hH hR a1 a2
    have hk : 0 ≤ k ∧ k < aN s := by omega
    have hb := rul_b hI hk
    have hh : aRul s k 0 + (rH s k : Int) = aRul s k 2 + 1 := by unfold rH; omega
    have hh16 : 1 ≤ rH s k ∧ rH s k ≤ 16 := by unfold rH; omega
    have hw16 : 1 ≤ rW s k := by unfold rW; omega
    have hv0 := hI.2.2.2.1 (aRul s k 0) (aRul s k 1) (by omega) (by omega) (by omega) (by omega)
    rw [l_M_freshen_0_eq, mF_t hw, hH.1, mA_t hW.2.1 (by omega) (by omega), hR.1.2.2, mLe_f (by omega), mI_id (x := 408 * k) (by omega) (by omega), mI_id (x := 1415 + 408 * k) (by omega) (by omega)]
    try dsimp only
    simp only [mF_t hw]
    generalize hg : mUp (mUp (mUp h 483 28 0) 483 29 (-1000)) 483 30 1000 = h1
    have o1 : SNo h h1 := by rw [← hg]; exact SNo_tr (SNo_tr (SNo_up (by decide)) (SNo_up (by decide))) (SNo_up (by decide))
    have z2 : h1 483 28 = 0 := by rw [← hg]; simp [mUp]
    have z3 : h1 483 29 = -1000 := by rw [← hg]; simp [mUp]
    have z4 : h1 483 30 = 1000 := by rw [← hg]; simp [mUp]
    have H1 := SNo_MH o1 hH
    have R1 := SNo_RM o1 hR
    have f0 := RM_f R1 hk 0 (by decide) (by decide)
    rw [Int.add_zero] at f0
    rw [H1.1, mA_t hW.2.1 (by omega) (by omega), f0]
    obtain ⟨h2, g1, g2, g3, g4, g5⟩ := L_fr1 (d := d) (by omega) hW hI hk (rH s k) (aRul s k 0) h1 H1 R1 (Int.le_refl _) hh (by rw [z2]; omega)
    rw [g1, mK_r, if_pos rfl]
    simp only [mP_0, mP_1, mP_2, mP_3]
    have mx := mx_start (f := aVal s) (b := rW s k) (m := rH s k) hh16.1 hw16 hv0
    have X2 : MX h2 s k := ⟨SNo_MH g2 H1, SNo_RM g2 R1, by rw [g3, z2, Int.zero_add]; rfl, by rw [g4, z3]; exact mx.1, by rw [g5, z4]; exact mx.2⟩
    obtain ⟨h3, y1, y2, y3, y4⟩ := L_fr3 hd hW hI hk (aHi s).toNat 0 h2 X2 (Int.le_refl _) (by omega)
    rw [y1, mK_r, if_pos rfl]
    simp only [mP_0, mP_1]
    rw [mI_id (x := k + 1) (by omega) (by omega)]
    have q3 : FQ h h3 := FQ_tr (SNo_FQ (SNo_tr o1 g2)) (HNo_FQ y2)
    obtain ⟨h4, x1, x2, x3, x4, x5⟩ := ih (k + 1) h3 (FQ_MH q3 hH) (FQ_RM q3 hR) (by omega) (by omega)
    refine ⟨h4, x1, FQ_tr q3 x2, ?_, fun a ha => ?_, fun n i j n0 n1 i0 i1 j0 j1 => ?_⟩
    · rw [x3, y2 483 (by decide) (by decide), (SNo_tr o1 g2).2 4 (by decide) (by decide) (by decide)]
    · rw [x4 a (by omega), y3 a (by omega), (SNo_tr o1 g2).1 494 (by decide)]
    · by_cases e : n = k
      · unfold HC
        rw [x4 _ (by omega), e]
        exact y4 i j i0 i1 j0 j1
      · exact x5 n i j (by omega) n1 i0 i1 j0 j1
theorem E_M_freshen (hd : 12 ≤ d) (hW : MW w) (hI : aI s) {h : mm_H} (hH : MH h) (hR : RM (h 484) s) (hF : mFr h s) : ∃ h', mm_P d 284 [(2, 483)] w h = some ((9, 0), w, h') ∧ FQ h h' ∧ mFs h' s := by
  obtain ⟨d, rfl, hd2⟩ := mm_dS (show 11 + 1 ≤ d by omega)
  have hw : (w.1 483).1 = 13 := by rw [hW.1]
  have n6 := hI.2.2.1
  rw [P_M_freshen, mF_t hw]
  by_cases c : h 483 4 = 0
  · rw [mEq_t c, mZ_1, mF_t hw]
    have o : FQ h (mUp h 483 4 1) := ⟨fun b b1 _ _ => mUp_row b1, fun j j1 _ _ _ => mUp_n (Or.inr j1)⟩
    obtain ⟨h', g1, g2, g3, g4, g5⟩ := L_fr0 (d := d) (by omega) hW hI (aN s).toNat 0 _ (FQ_MH o hH) (FQ_RM o hR) (Int.le_refl _) (by omega)
    refine ⟨h', ?_, FQ_tr o g2, by rw [g3, mUp_s]; decide, fun n i j n0 n1 i0 i1 j0 j1 => g5 n i j n0 n1 i0 i1 j0 j1⟩
    try dsimp only
    rw [g1, mK_r, if_pos rfl]
  · rw [mEq_f c]
    exact ⟨h, rfl, FQ_rf h, c, hF c⟩
theorem E_M_freshen_s (hd : 1 ≤ d) (hW : MW w) {h : mm_H} (hF : mFs h s) : mm_P d 284 [(2, 483)] w h = some ((9, 0), w, h) := by
  obtain ⟨d, rfl, hd2⟩ := mm_dS hd; clear hd; have hd := hd2; clear hd2
  have hw : (w.1 483).1 = 13 := by rw [hW.1]
  rw [P_M_freshen, mF_t hw, mEq_f hF.1]
end PU
