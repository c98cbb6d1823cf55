/-! PURE: the reference's history, its image. -/
theorem RM_ext {row row' : Int → Int} {s : aS} (hI : aI s) (hR : RM row s) (h : ∀ j : Int, 0 ≤ j → j < 3863 → row' j = row j) : RM row' s := by
  obtain ⟨⟨R0, R0', R1⟩, R2, R3, R4, R5, R6, R7⟩ := hR
  have h1 := hI.1; have h2 := hI.2.1; have h3 := hI.2.2.1
  refine ⟨⟨by rw [h 0 (by decide) (by decide)]; exact R0, by rw [h 1 (by decide) (by decide)]; exact R0', by rw [h 2 (by decide) (by decide)]; exact R1⟩, fun r c r0 r1 c0 c1 => ?_, fun p r c p0 p1 r0 r1 c0 c1 => ?_, fun p i p0 p1 i0 i1 => ?_, fun p i p0 p1 i0 i1 => ?_, fun p p0 p1 => ?_, fun k k0 k1 => ⟨fun f f0 f1 => ?_, ?_, fun i hi => ?_⟩⟩
  · rw [h _ (by omega) (by omega)]; exact R2 r c r0 r1 c0 c1
  · rw [h _ (by omega) (by omega)]; exact R3 p r c p0 p1 r0 r1 c0 c1
  · rw [h _ (by omega) (by omega)]; exact R4 p i p0 p1 i0 i1
  · rw [h _ (by omega) (by omega)]; exact R5 p i p0 p1 i0 i1
  · rw [h _ (by omega) (by omega)]; exact R6 p p0 p1
  · rw [h _ (by omega) (by omega)]; exact (R7 k k0 k1).1 f f0 f1
  · rw [h _ (by omega) (by omega)]; exact (R7 k k0 k1).2.1
  · have := cOk_of hI k k0 k1
    rw [h _ (by omega) (by omega)]; exact (R7 k k0 k1).2.2 i hi
/-- the states that the reference keeps -/
def mHis (h : mm_H) (A : aG) : Prop := h 483 2 = gD A ∧ h 483 3 = gD A + gR A ∧ (0 ≤ gD A ∧ 0 ≤ gR A ∧ gD A + gR A ≤ 30) ∧ ∀ k : Int, 0 ≤ k → k ≤ gD A + gR A → RM (fun j => h 485 (k * 3863 + j)) (gH A k) ∧ aI (gH A k)
def mImg (h : mm_H) (A : aG) : Prop := h 483 6 = gIk A ∧ (gIk A = 0 ∨ gIk A = 1) ∧ (gIk A = 1 → RM (h 486) (gI A) ∧ aI (gI A))
theorem mHis_fr {h h' : mm_H} {A : aG} (hc : mHis h A) (h1 : ∀ i : Int, i = 2 ∨ i = 3 → h' 483 i = h 483 i) (h2 : h' 485 = h 485) : mHis h' A := by
  obtain ⟨c1, c2, c3, c4⟩ := hc
  refine ⟨by rw [h1 2 (by decide)]; exact c1, by rw [h1 3 (by decide)]; exact c2, c3, ?_⟩
  rw [h2]; exact c4
section PU
variable {d : Nat} {w : mm_W} {h : mm_H} {s : aS} {A : aG}
theorem E_M_told0 (hd : 1 ≤ d) {a : Int} (ha : a < 0) : mm_P d 217 [(2, 483), (0, a)] w h = some ((0, a), w, h) := by
  obtain ⟨d, rfl, hd2⟩ := mm_dS hd; clear hd
  rw [P_M_told, mLe_f (by omega)]
theorem E_M_told (hd : 1 ≤ d) (hW : MW w) (hH : MH h) (hc : mHis h A) (hR : RM (h 484) s) (hI : aI s) {a : Int} (ha : 0 ≤ a) : ∃ h', mm_P d 217 [(2, 483), (0, a)] w h = some ((0, a), w, h') ∧ mHis h' (gAcc A s) ∧ (∀ b : Int, b ≠ 483 → b ≠ 485 → h' b = h b) ∧ (∀ i : Int, i ≠ 2 → i ≠ 3 → i ≠ 4 → h' 483 i = h 483 i) ∧ h' 483 4 = 0 := by
  obtain ⟨d, rfl, hd2⟩ := mm_dS hd; clear hd; have hd := hd2; clear hd2
  have hw : (w.1 483).1 = 13 := by rw [hW.1]
  obtain ⟨c1, c2, c3, c4⟩ := hc
  rw [P_M_told, mLe_t ha]
  simp only [mF_t hw, c1]
  by_cases c : gD A = 30
  · rw [mEq_t c]
    simp only [hH.2.1]
    rw [mCy_t hW.2.2.1 hW.2.2.1 (by decide) (by decide) (by decide) (by decide) (by decide) (by decide) (by decide)]
    generalize hg : mCpy h 485 3863 485 0 115890 = h1
    have b1 : ∀ b : Int, b ≠ 485 → h1 b = h b := fun b hb => by rw [← hg]; exact mCpy_row hb
    have b2 : ∀ j : Int, 0 ≤ j → j < 115890 → h1 485 j = h 485 (3863 + j) := fun j j0 j1 => by rw [← hg, mCpy_in (by omega) (by omega)]; congr 1; omega
    try dsimp only
    try simp only [mF_t hw]
    rw [b1 483 (by decide), c1, mI_id (x := gD A - 1) (by omega) (by omega)]
    generalize hg2 : mUp h1 483 2 (gD A - 1) = h2
    have e1 : h2 483 2 = gD A - 1 := by rw [← hg2]; exact mUp_s
    rw [e1, mI_id (x := gD A - 1 + 1) (by omega) (by omega)]
    generalize hg3 : mUp h2 483 2 (gD A - 1 + 1) = h3
    have e2 : h3 483 2 = gD A := by rw [← hg3, mUp_s]; omega
    rw [e2]
    generalize hg4 : mUp h3 483 3 (gD A) = h4
    have e3 : ∀ i : Int, i ≠ 2 → i ≠ 3 → h4 483 i = h 483 i := fun i h2' h3' => by rw [← hg4, mUp_n (Or.inr h3'), ← hg3, mUp_n (Or.inr h2'), ← hg2, mUp_n (Or.inr h2'), b1 483 (by decide)]
    have e4 : ∀ b : Int, b ≠ 483 → h4 b = h1 b := fun b hb => by rw [← hg4, mUp_row hb, ← hg3, mUp_row hb, ← hg2, mUp_row hb]
    have e5 : h4 483 2 = gD A := by rw [← hg4, mUp_n (Or.inr (by decide))]; exact e2
    have e6 : h4 483 3 = gD A := by rw [← hg4]; exact mUp_s
    rw [e3 0 (by decide) (by decide), e3 1 (by decide) (by decide), hH.1, hH.2.1, e5, mI_id (x := gD A * 3863) (by omega) (by omega), mCy_t hW.2.1 hW.2.2.1 (by decide) (by decide) (by decide) (by omega) (by decide) (by decide) (by omega), mZ_0]
    try dsimp only
    generalize hg5 : mCpy h4 484 0 485 (gD A * 3863) 3863 = h5
    have f1 : ∀ b : Int, b ≠ 485 → h5 b = h4 b := fun b hb => by rw [← hg5]; exact mCpy_row hb
    have f2 : ∀ j : Int, 0 ≤ j → j < gD A * 3863 → h5 485 j = h 485 (3863 + j) := fun j j0 j1 => by rw [← hg5, mCpy_out (by omega), e4 485 (by decide), b2 j j0 (by omega)]
    have f3 : ∀ j : Int, 0 ≤ j → j < 3863 → h5 485 (gD A * 3863 + j) = h 484 j := fun j j0 j1 => by
      rw [← hg5, mCpy_in (by omega) (by omega), e4 484 (by decide), b1 484 (by decide)]
      congr 1; omega
    refine ⟨mUp h5 483 4 0, rfl, ⟨?_, ?_, ?_, ?_⟩, fun b hb hb' => by rw [mUp_row hb, f1 b hb', e4 b hb, b1 b hb'], fun i i2 i3 i4 => by rw [mUp_n (Or.inr i4), f1 483 (by decide), e3 i i2 i3], mUp_s⟩
    · rw [mUp_n (Or.inr (by decide)), f1 483 (by decide), e5]; show _ = (if gD A < 30 then gD A + 1 else gD A); rw [if_neg (by omega)]
    · rw [mUp_n (Or.inr (by decide)), f1 483 (by decide), e6]; show _ = (if gD A < 30 then gD A + 1 else gD A) + 0; rw [if_neg (by omega)]; omega
    · show 0 ≤ (if gD A < 30 then gD A + 1 else gD A) ∧ (0 : Int) ≤ 0 ∧ (if gD A < 30 then gD A + 1 else gD A) + 0 ≤ 30
      rw [if_neg (by omega)]; omega
    · intro k k0 k1
      have k1 : k ≤ (if gD A < 30 then gD A + 1 else gD A) + 0 := k1
      rw [if_neg (by omega)] at k1
      rw [mUp_row (by decide)]
      show RM _ ((if gD A < 30 then (fun k => if k ≤ gD A then gH A k else s) else (fun k => if k < 30 then gH A (k + 1) else s)) k) ∧ aI ((if gD A < 30 then (fun k => if k ≤ gD A then gH A k else s) else (fun k => if k < 30 then gH A (k + 1) else s)) k)
      rw [if_neg (by omega)]
      try dsimp only
      by_cases ck : k < 30
      · rw [if_pos ck]
        obtain ⟨q1, q2⟩ := c4 (k + 1) (by omega) (by omega)
        refine ⟨RM_ext q2 q1 (fun j j0 j1 => ?_), q2⟩
        rw [f2 _ (by omega) (by omega)]
        congr 1; omega
      · rw [if_neg ck, show k = gD A by omega]
        exact ⟨RM_ext hI hR (fun j j0 j1 => f3 j j0 j1), hI⟩
  · rw [mEq_f c, mI_id (x := gD A + 1) (by omega) (by omega)]
    try dsimp only
    try simp only [mF_t hw]
    generalize hg3 : mUp h 483 2 (gD A + 1) = h3
    have e2 : h3 483 2 = gD A + 1 := by rw [← hg3]; exact mUp_s
    rw [e2]
    generalize hg4 : mUp h3 483 3 (gD A + 1) = h4
    have e3 : ∀ i : Int, i ≠ 2 → i ≠ 3 → h4 483 i = h 483 i := fun i h2' h3' => by rw [← hg4, mUp_n (Or.inr h3'), ← hg3, mUp_n (Or.inr h2')]
    have e4 : ∀ b : Int, b ≠ 483 → h4 b = h b := fun b hb => by rw [← hg4, mUp_row hb, ← hg3, mUp_row hb]
    have e5 : h4 483 2 = gD A + 1 := by rw [← hg4, mUp_n (Or.inr (by decide))]; exact e2
    have e6 : h4 483 3 = gD A + 1 := by rw [← hg4]; exact mUp_s
    rw [e3 0 (by decide) (by decide), e3 1 (by decide) (by decide), hH.1, hH.2.1, e5, mI_id (x := (gD A + 1) * 3863) (by omega) (by omega), mCy_t hW.2.1 hW.2.2.1 (by decide) (by decide) (by decide) (by omega) (by decide) (by decide) (by omega), mZ_0]
    try dsimp only
    generalize hg5 : mCpy h4 484 0 485 ((gD A + 1) * 3863) 3863 = h5
    have f1 : ∀ b : Int, b ≠ 485 → h5 b = h4 b := fun b hb => by rw [← hg5]; exact mCpy_row hb
    have f2 : ∀ j : Int, 0 ≤ j → j < (gD A + 1) * 3863 → h5 485 j = h 485 j := fun j j0 j1 => by rw [← hg5, mCpy_out (by omega), e4 485 (by decide)]
    have f3 : ∀ j : Int, 0 ≤ j → j < 3863 → h5 485 ((gD A + 1) * 3863 + j) = h 484 j := fun j j0 j1 => by
      rw [← hg5, mCpy_in (by omega) (by omega), e4 484 (by decide)]
      congr 1; omega
    refine ⟨mUp h5 483 4 0, rfl, ⟨?_, ?_, ?_, ?_⟩, fun b hb hb' => by rw [mUp_row hb, f1 b hb', e4 b hb], fun i i2 i3 i4 => by rw [mUp_n (Or.inr i4), f1 483 (by decide), e3 i i2 i3], mUp_s⟩
    · rw [mUp_n (Or.inr (by decide)), f1 483 (by decide), e5]; show _ = (if gD A < 30 then gD A + 1 else gD A); rw [if_pos (by omega)]
    · rw [mUp_n (Or.inr (by decide)), f1 483 (by decide), e6]; show _ = (if gD A < 30 then gD A + 1 else gD A) + 0; rw [if_pos (by omega)]; omega
    · show 0 ≤ (if gD A < 30 then gD A + 1 else gD A) ∧ (0 : Int) ≤ 0 ∧ (if gD A < 30 then gD A + 1 else gD A) + 0 ≤ 30
      rw [if_pos (by omega)]; omega
    · intro k k0 k1
      have k1 : k ≤ (if gD A < 30 then gD A + 1 else gD A) + 0 := k1
      rw [if_pos (by omega)] at k1
      rw [mUp_row (by decide)]
      show RM _ ((if gD A < 30 then (fun k => if k ≤ gD A then gH A k else s) else (fun k => if k < 30 then gH A (k + 1) else s)) k) ∧ aI ((if gD A < 30 then (fun k => if k ≤ gD A then gH A k else s) else (fun k => if k < 30 then gH A (k + 1) else s)) k)
      rw [if_pos (by omega)]
      try dsimp only
      by_cases ck : k ≤ gD A
      · rw [if_pos ck]
        obtain ⟨q1, q2⟩ := c4 k (by omega) (by omega)
        exact ⟨RM_ext q2 q1 (fun j j0 j1 => f2 _ (by omega) (by omega)), q2⟩
      · rw [if_neg ck, show k = gD A + 1 by omega]
        exact ⟨RM_ext hI hR (fun j j0 j1 => f3 j j0 j1), hI⟩
theorem E_M_becomes (hd : 1 ≤ d) (hW : MW w) (hH : MH h) {a p n : Int} (ha : w.1 a = (50, n)) (h0 : 0 < a) (hp : 0 ≤ p ∧ p + 3863 ≤ n) : ∃ h', mm_P d 218 [(2, 483), (2, a), (0, p)] w h = some ((9, 0), w, h') ∧ (∀ b : Int, b ≠ 483 → b ≠ 484 → h' b = h b) ∧ (∀ i : Int, i ≠ 4 → h' 483 i = h 483 i) ∧ h' 483 4 = 0 ∧ ∀ j : Int, 0 ≤ j → j < 3863 → h' 484 j = h a (p + j) := by
  obtain ⟨d, rfl, hd2⟩ := mm_dS hd; clear hd; have hd := hd2; clear hd2
  have hw : (w.1 483).1 = 13 := by rw [hW.1]
  rw [P_M_becomes]
  simp only [mF_t hw, hH.1]
  rw [mCy_t ha hW.2.1 h0 (by decide) hp.1 (by decide) (by decide) hp.2 (by decide), mZ_0]
  refine ⟨_, rfl, fun b hb hb' => by rw [mUp_row hb, mCpy_row hb'], fun i hi => by rw [mUp_n (Or.inr hi), mCpy_row (by decide)], mUp_s, fun j j0 j1 => ?_⟩
  rw [mUp_row (by decide), mCpy_in (by omega) (by omega)]
  congr 1; omega
theorem E_M_undo (hd : 2 ≤ d) (hW : MW w) (hH : MH h) (hc : mHis h A) : (gD A = 0 ∧ mm_P d 219 [(2, 483)] w h = some ((0, -3), w, h)) ∨ (gD A ≠ 0 ∧ ∃ h', mm_P d 219 [(2, 483)] w h = some ((0, gD A - 1), w, h') ∧ mHis h' (A.1, (gD A - 1, gR A + 1), A.2.2) ∧ RM (h' 484) (gH A (gD A - 1)) ∧ (∀ b : Int, b ≠ 483 → b ≠ 484 → h' b = h b) ∧ (∀ i : Int, i ≠ 2 → i ≠ 4 → h' 483 i = h 483 i) ∧ h' 483 4 = 0) := by
  obtain ⟨d, rfl, hd2⟩ := mm_dS hd; clear hd; have hd := hd2; clear hd2
  have hw : (w.1 483).1 = 13 := by rw [hW.1]
  obtain ⟨c1, c2, c3, c4⟩ := hc
  rw [P_M_undo]
  simp only [mF_t hw, c1]
  by_cases c : gD A = 0
  · rw [mEq_t c]
    exact Or.inl ⟨c, rfl⟩
  rw [mEq_f c, mI_id (x := gD A - 1) (by omega) (by omega)]
  refine Or.inr ⟨c, ?_⟩
  generalize hg : mUp h 483 2 (gD A - 1) = h1
  have e1 : h1 483 2 = gD A - 1 := by rw [← hg]; exact mUp_s
  have e2 : ∀ i : Int, i ≠ 2 → h1 483 i = h 483 i := fun i hi => by rw [← hg, mUp_n (Or.inr hi)]
  have e3 : ∀ b : Int, b ≠ 483 → h1 b = h b := fun b hb => by rw [← hg, mUp_row hb]
  have M1 : MH h1 := MH_fr hH (fun i hi => e2 i (by unfold mRef at hi; omega))
  obtain ⟨h', g1, g2, g3, g4, g5⟩ := E_M_becomes (d := d) (by omega) hW M1 (a := 485) (p := (gD A - 1) * 3863) hW.2.2.1 (by decide) (by omega)
  try dsimp only
  rw [e1, e2 1 (by decide), hH.2.1, mI_id (x := (gD A - 1) * 3863) (by omega) (by omega), g1, mC_s, mF_t hw, g3 2 (by decide), e1]
  obtain ⟨q1, q2⟩ := c4 (gD A - 1) (by omega) (by omega)
  refine ⟨h', rfl, ⟨by rw [g3 2 (by decide), e1], by rw [g3 3 (by decide), e2 3 (by decide), c2]; show _ = (gD A - 1) + (gR A + 1); omega, by show 0 ≤ gD A - 1 ∧ 0 ≤ gR A + 1 ∧ (gD A - 1) + (gR A + 1) ≤ 30; omega, fun k k0 k1 => ?_⟩, RM_ext q2 q1 (fun j j0 j1 => by rw [g5 j j0 j1, e3 485 (by decide)]), fun b hb hb' => by rw [g2 b hb hb', e3 b hb], fun i i2 i4 => by rw [g3 i i4, e2 i i2], g4⟩
  have k1 : k ≤ (gD A - 1) + (gR A + 1) := k1
  rw [g2 485 (by decide) (by decide), e3 485 (by decide)]
  exact c4 k k0 (by omega)
theorem E_M_redo (hd : 2 ≤ d) (hW : MW w) (hH : MH h) (hc : mHis h A) : (gR A = 0 ∧ mm_P d 220 [(2, 483)] w h = some ((0, -3), w, h)) ∨ (gR A ≠ 0 ∧ ∃ h', mm_P d 220 [(2, 483)] w h = some ((0, gR A - 1), w, h') ∧ mHis h' (A.1, (gD A + 1, gR A - 1), A.2.2) ∧ RM (h' 484) (gH A (gD A + 1)) ∧ (∀ b : Int, b ≠ 483 → b ≠ 484 → h' b = h b) ∧ (∀ i : Int, i ≠ 2 → i ≠ 4 → h' 483 i = h 483 i) ∧ h' 483 4 = 0) := by
  obtain ⟨d, rfl, hd2⟩ := mm_dS hd; clear hd; have hd := hd2; clear hd2
  have hw : (w.1 483).1 = 13 := by rw [hW.1]
  obtain ⟨c1, c2, c3, c4⟩ := hc
  rw [P_M_redo]
  simp only [mF_t hw, c1, c2]
  by_cases c : gR A = 0
  · rw [mEq_t (by omega)]
    exact Or.inl ⟨c, rfl⟩
  rw [mEq_f (by omega), mI_id (x := gD A + 1) (by omega) (by omega)]
  refine Or.inr ⟨c, ?_⟩
  generalize hg : mUp h 483 2 (gD A + 1) = h1
  have e1 : h1 483 2 = gD A + 1 := by rw [← hg]; exact mUp_s
  have e2 : ∀ i : Int, i ≠ 2 → h1 483 i = h 483 i := fun i hi => by rw [← hg, mUp_n (Or.inr hi)]
  have e3 : ∀ b : Int, b ≠ 483 → h1 b = h b := fun b hb => by rw [← hg, mUp_row hb]
  have M1 : MH h1 := MH_fr hH (fun i hi => e2 i (by unfold mRef at hi; omega))
  obtain ⟨h', g1, g2, g3, g4, g5⟩ := E_M_becomes (d := d) (by omega) hW M1 (a := 485) (p := (gD A + 1) * 3863) hW.2.2.1 (by decide) (by omega)
  try dsimp only
  rw [e1, e2 1 (by decide), hH.2.1, mI_id (x := (gD A + 1) * 3863) (by omega) (by omega), g1, mC_s, mF_t hw, mF_t hw, g3 2 (by decide), g3 3 (by decide), e1, e2 3 (by decide), c2, mI_id (x := gD A + gR A - (gD A + 1)) (by omega) (by omega), show gD A + gR A - (gD A + 1) = gR A - 1 by omega]
  obtain ⟨q1, q2⟩ := c4 (gD A + 1) (by omega) (by omega)
  refine ⟨h', rfl, ⟨by rw [g3 2 (by decide), e1], by rw [g3 3 (by decide), e2 3 (by decide), c2]; show _ = (gD A + 1) + (gR A - 1); omega, by show 0 ≤ gD A + 1 ∧ 0 ≤ gR A - 1 ∧ (gD A + 1) + (gR A - 1) ≤ 30; omega, fun k k0 k1 => ?_⟩, RM_ext q2 q1 (fun j j0 j1 => by rw [g5 j j0 j1, e3 485 (by decide)]), fun b hb hb' => by rw [g2 b hb hb', e3 b hb], fun i i2 i4 => by rw [g3 i i4, e2 i i2], g4⟩
  have k1 : k ≤ (gD A + 1) + (gR A - 1) := k1
  rw [g2 485 (by decide) (by decide), e3 485 (by decide)]
  exact c4 k k0 (by omega)
theorem E_M_image (hd : 1 ≤ d) (hW : MW w) (hH : MH h) : ∃ h', mm_P d 221 [(2, 483)] w h = some ((0, 1), w, h') ∧ (∀ b : Int, b ≠ 483 → b ≠ 486 → h' b = h b) ∧ (∀ i : Int, i ≠ 6 → h' 483 i = h 483 i) ∧ h' 483 6 = 1 ∧ ∀ j : Int, 0 ≤ j → j < 3863 → h' 486 j = h 484 j := by
  obtain ⟨d, rfl, hd2⟩ := mm_dS hd; clear hd; have hd := hd2; clear hd2
  have hw : (w.1 483).1 = 13 := by rw [hW.1]
  rw [P_M_image]
  simp only [mF_t hw, hH.1, hH.2.2.1]
  rw [mCy_t hW.2.1 hW.2.2.2.1 (by decide) (by decide) (by decide) (by decide) (by decide) (by decide) (by decide), mZ_1]
  refine ⟨_, rfl, fun b hb hb' => by rw [mUp_row hb, mCpy_row hb'], fun i hi => by rw [mUp_n (Or.inr hi), mCpy_row (by decide)], mUp_s, fun j j0 j1 => ?_⟩
  rw [mUp_row (by decide), mCpy_in (by omega) (by omega)]
  congr 1; omega
theorem E_M_back (hd : 2 ≤ d) (hW : MW w) (hH : MH h) (hi : mImg h A) : (gIk A = 0 ∧ mm_P d 222 [(2, 483)] w h = some ((0, -3), w, h)) ∨ (gIk A = 1 ∧ ∃ h', mm_P d 222 [(2, 483)] w h = some ((0, 1), w, h') ∧ mHis h' (fun _ => gI A, (0, 0), A.2.2) ∧ RM (h' 484) (gI A) ∧ (∀ b : Int, b ≠ 483 → b ≠ 484 → b ≠ 485 → h' b = h b) ∧ (∀ i : Int, i ≠ 2 → i ≠ 3 → i ≠ 4 → h' 483 i = h 483 i) ∧ h' 483 4 = 0) := by
  obtain ⟨d, rfl, hd2⟩ := mm_dS hd; clear hd; have hd := hd2; clear hd2
  have hw : (w.1 483).1 = 13 := by rw [hW.1]
  obtain ⟨i1, i2, i3⟩ := hi
  rw [P_M_back]
  simp only [mF_t hw, i1]
  by_cases c : gIk A = 0
  · rw [mEq_t c]
    exact Or.inl ⟨c, rfl⟩
  have c' : gIk A = 1 := by omega
  obtain ⟨q1, q2⟩ := i3 c'
  rw [mEq_f c]
  refine Or.inr ⟨c', ?_⟩
  obtain ⟨h1, g1, g2, g3, g4, g5⟩ := E_M_becomes (d := d) (by omega) hW hH (a := 486) (p := 0) hW.2.2.2.1 (by decide) (by decide)
  rw [hH.2.2.1, g1, mC_s]
  try dsimp only
  simp only [mF_t hw]
  generalize hg : mUp (mUp h1 483 2 0) 483 3 0 = h2
  have e1 : ∀ i : Int, i ≠ 2 → i ≠ 3 → h2 483 i = h1 483 i := fun i a b => by rw [← hg, mUp_n (Or.inr b), mUp_n (Or.inr a)]
  have e2 : h2 483 2 = 0 := by rw [← hg, mUp_n (Or.inr (by decide))]; exact mUp_s
  have e3 : h2 483 3 = 0 := by rw [← hg]; exact mUp_s
  have e4 : ∀ b : Int, b ≠ 483 → h2 b = h1 b := fun b hb => by rw [← hg, mUp_row hb, mUp_row hb]
  have x0 : h2 483 0 = 484 := by rw [e1 0 (by decide) (by decide), g3 0 (by decide)]; exact hH.1
  have x1 : h2 483 1 = 485 := by rw [e1 1 (by decide) (by decide), g3 1 (by decide)]; exact hH.2.1
  rw [x0, x1, mCy_t hW.2.1 hW.2.2.1 (by decide) (by decide) (by decide) (by decide) (by decide) (by decide) (by decide)]
  have r4 : ∀ j : Int, 0 ≤ j → j < 3863 → h2 484 j = h 486 j := fun j j0 j1 => by
    rw [e4 484 (by decide), g5 j j0 j1]; congr 1; omega
  refine ⟨_, rfl, ⟨by rw [mCpy_row (by decide)]; exact e2, by rw [mCpy_row (by decide)]; exact e3, ⟨Int.le_refl _, Int.le_refl _, (by decide : (0 : Int) + 0 ≤ 30)⟩, fun k k0 k1 => ?_⟩, by rw [mCpy_row (by decide)]; exact RM_ext q2 q1 r4, fun b b0 b1 b2 => by rw [mCpy_row b2, e4 b b0, g2 b b0 b1], fun i a b c => by rw [mCpy_row (by decide), e1 i a b, g3 i c], by rw [mCpy_row (by decide), e1 4 (by decide) (by decide)]; exact g4⟩
  have k1 : k ≤ (0 : Int) + 0 := k1
  refine ⟨RM_ext q2 q1 (fun j j0 j1 => ?_), q2⟩
  rw [show k = 0 by omega, mCpy_in (by omega) (by omega), ← r4 j j0 j1]
  congr 1; omega
end PU
