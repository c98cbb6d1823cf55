/-! PURE: the class undoes, does again, keeps its image, goes back to it. -/
def cImg (w : mm_W) (h : mm_H) (A : aG) : Prop := h 1 14 = gIk A ∧ (gIk A = 0 ∨ gIk A = 1) ∧ (gIk A = 1 → RC w h 470 (gI A) ∧ aI (gI A))
/-- the image is the sheet as it is -/
def gImg (A : aG) : aG := (A.1, A.2.1, A.2.2.1, A.2.2.2.1, A.2.2.2.2.1, 1, gNow A)
def gUndo (A : aG) : aG := (A.1, (gD A - 1, gR A + 1), A.2.2)
def gRedo (A : aG) : aG := (A.1, (gD A + 1, gR A - 1), A.2.2)
def gBack (A : aG) : aG := (fun _ => gI A, (0, 0), A.2.2)
section PU
variable {d : Nat} {w : mm_W} {h : mm_H} {s : aS} {A : aG}
/-- only the fields of the class's own objects change -/
theorem HK_12 {h' : mm_H} (hK : HK h) (e1 : ∀ i : Int, i < 14 → h' 1 i = h 1 i) (e2 : ∀ i : Int, i < 2 → h' 2 i = h 2 i) (e3 : ∀ b : Int, b ≠ 1 → b ≠ 2 → h' b = h b) : HK h' :=
  HK_fr hK (fun b i hb => by
    by_cases z1 : b = 1
    · subst z1; exact e1 i (by unfold kSl at hb; omega)
    by_cases z2 : b = 2
    · subst z2; exact e2 i (by unfold kSl at hb; omega)
    rw [e3 b z1 z2]) (fun k k0 k1 => ShH_fr (hK.2.2.2.2.2.1 k k0 k1) (fun i _ _ => by rw [e3 _ (by omega) (by omega)]) (e3 _ (by omega) (by omega))) (ShH_fr hK.2.2.2.2.2.2.1 (fun i _ _ => by rw [e3 _ (by omega) (by omega)]) (e3 _ (by omega) (by omega))) (ShH_fr hK.2.2.2.2.2.2.2 (fun i _ _ => by rw [e3 _ (by omega) (by omega)]) (e3 _ (by omega) (by omega)))
theorem E_F_undo (hd : 2 ≤ d) (hW : WK w) (hK : HK h) (hc : cHist w h A) : (gD A = 0 ∧ mm_P d 155 [(2, 1)] w h = some ((0, -3), w, h)) ∨ (gD A ≠ 0 ∧ ∃ h', mm_P d 155 [(2, 1)] w h = some ((0, gD A - 1), w, h') ∧ cHist w h' (gUndo A) ∧ HK h' ∧ h' 1 15 = 1 ∧ (∀ i : Int, i ≠ 15 → h' 1 i = h 1 i) ∧ ∀ b : Int, b ≠ 1 → b ≠ 2 → h' b = h b) := by
  obtain ⟨d, rfl, hd2⟩ := mm_dS hd; clear hd; have hd := hd2; clear hd2
  obtain ⟨d, rfl, hd2⟩ := mm_dS hd; clear hd; have hd := hd2; clear hd2
  have w1 : (w.1 1).1 = 12 := by rw [hW.1.1]
  have w2 : (w.1 2).1 = 4 := by rw [hW.1.2.1]
  obtain ⟨c1, c2, c3, c4, c5⟩ := hc
  rw [P_F_undo, mF_t w1, hK.1.1, mF_t w2, c2]
  by_cases c : gD A = 0
  · rw [mEq_t c]
    exact Or.inl ⟨c, rfl⟩
  refine Or.inr ⟨c, ?_⟩
  rw [mEq_f c, mZ_1, mF_t w1]
  try dsimp only
  rw [mF_t w1, mUp_n (Or.inr (by decide)), hK.1.1, mF_t w2, P_Hi_stepBack]
  simp only [mF_t w2]
  generalize hg : mUp h 1 15 1 = h1
  have e1 : ∀ b : Int, b ≠ 1 → h1 b = h b := fun b hb => by rw [← hg]; exact mUp_row hb
  have e2 : ∀ i : Int, i ≠ 15 → h1 1 i = h 1 i := fun i hi => by rw [← hg]; exact mUp_n (Or.inr hi)
  have e3 : h1 1 15 = 1 := by rw [← hg]; exact mUp_s
  have m3 : mI (h1 2 3 - 1) = gD A - 1 := by rw [e1 2 (by decide), c2, mI_id (by omega) (by omega)]
  rw [m3]
  have m4 : mI (mUp h1 2 3 (gD A - 1) 2 4 + 1) = gR A + 1 := by rw [mUp_n (Or.inr (by decide)), e1 2 (by decide), c3, mI_id (by omega) (by omega)]
  rw [m4]
  generalize hg2 : mUp (mUp h1 2 3 (gD A - 1)) 2 4 (gR A + 1) = h2
  have f1 : ∀ b : Int, b ≠ 2 → h2 b = h1 b := fun b hb => by rw [← hg2, mUp_row hb, mUp_row hb]
  have f2 : ∀ i : Int, i ≠ 3 → i ≠ 4 → h2 2 i = h 2 i := fun i i3 i4 => by rw [← hg2, mUp_n (Or.inr i4), mUp_n (Or.inr i3), e1 2 (by decide)]
  have f3 : h2 2 3 = gD A - 1 := by rw [← hg2, mUp_n (Or.inr (by decide))]; exact mUp_s
  have f4 : h2 2 4 = gR A + 1 := by rw [← hg2]; exact mUp_s
  have fr : ∀ b : Int, b ≠ 1 → b ≠ 2 → h2 b = h b := fun b b1 b2 => by rw [f1 b b2, e1 b b1]
  refine ⟨h2, by rw [f3, mC_s], ⟨by rw [f2 2 (by decide) (by decide)]; exact c1, f3, f4, by show 0 ≤ gD A - 1 ∧ 0 ≤ gR A + 1 ∧ (gD A - 1) + (gR A + 1) ≤ 30; omega, fun k k0 k1 => ?_⟩, HK_12 hK (fun i hi => by rw [f1 1 (by decide), e2 i (by omega)]) (fun i hi => f2 i (by omega) (by omega)) fr, by rw [f1 1 (by decide)]; exact e3, fun i hi => by rw [f1 1 (by decide), e2 i hi], fr⟩
  have k1 : k ≤ (gD A - 1) + (gR A + 1) := k1
  obtain ⟨q1, q2⟩ := c5 k k0 (by omega)
  have hin := gAt_in (base := h 2 2) (k := k)
  rw [f2 2 (by decide) (by decide)]
  exact ⟨RC_fr q1 q2 ⟨Int.le_refl _, fun a a0 _ => ⟨rfl, fr a (by omega) (by omega)⟩⟩ (fun b b0 b1 => fr b (by omega) (by omega)), q2⟩
theorem E_F_redo (hd : 2 ≤ d) (hW : WK w) (hK : HK h) (hc : cHist w h A) : (gR A = 0 ∧ mm_P d 156 [(2, 1)] w h = some ((0, -3), w, h)) ∨ (gR A ≠ 0 ∧ ∃ h', mm_P d 156 [(2, 1)] w h = some ((0, gR A - 1), w, h') ∧ cHist w h' (gRedo A) ∧ HK h' ∧ h' 1 15 = 1 ∧ (∀ i : Int, i ≠ 15 → h' 1 i = h 1 i) ∧ ∀ b : Int, b ≠ 1 → b ≠ 2 → h' b = h b) := by
  obtain ⟨d, rfl, hd2⟩ := mm_dS hd; clear hd; have hd := hd2; clear hd2
  obtain ⟨d, rfl, hd2⟩ := mm_dS hd; clear hd; have hd := hd2; clear hd2
  have w1 : (w.1 1).1 = 12 := by rw [hW.1.1]
  have w2 : (w.1 2).1 = 4 := by rw [hW.1.2.1]
  obtain ⟨c1, c2, c3, c4, c5⟩ := hc
  rw [P_F_redo, mF_t w1, hK.1.1, mF_t w2, c3]
  by_cases c : gR A = 0
  · rw [mEq_t c]
    exact Or.inl ⟨c, rfl⟩
  refine Or.inr ⟨c, ?_⟩
  rw [mEq_f c, mZ_1, mF_t w1]
  try dsimp only
  rw [mF_t w1, mUp_n (Or.inr (by decide)), hK.1.1, mF_t w2, P_Hi_stepOn]
  simp only [mF_t w2]
  generalize hg : mUp h 1 15 1 = h1
  have e1 : ∀ b : Int, b ≠ 1 → h1 b = h b := fun b hb => by rw [← hg]; exact mUp_row hb
  have e2 : ∀ i : Int, i ≠ 15 → h1 1 i = h 1 i := fun i hi => by rw [← hg]; exact mUp_n (Or.inr hi)
  have e3 : h1 1 15 = 1 := by rw [← hg]; exact mUp_s
  have m3 : mI (h1 2 3 + 1) = gD A + 1 := by rw [e1 2 (by decide), c2, mI_id (by omega) (by omega)]
  rw [m3]
  have m4 : mI (mUp h1 2 3 (gD A + 1) 2 4 - 1) = gR A - 1 := by rw [mUp_n (Or.inr (by decide)), e1 2 (by decide), c3, mI_id (by omega) (by omega)]
  rw [m4]
  generalize hg2 : mUp (mUp h1 2 3 (gD A + 1)) 2 4 (gR A - 1) = h2
  have f1 : ∀ b : Int, b ≠ 2 → h2 b = h1 b := fun b hb => by rw [← hg2, mUp_row hb, mUp_row hb]
  have f2 : ∀ i : Int, i ≠ 3 → i ≠ 4 → h2 2 i = h 2 i := fun i i3 i4 => by rw [← hg2, mUp_n (Or.inr i4), mUp_n (Or.inr i3), e1 2 (by decide)]
  have f3 : h2 2 3 = gD A + 1 := by rw [← hg2, mUp_n (Or.inr (by decide))]; exact mUp_s
  have f4 : h2 2 4 = gR A - 1 := by rw [← hg2]; exact mUp_s
  have fr : ∀ b : Int, b ≠ 1 → b ≠ 2 → h2 b = h b := fun b b1 b2 => by rw [f1 b b2, e1 b b1]
  refine ⟨h2, by rw [f4, mC_s], ⟨by rw [f2 2 (by decide) (by decide)]; exact c1, f3, f4, by show 0 ≤ gD A + 1 ∧ 0 ≤ gR A - 1 ∧ (gD A + 1) + (gR A - 1) ≤ 30; omega, fun k k0 k1 => ?_⟩, HK_12 hK (fun i hi => by rw [f1 1 (by decide), e2 i (by omega)]) (fun i hi => f2 i (by omega) (by omega)) fr, by rw [f1 1 (by decide)]; exact e3, fun i hi => by rw [f1 1 (by decide), e2 i hi], fr⟩
  have k1 : k ≤ (gD A + 1) + (gR A - 1) := k1
  obtain ⟨q1, q2⟩ := c5 k k0 (by omega)
  have hin := gAt_in (base := h 2 2) (k := k)
  rw [f2 2 (by decide) (by decide)]
  exact ⟨RC_fr q1 q2 ⟨Int.le_refl _, fun a a0 _ => ⟨rfl, fr a (by omega) (by omega)⟩⟩ (fun b b0 b1 => fr b (by omega) (by omega)), q2⟩
theorem E_F_image (hd : 4 ≤ d) (hW : WK w) (hK : HK h) (hc : cHist w h A) : ∃ h', mm_P d 185 [(2, 1)] w h = some ((0, 1), w, h') ∧ cHist w h' (gImg A) ∧ cImg w h' (gImg A) ∧ HK h' ∧ (∀ i : Int, i ≠ 14 → h' 1 i = h 1 i) ∧ ∀ b : Int, b ≠ 1 → ¬ (470 ≤ b ∧ b < 483) → h' b = h b := by
  obtain ⟨d, rfl, hd2⟩ := mm_dS hd; clear hd; have hd := hd2; clear hd2
  have w1 : (w.1 1).1 = 12 := by rw [hW.1.1]
  have S470 : ShW w 470 := hW.2.2.2.2.2.2.2.2.1
  have w470 : (w.1 470).1 = 9 := by rw [S470.2.1]
  have c0 := hc
  obtain ⟨c1, c2, c3, c4, c5⟩ := hc
  obtain ⟨q1, q2⟩ := c5 (gD A) c4.1 (by omega)
  have hin := gAt_in (base := h 2 2) (k := gD A)
  obtain ⟨h1, g1, g2, g3⟩ := E_become (d := d) (by omega) S470 (WK_sh hW) (by omega) (by decide) q2 q1 hK.2.2.2.2.2.2.2
  have k13 : h 1 13 = 470 := hK.1.2.2.2.2.2.2.2.2.2.2.2.2.2
  rw [P_F_image]
  simp only [mF_t w1, k13]
  rw [E_now (by omega) hW hK c0, mC_s, mF_t w470, g1, mC_s, mZ_1, mF_t w1]
  try dsimp only
  have u : ∀ b : Int, b ≠ 1 → mUp h1 1 14 1 b = h1 b := fun b hb => mUp_row hb
  have fr : ∀ b : Int, b ≠ 1 → ¬ (470 ≤ b ∧ b < 483) → mUp h1 1 14 1 b = h b := fun b b1 b2 => by rw [u b b1, g3 b b2]
  have i1 : ∀ i : Int, i ≠ 14 → mUp h1 1 14 1 1 i = h 1 i := fun i hi => by rw [mUp_n (Or.inr hi), g3 1 (by omega)]
  have R1 : RC w (mUp h1 1 14 1) 470 (gNow A) := RC_fr g2 q2 ⟨Int.le_refl _, fun a a0 _ => ⟨rfl, u a (by omega)⟩⟩ (fun b b0 b1 => u b (by omega))
  refine ⟨mUp h1 1 14 1, rfl, ⟨by rw [fr 2 (by decide) (by omega)]; exact c1, by rw [fr 2 (by decide) (by omega)]; exact c2, by rw [fr 2 (by decide) (by omega)]; exact c3, c4, fun k k0 k1 => ?_⟩, ⟨mUp_s, Or.inr rfl, fun _ => ⟨R1, q2⟩⟩, ?_, i1, fr⟩
  · obtain ⟨p1, p2⟩ := c5 k k0 k1
    have hin := gAt_in (base := h 2 2) (k := k)
    rw [fr 2 (by decide) (by omega)]
    exact ⟨RC_fr p1 p2 ⟨Int.le_refl _, fun a a0 _ => ⟨rfl, fr a (by omega) (by omega)⟩⟩ (fun b b0 b1 => fr b (by omega) (by omega)), p2⟩
  · refine HK_fr hK (fun b i hb => ?_) (fun k k0 k1 => ShH_fr (hK.2.2.2.2.2.1 k k0 k1) (fun i _ _ => by rw [fr _ (by omega) (by omega)]) (fr _ (by omega) (by omega))) (ShH_fr hK.2.2.2.2.2.2.1 (fun i _ _ => by rw [fr _ (by omega) (by omega)]) (fr _ (by omega) (by omega))) R1.1
    by_cases z1 : b = 1
    · subst z1; exact i1 i (by unfold kSl at hb; omega)
    · rw [fr b z1 (by unfold kSl at hb; omega)]
theorem E_F_back (hd : 5 ≤ d) (hW : WK w) (hK : HK h) (hc : cHist w h A) (hi : cImg w h A) : (gIk A = 0 ∧ mm_P d 186 [(2, 1)] w h = some ((0, -3), w, h)) ∨ (gIk A = 1 ∧ ∃ h', mm_P d 186 [(2, 1)] w h = some ((0, 1), w, h') ∧ cHist w h' (gBack A) ∧ HK h' ∧ h' 1 15 = 1 ∧ (∀ i : Int, i ≠ 15 → h' 1 i = h 1 i) ∧ ∀ b : Int, b ≠ 1 → b ≠ 2 → ¬ (17 ≤ b ∧ b < 420) → h' b = h b) := by
  obtain ⟨d, rfl, hd2⟩ := mm_dS hd; clear hd; have hd := hd2; clear hd2
  obtain ⟨d, rfl, hd2⟩ := mm_dS hd; clear hd; have hd := hd2; clear hd2
  have w1 : (w.1 1).1 = 12 := by rw [hW.1.1]
  have w2 : (w.1 2).1 = 4 := by rw [hW.1.2.1]
  obtain ⟨i1, i2, i3⟩ := hi
  obtain ⟨c1, c2, c3, c4, c5⟩ := hc
  have S470 : ShW w 470 := hW.2.2.2.2.2.2.2.2.1
  have k13 : h 1 13 = 470 := hK.1.2.2.2.2.2.2.2.2.2.2.2.2.2
  rw [P_F_back, mF_t w1, i1]
  by_cases c : gIk A = 0
  · rw [mEq_t c]
    exact Or.inl ⟨c, rfl⟩
  have c' : gIk A = 1 := by omega
  obtain ⟨q1, q2⟩ := i3 c'
  refine Or.inr ⟨c', ?_⟩
  rw [mEq_f c]
  simp only [mF_t w1, hK.1.1, k13, mF_t w2]
  rw [P_Hi_startFrom, mF_t w2]
  try dsimp only
  rw [mF_t w2]
  generalize hg : mUp (mUp h 2 3 0) 2 4 0 = h1
  have e1 : ∀ b : Int, b ≠ 2 → h1 b = h b := fun b hb => by rw [← hg, mUp_row hb, mUp_row hb]
  have e2 : ∀ i : Int, i ≠ 3 → i ≠ 4 → h1 2 i = h 2 i := fun i a b => by rw [← hg, mUp_n (Or.inr b), mUp_n (Or.inr a)]
  have e3 : h1 2 3 = 0 := by rw [← hg, mUp_n (Or.inr (by decide))]; exact mUp_s
  have e4 : h1 2 4 = 0 := by rw [← hg]; exact mUp_s
  have K1 : HK h1 := HK_12 hK (fun i hi => by rw [e1 1 (by decide)]) (fun i hi => e2 i (by omega) (by omega)) (fun b b1 b2 => e1 b b2)
  have hin := gAt_in (base := h 2 2) (k := 0)
  have R1 : RC w h1 470 (gI A) := RC_fr q1 q2 ⟨Int.le_refl _, fun a a0 _ => ⟨rfl, e1 a (by omega)⟩⟩ (fun b b0 b1 => e1 b (by omega))
  obtain ⟨h2, g1, g2, g3⟩ := E_become (d := d) (by omega) (WK_sh hW (base := h 2 2) (k := 0)) S470 (by omega) (by omega) q2 R1 (HK_sh K1)
  rw [mF_t w2, E_stateAt (by omega) hW K1 (by rw [e2 2 (by decide) (by decide)]; exact c1) (by decide) (by decide), mC_s, e2 2 (by decide) (by decide), mF_t (by rw [(WK_sh hW).2.1]), g1, mC_s, mC_s, mZ_1, mF_t w1]
  try dsimp only
  have u : ∀ b : Int, b ≠ 1 → mUp h2 1 15 1 b = h2 b := fun b hb => mUp_row hb
  have fr : ∀ b : Int, b ≠ 1 → b ≠ 2 → ¬ (17 ≤ b ∧ b < 420) → mUp h2 1 15 1 b = h b := fun b b1 b2 b3 => by rw [u b b1, g3 b (by omega), e1 b b2]
  have z2 : mUp h2 1 15 1 2 = h1 2 := by rw [u 2 (by decide), g3 2 (by omega)]
  have j1 : ∀ i : Int, i ≠ 15 → mUp h2 1 15 1 1 i = h 1 i := fun i hi => by rw [mUp_n (Or.inr hi), g3 1 (by omega), e1 1 (by decide)]
  refine ⟨mUp h2 1 15 1, rfl, ⟨by rw [z2, e2 2 (by decide) (by decide)]; exact c1, by rw [z2]; exact e3, by rw [z2]; exact e4, ⟨Int.le_refl _, Int.le_refl _, (by decide : (0 : Int) + 0 ≤ 30)⟩, fun k k0 k1 => ?_⟩, ?_, mUp_s, j1, fr⟩
  · have k1 : k ≤ (0 : Int) + 0 := k1
    rw [z2, e2 2 (by decide) (by decide), show k = 0 by omega]
    exact ⟨RC_fr g2 q2 ⟨Int.le_refl _, fun a a0 _ => ⟨rfl, u a (by omega)⟩⟩ (fun b b0 b1 => u b (by omega)), q2⟩
  · refine HK_fr K1 (fun b i hb => ?_) (fun k k0 k1 => ?_) (ShH_fr K1.2.2.2.2.2.2.1 (fun i _ _ => by rw [u _ (by omega), g3 _ (by omega)]) (by rw [u _ (by omega), g3 _ (by omega)])) (ShH_fr K1.2.2.2.2.2.2.2 (fun i _ _ => by rw [u _ (by omega), g3 _ (by omega)]) (by rw [u _ (by omega), g3 _ (by omega)]))
    · by_cases z1 : b = 1
      · subst z1; rw [j1 i (by unfold kSl at hb; omega), e1 1 (by decide)]
      · rw [u b z1, g3 b (by unfold kSl at hb; omega)]
    · by_cases q : 4 + 13 * k = gAt (h 2 2) 0
      · rw [q]
        exact ShH_fr g2.1 (fun i _ _ => by rw [u _ (by omega)]) (u _ (by omega))
      · have : 4 + 13 * k + 13 ≤ gAt (h 2 2) 0 ∨ gAt (h 2 2) 0 + 13 ≤ 4 + 13 * k := by unfold gAt at q ⊢; omega
        exact ShH_fr (K1.2.2.2.2.2.1 k k0 k1) (fun i _ _ => by rw [u _ (by omega), g3 _ (by omega)]) (by rw [u _ (by omega), g3 _ (by omega)])
end PU
