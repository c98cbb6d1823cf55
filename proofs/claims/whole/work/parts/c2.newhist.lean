/-! PURE: constructors: the history. -/
section PU
variable {d : Nat} {w w' : mm_W} {h h' : mm_H} {S : Int}
theorem ShW_lc (hs : ShW w S) (e : ∀ b : Int, b < S + 13 → w'.1 b = w.1 b) : ShW w' S := by
  obtain ⟨z0, z1, z2, z3, z4, z5, z6, z7, z8⟩ := hs
  exact ⟨z0, by rw [e _ (by omega)]; exact z1, by rw [e _ (by omega)]; exact z2, by rw [e _ (by omega)]; exact z3, by rw [e _ (by omega)]; exact z4, by rw [e _ (by omega)]; exact z5, by rw [e _ (by omega)]; exact z6, by rw [e _ (by omega)]; exact z7, fun i i0 i1 => by rw [e _ (by omega)]; exact z8 i i0 i1⟩
theorem CS_lc (h5 : w.2.1 ≤ 506) (hl : w.2.1 ≤ w'.2.1) : CS w w' h h' := ⟨hl, fun a a0 a1 => by omega⟩
theorem L_hii (hd : 10 ≤ d) : ∀ (m : Nat) (i : Int) (w : mm_W) (h : mm_H), (w.1 2).1 = 4 → w.1 3 = (109, 31) → h 2 0 = 3 → w.2.1 = 17 + 13 * i → 0 ≤ i → i + m = 31 → ∃ (w' : mm_W) (h' : mm_H), l_Hi_init_0 (mm_P d) 2 i w h = some (.inr (54, [(2, 2), (0, 31)], w', h')) ∧ w'.2.1 = 420 ∧ w'.2.2 = w.2.2 + 1483 * m ∧ (∀ b : Int, b < 17 + 13 * i → w'.1 b = w.1 b) ∧ (∀ j : Int, i ≤ j → j < 31 → ShW w' (17 + 13 * j) ∧ RC w' h' (17 + 13 * j) s00) ∧ (∀ b : Int, b < 17 + 13 * i → b ≠ 3 → h' b = h b) ∧ (∀ j : Int, j < i → h' 3 j = h 3 j) ∧ ∀ j : Int, i ≤ j → j < 31 → h' 3 j = 17 + 13 * j := by
  intro m
  induction m with
  | zero =>
    intro i w h a1 a2 a3 a4 a5 a6
    rw [l_Hi_init_0_eq, mF_t a1, a3, mN_t a2 (by decide), a2, mLe_t (by omega), show i = 31 by omega]
    exact ⟨w, h, rfl, by omega, by omega, fun _ _ => rfl, fun j j0 j1 => by omega, fun _ _ _ => rfl, fun _ _ => rfl, fun j j0 j1 => by omega⟩
  | succ m ih =>
    intro i w h a1 a2 a3 a4 a5 a6
    have e1 : (mNew w 9 9).1 (17 + 13 * i) = (9, 9) := nW_e 9 9 a4.symm
    obtain ⟨w1, h1, g1, g2, g3, g4, g5, g6, g7⟩ := E_Sh_init (d := d) (w := mNew w 9 9) (h := mZero h (17 + 13 * i)) (S := 17 + 13 * i) (by omega) (by omega) (by rw [nW_n, a4]) e1 (mZ_s 2)
    have o : ∀ b : Int, b < 17 + 13 * i → w1.1 b = w.1 b := fun b hb => by rw [g4 b (by omega)]; exact nW_o 9 9 (by omega)
    have z : ∀ b : Int, b < 17 + 13 * i → h1 b = h b := fun b hb => by rw [g6 b hb]; exact mZ_o (by omega)
    have k1 : w1.1 (17 + 13 * i) = (9, 9) := by rw [g4 _ (Int.le_refl _)]; exact e1
    rw [l_Hi_init_0_eq, mF_t a1, a3, mN_t a2 (by decide), a2, mLe_f (show i < 31 by omega), mF_t a1]
    dsimp only
    rw [a4, mF_t (by rw [e1]), g1, mC_s, mAs_t' (show w1.1 3 = (109, 31) by rw [o 3 (by omega)]; exact a2) (by decide) a5 (by omega) (by omega) (by rw [k1]), mI_id (x := i + 1) (by omega) (by omega)]
    obtain ⟨w', h', y1, y2, y3, y4, y5, y6, y7, y8⟩ := ih (i + 1) w1 (mUp h1 3 i (17 + 13 * i)) (by rw [o 2 (by omega)]; exact a1) (by rw [o 3 (by omega)]; exact a2) (by rw [mUp_row (by omega), z 2 (by omega)]; exact a3) (by rw [g2]; omega) (by omega) (by omega)
    have hz : (mNew w 9 9).2.2 = w.2.2 + 9 := rfl
    refine ⟨w', h', y1, y2, by rw [y3, g3, hz]; omega, fun b hb => by rw [y4 b (by omega), o b hb], fun j j0 j1 => ?_, fun b hb b3 => by rw [y6 b (by omega) b3, mUp_row b3, z b hb], fun j hj => by rw [y7 j (by omega), mUp_n (Or.inr (by omega)), z 3 (by omega)], fun j j0 j1 => ?_⟩
    · by_cases e : j = i
      · subst e
        exact ⟨ShW_lc g5 (fun b hb => y4 b (by omega)), RC_fr g7 s00_I (CS_lc (by omega) (by omega)) (fun b b0 b1 => by rw [y6 b (by omega) (by omega), mUp_row (by omega)])⟩
      · exact y5 j (by omega) j1
    · by_cases e : j = i
      · rw [e, y7 i (by omega), mUp_s]
      · exact y8 j (by omega) j1
theorem E_Hi_init (hd : 20 ≤ d) (hN : w.2.1 = 3) (hw : (w.1 2).1 = 4) : ∃ (w' : mm_W) (h' : mm_H), mm_P d 44 [(2, 2)] w h = some ((9, 0), w', h') ∧ NO w w' h h' 2 417 47487 ∧ w'.1 3 = (109, 31) ∧ (∀ k : Int, 0 ≤ k → k < 32 → ShW w' (4 + 13 * k) ∧ RC w' h' (4 + 13 * k) s00) ∧ h' 2 0 = 3 ∧ h' 2 1 = 4 ∧ (∀ i : Int, 2 ≤ i → h' 2 i = h 2 i) ∧ ∀ j : Int, 0 ≤ j → j < 31 → h' 3 j = 17 + 13 * j := by
  obtain ⟨d, rfl, hd2⟩ := mm_dS hd
  have u1 : (mNew w 109 31).2.1 = 4 := by rw [nW_n, hN]; rfl
  have e3 : (mNew w 109 31).1 3 = (109, 31) := nW_e 109 31 hN.symm
  have o3 : ∀ b : Int, b < 3 → (mNew w 109 31).1 b = w.1 b := fun b hb => nW_o 109 31 (by omega)
  generalize hW1 : mNew w 109 31 = w1 at u1 e3 o3
  have z1 : w1.2.2 = w.2.2 + 31 := by rw [← hW1, nW_z]
  have e4 : (mNew w1 9 9).1 4 = (9, 9) := nW_e 9 9 u1.symm
  have o4 : ∀ b : Int, b < 4 → (mNew w1 9 9).1 b = w1.1 b := fun b hb => nW_o 9 9 (by omega)
  obtain ⟨w2, h2, g1, g2, g3, g4, g5, g6, g7⟩ := E_Sh_init (d := d) (w := mNew w1 9 9) (h := mZero (mUp (mZero h 3) 2 0 3) 4) (S := 4) (by omega) (by decide) (by rw [nW_n, u1]) e4 (mZ_s 2)
  have hz : (mNew w1 9 9).2.2 = w1.2.2 + 9 := rfl
  have p2 : (w2.1 2).1 = 4 := by rw [g4 2 (by decide), o4 2 (by decide), o3 2 (by decide)]; exact hw
  have p3 : w2.1 3 = (109, 31) := by rw [g4 3 (by decide), o4 3 (by decide)]; exact e3
  rw [P_Hi_init, mF_t hw, mM_t (by decide)]
  dsimp only
  rw [hW1, hN, mF_t (by rw [o3 2 (by decide)]; exact hw), mLe_t (by decide), u1, mF_t (by rw [e4]), g1, mC_s, mF_t p2, mLe_t (by decide)]
  obtain ⟨w', h', y1, y2, y3, y4, y5, y6, y7, y8⟩ := L_hii (d := d) (by omega) 31 0 w2 (mUp h2 2 1 4) p2 p3 (by rw [mUp_n (Or.inr (by decide)), g6 2 (by decide), mZ_o (by decide), mUp_s]) (by rw [g2]; rfl) (Int.le_refl _) (by decide)
  rw [y1, mK_r, if_pos rfl]
  refine ⟨w', h', rfl, ⟨by omega, by omega, fun b hb => by rw [y4 b (by omega), g4 b (by omega), o4 b (by omega), o3 b (by omega)], fun b hb => by rw [y6 b (by omega) (by omega), mUp_row (by omega), g6 b (by omega), mZ_o (by omega), mUp_row (by omega), mZ_o (by omega)]⟩, by rw [y4 3 (by decide)]; exact p3, fun k k0 k1 => ?_, ?_, ?_, fun i hi => ?_, fun j j0 j1 => y8 j j0 j1⟩
  · by_cases e : k = 0
    · subst e
      exact ⟨ShW_lc g5 (fun b hb => y4 b (by omega)), RC_fr g7 s00_I (CS_lc (by omega) (by omega)) (fun b b0 b1 => by rw [y6 b (by omega) (by omega), mUp_row (by omega)])⟩
    · have q := y5 (k - 1) (by omega) (by omega)
      rw [show 17 + 13 * (k - 1) = 4 + 13 * k by omega] at q
      exact q
  · rw [y6 2 (by decide) (by decide), mUp_n (Or.inr (by decide)), g6 2 (by decide), mZ_o (by decide), mUp_s]
  · rw [y6 2 (by decide) (by decide), mUp_s]
  · rw [y6 2 (by decide) (by decide), mUp_n (Or.inr (by omega)), g6 2 (by decide), mZ_o (by decide), mUp_n (Or.inr (by omega)), mZ_o (by decide)]
end PU
