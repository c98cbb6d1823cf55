/-! PURE: constructors: the reference; printed by wip/whole/gen/genc4.py. -/
section PU
variable {d : Nat} {w0 : mm_W} {h0 : mm_H}
theorem L_mi0 {w : mm_W} (hw : (w.1 483).1 = 13) (w4 : w.1 484 = (50, 3863)) : ∀ (m : Nat) (i : Int) (h : mm_H), h 483 0 = 484 → 0 ≤ i → i + m = 135 → ∃ h', l_M_init_0 (mm_P d) 483 i w h = some (.inr (313, [(2, 483), (0, 135)], w, h')) ∧ (∀ b : Int, b ≠ 484 → h' b = h b) ∧ (∀ j : Int, (j < i ∨ 135 ≤ j) → h' 484 j = h 484 j) ∧ ∀ j : Int, i ≤ j → j < 135 → h' 484 j = -1 := by
  intro m
  induction m with
  | zero =>
    intro i h a1 a2 a3
    rw [l_M_init_0_eq, mLe_t (by omega), show i = 135 by omega]
    exact ⟨h, rfl, fun _ _ => rfl, fun _ _ => rfl, fun j j0 j1 => by omega⟩
  | succ m ih =>
    intro i h a1 a2 a3
    obtain ⟨h1, x1, x2, x3, x4⟩ := ih (i + 1) (mUp h 484 i (-1)) (by rw [mUp_row (by decide)]; exact a1) (by omega) (by omega)
    rw [l_M_init_0_eq, mLe_f (by omega), mF_t hw, a1, mAw_t w4 (by omega) (by omega) (by decide)]
    try dsimp only
    rw [mI_id (x := i + 1) (by omega) (by omega), x1]
    refine ⟨h1, rfl, fun b hb => by rw [x2 b hb, mUp_row hb], fun j hj => by rw [x3 j (by omega), mUp_n (Or.inr (by omega))], fun j j0 j1 => ?_⟩
    by_cases e : j = i
    · rw [e, x3 i (by omega), mUp_s]
    · exact x4 j (by omega) j1
theorem L_mi1 {w : mm_W} (hw : (w.1 483).1 = 13) (w4 : w.1 484 = (50, 3863)) : ∀ (m : Nat) (i : Int) (h : mm_H), h 483 0 = 484 → 0 ≤ i → i + m = 1415 → ∃ h', l_M_init_1 (mm_P d) 483 i w h = some (.inr (337, [(2, 483), (0, 1415)], w, h')) ∧ (∀ b : Int, b ≠ 484 → h' b = h b) ∧ (∀ j : Int, (j < i ∨ 1415 ≤ j) → h' 484 j = h 484 j) ∧ ∀ j : Int, i ≤ j → j < 1415 → h' 484 j = -1 := by
  intro m
  induction m with
  | zero =>
    intro i h a1 a2 a3
    rw [l_M_init_1_eq, mLe_t (by omega), show i = 1415 by omega]
    exact ⟨h, rfl, fun _ _ => rfl, fun _ _ => rfl, fun j j0 j1 => by omega⟩
  | succ m ih =>
    intro i h a1 a2 a3
    obtain ⟨h1, x1, x2, x3, x4⟩ := ih (i + 1) (mUp h 484 i (-1)) (by rw [mUp_row (by decide)]; exact a1) (by omega) (by omega)
    rw [l_M_init_1_eq, mLe_f (by omega), mF_t hw, a1, mAw_t w4 (by omega) (by omega) (by decide)]
    try dsimp only
    rw [mI_id (x := i + 1) (by omega) (by omega), x1]
    refine ⟨h1, rfl, fun b hb => by rw [x2 b hb, mUp_row hb], fun j hj => by rw [x3 j (by omega), mUp_n (Or.inr (by omega))], fun j j0 j1 => ?_⟩
    by_cases e : j = i
    · rw [e, x3 i (by omega), mUp_s]
    · exact x4 j (by omega) j1
theorem E_M_init (hd : 5 ≤ d) (n0 : w0.2.1 = 484) (k0 : w0.1 483 = (13, 51)) (zz : ∀ i : Int, h0 483 i = 0) : ∃ (w' : mm_W) (h' : mm_H), mm_P d 213 [(2, 483)] w0 h0 = some ((9, 0), w', h') ∧ w'.2.1 = 506 ∧ w'.2.2 ≤ w0.2.2 + 200000 ∧ (∀ b : Int, b ≤ 483 → w'.1 b = w0.1 b) ∧ (∀ b : Int, b < 483 → h' b = h0 b) ∧ GM w' h' A00 := by
  obtain ⟨d, rfl, hd2⟩ := mm_dS hd
  have c0 : (w0.1 483).1 = 13 := by rw [k0]
  rw [P_M_init, mF_t c0]
  dsimp only
  have e0 : (mNew w0 50 3863).1 484 = (50, 3863) := nW_e 50 3863 n0.symm
  have v0 : (mNew w0 50 3863).2.1 = 485 := by rw [nW_n, n0]; rfl
  have s0 : (mNew w0 50 3863).2.2 = w0.2.2 + 3863 := rfl
  have o0 : ∀ b : Int, b < 484 → (mNew w0 50 3863).1 b = w0.1 b := fun b hb => nW_o 50 3863 (by omega)
  have c1 : ((mNew w0 50 3863).1 483).1 = 13 := by rw [o0 483 (by decide)]; exact c0
  rw [mM_t (by decide), n0, mF_t c1, mLe_t (by decide)]
  have z0 : ∀ b : Int, b < 484 → mZero h0 484 b = h0 b := fun b hb => mZ_o (by omega)
  have f0 : ∀ j : Int, mZero h0 484 484 j = 0 := fun j => mZ_s j
  generalize ht0 : mZero h0 484 = t0 at z0 f0 ⊢
  generalize hw0 : mNew w0 50 3863 = w1 at e0 v0 s0 o0 c1 ⊢
  have n1 : w1.2.1 = 485 := v0
  generalize hh0 : mUp t0 483 0 484 = h1
  have y0 : ∀ b : Int, b ≠ 483 → b < 484 → h1 b = h0 b := fun b b1 hb => by rw [← hh0, mUp_row b1]; exact z0 b hb
  have g0 : ∀ b : Int, b ≠ 483 → h1 b = t0 b := fun b b1 => by rw [← hh0, mUp_row b1]
  have r0 : ∀ i : Int, i ≠ 0 → h1 483 i = h0 483 i := fun i hi => by rw [← hh0, mUp_n (Or.inr hi), z0 483 (by decide)]
  have l0 : h1 483 0 = 484 := by rw [← hh0, mUp_s]
  have e1 : (mNew w1 50 119753).1 485 = (50, 119753) := nW_e 50 119753 n1.symm
  have v1 : (mNew w1 50 119753).2.1 = 486 := by rw [nW_n, n1]; rfl
  have s1 : (mNew w1 50 119753).2.2 = w1.2.2 + 119753 := rfl
  have o1 : ∀ b : Int, b < 485 → (mNew w1 50 119753).1 b = w1.1 b := fun b hb => nW_o 50 119753 (by omega)
  have c2 : ((mNew w1 50 119753).1 483).1 = 13 := by rw [o1 483 (by decide)]; exact c1
  rw [mM_t (by decide), n1, mF_t c2, mLe_t (by decide)]
  have z1 : ∀ b : Int, b < 485 → mZero h1 485 b = h1 b := fun b hb => mZ_o (by omega)
  have f1 : ∀ j : Int, mZero h1 485 485 j = 0 := fun j => mZ_s j
  generalize ht1 : mZero h1 485 = t1 at z1 f1 ⊢
  generalize hw1 : mNew w1 50 119753 = w2 at e1 v1 s1 o1 c2 ⊢
  have n2 : w2.2.1 = 486 := v1
  generalize hh1 : mUp t1 483 1 485 = h2
  have y1 : ∀ b : Int, b ≠ 483 → b < 485 → h2 b = h1 b := fun b b1 hb => by rw [← hh1, mUp_row b1]; exact z1 b hb
  have g1 : ∀ b : Int, b ≠ 483 → h2 b = t1 b := fun b b1 => by rw [← hh1, mUp_row b1]
  have r1 : ∀ i : Int, i ≠ 1 → h2 483 i = h1 483 i := fun i hi => by rw [← hh1, mUp_n (Or.inr hi), z1 483 (by decide)]
  have l1 : h2 483 1 = 485 := by rw [← hh1, mUp_s]
  have e2 : (mNew w2 50 3863).1 486 = (50, 3863) := nW_e 50 3863 n2.symm
  have v2 : (mNew w2 50 3863).2.1 = 487 := by rw [nW_n, n2]; rfl
  have s2 : (mNew w2 50 3863).2.2 = w2.2.2 + 3863 := rfl
  have o2 : ∀ b : Int, b < 486 → (mNew w2 50 3863).1 b = w2.1 b := fun b hb => nW_o 50 3863 (by omega)
  have c3 : ((mNew w2 50 3863).1 483).1 = 13 := by rw [o2 483 (by decide)]; exact c2
  rw [mM_t (by decide), n2, mF_t c3, mLe_t (by decide)]
  have z2 : ∀ b : Int, b < 486 → mZero h2 486 b = h2 b := fun b hb => mZ_o (by omega)
  have f2 : ∀ j : Int, mZero h2 486 486 j = 0 := fun j => mZ_s j
  generalize ht2 : mZero h2 486 = t2 at z2 f2 ⊢
  generalize hw2 : mNew w2 50 3863 = w3 at e2 v2 s2 o2 c3 ⊢
  have n3 : w3.2.1 = 487 := v2
  generalize hh2 : mUp t2 483 5 486 = h3
  have y2 : ∀ b : Int, b ≠ 483 → b < 486 → h3 b = h2 b := fun b b1 hb => by rw [← hh2, mUp_row b1]; exact z2 b hb
  have g2 : ∀ b : Int, b ≠ 483 → h3 b = t2 b := fun b b1 => by rw [← hh2, mUp_row b1]
  have r2 : ∀ i : Int, i ≠ 5 → h3 483 i = h2 483 i := fun i hi => by rw [← hh2, mUp_n (Or.inr hi), z2 483 (by decide)]
  have l2 : h3 483 5 = 486 := by rw [← hh2, mUp_s]
  have e3 : (mNew w3 50 3863).1 487 = (50, 3863) := nW_e 50 3863 n3.symm
  have v3 : (mNew w3 50 3863).2.1 = 488 := by rw [nW_n, n3]; rfl
  have s3 : (mNew w3 50 3863).2.2 = w3.2.2 + 3863 := rfl
  have o3 : ∀ b : Int, b < 487 → (mNew w3 50 3863).1 b = w3.1 b := fun b hb => nW_o 50 3863 (by omega)
  have c4 : ((mNew w3 50 3863).1 483).1 = 13 := by rw [o3 483 (by decide)]; exact c3
  rw [mM_t (by decide), n3, mF_t c4, mLe_t (by decide)]
  have z3 : ∀ b : Int, b < 487 → mZero h3 487 b = h3 b := fun b hb => mZ_o (by omega)
  have f3 : ∀ j : Int, mZero h3 487 487 j = 0 := fun j => mZ_s j
  generalize ht3 : mZero h3 487 = t3 at z3 f3 ⊢
  generalize hw3 : mNew w3 50 3863 = w4 at e3 v3 s3 o3 c4 ⊢
  have n4 : w4.2.1 = 488 := v3
  generalize hh3 : mUp t3 483 7 487 = h4
  have y3 : ∀ b : Int, b ≠ 483 → b < 487 → h4 b = h3 b := fun b b1 hb => by rw [← hh3, mUp_row b1]; exact z3 b hb
  have g3 : ∀ b : Int, b ≠ 483 → h4 b = t3 b := fun b b1 => by rw [← hh3, mUp_row b1]
  have r3 : ∀ i : Int, i ≠ 7 → h4 483 i = h3 483 i := fun i hi => by rw [← hh3, mUp_n (Or.inr hi), z3 483 (by decide)]
  have l3 : h4 483 7 = 487 := by rw [← hh3, mUp_s]
  have e4 : (mNew w4 50 16).1 488 = (50, 16) := nW_e 50 16 n4.symm
  have v4 : (mNew w4 50 16).2.1 = 489 := by rw [nW_n, n4]; rfl
  have s4 : (mNew w4 50 16).2.2 = w4.2.2 + 16 := rfl
  have o4 : ∀ b : Int, b < 488 → (mNew w4 50 16).1 b = w4.1 b := fun b hb => nW_o 50 16 (by omega)
  have c5 : ((mNew w4 50 16).1 483).1 = 13 := by rw [o4 483 (by decide)]; exact c4
  rw [mM_t (by decide), n4, mF_t c5, mLe_t (by decide)]
  have z4 : ∀ b : Int, b < 488 → mZero h4 488 b = h4 b := fun b hb => mZ_o (by omega)
  have f4 : ∀ j : Int, mZero h4 488 488 j = 0 := fun j => mZ_s j
  generalize ht4 : mZero h4 488 = t4 at z4 f4 ⊢
  generalize hw4 : mNew w4 50 16 = w5 at e4 v4 s4 o4 c5 ⊢
  have n5 : w5.2.1 = 489 := v4
  generalize hh4 : mUp t4 483 12 488 = h5
  have y4 : ∀ b : Int, b ≠ 483 → b < 488 → h5 b = h4 b := fun b b1 hb => by rw [← hh4, mUp_row b1]; exact z4 b hb
  have g4 : ∀ b : Int, b ≠ 483 → h5 b = t4 b := fun b b1 => by rw [← hh4, mUp_row b1]
  have r4 : ∀ i : Int, i ≠ 12 → h5 483 i = h4 483 i := fun i hi => by rw [← hh4, mUp_n (Or.inr hi), z4 483 (by decide)]
  have l4 : h5 483 12 = 488 := by rw [← hh4, mUp_s]
  have e5 : (mNew w5 50 1024).1 489 = (50, 1024) := nW_e 50 1024 n5.symm
  have v5 : (mNew w5 50 1024).2.1 = 490 := by rw [nW_n, n5]; rfl
  have s5 : (mNew w5 50 1024).2.2 = w5.2.2 + 1024 := rfl
  have o5 : ∀ b : Int, b < 489 → (mNew w5 50 1024).1 b = w5.1 b := fun b hb => nW_o 50 1024 (by omega)
  have c6 : ((mNew w5 50 1024).1 483).1 = 13 := by rw [o5 483 (by decide)]; exact c5
  rw [mM_t (by decide), n5, mF_t c6, mLe_t (by decide)]
  have z5 : ∀ b : Int, b < 489 → mZero h5 489 b = h5 b := fun b hb => mZ_o (by omega)
  have f5 : ∀ j : Int, mZero h5 489 489 j = 0 := fun j => mZ_s j
  generalize ht5 : mZero h5 489 = t5 at z5 f5 ⊢
  generalize hw5 : mNew w5 50 1024 = w6 at e5 v5 s5 o5 c6 ⊢
  have n6 : w6.2.1 = 490 := v5
  generalize hh5 : mUp t5 483 13 489 = h6
  have y5 : ∀ b : Int, b ≠ 483 → b < 489 → h6 b = h5 b := fun b b1 hb => by rw [← hh5, mUp_row b1]; exact z5 b hb
  have g5 : ∀ b : Int, b ≠ 483 → h6 b = t5 b := fun b b1 => by rw [← hh5, mUp_row b1]
  have r5 : ∀ i : Int, i ≠ 13 → h6 483 i = h5 483 i := fun i hi => by rw [← hh5, mUp_n (Or.inr hi), z5 483 (by decide)]
  have l5 : h6 483 13 = 489 := by rw [← hh5, mUp_s]
  have e6 : (mNew w6 50 200).1 490 = (50, 200) := nW_e 50 200 n6.symm
  have v6 : (mNew w6 50 200).2.1 = 491 := by rw [nW_n, n6]; rfl
  have s6 : (mNew w6 50 200).2.2 = w6.2.2 + 200 := rfl
  have o6 : ∀ b : Int, b < 490 → (mNew w6 50 200).1 b = w6.1 b := fun b hb => nW_o 50 200 (by omega)
  have c7 : ((mNew w6 50 200).1 483).1 = 13 := by rw [o6 483 (by decide)]; exact c6
  rw [mM_t (by decide), n6, mF_t c7, mLe_t (by decide)]
  have z6 : ∀ b : Int, b < 490 → mZero h6 490 b = h6 b := fun b hb => mZ_o (by omega)
  have f6 : ∀ j : Int, mZero h6 490 490 j = 0 := fun j => mZ_s j
  generalize ht6 : mZero h6 490 = t6 at z6 f6 ⊢
  generalize hw6 : mNew w6 50 200 = w7 at e6 v6 s6 o6 c7 ⊢
  have n7 : w7.2.1 = 491 := v6
  generalize hh6 : mUp t6 483 14 490 = h7
  have y6 : ∀ b : Int, b ≠ 483 → b < 490 → h7 b = h6 b := fun b b1 hb => by rw [← hh6, mUp_row b1]; exact z6 b hb
  have g6 : ∀ b : Int, b ≠ 483 → h7 b = t6 b := fun b b1 => by rw [← hh6, mUp_row b1]
  have r6 : ∀ i : Int, i ≠ 14 → h7 483 i = h6 483 i := fun i hi => by rw [← hh6, mUp_n (Or.inr hi), z6 483 (by decide)]
  have l6 : h7 483 14 = 490 := by rw [← hh6, mUp_s]
  have e7 : (mNew w7 50 400).1 491 = (50, 400) := nW_e 50 400 n7.symm
  have v7 : (mNew w7 50 400).2.1 = 492 := by rw [nW_n, n7]; rfl
  have s7 : (mNew w7 50 400).2.2 = w7.2.2 + 400 := rfl
  have o7 : ∀ b : Int, b < 491 → (mNew w7 50 400).1 b = w7.1 b := fun b hb => nW_o 50 400 (by omega)
  have c8 : ((mNew w7 50 400).1 483).1 = 13 := by rw [o7 483 (by decide)]; exact c7
  rw [mM_t (by decide), n7, mF_t c8, mLe_t (by decide)]
  have z7 : ∀ b : Int, b < 491 → mZero h7 491 b = h7 b := fun b hb => mZ_o (by omega)
  have f7 : ∀ j : Int, mZero h7 491 491 j = 0 := fun j => mZ_s j
  generalize ht7 : mZero h7 491 = t7 at z7 f7 ⊢
  generalize hw7 : mNew w7 50 400 = w8 at e7 v7 s7 o7 c8 ⊢
  have n8 : w8.2.1 = 492 := v7
  generalize hh7 : mUp t7 483 21 491 = h8
  have y7 : ∀ b : Int, b ≠ 483 → b < 491 → h8 b = h7 b := fun b b1 hb => by rw [← hh7, mUp_row b1]; exact z7 b hb
  have g7 : ∀ b : Int, b ≠ 483 → h8 b = t7 b := fun b b1 => by rw [← hh7, mUp_row b1]
  have r7 : ∀ i : Int, i ≠ 21 → h8 483 i = h7 483 i := fun i hi => by rw [← hh7, mUp_n (Or.inr hi), z7 483 (by decide)]
  have l7 : h8 483 21 = 491 := by rw [← hh7, mUp_s]
  have e8 : (mNew w8 53 10).1 492 = (53, 10) := nW_e 53 10 n8.symm
  have v8 : (mNew w8 53 10).2.1 = 493 := by rw [nW_n, n8]; rfl
  have s8 : (mNew w8 53 10).2.2 = w8.2.2 + 10 := rfl
  have o8 : ∀ b : Int, b < 492 → (mNew w8 53 10).1 b = w8.1 b := fun b hb => nW_o 53 10 (by omega)
  have c9 : ((mNew w8 53 10).1 483).1 = 13 := by rw [o8 483 (by decide)]; exact c8
  rw [mM_t (by decide), n8, mA_t e8 (by decide) (by decide), mA_t e8 (by decide) (by decide), mA_t e8 (by decide) (by decide), mA_t e8 (by decide) (by decide), mA_t e8 (by decide) (by decide), mA_t e8 (by decide) (by decide), mA_t e8 (by decide) (by decide), mA_t e8 (by decide) (by decide), mA_t e8 (by decide) (by decide), mA_t e8 (by decide) (by decide), mF_t c9, mLe_t (by decide)]
  have z8 : ∀ b : Int, b < 492 → (mUp (mUp (mUp (mUp (mUp (mUp (mUp (mUp (mUp (mUp (mZero h8 492) 492 0 23114405) 492 1 18935) 492 2 116807086) 492 3 398548) 492 4 1130181) 492 5 20141) 492 6 441972) 492 7 12748404) 492 8 402789) 492 9 8125468850) b = h8 b := fun b hb => by rw [mUp_row (by omega), mUp_row (by omega), mUp_row (by omega), mUp_row (by omega), mUp_row (by omega), mUp_row (by omega), mUp_row (by omega), mUp_row (by omega), mUp_row (by omega), mUp_row (by omega)]; exact mZ_o (by omega)
  have f8 : mNam (mUp (mUp (mUp (mUp (mUp (mUp (mUp (mUp (mUp (mUp (mZero h8 492) 492 0 23114405) 492 1 18935) 492 2 116807086) 492 3 398548) 492 4 1130181) 492 5 20141) 492 6 441972) 492 7 12748404) 492 8 402789) 492 9 8125468850) := by unfold mNam; simp [mUp]
  generalize ht8 : mUp (mUp (mUp (mUp (mUp (mUp (mUp (mUp (mUp (mUp (mZero h8 492) 492 0 23114405) 492 1 18935) 492 2 116807086) 492 3 398548) 492 4 1130181) 492 5 20141) 492 6 441972) 492 7 12748404) 492 8 402789) 492 9 8125468850 = t8 at z8 f8 ⊢
  generalize hw8 : mNew w8 53 10 = w9 at e8 v8 s8 o8 c9 ⊢
  have n9 : w9.2.1 = 493 := v8
  generalize hh8 : mUp t8 483 24 492 = h9
  have y8 : ∀ b : Int, b ≠ 483 → b < 492 → h9 b = h8 b := fun b b1 hb => by rw [← hh8, mUp_row b1]; exact z8 b hb
  have g8 : ∀ b : Int, b ≠ 483 → h9 b = t8 b := fun b b1 => by rw [← hh8, mUp_row b1]
  have r8 : ∀ i : Int, i ≠ 24 → h9 483 i = h8 483 i := fun i hi => by rw [← hh8, mUp_n (Or.inr hi), z8 483 (by decide)]
  have l8 : h9 483 24 = 492 := by rw [← hh8, mUp_s]
  have e9 : (mNew w9 50 408).1 493 = (50, 408) := nW_e 50 408 n9.symm
  have v9 : (mNew w9 50 408).2.1 = 494 := by rw [nW_n, n9]; rfl
  have s9 : (mNew w9 50 408).2.2 = w9.2.2 + 408 := rfl
  have o9 : ∀ b : Int, b < 493 → (mNew w9 50 408).1 b = w9.1 b := fun b hb => nW_o 50 408 (by omega)
  have c10 : ((mNew w9 50 408).1 483).1 = 13 := by rw [o9 483 (by decide)]; exact c9
  rw [mM_t (by decide), n9, mF_t c10, mLe_t (by decide)]
  have z9 : ∀ b : Int, b < 493 → mZero h9 493 b = h9 b := fun b hb => mZ_o (by omega)
  have f9 : ∀ j : Int, mZero h9 493 493 j = 0 := fun j => mZ_s j
  generalize ht9 : mZero h9 493 = t9 at z9 f9 ⊢
  generalize hw9 : mNew w9 50 408 = w10 at e9 v9 s9 o9 c10 ⊢
  have n10 : w10.2.1 = 494 := v9
  generalize hh9 : mUp t9 483 25 493 = h10
  have y9 : ∀ b : Int, b ≠ 483 → b < 493 → h10 b = h9 b := fun b b1 hb => by rw [← hh9, mUp_row b1]; exact z9 b hb
  have g9 : ∀ b : Int, b ≠ 483 → h10 b = t9 b := fun b b1 => by rw [← hh9, mUp_row b1]
  have r9 : ∀ i : Int, i ≠ 25 → h10 483 i = h9 483 i := fun i hi => by rw [← hh9, mUp_n (Or.inr hi), z9 483 (by decide)]
  have l9 : h10 483 25 = 493 := by rw [← hh9, mUp_s]
  have e10 : (mNew w10 52 1536).1 494 = (52, 1536) := nW_e 52 1536 n10.symm
  have v10 : (mNew w10 52 1536).2.1 = 495 := by rw [nW_n, n10]; rfl
  have s10 : (mNew w10 52 1536).2.2 = w10.2.2 + 1536 := rfl
  have o10 : ∀ b : Int, b < 494 → (mNew w10 52 1536).1 b = w10.1 b := fun b hb => nW_o 52 1536 (by omega)
  have c11 : ((mNew w10 52 1536).1 483).1 = 13 := by rw [o10 483 (by decide)]; exact c10
  rw [mM_t (by decide), n10, mF_t c11, mLe_t (by decide)]
  have z10 : ∀ b : Int, b < 494 → mZero h10 494 b = h10 b := fun b hb => mZ_o (by omega)
  have f10 : ∀ j : Int, mZero h10 494 494 j = 0 := fun j => mZ_s j
  generalize ht10 : mZero h10 494 = t10 at z10 f10 ⊢
  generalize hw10 : mNew w10 52 1536 = w11 at e10 v10 s10 o10 c11 ⊢
  have n11 : w11.2.1 = 495 := v10
  generalize hh10 : mUp t10 483 26 494 = h11
  have y10 : ∀ b : Int, b ≠ 483 → b < 494 → h11 b = h10 b := fun b b1 hb => by rw [← hh10, mUp_row b1]; exact z10 b hb
  have g10 : ∀ b : Int, b ≠ 483 → h11 b = t10 b := fun b b1 => by rw [← hh10, mUp_row b1]
  have r10 : ∀ i : Int, i ≠ 26 → h11 483 i = h10 483 i := fun i hi => by rw [← hh10, mUp_n (Or.inr hi), z10 483 (by decide)]
  have l10 : h11 483 26 = 494 := by rw [← hh10, mUp_s]
  have e11 : (mNew w11 53 400).1 495 = (53, 400) := nW_e 53 400 n11.symm
  have v11 : (mNew w11 53 400).2.1 = 496 := by rw [nW_n, n11]; rfl
  have s11 : (mNew w11 53 400).2.2 = w11.2.2 + 400 := rfl
  have o11 : ∀ b : Int, b < 495 → (mNew w11 53 400).1 b = w11.1 b := fun b hb => nW_o 53 400 (by omega)
  have c12 : ((mNew w11 53 400).1 483).1 = 13 := by rw [o11 483 (by decide)]; exact c11
  rw [mM_t (by decide), n11, mF_t c12, mLe_t (by decide)]
  have z11 : ∀ b : Int, b < 495 → mZero h11 495 b = h11 b := fun b hb => mZ_o (by omega)
  have f11 : ∀ j : Int, mZero h11 495 495 j = 0 := fun j => mZ_s j
  generalize ht11 : mZero h11 495 = t11 at z11 f11 ⊢
  generalize hw11 : mNew w11 53 400 = w12 at e11 v11 s11 o11 c12 ⊢
  have n12 : w12.2.1 = 496 := v11
  generalize hh11 : mUp t11 483 27 495 = h12
  have y11 : ∀ b : Int, b ≠ 483 → b < 495 → h12 b = h11 b := fun b b1 hb => by rw [← hh11, mUp_row b1]; exact z11 b hb
  have g11 : ∀ b : Int, b ≠ 483 → h12 b = t11 b := fun b b1 => by rw [← hh11, mUp_row b1]
  have r11 : ∀ i : Int, i ≠ 27 → h12 483 i = h11 483 i := fun i hi => by rw [← hh11, mUp_n (Or.inr hi), z11 483 (by decide)]
  have l11 : h12 483 27 = 495 := by rw [← hh11, mUp_s]
  have e12 : (mNew w12 50 1280).1 496 = (50, 1280) := nW_e 50 1280 n12.symm
  have v12 : (mNew w12 50 1280).2.1 = 497 := by rw [nW_n, n12]; rfl
  have s12 : (mNew w12 50 1280).2.2 = w12.2.2 + 1280 := rfl
  have o12 : ∀ b : Int, b < 496 → (mNew w12 50 1280).1 b = w12.1 b := fun b hb => nW_o 50 1280 (by omega)
  have c13 : ((mNew w12 50 1280).1 483).1 = 13 := by rw [o12 483 (by decide)]; exact c12
  rw [mM_t (by decide), n12, mF_t c13, mLe_t (by decide)]
  have z12 : ∀ b : Int, b < 496 → mZero h12 496 b = h12 b := fun b hb => mZ_o (by omega)
  have f12 : ∀ j : Int, mZero h12 496 496 j = 0 := fun j => mZ_s j
  generalize ht12 : mZero h12 496 = t12 at z12 f12 ⊢
  generalize hw12 : mNew w12 50 1280 = w13 at e12 v12 s12 o12 c13 ⊢
  have n13 : w13.2.1 = 497 := v12
  generalize hh12 : mUp t12 483 31 496 = h13
  have y12 : ∀ b : Int, b ≠ 483 → b < 496 → h13 b = h12 b := fun b b1 hb => by rw [← hh12, mUp_row b1]; exact z12 b hb
  have g12 : ∀ b : Int, b ≠ 483 → h13 b = t12 b := fun b b1 => by rw [← hh12, mUp_row b1]
  have r12 : ∀ i : Int, i ≠ 31 → h13 483 i = h12 483 i := fun i hi => by rw [← hh12, mUp_n (Or.inr hi), z12 483 (by decide)]
  have l12 : h13 483 31 = 496 := by rw [← hh12, mUp_s]
  have e13 : (mNew w13 50 289).1 497 = (50, 289) := nW_e 50 289 n13.symm
  have v13 : (mNew w13 50 289).2.1 = 498 := by rw [nW_n, n13]; rfl
  have s13 : (mNew w13 50 289).2.2 = w13.2.2 + 289 := rfl
  have o13 : ∀ b : Int, b < 497 → (mNew w13 50 289).1 b = w13.1 b := fun b hb => nW_o 50 289 (by omega)
  have c14 : ((mNew w13 50 289).1 483).1 = 13 := by rw [o13 483 (by decide)]; exact c13
  rw [mM_t (by decide), n13, mF_t c14, mLe_t (by decide)]
  have z13 : ∀ b : Int, b < 497 → mZero h13 497 b = h13 b := fun b hb => mZ_o (by omega)
  have f13 : ∀ j : Int, mZero h13 497 497 j = 0 := fun j => mZ_s j
  generalize ht13 : mZero h13 497 = t13 at z13 f13 ⊢
  generalize hw13 : mNew w13 50 289 = w14 at e13 v13 s13 o13 c14 ⊢
  have n14 : w14.2.1 = 498 := v13
  generalize hh13 : mUp t13 483 34 497 = h14
  have y13 : ∀ b : Int, b ≠ 483 → b < 497 → h14 b = h13 b := fun b b1 hb => by rw [← hh13, mUp_row b1]; exact z13 b hb
  have g13 : ∀ b : Int, b ≠ 483 → h14 b = t13 b := fun b b1 => by rw [← hh13, mUp_row b1]
  have r13 : ∀ i : Int, i ≠ 34 → h14 483 i = h13 483 i := fun i hi => by rw [← hh13, mUp_n (Or.inr hi), z13 483 (by decide)]
  have l13 : h14 483 34 = 497 := by rw [← hh13, mUp_s]
  have e14 : (mNew w14 52 10000).1 498 = (52, 10000) := nW_e 52 10000 n14.symm
  have v14 : (mNew w14 52 10000).2.1 = 499 := by rw [nW_n, n14]; rfl
  have s14 : (mNew w14 52 10000).2.2 = w14.2.2 + 10000 := rfl
  have o14 : ∀ b : Int, b < 498 → (mNew w14 52 10000).1 b = w14.1 b := fun b hb => nW_o 52 10000 (by omega)
  have c15 : ((mNew w14 52 10000).1 483).1 = 13 := by rw [o14 483 (by decide)]; exact c14
  rw [mM_t (by decide), n14, mF_t c15, mLe_t (by decide)]
  have z14 : ∀ b : Int, b < 498 → mZero h14 498 b = h14 b := fun b hb => mZ_o (by omega)
  have f14 : ∀ j : Int, mZero h14 498 498 j = 0 := fun j => mZ_s j
  generalize ht14 : mZero h14 498 = t14 at z14 f14 ⊢
  generalize hw14 : mNew w14 52 10000 = w15 at e14 v14 s14 o14 c15 ⊢
  have n15 : w15.2.1 = 499 := v14
  generalize hh14 : mUp t14 483 35 498 = h15
  have y14 : ∀ b : Int, b ≠ 483 → b < 498 → h15 b = h14 b := fun b b1 hb => by rw [← hh14, mUp_row b1]; exact z14 b hb
  have g14 : ∀ b : Int, b ≠ 483 → h15 b = t14 b := fun b b1 => by rw [← hh14, mUp_row b1]
  have r14 : ∀ i : Int, i ≠ 35 → h15 483 i = h14 483 i := fun i hi => by rw [← hh14, mUp_n (Or.inr hi), z14 483 (by decide)]
  have l14 : h15 483 35 = 498 := by rw [← hh14, mUp_s]
  have e15 : (mNew w15 50 17).1 499 = (50, 17) := nW_e 50 17 n15.symm
  have v15 : (mNew w15 50 17).2.1 = 500 := by rw [nW_n, n15]; rfl
  have s15 : (mNew w15 50 17).2.2 = w15.2.2 + 17 := rfl
  have o15 : ∀ b : Int, b < 499 → (mNew w15 50 17).1 b = w15.1 b := fun b hb => nW_o 50 17 (by omega)
  have c16 : ((mNew w15 50 17).1 483).1 = 13 := by rw [o15 483 (by decide)]; exact c15
  rw [mM_t (by decide), n15, mF_t c16, mLe_t (by decide)]
  have z15 : ∀ b : Int, b < 499 → mZero h15 499 b = h15 b := fun b hb => mZ_o (by omega)
  have f15 : ∀ j : Int, mZero h15 499 499 j = 0 := fun j => mZ_s j
  generalize ht15 : mZero h15 499 = t15 at z15 f15 ⊢
  generalize hw15 : mNew w15 50 17 = w16 at e15 v15 s15 o15 c16 ⊢
  have n16 : w16.2.1 = 500 := v15
  generalize hh15 : mUp t15 483 36 499 = h16
  have y15 : ∀ b : Int, b ≠ 483 → b < 499 → h16 b = h15 b := fun b b1 hb => by rw [← hh15, mUp_row b1]; exact z15 b hb
  have g15 : ∀ b : Int, b ≠ 483 → h16 b = t15 b := fun b b1 => by rw [← hh15, mUp_row b1]
  have r15 : ∀ i : Int, i ≠ 36 → h16 483 i = h15 483 i := fun i hi => by rw [← hh15, mUp_n (Or.inr hi), z15 483 (by decide)]
  have l15 : h16 483 36 = 499 := by rw [← hh15, mUp_s]
  have e16 : (mNew w16 50 324).1 500 = (50, 324) := nW_e 50 324 n16.symm
  have v16 : (mNew w16 50 324).2.1 = 501 := by rw [nW_n, n16]; rfl
  have s16 : (mNew w16 50 324).2.2 = w16.2.2 + 324 := rfl
  have o16 : ∀ b : Int, b < 500 → (mNew w16 50 324).1 b = w16.1 b := fun b hb => nW_o 50 324 (by omega)
  have c17 : ((mNew w16 50 324).1 483).1 = 13 := by rw [o16 483 (by decide)]; exact c16
  rw [mM_t (by decide), n16, mF_t c17, mLe_t (by decide)]
  have z16 : ∀ b : Int, b < 500 → mZero h16 500 b = h16 b := fun b hb => mZ_o (by omega)
  have f16 : ∀ j : Int, mZero h16 500 500 j = 0 := fun j => mZ_s j
  generalize ht16 : mZero h16 500 = t16 at z16 f16 ⊢
  generalize hw16 : mNew w16 50 324 = w17 at e16 v16 s16 o16 c17 ⊢
  have n17 : w17.2.1 = 501 := v16
  generalize hh16 : mUp t16 483 37 500 = h17
  have y16 : ∀ b : Int, b ≠ 483 → b < 500 → h17 b = h16 b := fun b b1 hb => by rw [← hh16, mUp_row b1]; exact z16 b hb
  have g16 : ∀ b : Int, b ≠ 483 → h17 b = t16 b := fun b b1 => by rw [← hh16, mUp_row b1]
  have r16 : ∀ i : Int, i ≠ 37 → h17 483 i = h16 483 i := fun i hi => by rw [← hh16, mUp_n (Or.inr hi), z16 483 (by decide)]
  have l16 : h17 483 37 = 500 := by rw [← hh16, mUp_s]
  have e17 : (mNew w17 50 256).1 501 = (50, 256) := nW_e 50 256 n17.symm
  have v17 : (mNew w17 50 256).2.1 = 502 := by rw [nW_n, n17]; rfl
  have s17 : (mNew w17 50 256).2.2 = w17.2.2 + 256 := rfl
  have o17 : ∀ b : Int, b < 501 → (mNew w17 50 256).1 b = w17.1 b := fun b hb => nW_o 50 256 (by omega)
  have c18 : ((mNew w17 50 256).1 483).1 = 13 := by rw [o17 483 (by decide)]; exact c17
  rw [mM_t (by decide), n17, mF_t c18, mLe_t (by decide)]
  have z17 : ∀ b : Int, b < 501 → mZero h17 501 b = h17 b := fun b hb => mZ_o (by omega)
  have f17 : ∀ j : Int, mZero h17 501 501 j = 0 := fun j => mZ_s j
  generalize ht17 : mZero h17 501 = t17 at z17 f17 ⊢
  generalize hw17 : mNew w17 50 256 = w18 at e17 v17 s17 o17 c18 ⊢
  have n18 : w18.2.1 = 502 := v17
  generalize hh17 : mUp t17 483 38 501 = h18
  have y17 : ∀ b : Int, b ≠ 483 → b < 501 → h18 b = h17 b := fun b b1 hb => by rw [← hh17, mUp_row b1]; exact z17 b hb
  have g17 : ∀ b : Int, b ≠ 483 → h18 b = t17 b := fun b b1 => by rw [← hh17, mUp_row b1]
  have r17 : ∀ i : Int, i ≠ 38 → h18 483 i = h17 483 i := fun i hi => by rw [← hh17, mUp_n (Or.inr hi), z17 483 (by decide)]
  have l17 : h18 483 38 = 501 := by rw [← hh17, mUp_s]
  have e18 : (mNew w18 51 240).1 502 = (51, 240) := nW_e 51 240 n18.symm
  have v18 : (mNew w18 51 240).2.1 = 503 := by rw [nW_n, n18]; rfl
  have s18 : (mNew w18 51 240).2.2 = w18.2.2 + 240 := rfl
  have o18 : ∀ b : Int, b < 502 → (mNew w18 51 240).1 b = w18.1 b := fun b hb => nW_o 51 240 (by omega)
  have c19 : ((mNew w18 51 240).1 483).1 = 13 := by rw [o18 483 (by decide)]; exact c18
  rw [mM_t (by decide), n18, mF_t c19, mLe_t (by decide)]
  have z18 : ∀ b : Int, b < 502 → mZero h18 502 b = h18 b := fun b hb => mZ_o (by omega)
  have f18 : ∀ j : Int, mZero h18 502 502 j = 0 := fun j => mZ_s j
  generalize ht18 : mZero h18 502 = t18 at z18 f18 ⊢
  generalize hw18 : mNew w18 51 240 = w19 at e18 v18 s18 o18 c19 ⊢
  have n19 : w19.2.1 = 503 := v18
  generalize hh18 : mUp t18 483 39 502 = h19
  have y18 : ∀ b : Int, b ≠ 483 → b < 502 → h19 b = h18 b := fun b b1 hb => by rw [← hh18, mUp_row b1]; exact z18 b hb
  have g18 : ∀ b : Int, b ≠ 483 → h19 b = t18 b := fun b b1 => by rw [← hh18, mUp_row b1]
  have r18 : ∀ i : Int, i ≠ 39 → h19 483 i = h18 483 i := fun i hi => by rw [← hh18, mUp_n (Or.inr hi), z18 483 (by decide)]
  have l18 : h19 483 39 = 502 := by rw [← hh18, mUp_s]
  have e19 : (mNew w19 50 4).1 503 = (50, 4) := nW_e 50 4 n19.symm
  have v19 : (mNew w19 50 4).2.1 = 504 := by rw [nW_n, n19]; rfl
  have s19 : (mNew w19 50 4).2.2 = w19.2.2 + 4 := rfl
  have o19 : ∀ b : Int, b < 503 → (mNew w19 50 4).1 b = w19.1 b := fun b hb => nW_o 50 4 (by omega)
  have c20 : ((mNew w19 50 4).1 483).1 = 13 := by rw [o19 483 (by decide)]; exact c19
  rw [mM_t (by decide), n19, mAw_t e19 (by decide) (by decide) (by decide), mAw_t e19 (by decide) (by decide) (by decide), mAw_t e19 (by decide) (by decide) (by decide), mAw_t e19 (by decide) (by decide) (by decide), mF_t c20, mLe_t (by decide)]
  have z19 : ∀ b : Int, b < 503 → (mUp (mUp (mUp (mUp (mZero h19 503) 503 0 (-1)) 503 1 (-1)) 503 2 (-1)) 503 3 (-1)) b = h19 b := fun b hb => by rw [mUp_row (by omega), mUp_row (by omega), mUp_row (by omega), mUp_row (by omega)]; exact mZ_o (by omega)
  have f19 : ∀ j : Int, 0 ≤ j → j < 4 → (mUp (mUp (mUp (mUp (mZero h19 503) 503 0 (-1)) 503 1 (-1)) 503 2 (-1)) 503 3 (-1)) 503 j = -1 := fun j j0 j1 => by
    rcases (show j = 0 ∨ j = 1 ∨ j = 2 ∨ j = 3 by omega) with rfl | rfl | rfl | rfl <;> simp [mUp]
  generalize ht19 : mUp (mUp (mUp (mUp (mZero h19 503) 503 0 (-1)) 503 1 (-1)) 503 2 (-1)) 503 3 (-1) = t19 at z19 f19 ⊢
  generalize hw19 : mNew w19 50 4 = w20 at e19 v19 s19 o19 c20 ⊢
  have n20 : w20.2.1 = 504 := v19
  generalize hh19 : mUp t19 483 40 503 = h20
  have y19 : ∀ b : Int, b ≠ 483 → b < 503 → h20 b = h19 b := fun b b1 hb => by rw [← hh19, mUp_row b1]; exact z19 b hb
  have g19 : ∀ b : Int, b ≠ 483 → h20 b = t19 b := fun b b1 => by rw [← hh19, mUp_row b1]
  have r19 : ∀ i : Int, i ≠ 40 → h20 483 i = h19 483 i := fun i hi => by rw [← hh19, mUp_n (Or.inr hi), z19 483 (by decide)]
  have l19 : h20 483 40 = 503 := by rw [← hh19, mUp_s]
  have e20 : (mNew w20 50 1600).1 504 = (50, 1600) := nW_e 50 1600 n20.symm
  have v20 : (mNew w20 50 1600).2.1 = 505 := by rw [nW_n, n20]; rfl
  have s20 : (mNew w20 50 1600).2.2 = w20.2.2 + 1600 := rfl
  have o20 : ∀ b : Int, b < 504 → (mNew w20 50 1600).1 b = w20.1 b := fun b hb => nW_o 50 1600 (by omega)
  have c21 : ((mNew w20 50 1600).1 483).1 = 13 := by rw [o20 483 (by decide)]; exact c20
  rw [mM_t (by decide), n20, mF_t c21, mLe_t (by decide)]
  have z20 : ∀ b : Int, b < 504 → mZero h20 504 b = h20 b := fun b hb => mZ_o (by omega)
  have f20 : ∀ j : Int, mZero h20 504 504 j = 0 := fun j => mZ_s j
  generalize ht20 : mZero h20 504 = t20 at z20 f20 ⊢
  generalize hw20 : mNew w20 50 1600 = w21 at e20 v20 s20 o20 c21 ⊢
  have n21 : w21.2.1 = 505 := v20
  generalize hh20 : mUp t20 483 41 504 = h21
  have y20 : ∀ b : Int, b ≠ 483 → b < 504 → h21 b = h20 b := fun b b1 hb => by rw [← hh20, mUp_row b1]; exact z20 b hb
  have g20 : ∀ b : Int, b ≠ 483 → h21 b = t20 b := fun b b1 => by rw [← hh20, mUp_row b1]
  have r20 : ∀ i : Int, i ≠ 41 → h21 483 i = h20 483 i := fun i hi => by rw [← hh20, mUp_n (Or.inr hi), z20 483 (by decide)]
  have l20 : h21 483 41 = 504 := by rw [← hh20, mUp_s]
  have e21 : (mNew w21 50 4).1 505 = (50, 4) := nW_e 50 4 n21.symm
  have v21 : (mNew w21 50 4).2.1 = 506 := by rw [nW_n, n21]; rfl
  have s21 : (mNew w21 50 4).2.2 = w21.2.2 + 4 := rfl
  have o21 : ∀ b : Int, b < 505 → (mNew w21 50 4).1 b = w21.1 b := fun b hb => nW_o 50 4 (by omega)
  have c22 : ((mNew w21 50 4).1 483).1 = 13 := by rw [o21 483 (by decide)]; exact c21
  rw [mM_t (by decide), n21, mF_t c22, mLe_t (by decide)]
  have z21 : ∀ b : Int, b < 505 → mZero h21 505 b = h21 b := fun b hb => mZ_o (by omega)
  have f21 : ∀ j : Int, mZero h21 505 505 j = 0 := fun j => mZ_s j
  generalize ht21 : mZero h21 505 = t21 at z21 f21 ⊢
  generalize hw21 : mNew w21 50 4 = w22 at e21 v21 s21 o21 c22 ⊢
  have n22 : w22.2.1 = 506 := v21
  generalize hh21 : mUp t21 483 42 505 = h22
  have y21 : ∀ b : Int, b ≠ 483 → b < 505 → h22 b = h21 b := fun b b1 hb => by rw [← hh21, mUp_row b1]; exact z21 b hb
  have g21 : ∀ b : Int, b ≠ 483 → h22 b = t21 b := fun b b1 => by rw [← hh21, mUp_row b1]
  have r21 : ∀ i : Int, i ≠ 42 → h22 483 i = h21 483 i := fun i hi => by rw [← hh21, mUp_n (Or.inr hi), z21 483 (by decide)]
  have l21 : h22 483 42 = 505 := by rw [← hh21, mUp_s]
  have p21 : ∀ b : Int, b < 505 → w22.1 b = w21.1 b := o21
  have j21 : ∀ b : Int, b ≠ 483 → b < 505 → h22 b = h21 b := y21
  have i21 : ∀ i : Int, i < 42 → h22 483 i = h21 483 i := fun i hi => r21 i (by omega)
  have p20 : ∀ b : Int, b < 504 → w22.1 b = w20.1 b := fun b hb => (p21 b (by omega)).trans (o20 b hb)
  have j20 : ∀ b : Int, b ≠ 483 → b < 504 → h22 b = h20 b := fun b b1 hb => (j21 b b1 (by omega)).trans (y20 b b1 hb)
  have i20 : ∀ i : Int, i < 41 → h22 483 i = h20 483 i := fun i hi => (i21 i (by omega)).trans (r20 i (by omega))
  have p19 : ∀ b : Int, b < 503 → w22.1 b = w19.1 b := fun b hb => (p20 b (by omega)).trans (o19 b hb)
  have j19 : ∀ b : Int, b ≠ 483 → b < 503 → h22 b = h19 b := fun b b1 hb => (j20 b b1 (by omega)).trans (y19 b b1 hb)
  have i19 : ∀ i : Int, i < 40 → h22 483 i = h19 483 i := fun i hi => (i20 i (by omega)).trans (r19 i (by omega))
  have p18 : ∀ b : Int, b < 502 → w22.1 b = w18.1 b := fun b hb => (p19 b (by omega)).trans (o18 b hb)
  have j18 : ∀ b : Int, b ≠ 483 → b < 502 → h22 b = h18 b := fun b b1 hb => (j19 b b1 (by omega)).trans (y18 b b1 hb)
  have i18 : ∀ i : Int, i < 39 → h22 483 i = h18 483 i := fun i hi => (i19 i (by omega)).trans (r18 i (by omega))
  have p17 : ∀ b : Int, b < 501 → w22.1 b = w17.1 b := fun b hb => (p18 b (by omega)).trans (o17 b hb)
  have j17 : ∀ b : Int, b ≠ 483 → b < 501 → h22 b = h17 b := fun b b1 hb => (j18 b b1 (by omega)).trans (y17 b b1 hb)
  have i17 : ∀ i : Int, i < 38 → h22 483 i = h17 483 i := fun i hi => (i18 i (by omega)).trans (r17 i (by omega))
  have p16 : ∀ b : Int, b < 500 → w22.1 b = w16.1 b := fun b hb => (p17 b (by omega)).trans (o16 b hb)
  have j16 : ∀ b : Int, b ≠ 483 → b < 500 → h22 b = h16 b := fun b b1 hb => (j17 b b1 (by omega)).trans (y16 b b1 hb)
  have i16 : ∀ i : Int, i < 37 → h22 483 i = h16 483 i := fun i hi => (i17 i (by omega)).trans (r16 i (by omega))
  have p15 : ∀ b : Int, b < 499 → w22.1 b = w15.1 b := fun b hb => (p16 b (by omega)).trans (o15 b hb)
  have j15 : ∀ b : Int, b ≠ 483 → b < 499 → h22 b = h15 b := fun b b1 hb => (j16 b b1 (by omega)).trans (y15 b b1 hb)
  have i15 : ∀ i : Int, i < 36 → h22 483 i = h15 483 i := fun i hi => (i16 i (by omega)).trans (r15 i (by omega))
  have p14 : ∀ b : Int, b < 498 → w22.1 b = w14.1 b := fun b hb => (p15 b (by omega)).trans (o14 b hb)
  have j14 : ∀ b : Int, b ≠ 483 → b < 498 → h22 b = h14 b := fun b b1 hb => (j15 b b1 (by omega)).trans (y14 b b1 hb)
  have i14 : ∀ i : Int, i < 35 → h22 483 i = h14 483 i := fun i hi => (i15 i (by omega)).trans (r14 i (by omega))
  have p13 : ∀ b : Int, b < 497 → w22.1 b = w13.1 b := fun b hb => (p14 b (by omega)).trans (o13 b hb)
  have j13 : ∀ b : Int, b ≠ 483 → b < 497 → h22 b = h13 b := fun b b1 hb => (j14 b b1 (by omega)).trans (y13 b b1 hb)
  have i13 : ∀ i : Int, i < 34 → h22 483 i = h13 483 i := fun i hi => (i14 i (by omega)).trans (r13 i (by omega))
  have p12 : ∀ b : Int, b < 496 → w22.1 b = w12.1 b := fun b hb => (p13 b (by omega)).trans (o12 b hb)
  have j12 : ∀ b : Int, b ≠ 483 → b < 496 → h22 b = h12 b := fun b b1 hb => (j13 b b1 (by omega)).trans (y12 b b1 hb)
  have i12 : ∀ i : Int, i < 31 → h22 483 i = h12 483 i := fun i hi => (i13 i (by omega)).trans (r12 i (by omega))
  have p11 : ∀ b : Int, b < 495 → w22.1 b = w11.1 b := fun b hb => (p12 b (by omega)).trans (o11 b hb)
  have j11 : ∀ b : Int, b ≠ 483 → b < 495 → h22 b = h11 b := fun b b1 hb => (j12 b b1 (by omega)).trans (y11 b b1 hb)
  have i11 : ∀ i : Int, i < 27 → h22 483 i = h11 483 i := fun i hi => (i12 i (by omega)).trans (r11 i (by omega))
  have p10 : ∀ b : Int, b < 494 → w22.1 b = w10.1 b := fun b hb => (p11 b (by omega)).trans (o10 b hb)
  have j10 : ∀ b : Int, b ≠ 483 → b < 494 → h22 b = h10 b := fun b b1 hb => (j11 b b1 (by omega)).trans (y10 b b1 hb)
  have i10 : ∀ i : Int, i < 26 → h22 483 i = h10 483 i := fun i hi => (i11 i (by omega)).trans (r10 i (by omega))
  have p9 : ∀ b : Int, b < 493 → w22.1 b = w9.1 b := fun b hb => (p10 b (by omega)).trans (o9 b hb)
  have j9 : ∀ b : Int, b ≠ 483 → b < 493 → h22 b = h9 b := fun b b1 hb => (j10 b b1 (by omega)).trans (y9 b b1 hb)
  have i9 : ∀ i : Int, i < 25 → h22 483 i = h9 483 i := fun i hi => (i10 i (by omega)).trans (r9 i (by omega))
  have p8 : ∀ b : Int, b < 492 → w22.1 b = w8.1 b := fun b hb => (p9 b (by omega)).trans (o8 b hb)
  have j8 : ∀ b : Int, b ≠ 483 → b < 492 → h22 b = h8 b := fun b b1 hb => (j9 b b1 (by omega)).trans (y8 b b1 hb)
  have i8 : ∀ i : Int, i < 24 → h22 483 i = h8 483 i := fun i hi => (i9 i (by omega)).trans (r8 i (by omega))
  have p7 : ∀ b : Int, b < 491 → w22.1 b = w7.1 b := fun b hb => (p8 b (by omega)).trans (o7 b hb)
  have j7 : ∀ b : Int, b ≠ 483 → b < 491 → h22 b = h7 b := fun b b1 hb => (j8 b b1 (by omega)).trans (y7 b b1 hb)
  have i7 : ∀ i : Int, i < 21 → h22 483 i = h7 483 i := fun i hi => (i8 i (by omega)).trans (r7 i (by omega))
  have p6 : ∀ b : Int, b < 490 → w22.1 b = w6.1 b := fun b hb => (p7 b (by omega)).trans (o6 b hb)
  have j6 : ∀ b : Int, b ≠ 483 → b < 490 → h22 b = h6 b := fun b b1 hb => (j7 b b1 (by omega)).trans (y6 b b1 hb)
  have i6 : ∀ i : Int, i < 14 → h22 483 i = h6 483 i := fun i hi => (i7 i (by omega)).trans (r6 i (by omega))
  have p5 : ∀ b : Int, b < 489 → w22.1 b = w5.1 b := fun b hb => (p6 b (by omega)).trans (o5 b hb)
  have j5 : ∀ b : Int, b ≠ 483 → b < 489 → h22 b = h5 b := fun b b1 hb => (j6 b b1 (by omega)).trans (y5 b b1 hb)
  have i5 : ∀ i : Int, i < 13 → h22 483 i = h5 483 i := fun i hi => (i6 i (by omega)).trans (r5 i (by omega))
  have p4 : ∀ b : Int, b < 488 → w22.1 b = w4.1 b := fun b hb => (p5 b (by omega)).trans (o4 b hb)
  have j4 : ∀ b : Int, b ≠ 483 → b < 488 → h22 b = h4 b := fun b b1 hb => (j5 b b1 (by omega)).trans (y4 b b1 hb)
  have i4 : ∀ i : Int, i < 12 → h22 483 i = h4 483 i := fun i hi => (i5 i (by omega)).trans (r4 i (by omega))
  have p3 : ∀ b : Int, b < 487 → w22.1 b = w3.1 b := fun b hb => (p4 b (by omega)).trans (o3 b hb)
  have j3 : ∀ b : Int, b ≠ 483 → b < 487 → h22 b = h3 b := fun b b1 hb => (j4 b b1 (by omega)).trans (y3 b b1 hb)
  have i3 : ∀ i : Int, i < 7 → h22 483 i = h3 483 i := fun i hi => (i4 i (by omega)).trans (r3 i (by omega))
  have p2 : ∀ b : Int, b < 486 → w22.1 b = w2.1 b := fun b hb => (p3 b (by omega)).trans (o2 b hb)
  have j2 : ∀ b : Int, b ≠ 483 → b < 486 → h22 b = h2 b := fun b b1 hb => (j3 b b1 (by omega)).trans (y2 b b1 hb)
  have i2 : ∀ i : Int, i < 5 → h22 483 i = h2 483 i := fun i hi => (i3 i (by omega)).trans (r2 i (by omega))
  have p1 : ∀ b : Int, b < 485 → w22.1 b = w1.1 b := fun b hb => (p2 b (by omega)).trans (o1 b hb)
  have j1 : ∀ b : Int, b ≠ 483 → b < 485 → h22 b = h1 b := fun b b1 hb => (j2 b b1 (by omega)).trans (y1 b b1 hb)
  have i1 : ∀ i : Int, i < 1 → h22 483 i = h1 483 i := fun i hi => (i2 i (by omega)).trans (r1 i (by omega))
  have F0 : h22 483 0 = 484 := by rw [i1 0 (by decide)]; exact l0
  have F1 : h22 483 1 = 485 := by rw [i2 1 (by decide)]; exact l1
  have F5 : h22 483 5 = 486 := by rw [i3 5 (by decide)]; exact l2
  have F7 : h22 483 7 = 487 := by rw [i4 7 (by decide)]; exact l3
  have F12 : h22 483 12 = 488 := by rw [i5 12 (by decide)]; exact l4
  have F13 : h22 483 13 = 489 := by rw [i6 13 (by decide)]; exact l5
  have F14 : h22 483 14 = 490 := by rw [i7 14 (by decide)]; exact l6
  have F21 : h22 483 21 = 491 := by rw [i8 21 (by decide)]; exact l7
  have F24 : h22 483 24 = 492 := by rw [i9 24 (by decide)]; exact l8
  have F25 : h22 483 25 = 493 := by rw [i10 25 (by decide)]; exact l9
  have F26 : h22 483 26 = 494 := by rw [i11 26 (by decide)]; exact l10
  have F27 : h22 483 27 = 495 := by rw [i12 27 (by decide)]; exact l11
  have F31 : h22 483 31 = 496 := by rw [i13 31 (by decide)]; exact l12
  have F34 : h22 483 34 = 497 := by rw [i14 34 (by decide)]; exact l13
  have F35 : h22 483 35 = 498 := by rw [i15 35 (by decide)]; exact l14
  have F36 : h22 483 36 = 499 := by rw [i16 36 (by decide)]; exact l15
  have F37 : h22 483 37 = 500 := by rw [i17 37 (by decide)]; exact l16
  have F38 : h22 483 38 = 501 := by rw [i18 38 (by decide)]; exact l17
  have F39 : h22 483 39 = 502 := by rw [i19 39 (by decide)]; exact l18
  have F40 : h22 483 40 = 503 := by rw [i20 40 (by decide)]; exact l19
  have F41 : h22 483 41 = 504 := by rw [i21 41 (by decide)]; exact l20
  have F42 : h22 483 42 = 505 := l21
  have F0s : ∀ i : Int, i ≠ 0 ∧ i ≠ 1 ∧ i ≠ 5 ∧ i ≠ 7 ∧ i ≠ 12 ∧ i ≠ 13 ∧ i ≠ 14 ∧ i ≠ 21 ∧ i ≠ 24 ∧ i ≠ 25 ∧ i ≠ 26 ∧ i ≠ 27 ∧ i ≠ 31 ∧ i ≠ 34 ∧ i ≠ 35 ∧ i ≠ 36 ∧ i ≠ 37 ∧ i ≠ 38 ∧ i ≠ 39 ∧ i ≠ 40 ∧ i ≠ 41 ∧ i ≠ 42 → h22 483 i = 0 := fun i hi => by rw [r21 i (by omega), r20 i (by omega), r19 i (by omega), r18 i (by omega), r17 i (by omega), r16 i (by omega), r15 i (by omega), r14 i (by omega), r13 i (by omega), r12 i (by omega), r11 i (by omega), r10 i (by omega), r9 i (by omega), r8 i (by omega), r7 i (by omega), r6 i (by omega), r5 i (by omega), r4 i (by omega), r3 i (by omega), r2 i (by omega), r1 i (by omega), r0 i (by omega)]; exact zz i
  have E484 : w22.1 484 = (50, 3863) := by rw [p1 484 (by decide)]; exact e0
  have H484 : h22 484 = t0 484 := by rw [j1 484 (by decide) (by decide)]; exact g0 484 (by decide)
  have E485 : w22.1 485 = (50, 119753) := by rw [p2 485 (by decide)]; exact e1
  have H485 : h22 485 = t1 485 := by rw [j2 485 (by decide) (by decide)]; exact g1 485 (by decide)
  have E486 : w22.1 486 = (50, 3863) := by rw [p3 486 (by decide)]; exact e2
  have H486 : h22 486 = t2 486 := by rw [j3 486 (by decide) (by decide)]; exact g2 486 (by decide)
  have E487 : w22.1 487 = (50, 3863) := by rw [p4 487 (by decide)]; exact e3
  have H487 : h22 487 = t3 487 := by rw [j4 487 (by decide) (by decide)]; exact g3 487 (by decide)
  have E488 : w22.1 488 = (50, 16) := by rw [p5 488 (by decide)]; exact e4
  have H488 : h22 488 = t4 488 := by rw [j5 488 (by decide) (by decide)]; exact g4 488 (by decide)
  have E489 : w22.1 489 = (50, 1024) := by rw [p6 489 (by decide)]; exact e5
  have H489 : h22 489 = t5 489 := by rw [j6 489 (by decide) (by decide)]; exact g5 489 (by decide)
  have E490 : w22.1 490 = (50, 200) := by rw [p7 490 (by decide)]; exact e6
  have H490 : h22 490 = t6 490 := by rw [j7 490 (by decide) (by decide)]; exact g6 490 (by decide)
  have E491 : w22.1 491 = (50, 400) := by rw [p8 491 (by decide)]; exact e7
  have H491 : h22 491 = t7 491 := by rw [j8 491 (by decide) (by decide)]; exact g7 491 (by decide)
  have E492 : w22.1 492 = (53, 10) := by rw [p9 492 (by decide)]; exact e8
  have H492 : h22 492 = t8 492 := by rw [j9 492 (by decide) (by decide)]; exact g8 492 (by decide)
  have E493 : w22.1 493 = (50, 408) := by rw [p10 493 (by decide)]; exact e9
  have H493 : h22 493 = t9 493 := by rw [j10 493 (by decide) (by decide)]; exact g9 493 (by decide)
  have E494 : w22.1 494 = (52, 1536) := by rw [p11 494 (by decide)]; exact e10
  have H494 : h22 494 = t10 494 := by rw [j11 494 (by decide) (by decide)]; exact g10 494 (by decide)
  have E495 : w22.1 495 = (53, 400) := by rw [p12 495 (by decide)]; exact e11
  have H495 : h22 495 = t11 495 := by rw [j12 495 (by decide) (by decide)]; exact g11 495 (by decide)
  have E496 : w22.1 496 = (50, 1280) := by rw [p13 496 (by decide)]; exact e12
  have H496 : h22 496 = t12 496 := by rw [j13 496 (by decide) (by decide)]; exact g12 496 (by decide)
  have E497 : w22.1 497 = (50, 289) := by rw [p14 497 (by decide)]; exact e13
  have H497 : h22 497 = t13 497 := by rw [j14 497 (by decide) (by decide)]; exact g13 497 (by decide)
  have E498 : w22.1 498 = (52, 10000) := by rw [p15 498 (by decide)]; exact e14
  have H498 : h22 498 = t14 498 := by rw [j15 498 (by decide) (by decide)]; exact g14 498 (by decide)
  have E499 : w22.1 499 = (50, 17) := by rw [p16 499 (by decide)]; exact e15
  have H499 : h22 499 = t15 499 := by rw [j16 499 (by decide) (by decide)]; exact g15 499 (by decide)
  have E500 : w22.1 500 = (50, 324) := by rw [p17 500 (by decide)]; exact e16
  have H500 : h22 500 = t16 500 := by rw [j17 500 (by decide) (by decide)]; exact g16 500 (by decide)
  have E501 : w22.1 501 = (50, 256) := by rw [p18 501 (by decide)]; exact e17
  have H501 : h22 501 = t17 501 := by rw [j18 501 (by decide) (by decide)]; exact g17 501 (by decide)
  have E502 : w22.1 502 = (51, 240) := by rw [p19 502 (by decide)]; exact e18
  have H502 : h22 502 = t18 502 := by rw [j19 502 (by decide) (by decide)]; exact g18 502 (by decide)
  have E503 : w22.1 503 = (50, 4) := by rw [p20 503 (by decide)]; exact e19
  have H503 : h22 503 = t19 503 := by rw [j20 503 (by decide) (by decide)]; exact g19 503 (by decide)
  have E504 : w22.1 504 = (50, 1600) := by rw [p21 504 (by decide)]; exact e20
  have H504 : h22 504 = t20 504 := by rw [j21 504 (by decide) (by decide)]; exact g20 504 (by decide)
  have E505 : w22.1 505 = (50, 4) := e21
  have H505 : h22 505 = t21 505 := g21 505 (by decide)
  have cz : (w22.1 483).1 = 13 := c22
  generalize hq1 : mUp h22 484 0 8 = u1
  have U1 : ∀ b : Int, b ≠ 484 → u1 b = h22 b := fun b hb => by rw [← hq1, mUp_row hb]
  generalize hq2 : mUp u1 484 1 8 = u2
  have U2 : ∀ b : Int, b ≠ 484 → u2 b = h22 b := fun b hb => by rw [← hq2, mUp_row hb, U1 b hb]
  have V0 : u2 484 0 = 8 := by rw [← hq2, mUp_n (Or.inr (by decide)), ← hq1, mUp_s]
  have V1 : u2 484 1 = 8 := by rw [← hq2, mUp_s]
  have V2 : ∀ j : Int, 2 ≤ j → u2 484 j = 0 := fun j hj => by rw [← hq2, mUp_n (Or.inr (by omega)), ← hq1, mUp_n (Or.inr (by omega)), H484]; exact f0 j
  obtain ⟨u3, a1, a2, a3, a4⟩ := L_mi0 (d := d) cz E484 128 7 u2 (by rw [U2 483 (by decide)]; exact F0) (by decide) (by decide)
  obtain ⟨u4, b1, b2, b3, b4⟩ := L_mi1 (d := d) cz E484 1024 391 u3 (by rw [a2 483 (by decide), U2 483 (by decide)]; exact F0) (by decide) (by decide)
  have q4 : ∀ b : Int, b ≠ 484 → u4 b = h22 b := fun b hb => by rw [b2 b hb, a2 b hb, U2 b hb]
  rw [mF_t cz, F0, mAw_t E484 (by decide) (by decide) (by decide), hq1, mF_t cz, U1 483 (by decide), F0, mAw_t E484 (by decide) (by decide) (by decide), hq2, a1, mK_r, if_pos rfl]
  simp only [mP_0]
  rw [b1, mK_r, if_pos rfl]
  simp only [mP_0, mF_t cz]
  rw [q4 483 (by decide), F0, F1, mCy_t E484 E485 (by decide) (by decide) (by decide) (by decide) (by decide) (by decide) (by decide)]
  generalize hq5 : mCpy u4 484 0 485 0 3863 = u5
  have q5 : ∀ b : Int, b ≠ 484 → b ≠ 485 → u5 b = h22 b := fun b x1 x2 => by rw [← hq5, mCpy_row x2, q4 b x1]
  have q6 : u5 484 = u4 484 := by rw [← hq5, mCpy_row (by decide)]
  have q7 : ∀ j : Int, 0 ≤ j → j < 3863 → u5 485 j = u4 484 j := fun j j0 j1 => by rw [← hq5, mCpy_in j0 (by omega), show (0 : Int) + (j - 0) = j by omega]
  have R4 : RM (u4 484) s00 := by
    have x0 : ∀ j : Int, j < 391 → u4 484 j = u3 484 j := fun j hj => b3 j (Or.inl hj)
    refine ⟨⟨by rw [x0 0 (by decide), a3 0 (by decide)]; exact V0, by rw [x0 1 (by decide), a3 1 (by decide)]; exact V1, by rw [x0 2 (by decide), a3 2 (by decide)]; exact V2 2 (by decide)⟩, fun r c r0 r1 k0 k1 => ?_, fun p r c p0 p1 r0 r1 k0 k1 => ?_, fun p i p0 p1 i0 i1 => ?_, fun p i p0 p1 i0 i1 => ?_, fun p p0 p1 => ?_, fun k k0 k1 => ?_⟩
    · have r1 : r < 8 := r1
      have k1 : c < 8 := k1
      rw [x0 _ (by omega), a3 _ (by omega)]
      exact V2 _ (by omega)
    · have r1 : r < 8 := r1
      have k1 : c < 8 := k1
      exact b4 _ (by omega) (by omega)
    · have i1 : i < 8 := i1
      rw [x0 _ (by omega)]
      exact a4 _ (by omega) (by omega)
    · have i1 : i < 8 := i1
      rw [x0 _ (by omega)]
      exact a4 _ (by omega) (by omega)
    · rw [x0 _ (by omega), a3 _ (by omega)]
      exact V2 _ (by omega)
    · have k1 : k < 0 := k1
      omega
  have e3 : u5 483 = h22 483 := q5 483 (by decide) (by decide)
  refine ⟨w22, u5, rfl, n22, by omega, fun b hb => by rw [p1 b (by omega), o0 b (by omega)], fun b hb => by rw [q5 b (by omega) (by omega), j1 b (by omega) (by omega), y0 b (by omega) (by omega)], ⟨by rw [p1 483 (by decide), o0 483 (by decide)]; exact k0, E484, E485, E486, E487, E488, E489, E490, E491, E492, E493, E494, E495, E496, E497, E498, E499, E500, E501, E502, E503, E504, E505⟩, ⟨by rw [e3]; exact F0, by rw [e3]; exact F1, by rw [e3]; exact F5, by rw [e3]; exact F7, by rw [e3]; exact F12, by rw [e3]; exact F13, by rw [e3]; exact F14, by rw [e3]; exact F21, by rw [e3]; exact F24, by rw [e3]; exact F25, by rw [e3]; exact F26, by rw [e3]; exact F27, by rw [e3]; exact F31, by rw [e3]; exact F34, by rw [e3]; exact F35, by rw [e3]; exact F36, by rw [e3]; exact F37, by rw [e3]; exact F38, by rw [e3]; exact F39, by rw [e3]; exact F40, by rw [e3]; exact F41, by rw [e3]; exact F42⟩, ⟨?_, ?_, (by decide : (0 : Int) ≤ 0 ∧ (0 : Int) ≤ 0 ∧ (0 : Int) + 0 ≤ 30), fun k k0 k1 => ?_⟩, by rw [q6]; exact R4, fun x => absurd (show u5 483 4 = 0 by rw [e3]; exact F0s 4 (by decide)) x, mNam_fr f8 (by rw [q5 492 (by decide) (by decide), H492]), fun j _ _ => ?_, ⟨by rw [e3]; exact F0s 6 (by decide), Or.inl rfl, fun z => absurd (show (0 : Int) = 1 from z) (by decide)⟩, ⟨by rw [e3]; exact F0s 15 (by decide), (by decide : (0 : Int) ≤ 0 ∧ (0 : Int) ≤ 200), fun j j0 j1 => absurd (show j < 0 from j1) (by omega)⟩, fun k k0 k1 => ⟨?_, (by decide : (-1 : Int) ≤ -1 ∧ (-1 : Int) ≤ 60), fun j j0 j1 => absurd (show j < -1 from j1) (by omega)⟩, by rw [e3]; exact F0s 43 (by decide), (by decide : (0 : Int) ≤ 0 ∧ (0 : Int) ≤ 4), fun k k0 k1 => absurd (show k < 0 from k1) (by omega)⟩
  · rw [e3]; exact F0s 2 (by decide)
  · rw [e3]; exact F0s 3 (by decide)
  · have k1 : k ≤ 0 := k1
    obtain rfl : k = 0 := by omega
    exact ⟨RM_ext s00_I R4 (fun j j0 j1 => by rw [show (0 : Int) * 3863 + j = j by omega]; exact q7 j j0 j1), s00_I⟩
  · rw [q5 497 (by decide) (by decide), H497]
    exact ⟨f13 _, f13 _⟩
  · rw [q5 503 (by decide) (by decide), H503]; exact f19 k k0 k1
end PU
