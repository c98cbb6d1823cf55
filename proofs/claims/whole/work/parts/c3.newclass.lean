/-! PURE: constructors: the class, whole; printed by wip/whole/gen/genc3.py. -/
/-- where both begin -/
def A00 : aG := ((fun _ => s00), (0, 0), (0, fun _ => []), (0, fun _ => 0), ((fun _ => -1), fun _ _ => 0), 0, s00)
section PU
variable {d : Nat} {w0 : mm_W} {h0 : mm_H}
theorem E_F_init (hd : 40 ≤ d) (n0 : w0.2.1 = 2) (k1 : w0.1 1 = (12, 17)) (z14 : h0 1 14 = 0) (z16 : h0 1 16 = 0) : ∃ (w' : mm_W) (h' : mm_H), mm_P d 139 [(2, 1)] w0 h0 = some ((9, 0), w', h') ∧ w'.2.1 = 483 ∧ w'.2.2 ≤ w0.2.2 + 100000 ∧ (∀ b : Int, b ≤ 1 → w'.1 b = w0.1 b) ∧ (∀ b : Int, b < 1 → h' b = h0 b) ∧ ∀ (W : mm_W) (H : mm_H), (∀ b : Int, b < 483 → W.1 b = w'.1 b) → 506 ≤ W.2.1 → (∀ b : Int, b < 483 → H b = h' b) → SW W H → GC W H A00 := by
  have c0 : (w0.1 1).1 = 12 := by rw [k1]
  obtain ⟨d, rfl, hd2⟩ := mm_dS hd
  rw [P_F_init, mF_t c0]
  dsimp only
  -- Hi at 2
  have e0 : (mNew w0 4 5).1 2 = (4, 5) := nW_e 4 5 n0.symm
  have v0 : (mNew w0 4 5).2.1 = 3 := by rw [nW_n, n0]; rfl
  have s0 : (mNew w0 4 5).2.2 = w0.2.2 + 5 := rfl
  obtain ⟨w1, t0, g0, q0, f0⟩ := E_Hi_init (d := d) (w := mNew w0 4 5) (h := mZero h0 2) (by omega) (by rw [nW_n, n0]; rfl) (by rw [nW_e 4 5 n0.symm])
  have o0 : ∀ b : Int, b < 2 → w1.1 b = w0.1 b := fun b hb => by rw [q0.2.2.1 b (by omega)]; exact nW_o 4 5 (by omega)
  have z0 : ∀ b : Int, b < 2 → t0 b = h0 b := fun b hb => by rw [q0.2.2.2 b hb]; exact mZ_o (by omega)
  have n1 : w1.2.1 = 420 := by rw [q0.1, v0]; rfl
  have u0 : w1.2.2 = w0.2.2 + 47492 := by rw [q0.2.1, s0]; omega
  have c1 : (w1.1 1).1 = 12 := by rw [o0 1 (by decide)]; exact c0
  rw [n0, mF_t (show ((mNew w0 4 5).1 2).1 = 4 by rw [e0]), g0, mC_s, mF_t c1, mLe_t (by decide)]
  generalize hh0 : mUp t0 1 0 2 = h1
  have y0 : ∀ b : Int, b ≠ 1 → b < 2 → h1 b = h0 b := fun b b1 hb => by rw [← hh0, mUp_row b1]; exact z0 b hb
  have r0 : ∀ i : Int, i ≠ 0 → h1 1 i = h0 1 i := fun i hi => by rw [← hh0, mUp_n (Or.inr hi), z0 1 (by decide)]
  have l0 : h1 1 0 = 2 := by rw [← hh0, mUp_s]
  -- Ed at 420
  have e1 : (mNew w1 3 2).1 420 = (3, 2) := nW_e 3 2 n1.symm
  have v1 : (mNew w1 3 2).2.1 = 421 := by rw [nW_n, n1]; rfl
  have s1 : (mNew w1 3 2).2.2 = w1.2.2 + 2 := rfl
  obtain ⟨w2, t1, g1, q1, f1⟩ := E_Ed_init (d := d) (w := mNew w1 3 2) (h := mZero h1 420) (a := 420) (by omega) (by decide) v1 (by rw [e1])
  have o1 : ∀ b : Int, b < 420 → w2.1 b = w1.1 b := fun b hb => by rw [q1.2.2.1 b (by omega)]; exact nW_o 3 2 (by omega)
  have z1 : ∀ b : Int, b < 420 → t1 b = h1 b := fun b hb => by rw [q1.2.2.2 b hb]; exact mZ_o (by omega)
  have n2 : w2.2.1 = 435 := by rw [q1.1, v1]; rfl
  have u1 : w2.2.2 = w1.2.2 + 1501 := by rw [q1.2.1, s1]; omega
  have c2 : (w2.1 1).1 = 12 := by rw [o1 1 (by decide)]; exact c1
  rw [n1, mF_t (show ((mNew w1 3 2).1 420).1 = 3 by rw [e1]), g1, mC_s, mF_t c2, mLe_t (by decide)]
  generalize hh1 : mUp t1 1 1 420 = h2
  have y1 : ∀ b : Int, b ≠ 1 → b < 420 → h2 b = h1 b := fun b b1 hb => by rw [← hh1, mUp_row b1]; exact z1 b hb
  have r1 : ∀ i : Int, i ≠ 1 → h2 1 i = h1 1 i := fun i hi => by rw [← hh1, mUp_n (Or.inr hi), z1 1 (by decide)]
  have l1 : h2 1 1 = 420 := by rw [← hh1, mUp_s]
  -- Rn at 435
  have e2 : (mNew w2 8 5).1 435 = (8, 5) := nW_e 8 5 n2.symm
  have v2 : (mNew w2 8 5).2.1 = 436 := by rw [nW_n, n2]; rfl
  have s2 : (mNew w2 8 5).2.2 = w2.2.2 + 5 := rfl
  have o2 : ∀ b : Int, b < 435 → (mNew w2 8 5).1 b = w2.1 b := fun b hb => nW_o 8 5 (by omega)
  have c3 : ((mNew w2 8 5).1 1).1 = 12 := by rw [o2 1 (by decide)]; exact c2
  have a2 : mZero h2 435 1 1 = 420 := by rw [mZ_o (by decide), ← hh1, mUp_s]
  rw [n2, mF_t c3, mF_t (show ((mNew w2 8 5).1 435).1 = 8 by rw [e2]), a2, E_Rn_init (by omega) (by rw [e2]) (by decide), mC_s, mF_t c3, mLe_t (by decide)]
  have z2 : ∀ b : Int, b < 435 → mUp (mZero h2 435) 435 0 420 b = h2 b := fun b hb => by rw [mUp_row (by omega)]; exact mZ_o (by omega)
  generalize ht2 : mUp (mZero h2 435) 435 0 420 = t2 at z2 ⊢
  have f2 : t2 435 0 = 420 := by rw [← ht2, mUp_s]
  generalize hw2 : mNew w2 8 5 = w3 at e2 v2 s2 o2 c3 ⊢
  have n3 : w3.2.1 = 436 := v2
  have u2 : w3.2.2 = w2.2.2 + 5 := s2
  generalize hh2 : mUp t2 1 2 435 = h3
  have y2 : ∀ b : Int, b ≠ 1 → b < 435 → h3 b = h2 b := fun b b1 hb => by rw [← hh2, mUp_row b1]; exact z2 b hb
  have r2 : ∀ i : Int, i ≠ 2 → h3 1 i = h2 1 i := fun i hi => by rw [← hh2, mUp_n (Or.inr hi), z2 1 (by decide)]
  have l2 : h3 1 2 = 435 := by rw [← hh2, mUp_s]
  -- Pr at 436
  have e3 : (mNew w3 5 11).1 436 = (5, 11) := nW_e 5 11 n3.symm
  have v3 : (mNew w3 5 11).2.1 = 437 := by rw [nW_n, n3]; rfl
  have s3 : (mNew w3 5 11).2.2 = w3.2.2 + 11 := rfl
  obtain ⟨w4, t3, g3, q3, f3⟩ := E_Pr_init (d := d) (w := mNew w3 5 11) (h := mZero h3 436) (a := 436) (by omega) (by decide) v3 (by rw [e3])
  have o3 : ∀ b : Int, b < 436 → w4.1 b = w3.1 b := fun b hb => by rw [q3.2.2.1 b (by omega)]; exact nW_o 5 11 (by omega)
  have z3 : ∀ b : Int, b < 436 → t3 b = h3 b := fun b hb => by rw [q3.2.2.2 b hb]; exact mZ_o (by omega)
  have n4 : w4.2.1 = 438 := by rw [q3.1, v3]; rfl
  have u3 : w4.2.2 = w3.2.2 + 211 := by rw [q3.2.1, s3]; omega
  have c4 : (w4.1 1).1 = 12 := by rw [o3 1 (by decide)]; exact c3
  rw [n3, mF_t (show ((mNew w3 5 11).1 436).1 = 5 by rw [e3]), g3, mC_s, mF_t c4, mLe_t (by decide)]
  generalize hh3 : mUp t3 1 3 436 = h4
  have y3 : ∀ b : Int, b ≠ 1 → b < 436 → h4 b = h3 b := fun b b1 hb => by rw [← hh3, mUp_row b1]; exact z3 b hb
  have r3 : ∀ i : Int, i ≠ 3 → h4 1 i = h3 1 i := fun i hi => by rw [← hh3, mUp_n (Or.inr hi), z3 1 (by decide)]
  have l3 : h4 1 3 = 436 := by rw [← hh3, mUp_s]
  -- Vw at 438
  have e4 : (mNew w4 11 10).1 438 = (11, 10) := nW_e 11 10 n4.symm
  have v4 : (mNew w4 11 10).2.1 = 439 := by rw [nW_n, n4]; rfl
  have s4 : (mNew w4 11 10).2.2 = w4.2.2 + 10 := rfl
  obtain ⟨w5, t4, g4, q4, f4⟩ := E_Vw_init (d := d) (w := mNew w4 11 10) (h := mZero h4 438) (a := 438) (by omega) (by decide) v4 (by rw [e4])
  have o4 : ∀ b : Int, b < 438 → w5.1 b = w4.1 b := fun b hb => by rw [q4.2.2.1 b (by omega)]; exact nW_o 11 10 (by omega)
  have z4 : ∀ b : Int, b < 438 → t4 b = h4 b := fun b hb => by rw [q4.2.2.2 b hb]; exact mZ_o (by omega)
  have n5 : w5.2.1 = 445 := by rw [q4.1, v4]; rfl
  have u4 : w5.2.2 = w4.2.2 + 3139 := by rw [q4.2.1, s4]; omega
  have c5 : (w5.1 1).1 = 12 := by rw [o4 1 (by decide)]; exact c4
  rw [n4, mF_t (show ((mNew w4 11 10).1 438).1 = 11 by rw [e4]), g4, mC_s, mF_t c5, mLe_t (by decide)]
  generalize hh4 : mUp t4 1 4 438 = h5
  have y4 : ∀ b : Int, b ≠ 1 → b < 438 → h5 b = h4 b := fun b b1 hb => by rw [← hh4, mUp_row b1]; exact z4 b hb
  have r4 : ∀ i : Int, i ≠ 4 → h5 1 i = h4 1 i := fun i hi => by rw [← hh4, mUp_n (Or.inr hi), z4 1 (by decide)]
  have l4 : h5 1 4 = 438 := by rw [← hh4, mUp_s]
  -- Vw at 445
  have e5 : (mNew w5 11 10).1 445 = (11, 10) := nW_e 11 10 n5.symm
  have v5 : (mNew w5 11 10).2.1 = 446 := by rw [nW_n, n5]; rfl
  have s5 : (mNew w5 11 10).2.2 = w5.2.2 + 10 := rfl
  obtain ⟨w6, t5, g5, q5, f5⟩ := E_Vw_init (d := d) (w := mNew w5 11 10) (h := mZero h5 445) (a := 445) (by omega) (by decide) v5 (by rw [e5])
  have o5 : ∀ b : Int, b < 445 → w6.1 b = w5.1 b := fun b hb => by rw [q5.2.2.1 b (by omega)]; exact nW_o 11 10 (by omega)
  have z5 : ∀ b : Int, b < 445 → t5 b = h5 b := fun b hb => by rw [q5.2.2.2 b hb]; exact mZ_o (by omega)
  have n6 : w6.2.1 = 452 := by rw [q5.1, v5]; rfl
  have u5 : w6.2.2 = w5.2.2 + 3139 := by rw [q5.2.1, s5]; omega
  have c6 : (w6.1 1).1 = 12 := by rw [o5 1 (by decide)]; exact c5
  rw [n5, mF_t (show ((mNew w5 11 10).1 445).1 = 11 by rw [e5]), g5, mC_s, mF_t c6, mLe_t (by decide)]
  generalize hh5 : mUp t5 1 5 445 = h6
  have y5 : ∀ b : Int, b ≠ 1 → b < 445 → h6 b = h5 b := fun b b1 hb => by rw [← hh5, mUp_row b1]; exact z5 b hb
  have r5 : ∀ i : Int, i ≠ 5 → h6 1 i = h5 1 i := fun i hi => by rw [← hh5, mUp_n (Or.inr hi), z5 1 (by decide)]
  have l5 : h6 1 5 = 445 := by rw [← hh5, mUp_s]
  -- Cv at 452
  have e6 : (mNew w6 2 11).1 452 = (2, 11) := nW_e 2 11 n6.symm
  have v6 : (mNew w6 2 11).2.1 = 453 := by rw [nW_n, n6]; rfl
  have s6 : (mNew w6 2 11).2.2 = w6.2.2 + 11 := rfl
  obtain ⟨w7, t6, g6, q6, f6⟩ := E_Cv_init (d := d) (w := mNew w6 2 11) (h := mZero h6 452) (a := 452) (by omega) (by decide) v6 (by rw [e6])
  have o6 : ∀ b : Int, b < 452 → w7.1 b = w6.1 b := fun b hb => by rw [q6.2.2.1 b (by omega)]; exact nW_o 2 11 (by omega)
  have z6 : ∀ b : Int, b < 452 → t6 b = h6 b := fun b hb => by rw [q6.2.2.2 b hb]; exact mZ_o (by omega)
  have n7 : w7.2.1 = 461 := by rw [q6.1, v6]; rfl
  have u6 : w7.2.2 = w6.2.2 + 2109 := by rw [q6.2.1, s6]; omega
  have c7 : (w7.1 1).1 = 12 := by rw [o6 1 (by decide)]; exact c6
  rw [n6, mF_t (show ((mNew w6 2 11).1 452).1 = 2 by rw [e6]), g6, mC_s, mF_t c7, mLe_t (by decide)]
  generalize hh6 : mUp t6 1 6 452 = h7
  have y6 : ∀ b : Int, b ≠ 1 → b < 452 → h7 b = h6 b := fun b b1 hb => by rw [← hh6, mUp_row b1]; exact z6 b hb
  have r6 : ∀ i : Int, i ≠ 6 → h7 1 i = h6 1 i := fun i hi => by rw [← hh6, mUp_n (Or.inr hi), z6 1 (by decide)]
  have l6 : h7 1 6 = 452 := by rw [← hh6, mUp_s]
  -- Ta at 461
  have e7 : (mNew w7 10 6).1 461 = (10, 6) := nW_e 10 6 n7.symm
  have v7 : (mNew w7 10 6).2.1 = 462 := by rw [nW_n, n7]; rfl
  have s7 : (mNew w7 10 6).2.2 = w7.2.2 + 6 := rfl
  obtain ⟨w8, t7, g7, q7, f7⟩ := E_Ta_init (d := d) (w := mNew w7 10 6) (h := mZero h7 461) (a := 461) (by omega) (by decide) v7 (by rw [e7])
  have o7 : ∀ b : Int, b < 461 → w8.1 b = w7.1 b := fun b hb => by rw [q7.2.2.1 b (by omega)]; exact nW_o 10 6 (by omega)
  have z7 : ∀ b : Int, b < 461 → t7 b = h7 b := fun b hb => by rw [q7.2.2.2 b hb]; exact mZ_o (by omega)
  have n8 : w8.2.1 = 463 := by rw [q7.1, v7]; rfl
  have u7 : w8.2.2 = w7.2.2 + 206 := by rw [q7.2.1, s7]; omega
  have c8 : (w8.1 1).1 = 12 := by rw [o7 1 (by decide)]; exact c7
  rw [n7, mF_t (show ((mNew w7 10 6).1 461).1 = 10 by rw [e7]), g7, mC_s, mF_t c8, mLe_t (by decide)]
  generalize hh7 : mUp t7 1 7 461 = h8
  have y7 : ∀ b : Int, b ≠ 1 → b < 461 → h8 b = h7 b := fun b b1 hb => by rw [← hh7, mUp_row b1]; exact z7 b hb
  have r7 : ∀ i : Int, i ≠ 7 → h8 1 i = h7 1 i := fun i hi => by rw [← hh7, mUp_n (Or.inr hi), z7 1 (by decide)]
  have l7 : h8 1 7 = 461 := by rw [← hh7, mUp_s]
  have x8 : h8 1 7 = 461 := l7
  -- Cr at 463
  have e8 : (mNew w8 1 3).1 463 = (1, 3) := nW_e 1 3 n8.symm
  have v8 : (mNew w8 1 3).2.1 = 464 := by rw [nW_n, n8]; rfl
  have s8 : (mNew w8 1 3).2.2 = w8.2.2 + 3 := rfl
  obtain ⟨w9, t8, g8, q8, f8⟩ := E_Cr_init (d := d) (w := mNew w8 1 3) (h := mZero h8 463) (a := 463) (by omega) (by decide) v8 (by rw [e8]) (b := 461) (by decide)
  have o8 : ∀ b : Int, b < 463 → w9.1 b = w8.1 b := fun b hb => by rw [q8.2.2.1 b (by omega)]; exact nW_o 1 3 (by omega)
  have z8 : ∀ b : Int, b < 463 → t8 b = h8 b := fun b hb => by rw [q8.2.2.2 b hb]; exact mZ_o (by omega)
  have n9 : w9.2.1 = 465 := by rw [q8.1, v8]; rfl
  have u8 : w9.2.2 = w8.2.2 + 603 := by rw [q8.2.1, s8]; omega
  have c9 : (w9.1 1).1 = 12 := by rw [o8 1 (by decide)]; exact c8
  have a8 : mZero h8 463 1 7 = 461 := by rw [mZ_o (by decide)]; exact x8
  rw [n8, mF_t (show ((mNew w8 1 3).1 1).1 = 12 by rw [nW_o 1 3 (by omega)]; exact c8), mF_t (show ((mNew w8 1 3).1 463).1 = 1 by rw [e8]), a8, g8, mC_s, mF_t c9, mLe_t (by decide)]
  generalize hh8 : mUp t8 1 8 463 = h9
  have y8 : ∀ b : Int, b ≠ 1 → b < 463 → h9 b = h8 b := fun b b1 hb => by rw [← hh8, mUp_row b1]; exact z8 b hb
  have r8 : ∀ i : Int, i ≠ 8 → h9 1 i = h8 1 i := fun i hi => by rw [← hh8, mUp_n (Or.inr hi), z8 1 (by decide)]
  have l8 : h9 1 8 = 463 := by rw [← hh8, mUp_s]
  have x9 : h9 1 7 = 461 := by rw [r8 7 (by decide)]; exact l7
  -- Pg at 465
  have e9 : (mNew w9 6 4).1 465 = (6, 4) := nW_e 6 4 n9.symm
  have v9 : (mNew w9 6 4).2.1 = 466 := by rw [nW_n, n9]; rfl
  have s9 : (mNew w9 6 4).2.2 = w9.2.2 + 4 := rfl
  obtain ⟨w10, t9, g9, q9, f9⟩ := E_Pg_init (d := d) (w := mNew w9 6 4) (h := mZero h9 465) (a := 465) (by omega) (by decide) v9 (by rw [e9]) (b := 461) (by decide)
  have o9 : ∀ b : Int, b < 465 → w10.1 b = w9.1 b := fun b hb => by rw [q9.2.2.1 b (by omega)]; exact nW_o 6 4 (by omega)
  have z9 : ∀ b : Int, b < 465 → t9 b = h9 b := fun b hb => by rw [q9.2.2.2 b hb]; exact mZ_o (by omega)
  have n10 : w10.2.1 = 467 := by rw [q9.1, v9]; rfl
  have u9 : w10.2.2 = w9.2.2 + 1804 := by rw [q9.2.1, s9]; omega
  have c10 : (w10.1 1).1 = 12 := by rw [o9 1 (by decide)]; exact c9
  have a9 : mZero h9 465 1 7 = 461 := by rw [mZ_o (by decide)]; exact x9
  rw [n9, mF_t (show ((mNew w9 6 4).1 1).1 = 12 by rw [nW_o 6 4 (by omega)]; exact c9), mF_t (show ((mNew w9 6 4).1 465).1 = 6 by rw [e9]), a9, g9, mC_s, mF_t c10, mLe_t (by decide)]
  generalize hh9 : mUp t9 1 9 465 = h10
  have y9 : ∀ b : Int, b ≠ 1 → b < 465 → h10 b = h9 b := fun b b1 hb => by rw [← hh9, mUp_row b1]; exact z9 b hb
  have r9 : ∀ i : Int, i ≠ 9 → h10 1 i = h9 1 i := fun i hi => by rw [← hh9, mUp_n (Or.inr hi), z9 1 (by decide)]
  have l9 : h10 1 9 = 465 := by rw [← hh9, mUp_s]
  -- A at 467
  have e10 : (mNew w10 150 4).1 467 = (150, 4) := nW_e 150 4 n10.symm
  have v10 : (mNew w10 150 4).2.1 = 468 := by rw [nW_n, n10]; rfl
  have s10 : (mNew w10 150 4).2.2 = w10.2.2 + 4 := rfl
  have o10 : ∀ b : Int, b < 467 → (mNew w10 150 4).1 b = w10.1 b := fun b hb => nW_o 150 4 (by omega)
  have c11 : ((mNew w10 150 4).1 1).1 = 12 := by rw [o10 1 (by decide)]; exact c10
  rw [mM_t (by decide), n10, mF_t c11, mLe_t (by decide)]
  have z10 : ∀ b : Int, b < 467 → mZero h10 467 b = h10 b := fun b hb => mZ_o (by omega)
  have f10 : ∀ j : Int, mZero h10 467 467 j = 0 := fun j => mZ_s j
  generalize ht10 : mZero h10 467 = t10 at z10 f10 ⊢
  generalize hw10 : mNew w10 150 4 = w11 at e10 v10 s10 o10 c11 ⊢
  have n11 : w11.2.1 = 468 := v10
  have u10 : w11.2.2 = w10.2.2 + 4 := s10
  generalize hh10 : mUp t10 1 10 467 = h11
  have y10 : ∀ b : Int, b ≠ 1 → b < 467 → h11 b = h10 b := fun b b1 hb => by rw [← hh10, mUp_row b1]; exact z10 b hb
  have r10 : ∀ i : Int, i ≠ 10 → h11 1 i = h10 1 i := fun i hi => by rw [← hh10, mUp_n (Or.inr hi), z10 1 (by decide)]
  have l10 : h11 1 10 = 467 := by rw [← hh10, mUp_s]
  -- A at 468
  have e11 : (mNew w11 51 240).1 468 = (51, 240) := nW_e 51 240 n11.symm
  have v11 : (mNew w11 51 240).2.1 = 469 := by rw [nW_n, n11]; rfl
  have s11 : (mNew w11 51 240).2.2 = w11.2.2 + 240 := rfl
  have o11 : ∀ b : Int, b < 468 → (mNew w11 51 240).1 b = w11.1 b := fun b hb => nW_o 51 240 (by omega)
  have c12 : ((mNew w11 51 240).1 1).1 = 12 := by rw [o11 1 (by decide)]; exact c11
  rw [mM_t (by decide), n11, mF_t c12, mLe_t (by decide)]
  have z11 : ∀ b : Int, b < 468 → mZero h11 468 b = h11 b := fun b hb => mZ_o (by omega)
  have f11 : ∀ j : Int, mZero h11 468 468 j = 0 := fun j => mZ_s j
  generalize ht11 : mZero h11 468 = t11 at z11 f11 ⊢
  generalize hw11 : mNew w11 51 240 = w12 at e11 v11 s11 o11 c12 ⊢
  have n12 : w12.2.1 = 469 := v11
  have u11 : w12.2.2 = w11.2.2 + 240 := s11
  generalize hh11 : mUp t11 1 11 468 = h12
  have y11 : ∀ b : Int, b ≠ 1 → b < 468 → h12 b = h11 b := fun b b1 hb => by rw [← hh11, mUp_row b1]; exact z11 b hb
  have r11 : ∀ i : Int, i ≠ 11 → h12 1 i = h11 1 i := fun i hi => by rw [← hh11, mUp_n (Or.inr hi), z11 1 (by decide)]
  have l11 : h12 1 11 = 468 := by rw [← hh11, mUp_s]
  -- A at 469
  have e12 : (mNew w12 50 4).1 469 = (50, 4) := nW_e 50 4 n12.symm
  have v12 : (mNew w12 50 4).2.1 = 470 := by rw [nW_n, n12]; rfl
  have s12 : (mNew w12 50 4).2.2 = w12.2.2 + 4 := rfl
  have o12 : ∀ b : Int, b < 469 → (mNew w12 50 4).1 b = w12.1 b := fun b hb => nW_o 50 4 (by omega)
  have c13 : ((mNew w12 50 4).1 1).1 = 12 := by rw [o12 1 (by decide)]; exact c12
  rw [mM_t (by decide), n12, mF_t c13, mLe_t (by decide)]
  have z12 : ∀ b : Int, b < 469 → mZero h12 469 b = h12 b := fun b hb => mZ_o (by omega)
  have f12 : ∀ j : Int, mZero h12 469 469 j = 0 := fun j => mZ_s j
  generalize ht12 : mZero h12 469 = t12 at z12 f12 ⊢
  generalize hw12 : mNew w12 50 4 = w13 at e12 v12 s12 o12 c13 ⊢
  have n13 : w13.2.1 = 470 := v12
  have u12 : w13.2.2 = w12.2.2 + 4 := s12
  generalize hh12 : mUp t12 1 12 469 = h13
  have y12 : ∀ b : Int, b ≠ 1 → b < 469 → h13 b = h12 b := fun b b1 hb => by rw [← hh12, mUp_row b1]; exact z12 b hb
  have r12 : ∀ i : Int, i ≠ 12 → h13 1 i = h12 1 i := fun i hi => by rw [← hh12, mUp_n (Or.inr hi), z12 1 (by decide)]
  have l12 : h13 1 12 = 469 := by rw [← hh12, mUp_s]
  -- Sh at 470
  have e13 : (mNew w13 9 9).1 470 = (9, 9) := nW_e 9 9 n13.symm
  have v13 : (mNew w13 9 9).2.1 = 471 := by rw [nW_n, n13]; rfl
  have s13 : (mNew w13 9 9).2.2 = w13.2.2 + 9 := rfl
  obtain ⟨w14, t13, g13, q13, f13⟩ := E_Sh_init (d := d) (w := mNew w13 9 9) (h := mZero h13 470) (S := 470) (by omega) (by decide) v13 e13 (mZ_s 2)
  have o13 : ∀ b : Int, b < 470 → w14.1 b = w13.1 b := fun b hb => by rw [f13.2.1 b (by omega)]; exact nW_o 9 9 (by omega)
  have z13 : ∀ b : Int, b < 470 → t13 b = h13 b := fun b hb => by rw [f13.2.2.2.1 b hb]; exact mZ_o (by omega)
  have n14 : w14.2.1 = 483 := q13
  have u13 : w14.2.2 = w13.2.2 + 1483 := by rw [f13.1, s13]; omega
  have c14 : (w14.1 1).1 = 12 := by rw [o13 1 (by decide)]; exact c13
  rw [n13, mF_t (show ((mNew w13 9 9).1 470).1 = 9 by rw [e13]), g13, mC_s, mF_t c14, mLe_t (by decide)]
  generalize hh13 : mUp t13 1 13 470 = h14
  have y13 : ∀ b : Int, b ≠ 1 → b < 470 → h14 b = h13 b := fun b b1 hb => by rw [← hh13, mUp_row b1]; exact z13 b hb
  have r13 : ∀ i : Int, i ≠ 13 → h14 1 i = h13 1 i := fun i hi => by rw [← hh13, mUp_n (Or.inr hi), z13 1 (by decide)]
  have l13 : h14 1 13 = 470 := by rw [← hh13, mUp_s]
  have d0 : w1.1 2 = (4, 5) := by rw [q0.2.2.1 2 (Int.le_refl _)]; exact e0
  have d1 : w2.1 420 = (3, 2) := by rw [q1.2.2.1 420 (Int.le_refl _)]; exact e1
  have d2 : w3.1 435 = (8, 5) := e2
  have d3 : w4.1 436 = (5, 11) := by rw [q3.2.2.1 436 (Int.le_refl _)]; exact e3
  have d4 : w5.1 438 = (11, 10) := by rw [q4.2.2.1 438 (Int.le_refl _)]; exact e4
  have d5 : w6.1 445 = (11, 10) := by rw [q5.2.2.1 445 (Int.le_refl _)]; exact e5
  have d6 : w7.1 452 = (2, 11) := by rw [q6.2.2.1 452 (Int.le_refl _)]; exact e6
  have d7 : w8.1 461 = (10, 6) := by rw [q7.2.2.1 461 (Int.le_refl _)]; exact e7
  have d8 : w9.1 463 = (1, 3) := by rw [q8.2.2.1 463 (Int.le_refl _)]; exact e8
  have d9 : w10.1 465 = (6, 4) := by rw [q9.2.2.1 465 (Int.le_refl _)]; exact e9
  have d10 : w11.1 467 = (150, 4) := e10
  have d11 : w12.1 468 = (51, 240) := e11
  have d12 : w13.1 469 = (50, 4) := e12
  have d13 : w14.1 470 = (9, 9) := f13.2.2.1.2.1
  have p13 : ∀ b : Int, b < 470 → w14.1 b = w13.1 b := o13
  have j13 : ∀ b : Int, b ≠ 1 → b < 470 → h14 b = h13 b := y13
  have i13 : ∀ i : Int, (i < 13 ∨ 13 < i) → h14 1 i = h13 1 i := fun i hi => r13 i (by omega)
  have p12 : ∀ b : Int, b < 469 → w14.1 b = w12.1 b := fun b hb => (p13 b (by omega)).trans (o12 b hb)
  have j12 : ∀ b : Int, b ≠ 1 → b < 469 → h14 b = h12 b := fun b b1 hb => (j13 b b1 (by omega)).trans (y12 b b1 hb)
  have i12 : ∀ i : Int, (i < 12 ∨ 13 < i) → h14 1 i = h12 1 i := fun i hi => (i13 i (by omega)).trans (r12 i (by omega))
  have p11 : ∀ b : Int, b < 468 → w14.1 b = w11.1 b := fun b hb => (p12 b (by omega)).trans (o11 b hb)
  have j11 : ∀ b : Int, b ≠ 1 → b < 468 → h14 b = h11 b := fun b b1 hb => (j12 b b1 (by omega)).trans (y11 b b1 hb)
  have i11 : ∀ i : Int, (i < 11 ∨ 13 < i) → h14 1 i = h11 1 i := fun i hi => (i12 i (by omega)).trans (r11 i (by omega))
  have p10 : ∀ b : Int, b < 467 → w14.1 b = w10.1 b := fun b hb => (p11 b (by omega)).trans (o10 b hb)
  have j10 : ∀ b : Int, b ≠ 1 → b < 467 → h14 b = h10 b := fun b b1 hb => (j11 b b1 (by omega)).trans (y10 b b1 hb)
  have i10 : ∀ i : Int, (i < 10 ∨ 13 < i) → h14 1 i = h10 1 i := fun i hi => (i11 i (by omega)).trans (r10 i (by omega))
  have p9 : ∀ b : Int, b < 465 → w14.1 b = w9.1 b := fun b hb => (p10 b (by omega)).trans (o9 b hb)
  have j9 : ∀ b : Int, b ≠ 1 → b < 465 → h14 b = h9 b := fun b b1 hb => (j10 b b1 (by omega)).trans (y9 b b1 hb)
  have i9 : ∀ i : Int, (i < 9 ∨ 13 < i) → h14 1 i = h9 1 i := fun i hi => (i10 i (by omega)).trans (r9 i (by omega))
  have p8 : ∀ b : Int, b < 463 → w14.1 b = w8.1 b := fun b hb => (p9 b (by omega)).trans (o8 b hb)
  have j8 : ∀ b : Int, b ≠ 1 → b < 463 → h14 b = h8 b := fun b b1 hb => (j9 b b1 (by omega)).trans (y8 b b1 hb)
  have i8 : ∀ i : Int, (i < 8 ∨ 13 < i) → h14 1 i = h8 1 i := fun i hi => (i9 i (by omega)).trans (r8 i (by omega))
  have p7 : ∀ b : Int, b < 461 → w14.1 b = w7.1 b := fun b hb => (p8 b (by omega)).trans (o7 b hb)
  have j7 : ∀ b : Int, b ≠ 1 → b < 461 → h14 b = h7 b := fun b b1 hb => (j8 b b1 (by omega)).trans (y7 b b1 hb)
  have i7 : ∀ i : Int, (i < 7 ∨ 13 < i) → h14 1 i = h7 1 i := fun i hi => (i8 i (by omega)).trans (r7 i (by omega))
  have p6 : ∀ b : Int, b < 452 → w14.1 b = w6.1 b := fun b hb => (p7 b (by omega)).trans (o6 b hb)
  have j6 : ∀ b : Int, b ≠ 1 → b < 452 → h14 b = h6 b := fun b b1 hb => (j7 b b1 (by omega)).trans (y6 b b1 hb)
  have i6 : ∀ i : Int, (i < 6 ∨ 13 < i) → h14 1 i = h6 1 i := fun i hi => (i7 i (by omega)).trans (r6 i (by omega))
  have p5 : ∀ b : Int, b < 445 → w14.1 b = w5.1 b := fun b hb => (p6 b (by omega)).trans (o5 b hb)
  have j5 : ∀ b : Int, b ≠ 1 → b < 445 → h14 b = h5 b := fun b b1 hb => (j6 b b1 (by omega)).trans (y5 b b1 hb)
  have i5 : ∀ i : Int, (i < 5 ∨ 13 < i) → h14 1 i = h5 1 i := fun i hi => (i6 i (by omega)).trans (r5 i (by omega))
  have p4 : ∀ b : Int, b < 438 → w14.1 b = w4.1 b := fun b hb => (p5 b (by omega)).trans (o4 b hb)
  have j4 : ∀ b : Int, b ≠ 1 → b < 438 → h14 b = h4 b := fun b b1 hb => (j5 b b1 (by omega)).trans (y4 b b1 hb)
  have i4 : ∀ i : Int, (i < 4 ∨ 13 < i) → h14 1 i = h4 1 i := fun i hi => (i5 i (by omega)).trans (r4 i (by omega))
  have p3 : ∀ b : Int, b < 436 → w14.1 b = w3.1 b := fun b hb => (p4 b (by omega)).trans (o3 b hb)
  have j3 : ∀ b : Int, b ≠ 1 → b < 436 → h14 b = h3 b := fun b b1 hb => (j4 b b1 (by omega)).trans (y3 b b1 hb)
  have i3 : ∀ i : Int, (i < 3 ∨ 13 < i) → h14 1 i = h3 1 i := fun i hi => (i4 i (by omega)).trans (r3 i (by omega))
  have p2 : ∀ b : Int, b < 435 → w14.1 b = w2.1 b := fun b hb => (p3 b (by omega)).trans (o2 b hb)
  have j2 : ∀ b : Int, b ≠ 1 → b < 435 → h14 b = h2 b := fun b b1 hb => (j3 b b1 (by omega)).trans (y2 b b1 hb)
  have i2 : ∀ i : Int, (i < 2 ∨ 13 < i) → h14 1 i = h2 1 i := fun i hi => (i3 i (by omega)).trans (r2 i (by omega))
  have p1 : ∀ b : Int, b < 420 → w14.1 b = w1.1 b := fun b hb => (p2 b (by omega)).trans (o1 b hb)
  have j1 : ∀ b : Int, b ≠ 1 → b < 420 → h14 b = h1 b := fun b b1 hb => (j2 b b1 (by omega)).trans (y1 b b1 hb)
  have i1 : ∀ i : Int, (i < 1 ∨ 13 < i) → h14 1 i = h1 1 i := fun i hi => (i2 i (by omega)).trans (r1 i (by omega))
  have d469 : w14.1 469 = (50, 4) := by rw [p13 469 (by decide)]; exact d12
  have m12 : h14 1 12 = 469 := by rw [i13 12 (by decide)]; exact l12
  obtain ⟨h15, b1, b2, b3⟩ := E_fill (d := d) (h := mUp h14 1 15 1) (by omega) d469 (by decide) (-1) (by decide)
  rw [mZ_1, mF_t c14, mF_t c14, mUp_n (Or.inr (by decide)), m12, b1, mC_s]
  refine ⟨w14, h15, rfl, n14, by omega, fun b hb => by rw [p1 b (by omega), o0 b (by omega)], fun b hb => by rw [b2 b (by omega), mUp_row (by omega), j1 b (by omega) (by omega), y0 b (by omega) (by omega)], fun W H eW h5 eH hS => ?_⟩
  have HF : ∀ b : Int, b ≠ 1 → b ≠ 469 → b < 483 → H b = h14 b := fun b x1 x2 x3 => by rw [eH b x3, b2 b x2, mUp_row x1]
  have H1 : ∀ i : Int, i ≠ 15 → H 1 i = h14 1 i := fun i hi => by rw [eH 1 (by decide), b2 1 (by decide), mUp_n (Or.inr hi)]
  have WT0 : ∀ b : Int, b < 420 → W.1 b = w1.1 b := fun b hb => by rw [eW b (by omega), p1 b hb]
  have HT0 : ∀ b : Int, b ≠ 1 → b ≠ 469 → b < 420 → H b = t0 b := fun b x1 x2 x3 => by rw [HF b x1 x2 (by omega), j1 b x1 x3, ← hh0, mUp_row x1]
  have F0 : H 1 0 = 2 := by rw [H1 0 (by decide), i1 0 (by decide)]; exact l0
  have WT1 : ∀ b : Int, b < 435 → W.1 b = w2.1 b := fun b hb => by rw [eW b (by omega), p2 b hb]
  have HT1 : ∀ b : Int, b ≠ 1 → b ≠ 469 → b < 435 → H b = t1 b := fun b x1 x2 x3 => by rw [HF b x1 x2 (by omega), j2 b x1 x3, ← hh1, mUp_row x1]
  have F1 : H 1 1 = 420 := by rw [H1 1 (by decide), i2 1 (by decide)]; exact l1
  have WT2 : ∀ b : Int, b < 436 → W.1 b = w3.1 b := fun b hb => by rw [eW b (by omega), p3 b hb]
  have HT2 : ∀ b : Int, b ≠ 1 → b ≠ 469 → b < 436 → H b = t2 b := fun b x1 x2 x3 => by rw [HF b x1 x2 (by omega), j3 b x1 x3, ← hh2, mUp_row x1]
  have F2 : H 1 2 = 435 := by rw [H1 2 (by decide), i3 2 (by decide)]; exact l2
  have WT3 : ∀ b : Int, b < 438 → W.1 b = w4.1 b := fun b hb => by rw [eW b (by omega), p4 b hb]
  have HT3 : ∀ b : Int, b ≠ 1 → b ≠ 469 → b < 438 → H b = t3 b := fun b x1 x2 x3 => by rw [HF b x1 x2 (by omega), j4 b x1 x3, ← hh3, mUp_row x1]
  have F3 : H 1 3 = 436 := by rw [H1 3 (by decide), i4 3 (by decide)]; exact l3
  have WT4 : ∀ b : Int, b < 445 → W.1 b = w5.1 b := fun b hb => by rw [eW b (by omega), p5 b hb]
  have HT4 : ∀ b : Int, b ≠ 1 → b ≠ 469 → b < 445 → H b = t4 b := fun b x1 x2 x3 => by rw [HF b x1 x2 (by omega), j5 b x1 x3, ← hh4, mUp_row x1]
  have F4 : H 1 4 = 438 := by rw [H1 4 (by decide), i5 4 (by decide)]; exact l4
  have WT5 : ∀ b : Int, b < 452 → W.1 b = w6.1 b := fun b hb => by rw [eW b (by omega), p6 b hb]
  have HT5 : ∀ b : Int, b ≠ 1 → b ≠ 469 → b < 452 → H b = t5 b := fun b x1 x2 x3 => by rw [HF b x1 x2 (by omega), j6 b x1 x3, ← hh5, mUp_row x1]
  have F5 : H 1 5 = 445 := by rw [H1 5 (by decide), i6 5 (by decide)]; exact l5
  have WT6 : ∀ b : Int, b < 461 → W.1 b = w7.1 b := fun b hb => by rw [eW b (by omega), p7 b hb]
  have HT6 : ∀ b : Int, b ≠ 1 → b ≠ 469 → b < 461 → H b = t6 b := fun b x1 x2 x3 => by rw [HF b x1 x2 (by omega), j7 b x1 x3, ← hh6, mUp_row x1]
  have F6 : H 1 6 = 452 := by rw [H1 6 (by decide), i7 6 (by decide)]; exact l6
  have WT7 : ∀ b : Int, b < 463 → W.1 b = w8.1 b := fun b hb => by rw [eW b (by omega), p8 b hb]
  have HT7 : ∀ b : Int, b ≠ 1 → b ≠ 469 → b < 463 → H b = t7 b := fun b x1 x2 x3 => by rw [HF b x1 x2 (by omega), j8 b x1 x3, ← hh7, mUp_row x1]
  have F7 : H 1 7 = 461 := by rw [H1 7 (by decide), i8 7 (by decide)]; exact l7
  have WT8 : ∀ b : Int, b < 465 → W.1 b = w9.1 b := fun b hb => by rw [eW b (by omega), p9 b hb]
  have HT8 : ∀ b : Int, b ≠ 1 → b ≠ 469 → b < 465 → H b = t8 b := fun b x1 x2 x3 => by rw [HF b x1 x2 (by omega), j9 b x1 x3, ← hh8, mUp_row x1]
  have F8 : H 1 8 = 463 := by rw [H1 8 (by decide), i9 8 (by decide)]; exact l8
  have WT9 : ∀ b : Int, b < 467 → W.1 b = w10.1 b := fun b hb => by rw [eW b (by omega), p10 b hb]
  have HT9 : ∀ b : Int, b ≠ 1 → b ≠ 469 → b < 467 → H b = t9 b := fun b x1 x2 x3 => by rw [HF b x1 x2 (by omega), j10 b x1 x3, ← hh9, mUp_row x1]
  have F9 : H 1 9 = 465 := by rw [H1 9 (by decide), i10 9 (by decide)]; exact l9
  have WT10 : ∀ b : Int, b < 468 → W.1 b = w11.1 b := fun b hb => by rw [eW b (by omega), p11 b hb]
  have HT10 : ∀ b : Int, b ≠ 1 → b ≠ 469 → b < 468 → H b = t10 b := fun b x1 x2 x3 => by rw [HF b x1 x2 (by omega), j11 b x1 x3, ← hh10, mUp_row x1]
  have F10 : H 1 10 = 467 := by rw [H1 10 (by decide), i11 10 (by decide)]; exact l10
  have WT11 : ∀ b : Int, b < 469 → W.1 b = w12.1 b := fun b hb => by rw [eW b (by omega), p12 b hb]
  have HT11 : ∀ b : Int, b ≠ 1 → b ≠ 469 → b < 469 → H b = t11 b := fun b x1 x2 x3 => by rw [HF b x1 x2 (by omega), j12 b x1 x3, ← hh11, mUp_row x1]
  have F11 : H 1 11 = 468 := by rw [H1 11 (by decide), i12 11 (by decide)]; exact l11
  have WT12 : ∀ b : Int, b < 470 → W.1 b = w13.1 b := fun b hb => by rw [eW b (by omega), p13 b hb]
  have HT12 : ∀ b : Int, b ≠ 1 → b ≠ 469 → b < 470 → H b = t12 b := fun b x1 x2 x3 => by rw [HF b x1 x2 (by omega), j13 b x1 x3, ← hh12, mUp_row x1]
  have F12 : H 1 12 = 469 := by rw [H1 12 (by decide), i13 12 (by decide)]; exact l12
  have WT13 : ∀ b : Int, b < 483 → W.1 b = w14.1 b := eW
  have HT13 : ∀ b : Int, b ≠ 1 → b ≠ 469 → b < 483 → H b = t13 b := fun b x1 x2 x3 => by rw [HF b x1 x2 x3, ← hh13, mUp_row x1]
  have F13 : H 1 13 = 470 := by rw [H1 13 (by decide)]; exact l13
  have F14 : H 1 14 = 0 := by rw [H1 14 (by decide), i1 14 (by decide), r0 14 (by decide)]; exact z14
  have F15 : H 1 15 = 1 := by rw [eH 1 (by decide), b2 1 (by decide), mUp_s]
  have F16 : H 1 16 = 0 := by rw [H1 16 (by decide), i1 16 (by decide), r0 16 (by decide)]; exact z16
  have sheet : ∀ k : Int, 0 ≤ k → k < 32 → ShW W (4 + 13 * k) ∧ RC W H (4 + 13 * k) s00 := fun k k0 k1 => by
    obtain ⟨q1, q2⟩ := f0.2.1 k k0 k1
    exact ⟨ShW_lc q1 (fun b hb => WT0 b (by omega)), RC_fr q2 s00_I (CS_lc (by omega) (by omega)) (fun b b0 b1 => HT0 b (by omega) (by omega) (by omega))⟩
  have sh421 : ShW W 421 ∧ ShH H 421 := ⟨ShW_lc f1.1 (fun b hb => WT1 b (by omega)), ShH_fr f1.2.1 (fun i _ _ => by rw [HT1 421 (by decide) (by decide) (by decide)]) (HT1 _ (by decide) (by decide) (by decide))⟩
  have sh470 : ShW W 470 ∧ ShH H 470 := ⟨ShW_lc f13.2.2.1 (fun b hb => WT13 b (by omega)), ShH_fr f13.2.2.2.2.1 (fun i _ _ => by rw [HT13 470 (by decide) (by decide) (by decide)]) (HT13 _ (by decide) (by decide) (by decide))⟩
  have wk : WK W := by
    refine ⟨⟨?_, ?_, ?_, ?_, ?_, ?_, ?_, ?_⟩, ⟨?_, ?_, ?_, ?_, ?_, ?_, ?_⟩, ⟨?_, ?_, ?_, ?_, ?_, ?_, ?_⟩, ⟨?_, fun i i0 i1 => ?_, ?_⟩, ⟨?_, ?_⟩, ⟨?_, ?_, ?_, ?_, ?_, ?_, ?_⟩, fun k k0 k1 => (sheet k k0 k1).1, sh421.1, sh470.1, h5⟩
    · rw [WT0 1 (by decide), o0 1 (by decide)]; exact k1
    · rw [WT0 2 (by decide)]; exact d0
    · rw [WT0 3 (by decide)]; exact f0.1
    · rw [WT1 420 (by decide)]; exact d1
    · rw [WT1 434 (by decide)]; exact f1.2.2.1
    · rw [WT2 435 (by decide)]; exact d2
    · rw [WT3 436 (by decide)]; exact d3
    · rw [WT3 437 (by decide)]; exact f3.1
    · rw [WT4 438 (by decide)]; exact d4
    · rw [WT4 439 (by decide)]; exact f4.1.1
    · rw [WT4 440 (by decide)]; exact f4.1.2.1
    · rw [WT4 441 (by decide)]; exact f4.1.2.2.1
    · rw [WT4 442 (by decide)]; exact f4.1.2.2.2.1
    · rw [WT4 443 (by decide)]; exact f4.1.2.2.2.2.1
    · rw [WT4 444 (by decide)]; exact f4.1.2.2.2.2.2
    · rw [WT5 445 (by decide)]; exact d5
    · rw [WT5 446 (by decide)]; exact f5.1.1
    · rw [WT5 447 (by decide)]; exact f5.1.2.1
    · rw [WT5 448 (by decide)]; exact f5.1.2.2.1
    · rw [WT5 449 (by decide)]; exact f5.1.2.2.2.1
    · rw [WT5 450 (by decide)]; exact f5.1.2.2.2.2.1
    · rw [WT5 451 (by decide)]; exact f5.1.2.2.2.2.2
    · rw [WT6 452 (by decide)]; exact d6
    · rw [WT6 (453 + i) (by omega)]; exact f6.1.1 i i0 i1
    · rw [WT6 460 (by decide)]; exact f6.1.2
    · rw [WT7 461 (by decide)]; exact d7
    · rw [WT7 462 (by decide)]; exact f7.1
    · rw [WT8 463 (by decide)]; exact d8
    · rw [WT8 464 (by decide)]; exact f8.1
    · rw [WT9 465 (by decide)]; exact d9
    · rw [WT9 466 (by decide)]; exact f9.1
    · rw [WT10 467 (by decide)]; exact d10
    · rw [WT11 468 (by decide)]; exact d11
    · rw [WT12 469 (by decide)]; exact d12
  have hk : HK H := by
    refine ⟨⟨F0, F1, F2, F3, F4, F5, F6, F7, F8, F9, F10, F11, F12, F13⟩, ⟨?_, ?_, fun k k0 k1 => ?_⟩, ⟨?_, ?_, ?_, ?_⟩, ⟨fun i i0 i1 => ?_, fun i i0 i1 => ?_, fun i i0 i1 => ?_⟩, ⟨?_, ?_, ?_, ?_, ?_⟩, fun k k0 k1 => (sheet k k0 k1).2.1, sh421.2, sh470.2⟩
    · rw [HT0 2 (by decide) (by decide) (by decide)]; exact f0.2.2.1
    · rw [HT0 2 (by decide) (by decide) (by decide)]; exact f0.2.2.2.1
    · rw [HT0 3 (by decide) (by decide) (by decide)]; exact f0.2.2.2.2.2 k k0 k1
    · rw [HT1 420 (by decide) (by decide) (by decide)]; exact f1.2.2.2.1
    · rw [HT1 420 (by decide) (by decide) (by decide)]; exact f1.2.2.2.2
    · rw [HT2 435 (by decide) (by decide) (by decide)]; exact f2
    · rw [HT3 436 (by decide) (by decide) (by decide)]; exact f3.2
    · rw [HT4 438 (by decide) (by decide) (by decide)]; exact f4.2 i i0 i1
    · rw [HT5 445 (by decide) (by decide) (by decide)]; exact f5.2 i i0 i1
    · rw [HT6 452 (by decide) (by decide) (by decide)]; exact f6.2 i i0 i1
    · rw [HT7 461 (by decide) (by decide) (by decide)]; exact f7.2.1
    · rw [HT8 463 (by decide) (by decide) (by decide)]; exact f8.2.1
    · rw [HT8 463 (by decide) (by decide) (by decide)]; exact f8.2.2
    · rw [HT9 465 (by decide) (by decide) (by decide)]; exact f9.2.1
    · rw [HT9 465 (by decide) (by decide) (by decide)]; exact f9.2.2
  have b2' : ∀ i : Int, 2 ≤ i → H 2 i = 0 := fun i hi => by rw [HT0 2 (by decide) (by decide) (by decide), f0.2.2.2.2.1 i hi]; exact mZ_s i
  have T0 : ∀ j : Int, H 462 j = 0 := fun j => by rw [HT7 462 (by decide) (by decide) (by decide)]; exact f7.2.2.2 j
  refine ⟨wk, hk, ⟨?_, b2' 3 (by decide), b2' 4 (by decide), (by decide : (0 : Int) ≤ 0 ∧ (0 : Int) ≤ 0 ∧ (0 : Int) + 0 ≤ 30), fun k k0 k1 => ?_⟩, Or.inl F15, hS, ⟨F14, Or.inl rfl, fun z => absurd (show (0 : Int) = 1 from z) (by decide)⟩, fun k k0 k1 => ⟨?_, (by decide : (-1 : Int) ≤ -1 ∧ (-1 : Int) ≤ 60), fun j j0 j1 => absurd (show j < -1 from j1) (by omega)⟩, ⟨?_, ?_, (by decide : (0 : Int) ≤ 0 ∧ (0 : Int) ≤ 200), fun j j0 j1 => absurd (show j < 0 from j1) (by omega), fun j j0 j1 => absurd (show j < 0 from j1) (by omega), fun j => by rw [T0 j]; decide⟩, F16, (by decide : (0 : Int) ≤ 0 ∧ (0 : Int) ≤ 4), fun k k0 k1 => absurd (show k < 0 from k1) (by omega)⟩
  · rw [b2' 2 (by decide)]; decide
  · have k1 : k ≤ 0 := k1
    obtain rfl : k = 0 := by omega
    rw [b2' 2 (by decide)]
    exact ⟨(sheet 1 (by decide) (by decide)).2, s00_I⟩
  · rw [eH 469 (by decide)]; exact b3 k k0 k1
  · exact hk.2.2.2.2.1.1
  · rw [HT7 461 (by decide) (by decide) (by decide), f7.2.2.1]; exact mZ_s 1
end PU
