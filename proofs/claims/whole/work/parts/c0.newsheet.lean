/-! PURE: constructors: a sheet. -/
section PU
variable {d : Nat} {w : mm_W} {h : mm_H} {S : Int}
theorem nW_n (k : Nat) (n : Int) : (mNew w k n).2.1 = w.2.1 + 1 := rfl
theorem nW_z (k : Nat) (n : Int) : (mNew w k n).2.2 = w.2.2 + n := rfl
theorem nW_s (k : Nat) (n : Int) : (mNew w k n).1 w.2.1 = (k, n) := if_pos rfl
theorem nW_o {b : Int} (k : Nat) (n : Int) (hb : b ≠ w.2.1) : (mNew w k n).1 b = w.1 b := if_neg hb
theorem mZ_s {b : Int} (j : Int) : mZero h b b j = 0 := if_pos rfl
theorem mZ_o {a b : Int} (hb : b ≠ a) : mZero h a b = h b := funext fun _ => if_neg hb
theorem mM_t {n : Int} (hn : 0 ≤ n ∧ n ≤ 1000000) {α : Type} {x y : α} : mM n x y = y := if_pos hn
theorem nW_e {b : Int} (k : Nat) (n : Int) (hb : b = w.2.1) : (mNew w k n).1 b = (k, n) := if_pos hb
theorem mAs_t' {a i v n : Int} {c : Nat} (ha : w.1 a = (c, n)) (hc : 100 ≤ c) (i0 : 0 ≤ i) (i1 : i < n) (v0 : 0 < v) (hv : (w.1 v).1 + 100 = c) {α : Type} {x y : α} : mAs w a i v x y = y := if_pos ⟨by rw [ha]; exact hc, i0, by rw [ha]; exact i1, v0, by rw [ha]; exact hv⟩
theorem E_Ru_init (hd : 1 ≤ d) {a : Int} (ha : (w.1 a).1 = 7) : mm_P d 71 [(2, a)] w h = some ((9, 0), w, h) := by
  obtain ⟨d, rfl, hd2⟩ := mm_dS hd
  rw [P_Ru_init, mF_t ha]
theorem L_shi (hd : 1 ≤ d) (hS : 0 < S) : ∀ (m : Nat) (i : Int) (w : mm_W) (h : mm_H), (w.1 S).1 = 9 → w.1 (S + 5) = (107, 6) → h S 7 = S + 5 → w.2.1 = S + 7 + i → 0 ≤ i → i + m = 6 → ∃ (w' : mm_W) (h' : mm_H), l_Sh_init_0 (mm_P d) S i w h = some (.inr (116, [(2, S), (0, 6)], w', h')) ∧ w'.2.1 = S + 13 ∧ w'.2.2 = w.2.2 + 8 * m ∧ (∀ b : Int, b < S + 7 + i → w'.1 b = w.1 b) ∧ (∀ j : Int, i ≤ j → j < 6 → w'.1 (S + 7 + j) = (7, 8)) ∧ (∀ b : Int, b < S + 7 + i → b ≠ S + 5 → h' b = h b) ∧ (∀ j : Int, j < i → h' (S + 5) j = h (S + 5) j) ∧ ∀ j : Int, i ≤ j → j < 6 → h' (S + 5) j = S + 7 + j := by
  intro m
  induction m with
  | zero =>
    intro i w h a1 a2 a3 a4 a5 a6
    rw [l_Sh_init_0_eq, mF_t a1, a3, mN_t a2 (by decide), a2, mLe_t (by omega), show i = 6 by omega]
    exact ⟨w, h, rfl, by omega, by omega, fun _ _ => rfl, fun j j0 j1 => by omega, fun _ _ _ => rfl, fun _ _ => rfl, fun j j0 j1 => by omega⟩
  | succ m ih =>
    intro i w h a1 a2 a3 a4 a5 a6
    have o : ∀ b : Int, b < S + 7 + i → (mNew w 7 8).1 b = w.1 b := fun b hb => nW_o 7 8 (by omega)
    have s1 : (mNew w 7 8).1 (S + 7 + i) = (7, 8) := nW_e 7 8 a4.symm
    have z : ∀ b : Int, b < S + 7 + i → mZero h (S + 7 + i) b = h b := fun b hb => mZ_o (by omega)
    rw [l_Sh_init_0_eq, mF_t a1, a3, mN_t a2 (by decide), a2, mLe_f (show i < 6 by omega), mF_t a1]
    dsimp only
    rw [a4, mF_t (by rw [s1]), E_Ru_init (by omega) (by rw [s1]), mC_s, mAs_t' (show (mNew w 7 8).1 (S + 5) = (107, 6) by rw [o _ (by omega)]; exact a2) (by decide) a5 (by omega) (by omega) (by rw [s1]), mI_id (x := i + 1) (by omega) (by omega)]
    obtain ⟨w', h', y1, y2, y3, y4, y5, y6, y7, y8⟩ := ih (i + 1) (mNew w 7 8) (mUp (mZero h (S + 7 + i)) (S + 5) i (S + 7 + i)) (by rw [o _ (by omega)]; exact a1) (by rw [o _ (by omega)]; exact a2) (by rw [mUp_row (by omega), z S (by omega)]; exact a3) (by rw [nW_n, a4]; omega) (by omega) (by omega)
    refine ⟨w', h', y1, y2, by rw [y3, nW_z]; omega, fun b hb => by rw [y4 b (by omega), o b hb], fun j j0 j1 => ?_, fun b hb b5 => by rw [y6 b (by omega) b5, mUp_row b5, z b hb], fun j hj => by rw [y7 j (by omega), mUp_n (Or.inr (by omega)), z _ (by omega)], fun j j0 j1 => ?_⟩
    · by_cases e : j = i
      · rw [e, y4 _ (by omega), s1]
      · exact y5 j (by omega) j1
    · by_cases e : j = i
      · rw [e, y7 i (by omega), mUp_s]
      · exact y8 j (by omega) j1
/-- a new sheet: eight by eight, bare -/
def s00 : aS := ((8, 8, 0), fun _ _ => 0, fun _ _ _ => -1, fun _ _ _ => -1, fun _ => 0, fun _ _ => 0, fun _ => .arg 0)
theorem E_Sh_init (hd : 4 ≤ d) (hS : 0 < S) (hN : w.2.1 = S + 1) (hw : w.1 S = (9, 9)) (h2 : h S 2 = 0) : ∃ (w' : mm_W) (h' : mm_H), mm_P d 85 [(2, S)] w h = some ((9, 0), w', h') ∧ w'.2.1 = S + 13 ∧ w'.2.2 = w.2.2 + 1474 ∧ (∀ b : Int, b ≤ S → w'.1 b = w.1 b) ∧ ShW w' S ∧ (∀ b : Int, b < S → h' b = h b) ∧ RC w' h' S s00 := by
  obtain ⟨d, rfl, hd2⟩ := mm_dS hd
  have hw9 : (w.1 S).1 = 9 := by rw [hw]
  rw [P_Sh_init, mF_t hw9, mF_t hw9]
  dsimp only
  rw [mF_t hw9]
  simp (disch := (first | omega | (simp only [nW_n, hN]; omega))) only [mM_t, mF, nW_o, nW_e, nW_n, hN, hw, mLe_t, ↓reduceIte]
  generalize hWd : mNew (mNew (mNew (mNew (mNew (mNew w 50 256) 50 1024) 50 128) 50 4) 107 6) 7 8 = W
  have W0 : W.1 S = (9, 9) := by rw [← hWd]; simp (disch := (first | omega | (simp only [nW_n, hN]; omega))) only [nW_o, nW_e, nW_n, hN, hw]
  have W1 : W.1 (S + 1) = (50, 256) := by rw [← hWd]; simp (disch := (first | omega | (simp only [nW_n, hN]; omega))) only [nW_o, nW_e, nW_n, hN, hw]
  have W2 : W.1 (S + 2) = (50, 1024) := by rw [← hWd]; simp (disch := (first | omega | (simp only [nW_n, hN]; omega))) only [nW_o, nW_e, nW_n, hN, hw]
  have W3 : W.1 (S + 3) = (50, 128) := by rw [← hWd]; simp (disch := (first | omega | (simp only [nW_n, hN]; omega))) only [nW_o, nW_e, nW_n, hN, hw]
  have W4 : W.1 (S + 4) = (50, 4) := by rw [← hWd]; simp (disch := (first | omega | (simp only [nW_n, hN]; omega))) only [nW_o, nW_e, nW_n, hN, hw]
  have W5 : W.1 (S + 5) = (107, 6) := by rw [← hWd]; simp (disch := (first | omega | (simp only [nW_n, hN]; omega))) only [nW_o, nW_e, nW_n, hN, hw]
  have W6 : W.1 (S + 6) = (7, 8) := by rw [← hWd]; simp (disch := (first | omega | (simp only [nW_n, hN]; omega))) only [nW_o, nW_e, nW_n, hN, hw]
  have Wo : ∀ b : Int, b ≤ S → W.1 b = w.1 b := fun b hb => by rw [← hWd]; simp (disch := (first | omega | (simp only [nW_n, hN]; omega))) only [nW_o, nW_n, hN]
  have Wn : W.2.1 = S + 7 := by rw [← hWd]; simp only [nW_n, hN]; omega
  have Wz : W.2.2 = w.2.2 + 1426 := by rw [← hWd]; simp only [nW_z]; omega
  rw [show S + 1 + 1 + 1 + 1 + 1 + 1 = S + 6 by omega, show S + 1 + 1 + 1 + 1 + 1 = S + 5 by omega, show S + 1 + 1 + 1 + 1 = S + 4 by omega, show S + 1 + 1 + 1 = S + 3 by omega, show S + 1 + 1 = S + 2 by omega]
  generalize hHd : mZero (mUp (mZero (mUp (mZero (mUp (mZero (mUp (mZero (mUp (mZero (mUp (mUp h S 0 8) S 1 8) (S + 1)) S 3 (S + 1)) (S + 2)) S 4 (S + 2)) (S + 3)) S 5 (S + 3)) (S + 4)) S 6 (S + 4)) (S + 5)) S 7 (S + 5)) (S + 6) = H
  have H0 : H S 0 = 8 ∧ H S 1 = 8 ∧ H S 2 = 0 := by rw [← hHd]; refine ⟨?_, ?_, ?_⟩ <;> simp (disch := omega) only [mZ_o, mUp_n, mUp_s, h2]
  have H3 : H S 3 = S + 1 ∧ H S 4 = S + 2 ∧ H S 5 = S + 3 ∧ H S 6 = S + 4 ∧ H S 7 = S + 5 := by rw [← hHd]; refine ⟨?_, ?_, ?_, ?_, ?_⟩ <;> simp (disch := omega) only [mZ_o, mUp_n, mUp_s]
  have Hv : ∀ j : Int, H (S + 1) j = 0 := fun j => by rw [← hHd]; simp (disch := omega) only [mZ_o, mUp_n, mZ_s]
  have Hg : ∀ j : Int, H (S + 4) j = 0 := fun j => by rw [← hHd]; simp (disch := omega) only [mZ_o, mUp_n, mZ_s]
  have Ho : ∀ b : Int, b < S → H b = h b := fun b hb => by
    rw [← hHd]
    funext j
    simp (disch := omega) only [mZ_o, mUp_n]
  clear hHd hWd
  have e8 : ∀ b : Int, b ≠ S → mUp H S 8 (S + 6) b = H b := fun b hb => mUp_row hb
  obtain ⟨h3, c1, c2, c3⟩ := E_fill (d := d) (h := mUp H S 8 (S + 6)) (by omega) W2 (by omega) (-1) (by decide)
  have e3 : h3 S = mUp H S 8 (S + 6) S := c2 S (by omega)
  obtain ⟨h4, d1, d2, d3⟩ := E_fill (d := d) (h := h3) (by omega) W3 (by omega) (-1) (by decide)
  have e4 : h4 S = mUp H S 8 (S + 6) S := by rw [d2 S (by omega), e3]
  have n8 : ∀ j : Int, j ≠ 8 → mUp H S 8 (S + 6) S j = H S j := fun j hj => mUp_n (Or.inr hj)
  rw [if_pos (by rw [W6]), E_Ru_init (by omega) (by rw [W6]), mC_s, if_pos (by rw [W0]), if_pos (by rw [W0]), n8 4 (by decide), H3.2.1, c1, mC_s, if_pos (by rw [W0]), e3, n8 5 (by decide), H3.2.2.1, d1, mC_s]
  obtain ⟨w', h', y1, y2, y3, y4, y5, y6, y7, y8⟩ := L_shi (d := d) (by omega) hS 6 0 W h4 (by rw [W0]) W5 (by rw [e4, n8 7 (by decide)]; exact H3.2.2.2.2) (by omega) (Int.le_refl _) (by decide)
  rw [y1, mK_r, if_pos rfl]
  have f0 : h' S = mUp H S 8 (S + 6) S := by rw [y6 S (by omega) (by omega), e4]
  have r5 : ∀ j : Int, 0 ≤ j → j < 6 → h' (S + 5) j = S + 7 + j := fun j j0 j1 => y8 j j0 j1
  have sw : ShW w' S := ⟨hS, by rw [y4 S (by omega)]; exact W0, by rw [y4 _ (by omega)]; exact W1, by rw [y4 _ (by omega)]; exact W2, by rw [y4 _ (by omega)]; exact W3, by rw [y4 _ (by omega)]; exact W4, by rw [y4 _ (by omega)]; exact W5, by rw [y4 _ (by omega)]; exact W6, fun j j0 j1 => y5 j j0 j1⟩
  have sh : ShH h' S := ⟨by rw [f0, n8 3 (by decide)]; exact H3.1, by rw [f0, n8 4 (by decide)]; exact H3.2.1, by rw [f0, n8 5 (by decide)]; exact H3.2.2.1, by rw [f0, n8 6 (by decide)]; exact H3.2.2.2.1, by rw [f0, n8 7 (by decide)]; exact H3.2.2.2.2, by rw [f0, mUp_s], fun j j0 j1 => by rw [r5 j j0 j1]; omega, fun i j i0 i1 j0 j1 e => by rw [r5 i i0 i1, r5 j j0 j1] at e; omega⟩
  refine ⟨w', h', rfl, y2, by rw [y3, Wz]; omega, fun b hb => by rw [y4 b (by omega)]; exact Wo b hb, sw, fun b hb => by rw [y6 b (by omega) (by omega), d2 b (by omega), c2 b (by omega), e8 b (by omega)]; exact Ho b hb, sh, ⟨by rw [f0, n8 0 (by decide)]; exact H0.1, by rw [f0, n8 1 (by decide)]; exact H0.2.1, by rw [f0, n8 2 (by decide)]; exact H0.2.2⟩, fun r c _ _ _ _ => ?_, fun p r c p0 p1 r0 r1 k0 k1 => ?_, fun p i p0 p1 i0 i1 => ?_, fun p i p0 p1 i0 i1 => ?_, fun p _ _ => ?_, fun k k0 k1 => ?_⟩
  · rw [y6 _ (by omega) (by omega), d2 _ (by omega), c2 _ (by omega), e8 _ (by omega)]
    exact Hv _
  · have r1 : r < 8 := r1
    have k1 : c < 8 := k1
    rw [y6 _ (by omega) (by omega), d2 _ (by omega)]
    exact c3 _ (by omega) (by omega)
  · have i1 : i < 8 := i1
    rw [y6 _ (by omega) (by omega)]
    exact d3 _ (by omega) (by omega)
  · have i1 : i < 8 := i1
    rw [y6 _ (by omega) (by omega)]
    exact d3 _ (by omega) (by omega)
  · rw [y6 _ (by omega) (by omega), d2 _ (by omega), c2 _ (by omega), e8 _ (by omega)]
    exact Hg _
  · have k1 : k < 0 := k1
    omega
theorem s00_I : aI s00 := ⟨by decide, by decide, by decide, fun _ _ _ _ _ _ => (by decide : (-999 : Int) ≤ 0 ∧ (0 : Int) ≤ 999), fun _ _ _ _ _ _ _ _ _ => (by decide : (-1 : Int) ≤ -1 ∧ (-1 : Int) ≤ 9), fun _ _ _ _ _ _ => (by decide : (-1 : Int) ≤ -1 ∧ (-1 : Int) ≤ 9), fun _ _ _ _ _ _ => (by decide : (-1 : Int) ≤ -1 ∧ (-1 : Int) ≤ 9), fun _ _ _ => (by decide : (0 : Int) ≤ 0 ∧ (0 : Int) ≤ 9), fun k k0 k1 => by
  have k1 : k < 0 := k1
  omega⟩
end PU
