/-! PURE: clips of the reference. -/
set_option maxRecDepth 20000 in
theorem l_M_clip_1_eqx (O : mm_O) (i0 i1 i2 i3 i4 i5 i6 i7 : Int) (w : mm_W) (h : mm_H) : l_M_clip_1 O i0 i1 i2 i3 i4 i5 i6 i7 w h = mF w i0 13 none (mLe (h i0 32) i7 (some (Sum.inr (293, [(2, i0), (0, i1), (0, i2), (0, i3), (0, i4), (0, i5), (0, i6), (0, i7)], w, h))) (mF w i0 13 none (mC (O 320 [(2, i0), (0, i7)] w h) 0 none (fun v1 w2 h3 => mEq v1 0 (aLet (mI (i7 + 1)) (fun x4 => l_M_clip_1 O i0 i1 i2 i3 i4 i5 i6 x4 w2 h3)) (mF w2 i0 13 none (mF w2 i0 13 none (mA w2 (h3 i0 31) (mI (5 * i7)) 50 none (mF w2 i0 13 none (aLet (mMax (h3 (h3 i0 31) (mI (5 * i7))) (h3 i0 8)) (fun x5 => mF w2 i0 13 none (mA w2 (h3 i0 39) i6 51 none (aLet (mUp h3 (h3 i0 39) i6 (mS (mS (mI (x5 - (h3 i0 8)))))) (fun h6 => mF w2 i0 13 none (mF w2 i0 13 none (mA w2 (h6 i0 31) (mI ((mI (5 * i7)) + 1)) 50 none (mF w2 i0 13 none (aLet (mMax (h6 (h6 i0 31) (mI ((mI (5 * i7)) + 1))) (h6 i0 9)) (fun x7 => mF w2 i0 13 none (mA w2 (h6 i0 39) (mI (i6 + 1)) 51 none (aLet (mUp h6 (h6 i0 39) (mI (i6 + 1)) (mS (mS (mI (x7 - (h6 i0 9)))))) (fun h8 => mF w2 i0 13 none (mF w2 i0 13 none (mA w2 (h8 i0 31) (mI ((mI (5 * i7)) + 2)) 50 none (mF w2 i0 13 none (aLet (mMin (h8 (h8 i0 31) (mI ((mI (5 * i7)) + 2))) (h8 i0 10)) (fun x9 => mF w2 i0 13 none (mA w2 (h8 i0 39) (mI (i6 + 2)) 51 none (aLet (mUp h8 (h8 i0 39) (mI (i6 + 2)) (mS (mS (mI (x9 - (h8 i0 8)))))) (fun h10 => mF w2 i0 13 none (mF w2 i0 13 none (mA w2 (h10 i0 31) (mI ((mI (5 * i7)) + 3)) 50 none (mF w2 i0 13 none (aLet (mMin (h10 (h10 i0 31) (mI ((mI (5 * i7)) + 3))) (h10 i0 11)) (fun x11 => mF w2 i0 13 none (mA w2 (h10 i0 39) (mI (i6 + 3)) 51 none (aLet (mUp h10 (h10 i0 39) (mI (i6 + 3)) (mS (mS (mI (x11 - (h10 i0 9)))))) (fun h12 => mF w2 i0 13 none (mF w2 i0 13 none (mA w2 (h12 i0 31) (mI ((mI (5 * i7)) + 4)) 50 none (mA w2 (h12 i0 39) (mI (i6 + 4)) 51 none (aLet (mUp h12 (h12 i0 39) (mI (i6 + 4)) (mS (mS (h12 (h12 i0 31) (mI ((mI (5 * i7)) + 4)))))) (fun h13 => aLet (mI (i6 + 5)) (fun x14 => aLet (mI (i7 + 1)) (fun x15 => l_M_clip_1 O i0 i1 i2 i3 i4 i5 x14 x15 w2 h13)))))))))))))))))))))))))))))))))))))))))))) := l_M_clip_1_eq O i0 i1 i2 i3 i4 i5 i6 i7 w h
section PU
variable {d : Nat} {w : mm_W} {h : mm_H} {A : aG} {s : aS}
theorem MH_39 (hH : MH h) : h 483 39 = 502 := hH.2.2.2.2.2.2.2.2.2.2.2.2.2.2.2.2.2.2.1
theorem MH_40 (hH : MH h) : h 483 40 = 503 := hH.2.2.2.2.2.2.2.2.2.2.2.2.2.2.2.2.2.2.2.1
theorem MW_502 (hW : MW w) : w.1 502 = (51, 240) := hW.2.2.2.2.2.2.2.2.2.2.2.2.2.2.2.2.2.2.2.1
theorem MW_503 (hW : MW w) : w.1 503 = (50, 4) := hW.2.2.2.2.2.2.2.2.2.2.2.2.2.2.2.2.2.2.2.2.1
/-- a rectangle that was told, the cover of a property: what a clip rests on -/
def mCl (h : mm_H) (s : aS) (p n : Int) : Prop := MH h ∧ CMd h s p ∧ h 483 8 = n / 1000000 ∧ h 483 9 = n / 10000 % 100 ∧ h 483 10 = n / 100 % 100 ∧ h 483 11 = n % 100
theorem mCl_502 {h' : mm_H} {p n : Int} (hC : mCl h s p n) (e : ∀ b : Int, b ≠ 502 → h' b = h b) : mCl h' s p n := by
  obtain ⟨c1, c2, c3, c4, c5, c6⟩ := hC
  have e3 := e 483 (by decide)
  refine ⟨MH_fr c1 (fun i _ => by rw [e3]), ?_, by rw [e3]; exact c3, by rw [e3]; exact c4, by rw [e3]; exact c5, by rw [e3]; exact c6⟩
  unfold CMd
  rw [e3, e 496 (by decide)]
  exact c2
theorem CMd_e {p : Int} (hC : CMd h s p) {k : Int} (hk : 0 ≤ k ∧ k < cvP s p) {e : Int} (he : 0 ≤ e ∧ e < 5) : h 496 (5 * k + e) = cvE s p k e := hC.2 k hk.1 hk.2 e he.1 he.2
theorem E_M_isMet (hd : 1 ≤ d) (hW : MW w) (hI : aI s) {p n k : Int} (hC : mCl h s p n) (hk : 0 ≤ k ∧ k < cvP s p) : mm_P d 320 [(2, 483), (0, k)] w h = some ((0, bI (mtR s p n k)), w, h) := by
  obtain ⟨d, rfl, hd2⟩ := mm_dS hd; clear hd; have hd := hd2; clear hd2
  have hw : (w.1 483).1 = 13 := by rw [hW.1]
  have nb := cvN_in (f := aCel s p) (wi := aWi s) (hi := aHi s) ⟨by have := hI.1; omega, hI.1.2⟩
  have hb : cvP s p ≤ 256 := nb.2
  obtain ⟨hH, hD, k8, k9, k10, k11⟩ := hC
  have y0 := CMd_e hD hk (e := 0) (by decide)
  have y1 := CMd_e hD hk (e := 1) (by decide)
  have y2 := CMd_e hD hk (e := 2) (by decide)
  have y3 := CMd_e hD hk (e := 3) (by decide)
  rw [Int.add_zero] at y0
  have W6 := MW_496 hW
  rw [P_M_isMet, mF_t hw, MH_31 hH, mI_id (x := 5 * k) (by omega) (by omega), mA_t W6 (by omega) (by omega), mF_t hw, k10, y0]
  unfold mtR
  by_cases c0 : cvE s p k 0 ≤ n / 100 % 100
  rotate_left
  · rw [mLt_t (by omega), mZ_0, bI_f (fun x => c0 x.1)]
  rw [mLt_f c0, mF_t hw, mI_id (x := 5 * k + 2) (by omega) (by omega), mA_t W6 (by omega) (by omega), mF_t hw, k8, y2]
  by_cases c1 : n / 1000000 ≤ cvE s p k 2
  rotate_left
  · rw [mLt_t (by omega), mZ_0, bI_f (fun x => c1 x.2.1)]
  rw [mLt_f c1, mF_t hw, mI_id (x := 5 * k + 1) (by omega) (by omega), mA_t W6 (by omega) (by omega), mF_t hw, k11, y1]
  by_cases c2 : cvE s p k 1 ≤ n % 100
  rotate_left
  · rw [mLt_t (by omega), mZ_0, bI_f (fun x => c2 x.2.2.1)]
  rw [mLt_f c2, mF_t hw, mI_id (x := 5 * k + 3) (by omega) (by omega), mA_t W6 (by omega) (by omega), mF_t hw, k9, y3]
  by_cases c3 : n / 10000 % 100 ≤ cvE s p k 3
  · rw [mLt_f c3, mZ_1, bI_t ⟨c0, c1, c2, c3⟩]
  · rw [mLt_t (by omega), mZ_0, bI_f (fun x => c3 x.2.2.2)]
theorem L_mcl0 (hd : 1 ≤ d) (hW : MW w) {q i p n : Int} (hC : mCl h s p n) (hI : aI s) : ∀ (m : Nat) (k acc : Int), 0 ≤ k → k + m = cvP s p → 0 ≤ acc → acc + m < 1000 → l_M_clip_0 (mm_P d) 483 q i p n acc k w h = some (.inr (84, [(2, 483), (0, q), (0, i), (0, p), (0, n), (0, acc + mtN s p n m k), (0, cvP s p), (9, 0)], w, h)) := by
  have hw : (w.1 483).1 = 13 := by rw [hW.1]
  have nb := cvN_in (f := aCel s p) (wi := aWi s) (hi := aHi s) ⟨by have := hI.1; omega, hI.1.2⟩
  have hb : cvP s p ≤ 256 := nb.2
  have h32 : h 483 32 = cvP s p := hC.2.1.1
  intro m
  induction m with
  | zero =>
    intro k acc k0 k1 a0 a1
    have e : mtN s p n 0 k = 0 := rfl
    rw [l_M_clip_0_eq, mF_t hw, h32, mLe_t (by omega), e, show k = cvP s p by omega, Int.add_zero]
  | succ m ih =>
    intro k acc k0 k1 a0 a1
    rw [l_M_clip_0_eq, mF_t hw, h32, mLe_f (by omega), mF_t hw, E_M_isMet hd hW hI hC ⟨k0, by omega⟩, mC_s, mtN_s]
    try dsimp only
    rw [mI_id (x := k + 1) (by omega) (by omega), mI_id (x := acc + 1) (by omega) (by omega), mI_id (x := acc + 0) (by omega) (by omega), Int.add_zero]
    by_cases c : mtR s p n k
    · rw [bI_t c, mEq_f (by decide), ih (k + 1) (acc + 1) (by omega) (by omega) (by omega) (by omega), Int.add_assoc]
    · rw [bI_f c, mEq_t rfl, ih (k + 1) acc (by omega) (by omega) (by omega) (by omega), Int.zero_add]
theorem L_mcl1 (hd : 1 ≤ d) (hW : MW w) {q i p n z fo : Int} (hI : aI s) (hn : isRect (aHi s) (aWi s) n) (hq : 0 ≤ q ∧ q < 4) (hz : z ≤ 60) : ∀ (m : Nat) (k a : Int) (h : mm_H), mCl h s p n → 0 ≤ k → k + m = cvP s p → 0 ≤ a → a + 5 * mtN s p n m k ≤ z → ∃ (h' : mm_H) (a' : Int), l_M_clip_1 (mm_P d) 483 q i p n fo (60 * q + a) k w h = some (.inr (293, [(2, 483), (0, q), (0, i), (0, p), (0, n), (0, fo), (0, a'), (0, cvP s p)], w, h')) ∧ (∀ b : Int, b ≠ 502 → h' b = h b) ∧ (∀ j : Int, 0 ≤ j → j < z → h' 502 (60 * q + j) = clF s p n m k a (fun j => h 502 (60 * q + j)) j) ∧ ∀ j : Int, (j < 60 * q ∨ 60 * q + z ≤ j) → h' 502 j = h 502 j := by
  have hw : (w.1 483).1 = 13 := by rw [hW.1]
  have nb := cvN_in (f := aCel s p) (wi := aWi s) (hi := aHi s) ⟨by have := hI.1; omega, hI.1.2⟩
  have hb : cvP s p ≤ 256 := nb.2
  have hn' := hn
  unfold isRect at hn'
  have i1 := hI.1; have i2 := hI.2.1
  intro m
  induction m with
  | zero =>
    intro k a h hC k0 k1 a0 a1
    have h32 : h 483 32 = cvP s p := hC.2.1.1
    rw [l_M_clip_1_eq, mF_t hw, h32, mLe_t (by omega), show k = cvP s p by omega]
    exact ⟨h, _, rfl, fun _ _ => rfl, fun _ _ _ => rfl, fun _ _ => rfl⟩
  | succ m ih =>
    intro k a h hC k0 k1 a0 a1
    have h32 : h 483 32 = cvP s p := hC.2.1.1
    rw [mtN_s] at a1
    have mi := mtN_in s p n m (k + 1)
    rw [l_M_clip_1_eqx, mF_t hw, h32, mLe_f (by omega), mF_t hw, E_M_isMet (by omega) hW hI hC ⟨k0, by omega⟩, mC_s]
    by_cases c : mtR s p n k
    rotate_left
    · rw [bI_f c] at a1 ⊢
      rw [mEq_t rfl, aLet_s, mI_id (x := k + 1) (by omega) (by omega), clF_f c]
      exact ih (k + 1) a h hC (by omega) (by omega) a0 (by omega)
    rw [bI_t c] at a1 ⊢
    have di := cvD_in (f := aCel s p) (wi := aWi s) (hi := aHi s) ⟨by omega, i1.2⟩ i2.2 k0 (show k < cvP s p by omega)
    have e : ∀ x : Int, cvD (aCel s p) (aWi s) (aHi s) (kSt (aCel s p) (aWi s) k) x = cvE s p k x := fun _ => rfl
    rw [e, e, e, e] at di
    have d4 : -2147483648 ≤ mMax (cvE s p k 0) (n / 1000000) - n / 1000000 ∧ mMax (cvE s p k 0) (n / 1000000) - n / 1000000 < 2147483648 := by unfold mMax; split <;> omega
    have d5 : -2147483648 ≤ mMax (cvE s p k 1) (n / 10000 % 100) - n / 10000 % 100 ∧ mMax (cvE s p k 1) (n / 10000 % 100) - n / 10000 % 100 < 2147483648 := by unfold mMax; split <;> omega
    have d6 : -2147483648 ≤ mMin (cvE s p k 2) (n / 100 % 100) - n / 1000000 ∧ mMin (cvE s p k 2) (n / 100 % 100) - n / 1000000 < 2147483648 := by unfold mMin; split <;> omega
    have d7 : -2147483648 ≤ mMin (cvE s p k 3) (n % 100) - n / 10000 % 100 ∧ mMin (cvE s p k 3) (n % 100) - n / 10000 % 100 < 2147483648 := by unfold mMin; split <;> omega
    have kk : 0 ≤ k ∧ k < cvP s p := ⟨k0, by omega⟩
    have W6 := MW_496 hW
    have W2 := MW_502 hW
    have m5 : mI (5 * k) = 5 * k := mI_id (by omega) (by omega)
    have m51 : mI (5 * k + 1) = 5 * k + 1 := mI_id (by omega) (by omega)
    have m52 : mI (5 * k + 2) = 5 * k + 2 := mI_id (by omega) (by omega)
    have m53 : mI (5 * k + 3) = 5 * k + 3 := mI_id (by omega) (by omega)
    have m54 : mI (5 * k + 4) = 5 * k + 4 := mI_id (by omega) (by omega)
    have rd : ∀ (g : mm_H), mCl g s p n → ∀ x : Int, 0 ≤ x → x < 5 → g 496 (5 * k + x) = cvE s p k x := fun g hg x x0 x1 => CMd_e hg.2.1 kk ⟨x0, x1⟩
    rw [mEq_f (by decide)]
    -- the first
    have C0 := hC
    have r0 := rd h C0 0 (by decide) (by decide)
    rw [Int.add_zero] at r0
    rw [mF_t hw, mF_t hw, MH_31 C0.1, m5, mA_t W6 (by omega) (by omega), mF_t hw, r0, C0.2.2.1, aLet_s, mF_t hw, MH_39 C0.1, mA_t W2 (by omega) (by omega), mI_id d4.1 d4.2]
    generalize hg1 : mUp h 502 (60 * q + a) (mS (mS (mMax (cvE s p k 0) (n / 1000000) - n / 1000000))) = g1
    have f1 : ∀ b : Int, b ≠ 502 → g1 b = h b := fun b hb => by rw [← hg1, mUp_row hb]
    have C1 := mCl_502 hC f1
    rw [aLet_s, mF_t hw, mF_t hw, MH_31 C1.1, m51, mA_t W6 (by omega) (by omega), mF_t hw, rd g1 C1 1 (by decide) (by decide), C1.2.2.2.1, aLet_s, mF_t hw, MH_39 C1.1, mI_id (x := 60 * q + a + 1) (by omega) (by omega), mA_t W2 (by omega) (by omega), mI_id d5.1 d5.2]
    generalize hg2 : mUp g1 502 (60 * q + a + 1) (mS (mS (mMax (cvE s p k 1) (n / 10000 % 100) - n / 10000 % 100))) = g2
    have f2 : ∀ b : Int, b ≠ 502 → g2 b = h b := fun b hb => by rw [← hg2, mUp_row hb, f1 b hb]
    have C2 := mCl_502 hC f2
    rw [aLet_s, mF_t hw, mF_t hw, MH_31 C2.1, m52, mA_t W6 (by omega) (by omega), mF_t hw, rd g2 C2 2 (by decide) (by decide), C2.2.2.2.2.1, aLet_s, mF_t hw, MH_39 C2.1, mI_id (x := 60 * q + a + 2) (by omega) (by omega), mA_t W2 (by omega) (by omega), C2.2.2.1, mI_id d6.1 d6.2]
    generalize hg3 : mUp g2 502 (60 * q + a + 2) (mS (mS (mMin (cvE s p k 2) (n / 100 % 100) - n / 1000000))) = g3
    have f3 : ∀ b : Int, b ≠ 502 → g3 b = h b := fun b hb => by rw [← hg3, mUp_row hb, f2 b hb]
    have C3 := mCl_502 hC f3
    rw [aLet_s, mF_t hw, mF_t hw, MH_31 C3.1, m53, mA_t W6 (by omega) (by omega), mF_t hw, rd g3 C3 3 (by decide) (by decide), C3.2.2.2.2.2, aLet_s, mF_t hw, MH_39 C3.1, mI_id (x := 60 * q + a + 3) (by omega) (by omega), mA_t W2 (by omega) (by omega), C3.2.2.2.1, mI_id d7.1 d7.2]
    generalize hg4 : mUp g3 502 (60 * q + a + 3) (mS (mS (mMin (cvE s p k 3) (n % 100) - n / 10000 % 100))) = g4
    have f4 : ∀ b : Int, b ≠ 502 → g4 b = h b := fun b hb => by rw [← hg4, mUp_row hb, f3 b hb]
    have C4 := mCl_502 hC f4
    rw [aLet_s, mF_t hw, mF_t hw, MH_31 C4.1, m54, mA_t W6 (by omega) (by omega), rd g4 C4 4 (by decide) (by decide), MH_39 C4.1, mI_id (x := 60 * q + a + 4) (by omega) (by omega), mA_t W2 (by omega) (by omega)]
    generalize hg5 : mUp g4 502 (60 * q + a + 4) (mS (mS (cvE s p k 4))) = g5
    have f5 : ∀ b : Int, b ≠ 502 → g5 b = h b := fun b hb => by rw [← hg5, mUp_row hb, f4 b hb]
    have C5 := mCl_502 hC f5
    rw [aLet_s, aLet_s, aLet_s, mI_id (x := 60 * q + a + 5) (by omega) (by omega), mI_id (x := k + 1) (by omega) (by omega), show 60 * q + a + 5 = 60 * q + (a + 5) by omega]
    have r5 : ∀ j : Int, g5 502 j = if 60 * q + a ≤ j ∧ j < 60 * q + a + 5 then mS (mS (fiv s p n k (j - (60 * q + a)))) else h 502 j := fun j => by
      rw [← hg5, ← hg4, ← hg3, ← hg2, ← hg1]
      simp only [mUp, true_and]
      unfold fiv
      by_cases c : 60 * q + a ≤ j ∧ j < 60 * q + a + 5
      · rw [if_pos c]
        rcases (show j = 60 * q + a ∨ j = 60 * q + a + 1 ∨ j = 60 * q + a + 2 ∨ j = 60 * q + a + 3 ∨ j = 60 * q + a + 4 by omega) with z | z | z | z | z
        · rw [if_neg (by omega), if_neg (by omega), if_neg (by omega), if_neg (by omega), if_pos (by omega), if_pos (by omega)]
        · rw [if_neg (by omega), if_neg (by omega), if_neg (by omega), if_pos (by omega), if_neg (by omega), if_pos (by omega)]
        · rw [if_neg (by omega), if_neg (by omega), if_pos (by omega), if_neg (by omega), if_neg (by omega), if_pos (by omega)]
        · rw [if_neg (by omega), if_pos (by omega), if_neg (by omega), if_neg (by omega), if_neg (by omega), if_pos (by omega)]
        · rw [if_pos (by omega), if_neg (by omega), if_neg (by omega), if_neg (by omega), if_neg (by omega)]
      · rw [if_neg c, if_neg (by omega), if_neg (by omega), if_neg (by omega), if_neg (by omega), if_neg (by omega)]
    obtain ⟨h2, a2, y1, y2, y3, y4⟩ := ih (k + 1) (a + 5) g5 C5 (by omega) (by omega) (by omega) (by omega)
    rw [y1]
    refine ⟨h2, a2, rfl, fun b hb => by rw [y2 b hb, f5 b hb], fun j j0 j1 => ?_, fun j hj => by rw [y4 j hj, r5, if_neg (by omega)]⟩
    rw [y3 j j0 j1, clF_t c]
    refine clF_ext _ _ _ _ _ (fun i i0 i1 => ?_) j j0 j1
    show g5 502 (60 * q + i) = wF s p n k a (fun j => h 502 (60 * q + j)) i
    rw [r5]
    unfold wF
    by_cases e : a ≤ i ∧ i < a + 5
    · rw [if_pos (by omega), if_pos e, show 60 * q + i - (60 * q + a) = i - a by omega]
    · rw [if_neg (by omega), if_neg e]
/-- a clip may change a shelf too -/
def MNs (h h' : mm_H) : Prop := (∀ b : Int, qRow b → b ≠ 484 → b ≠ 497 → b ≠ 502 → h' b = h b) ∧ ∀ i : Int, qFd i → h' 483 i = h 483 i
theorem MNs_MN {h h' : mm_H} (o : MN h h') : MNs h h' := ⟨fun b x y z _ => o.1 b x y z, o.2⟩
theorem QT_502 {h' : mm_H} (hT : QT w h A) (e : ∀ b : Int, b ≠ 502 → h' b = h b) : QT w h' A := by
  obtain ⟨hW, hH, hb, hR, hF⟩ := hT
  refine ⟨hW, MH_fr hH (fun i _ => by rw [e 483 (by decide)]), ⟨mHis_fr hb.1 (fun i _ => by rw [e 483 (by decide)]) (e 485 (by decide)), fun j j0 j1 => by rw [e 497 (by decide)]; exact hb.2 j j0 j1⟩, by rw [e 484 (by decide)]; exact hR, ?_⟩
  unfold mFr HCs HC at hF ⊢
  rw [e 483 (by decide), e 494 (by decide)]
  exact hF
theorem E_M_clip (hd : 30 ≤ d) (hT : QT w h A) (hs : shl h 503 502 A) (q i p : Int) {n : Int} (hn : n < 2147483648) : ∃ h', mm_P d 319 [(2, 483), (0, q), (0, i), (0, p), (0, n)] w h = some ((0, fClip A q i p n), w, h') ∧ QT w h' A ∧ shl h' 503 502 (gClip A q i p n) ∧ MNs h h' := by
  obtain ⟨d, rfl, hd2⟩ := mm_dS (show 29 + 1 ≤ d by omega)
  have hw : (w.1 483).1 = 13 := by rw [hT.1.1]
  have hI := QT_I hT
  have i1 := hI.1; have i2 := hI.2.1
  unfold fClip
  rw [P_M_clip, E_M_isShelf (by omega), mC_s]
  by_cases c0 : 0 ≤ q ∧ q < 4
  rotate_left
  · rw [bI_f c0, mEq_t rfl, iC_f (fun x => c0 x.1)]
    exact ⟨h, rfl, hT, gClip_no (fun x => c0 x.1.1) hs, MNs_MN (MN_rf h)⟩
  rw [bI_t c0, mEq_f (by decide), E_M_isProperty (by omega), mC_s]
  by_cases c1 : 0 ≤ p ∧ p < 4
  rotate_left
  · rw [bI_f c1, mEq_t rfl, iC_f (fun x => c1 x.2.1)]
    exact ⟨h, rfl, hT, gClip_no (fun x => c1 x.1.2.1) hs, MNs_MN (MN_rf h)⟩
  rw [bI_t c1, mEq_f (by decide), mF_t hw]
  by_cases cn : n < 0
  · have no : ¬ isRect (aHi (gNow A)) (aWi (gNow A)) n := fun x => by have := x.1; omega
    rw [E_M_takesRect_f (by omega) cn, mC_s, mEq_t rfl, iC_f (fun x => no x.2.2)]
    exact ⟨h, rfl, hT, gClip_no (fun x => no x.1.2.2) hs, MNs_MN (MN_rf h)⟩
  have T0 := QT_tk hT n
  have o0 := MN_QM (QM_tk h n)
  have hs0 : shl (mTk h n) 503 502 A := fun a a0 a1 => by rw [mTk_row h n (by decide), mTk_row h n (by decide)]; exact hs a a0 a1
  rw [E_M_takesRect (by omega) hT.1 hT.2.1 (by omega) hn, mC_s, hT.2.2.2.1.1.1, hT.2.2.2.1.1.2.1]
  by_cases c2 : isRect (aHi (gNow A)) (aWi (gNow A)) n
  rotate_left
  · rw [bI_f c2, mEq_t rfl, iC_f (fun x => c2 x.2.2)]
    exact ⟨_, rfl, T0, gClip_no (fun x => c2 x.1.2.2) hs0, MNs_MN o0⟩
  have c2' := c2
  unfold isRect at c2'
  have hO : clO A q p n := ⟨c0, c1, c2⟩
  obtain ⟨s1, s2, s3⟩ := hs0 q c0.1 c0.2
  rw [bI_t c2, mEq_f (by decide), mF_t hw, MH_40 T0.2.1, mA_t (MW_503 hT.1) c0.1 c0.2, s1, iC_t hO]
  by_cases c3 : gSz A q = -1
  · rw [mEq_t c3, iC_t (by omega)]
    exact ⟨_, rfl, T0, gClip_no (fun x => by omega) hs0, MNs_MN o0⟩
  obtain ⟨h1, x1, x2, x3⟩ := E_M_coversOf (d := d) (by omega) hT.1 hI c1 T0.2.1 T0.2.2.2.1
  have T1 := QT_CQ T0 x2
  have hs1 : shl h1 503 502 A := fun a a0 a1 => by rw [x2.1 503 (by decide) (by decide), x2.1 502 (by decide) (by decide)]; exact hs0 a a0 a1
  have o1 := MN_tr o0 (MN_QM (CQ_QM x2))
  have k8 : mTk h n 483 8 = n / 1000000 := by unfold mTk; rw [mUp_n (Or.inr (by decide)), mUp_n (Or.inr (by decide)), mUp_n (Or.inr (by decide)), mUp_s]
  have k9 : mTk h n 483 9 = n / 10000 % 100 := by unfold mTk; rw [mUp_n (Or.inr (by decide)), mUp_n (Or.inr (by decide)), mUp_s]
  have k10 : mTk h n 483 10 = n / 100 % 100 := by unfold mTk; rw [mUp_n (Or.inr (by decide)), mUp_s]
  have k11 : mTk h n 483 11 = n % 100 := by unfold mTk; rw [mUp_s]
  have C1 : mCl h1 (gNow A) p n := ⟨T1.2.1, x3, by rw [x2.2 8 (by decide)]; exact k8, by rw [x2.2 9 (by decide)]; exact k9, by rw [x2.2 10 (by decide)]; exact k10, by rw [x2.2 11 (by decide)]; exact k11⟩
  have nb := cvN_in (f := aCel (gNow A) p) (wi := aWi (gNow A)) (hi := aHi (gNow A)) ⟨by omega, i1.2⟩
  have eN : cvN (aCel (gNow A) p) (aWi (gNow A)) (aHi (gNow A)) = cvP (gNow A) p := rfl
  rw [eN] at nb
  have g := L_mcl0 (d := d) (q := q) (i := i) (by omega) hT.1 C1 hI (cvP (gNow A) p).toNat 0 0 (Int.le_refl _) (by omega) (Int.le_refl _) (by omega)
  have mi := mtN_in (gNow A) p n (cvP (gNow A) p).toNat 0
  have eM : mtN (gNow A) p n (cvP (gNow A) p).toNat 0 = clM A p n := rfl
  rw [eM] at g mi
  rw [mEq_f c3, iC_f (show ¬ gSz A q < 0 by omega), mF_t hw, x1, mC_s, g, mK_r, if_pos rfl]
  simp only [mP_0, mP_1, mP_2, mP_3, mP_4, mP_5, mP_6]
  by_cases c4 : 0 ≤ i
  rotate_left
  · rw [mLt_t (by omega), iC_f (fun x => c4 x.1)]
    exact ⟨h1, rfl, T1, gClip_no (fun x => c4 x.2.2.1) hs1, MNs_MN o1⟩
  rw [mLt_f c4, mF_t hw, MH_40 T1.2.1, mA_t (MW_503 hT.1) c0.1 c0.2, (hs1 q c0.1 c0.2).1, Int.zero_add, mI_id (x := 5 * clM A p n) (by omega) (by omega), mI_id (x := gSz A q - 5 * clM A p n) (by omega) (by omega)]
  by_cases c5 : i ≤ gSz A q - 5 * clM A p n
  rotate_left
  · rw [mLe_f (by omega), iC_f (fun x => c5 x.2)]
    exact ⟨h1, rfl, T1, gClip_no (fun x => c5 x.2.2.2) hs1, MNs_MN o1⟩
  obtain ⟨h2, a2, y1, y2, y3, y4⟩ := L_mcl1 (d := d) (i := i) (fo := clM A p n) (by omega) hT.1 hI c2 c0 s2.2 (cvP (gNow A) p).toNat 0 i h1 C1 (Int.le_refl _) (by omega) c4 (by rw [eM]; omega)
  rw [mLe_t c5, mI_id (x := 60 * q) (by omega) (by omega), mI_id (x := 60 * q + i) (by omega) (by omega)]
  try dsimp only
  rw [y1, mK_r, if_pos rfl]
  simp only [mP_5]
  rw [iC_t ⟨c4, c5⟩]
  exact ⟨h2, rfl, QT_502 T1 y2, gClip_yes ⟨hO, by omega, c4, c5⟩ hs1 (y2 503 (by decide)) y3 y4, fun b b0 b1 b2 b3 => by rw [y2 b b3, o1.1 b b0 b1 b2], fun j hj => by rw [y2 483 (by decide), o1.2 j hj]⟩
end PU
