/-! PURE: a rule is put in by the reference. -/
/-- a let that no rewriting opens -/
def aLet {α β : Type} (x : β) (f : β → α) : α := f x
theorem aLet_s {α β : Type} {x : β} {f : β → α} : aLet x f = f x := rfl
set_option maxRecDepth 20000 in
theorem P_M_rulex (d : Nat) (a0 a1 a2 a3 a4 : Int) (w : mm_W) (h : mm_H) : mm_P (d + 1) 275 [(2, a0), (0, a1), (0, a2), (0, a3), (0, a4)] w h = mF w a0 13 none (mA w (h a0 0) 2 50 none (mC ((mm_P d) 214 [(1, a1), (1, 0), (1, h (h a0 0) 2)] w h) 0 none (fun v1 w2 h3 => mEq v1 0 (some ((0, (-2)), w2, h3)) (mF w2 a0 13 none (mC ((mm_P d) 226 [(2, a0), (0, a2)] w2 h3) 0 none (fun v4 w5 h6 => mEq v4 0 (some ((0, (-2)), w5, h6)) (mC ((mm_P d) 214 [(1, a3), (1, 0), (1, 39)] w5 h6) 0 none (fun v7 w8 h9 => mEq v7 0 (some ((0, (-2)), w8, h9)) (mC ((mm_P d) 214 [(1, a4), (1, 0), (1, 1)] w8 h9) 0 none (fun v10 w11 h12 => mEq v10 0 (some ((0, (-2)), w11, h12)) (mF w11 a0 13 none (mA w11 (h12 a0 0) 2 50 none (mEq (h12 (h12 a0 0) 2) 6 (some ((0, (-4)), w11, h12)) (mF w11 a0 13 none (mC ((mm_P d) 259 [(2, a0)] w11 h12) 9 none (fun v13 w14 h15 => mF w14 a0 13 none (mC ((mm_P d) 268 [(2, a0)] w14 h15) 9 none (fun v16 w17 h18 => mF w17 a0 13 none (mEq (h18 a0 18) 0 (mF w17 a0 13 none (aLet (mUp h18 a0 15 0) (fun h19 => mF w17 a0 13 none (mEq (h19 a0 19) (-1) (aLet (mI (1415 + (mI (408 * a1)))) (fun x20 => mF w17 a0 13 none (mF w17 a0 13 none (mCy w17 (h19 a0 0) x20 (h19 a0 0) (mI (x20 + 408)) (mI (3455 - x20)) none (aLet (mCpy h19 (h19 a0 0) x20 (h19 a0 0) (mI (x20 + 408)) (mI (3455 - x20))) (fun h21 => mF w17 a0 13 none (mA w17 (h21 a0 0) 2 50 none (mAw w17 (h21 a0 0) 2 none (aLet (mUp h21 (h21 a0 0) 2 (mI ((h21 (h21 a0 0) 2) + 1))) (fun h22 => mF w17 a0 13 none (mF w17 a0 13 none (mAw w17 (h22 a0 0) x20 none (aLet (mUp h22 (h22 a0 0) x20 (h22 a0 8)) (fun h23 => mF w17 a0 13 none (mF w17 a0 13 none (mAw w17 (h23 a0 0) (mI (x20 + 1)) none (aLet (mUp h23 (h23 a0 0) (mI (x20 + 1)) (h23 a0 9)) (fun h24 => mF w17 a0 13 none (mF w17 a0 13 none (mAw w17 (h24 a0 0) (mI (x20 + 2)) none (aLet (mUp h24 (h24 a0 0) (mI (x20 + 2)) (h24 a0 10)) (fun h25 => mF w17 a0 13 none (mF w17 a0 13 none (mAw w17 (h25 a0 0) (mI (x20 + 3)) none (aLet (mUp h25 (h25 a0 0) (mI (x20 + 3)) (h25 a0 11)) (fun h26 => mF w17 a0 13 none (mD 10 none (mAw w17 (h26 a0 0) (mI (x20 + 4)) none (aLet (mUp h26 (h26 a0 0) (mI (x20 + 4)) (mI (Int.tdiv a3 10))) (fun h27 => mF w17 a0 13 none (mD 10 none (mAw w17 (h27 a0 0) (mI (x20 + 5)) none (aLet (mUp h27 (h27 a0 0) (mI (x20 + 5)) (Int.tmod a3 10)) (fun h28 => mF w17 a0 13 none (mAw w17 (h28 a0 0) (mI (x20 + 6)) none (aLet (mUp h28 (h28 a0 0) (mI (x20 + 6)) a4) (fun h29 => mF w17 a0 13 none (mF w17 a0 13 none (mAw w17 (h29 a0 0) (mI (x20 + 7)) none (aLet (mUp h29 (h29 a0 0) (mI (x20 + 7)) (h29 a0 22)) (fun h30 => mF w17 a0 13 none (mF w17 a0 13 none (mF w17 a0 13 none (mCy w17 (h30 a0 21) 0 (h30 a0 0) (mI (x20 + 8)) (h30 a0 22) none (aLet (mCpy h30 (h30 a0 21) 0 (h30 a0 0) (mI (x20 + 8)) (h30 a0 22)) (fun h31 => mF w17 a0 13 none (mA w17 (h31 a0 0) 2 50 none (mF w17 a0 13 none (mC ((mm_P d) 217 [(2, a0), (0, h31 (h31 a0 0) 2)] w17 h31) 0 none (fun v32 w33 h34 => some ((0, v32), w33, h34))))))))))))))))))))))))))))))))))))))))))))))))))) (mF w17 a0 13 none (some ((0, mI ((-100) - (h19 a0 19))), w17, h19))))))) (mF w17 a0 13 none (mC ((mm_P d) 260 [(2, a0)] w17 h18) 9 none (fun v35 w36 h37 => mF w36 a0 13 none (aLet (mUp h37 a0 15 0) (fun h38 => mF w36 a0 13 none (mEq (h38 a0 19) (-1) (aLet (mI (1415 + (mI (408 * a1)))) (fun x39 => mF w36 a0 13 none (mF w36 a0 13 none (mCy w36 (h38 a0 0) x39 (h38 a0 0) (mI (x39 + 408)) (mI (3455 - x39)) none (aLet (mCpy h38 (h38 a0 0) x39 (h38 a0 0) (mI (x39 + 408)) (mI (3455 - x39))) (fun h40 => mF w36 a0 13 none (mA w36 (h40 a0 0) 2 50 none (mAw w36 (h40 a0 0) 2 none (aLet (mUp h40 (h40 a0 0) 2 (mI ((h40 (h40 a0 0) 2) + 1))) (fun h41 => mF w36 a0 13 none (mF w36 a0 13 none (mAw w36 (h41 a0 0) x39 none (aLet (mUp h41 (h41 a0 0) x39 (h41 a0 8)) (fun h42 => mF w36 a0 13 none (mF w36 a0 13 none (mAw w36 (h42 a0 0) (mI (x39 + 1)) none (aLet (mUp h42 (h42 a0 0) (mI (x39 + 1)) (h42 a0 9)) (fun h43 => mF w36 a0 13 none (mF w36 a0 13 none (mAw w36 (h43 a0 0) (mI (x39 + 2)) none (aLet (mUp h43 (h43 a0 0) (mI (x39 + 2)) (h43 a0 10)) (fun h44 => mF w36 a0 13 none (mF w36 a0 13 none (mAw w36 (h44 a0 0) (mI (x39 + 3)) none (aLet (mUp h44 (h44 a0 0) (mI (x39 + 3)) (h44 a0 11)) (fun h45 => mF w36 a0 13 none (mD 10 none (mAw w36 (h45 a0 0) (mI (x39 + 4)) none (aLet (mUp h45 (h45 a0 0) (mI (x39 + 4)) (mI (Int.tdiv a3 10))) (fun h46 => mF w36 a0 13 none (mD 10 none (mAw w36 (h46 a0 0) (mI (x39 + 5)) none (aLet (mUp h46 (h46 a0 0) (mI (x39 + 5)) (Int.tmod a3 10)) (fun h47 => mF w36 a0 13 none (mAw w36 (h47 a0 0) (mI (x39 + 6)) none (aLet (mUp h47 (h47 a0 0) (mI (x39 + 6)) a4) (fun h48 => mF w36 a0 13 none (mF w36 a0 13 none (mAw w36 (h48 a0 0) (mI (x39 + 7)) none (aLet (mUp h48 (h48 a0 0) (mI (x39 + 7)) (h48 a0 22)) (fun h49 => mF w36 a0 13 none (mF w36 a0 13 none (mF w36 a0 13 none (mCy w36 (h49 a0 21) 0 (h49 a0 0) (mI (x39 + 8)) (h49 a0 22) none (aLet (mCpy h49 (h49 a0 21) 0 (h49 a0 0) (mI (x39 + 8)) (h49 a0 22)) (fun h50 => mF w36 a0 13 none (mA w36 (h50 a0 0) 2 50 none (mF w36 a0 13 none (mC ((mm_P d) 217 [(2, a0), (0, h50 (h50 a0 0) 2)] w36 h50) 0 none (fun v51 w52 h53 => some ((0, v51), w52, h53))))))))))))))))))))))))))))))))))))))))))))))))))) (mF w36 a0 13 none (some ((0, mI ((-100) - (h38 a0 19))), w36, h38)))))))))))))))))))))))))))) := P_M_rule d a0 a1 a2 a3 a4 w h

theorem RM_put {row row' : Int → Int} {s : aS} {r n pv st : Int} {T : Term} (hI : aI s) (hR : RM row s) (hb : ∀ j : Int, j ≠ 2 → j < 1415 → row' j = row j) (hr : RR row' (F_rule s r n pv st T)) : RM row' (F_rule s r n pv st T) := by
  have h1 := hI.1; have h2 := hI.2.1
  obtain ⟨R1, R2, R3, R4, R5, R6, R7⟩ := hR
  refine ⟨⟨by rw [hb 0 (by decide) (by decide)]; exact R1.1, by rw [hb 1 (by decide) (by decide)]; exact R1.2.1, hr.1⟩, fun r c r0 r1 c0 c1 => ?_, fun p r c p0 p1 r0 r1 c0 c1 => ?_, fun p i p0 p1 i0 i1 => ?_, fun p i p0 p1 i0 i1 => ?_, fun p p0 p1 => ?_, hr.2⟩
  · have r1 : r < aHi s := r1
    have c1 : c < aWi s := c1
    rw [hb _ (by omega) (by omega)]; exact R2 r c r0 r1 c0 c1
  · have r1 : r < aHi s := r1
    have c1 : c < aWi s := c1
    rw [hb _ (by omega) (by omega)]; exact R3 p r c p0 p1 r0 r1 c0 c1
  · have i1 : i < aHi s := i1
    rw [hb _ (by omega) (by omega)]; exact R4 p i p0 p1 i0 i1
  · have i1 : i < aWi s := i1
    rw [hb _ (by omega) (by omega)]; exact R5 p i p0 p1 i0 i1
  · rw [hb _ (by omega) (by omega)]; exact R6 p p0 p1
section PU
variable {d : Nat} {w : mm_W} {h : mm_H} {A : aG} {B : Int → Int} {n : Int} {s : aS}
theorem E_M_rule (hd : 400 ≤ d) (hW : MW w) (hH : MH h) (hN : mNam h) (hc : mHis h A) (hI : aI s) (hR : RM (h 484) s) (hT : MB h B n) (r pv st : Int) {m : Int} (hm : m < 2147483648) :
    (¬ okRule s r m pv st ∧ ∃ h', mm_P d 275 [(2, 483), (0, r), (0, m), (0, pv), (0, st)] w h = some ((0, -2), w, h') ∧ mSm h h') ∨
    ((okRule s r m pv st ∧ aN s = 6) ∧ ∃ h', mm_P d 275 [(2, 483), (0, r), (0, m), (0, pv), (0, st)] w h = some ((0, -4), w, h') ∧ mSm h h') ∨
    ((okRule s r m pv st ∧ aN s < 6) ∧
      (∀ f, RMF w B n f → ∃ h', mm_P d 275 [(2, 483), (0, r), (0, m), (0, pv), (0, st)] w h = some ((0, mI (-100 - f)), w, h') ∧ (∀ b : Int, b ≠ 483 → b ≠ 491 → h' b = h b) ∧ (∀ i : Int, ¬ (8 ≤ i ∧ i < 12) → ¬ (15 ≤ i ∧ i < 24 ∧ i ≠ 21) → h' 483 i = h 483 i) ∧ h' 483 15 = 0) ∧
      ∀ T, okT T → RMT w B n T → ∃ h', mm_P d 275 [(2, 483), (0, r), (0, m), (0, pv), (0, st)] w h = some ((0, aN s + 1), w, h') ∧ mHis h' (gAcc A (F_rule s r m pv st T)) ∧ RM (h' 484) (F_rule s r m pv st T) ∧ (∀ b : Int, b ≠ 483 → b ≠ 484 → b ≠ 485 → b ≠ 491 → h' b = h b) ∧ (∀ i : Int, i ≠ 2 → i ≠ 3 → i ≠ 4 → ¬ (8 ≤ i ∧ i < 12) → ¬ (15 ≤ i ∧ i < 24 ∧ i ≠ 21) → h' 483 i = h 483 i) ∧ h' 483 4 = 0 ∧ h' 483 15 = 0) := by
  obtain ⟨d, rfl, hd2⟩ := mm_dS (show 399 + 1 ≤ d by omega)
  have hw : (w.1 483).1 = 13 := by rw [hW.1]
  have w484 : w.1 484 = (50, 3863) := hW.2.1
  have i3 := hI.2.2.1
  have e2 : h 484 2 = aN s := hR.1.2.2
  unfold okRule
  rw [P_M_rulex, mF_t hw, hH.1, mA_t w484 (by decide) (by decide), e2, E_M_in (by omega), mC_s]
  by_cases c0 : 0 ≤ r ∧ r ≤ aN s
  rotate_left
  · exact Or.inl ⟨fun x => c0 x.1, h, by rw [bI_f c0, mEq_t rfl], mSm_rf h⟩
  rw [bI_t c0, mEq_f (by decide), mF_t hw]
  by_cases cm : m < 0
  · rw [E_M_takesRect_f (by omega) cm, mC_s, mEq_t rfl]
    exact Or.inl ⟨fun x => by have := x.2.1.1; omega, h, rfl, mSm_rf h⟩
  rw [E_M_takesRect (by omega) hW hH (by omega) hm, mC_s, hR.1.1, hR.1.2.1]
  have sm := mSm_tk h m
  by_cases c1 : isRect (aHi s) (aWi s) m
  rotate_left
  · exact Or.inl ⟨fun x => c1 x.2.1, _, by rw [bI_f c1, mEq_t rfl], sm⟩
  rw [bI_t c1, mEq_f (by decide), E_M_in (by omega), mC_s]
  by_cases c2 : 0 ≤ pv ∧ pv ≤ 39
  rotate_left
  · exact Or.inl ⟨fun x => c2 (by omega), _, by rw [bI_f c2, mEq_t rfl], sm⟩
  rw [bI_t c2, mEq_f (by decide), E_M_in (by omega), mC_s]
  by_cases c3 : 0 ≤ st ∧ st ≤ 1
  rotate_left
  · exact Or.inl ⟨fun x => c3 (by omega), _, by rw [bI_f c3, mEq_t rfl], sm⟩
  rw [bI_t c3, mEq_f (by decide), mF_t hw]
  have e8 := mTk_8 h m
  have Hk : MH (mTk h m) := MH_Tk hH m
  have e84 : mTk h m 484 = h 484 := mTk_row h m (by decide)
  have ht0 : mTk h m 483 0 = 484 := Hk.1
  rw [ht0, mA_t w484 (by decide) (by decide), e84, e2]
  by_cases c4 : aN s < 6
  rotate_left
  · exact Or.inr (Or.inl ⟨⟨⟨c0, c1, by omega, by omega⟩, by omega⟩, _, by rw [mEq_t (by omega)], sm⟩)
  refine Or.inr (Or.inr ⟨⟨⟨c0, c1, by omega, by omega⟩, c4⟩, ?_, ?_⟩)
  · intro f hf
    have T1 : MB (mTk h m) B n := by
      obtain ⟨t1, t2, t3, t4⟩ := hT
      exact ⟨by rw [mTk_o h m (by decide)]; exact t1, t2, by rw [mTk_row h m (by decide)]; exact t3, t4⟩
    obtain ⟨h1, h2, h3, b1, b2, b3, b4, b5, b6⟩ := hf w hW d (mTk h m) (by omega) T1 Hk (mNam_fr hN (mTk_row h m (by decide)))
    rw [mEq_f (by omega), mF_t hw, b1, mC_s, mF_t hw, b2, mC_s, mF_t hw]
    have fin : ∃ h', (some ((0, mI (-100 - f)), w, mUp h3 483 15 0) : Option mm_R) = some ((0, mI (-100 - f)), w, h') ∧ (∀ b : Int, b ≠ 483 → b ≠ 491 → h' b = h b) ∧ (∀ i : Int, ¬ (8 ≤ i ∧ i < 12) → ¬ (15 ≤ i ∧ i < 24 ∧ i ≠ 21) → h' 483 i = h 483 i) ∧ h' 483 15 = 0 := by
      refine ⟨_, rfl, fun b x1 x2 => by rw [mUp_row x1, b4.1 b x1 x2, mTk_row h m x1], fun i x1 x2 => ?_, mUp_s⟩
      rw [mUp_n (Or.inr (by omega)), b4.2 i (by omega), mTk_o h m (by omega)]
    have u19 : mUp h3 483 15 0 483 19 = f := by rw [mUp_n (Or.inr (by decide))]; exact b5
    rcases b3 with ⟨x1, x2⟩ | ⟨x1, x2⟩
    · subst x2
      rw [mEq_t x1, mF_t hw, aLet_s, mF_t hw, u19, mEq_f b6, mF_t hw]
      exact fin
    · rw [mEq_f x1, mF_t hw, x2, mC_s, mF_t hw, aLet_s, mF_t hw, u19, mEq_f b6, mF_t hw]
      exact fin
  · intro T hT1 hf
    have T1 : MB (mTk h m) B n := by
      obtain ⟨t1, t2, t3, t4⟩ := hT
      exact ⟨by rw [mTk_o h m (by decide)]; exact t1, t2, by rw [mTk_row h m (by decide)]; exact t3, t4⟩
    obtain ⟨h1, h2, b1, b2, b3, b4, b5, b6, b7⟩ := hf w hW d (mTk h m) (by omega) T1 Hk (mNam_fr hN (mTk_row h m (by decide)))
    rw [mEq_f (by omega), mF_t hw, b1, mC_s, mF_t hw, b2, mC_s, mF_t hw, mEq_t b3, mF_t hw]
    generalize hy0 : mUp h2 483 15 0 = y0
    have o0 : ∀ b : Int, b ≠ 483 → y0 b = h2 b := fun b hb => by rw [← hy0]; exact mUp_row hb
    have o1 : ∀ i : Int, i ≠ 15 → y0 483 i = h2 483 i := fun i hi => by rw [← hy0]; exact mUp_n (Or.inr hi)
    have o15 : y0 483 15 = 0 := by rw [← hy0]; exact mUp_s
    have q0 : y0 483 0 = 484 := by rw [o1 0 (by decide), b4.2 0 (by omega)]; exact Hk.1
    have q21 : y0 483 21 = 491 := by rw [o1 21 (by decide), b4.2 21 (by omega)]; exact MH_21 Hk
    have q22 : y0 483 22 = ((lenM T : Nat) : Int) := by rw [o1 22 (by decide)]; exact b6
    have q19 : y0 483 19 = -1 := by rw [o1 19 (by decide)]; exact b5
    have q8 : y0 483 8 = m / 1000000 := by rw [o1 8 (by decide), b4.2 8 (by omega)]; exact e8.1
    have q9 : y0 483 9 = m / 10000 % 100 := by rw [o1 9 (by decide), b4.2 9 (by omega)]; exact e8.2.1
    have q10 : y0 483 10 = m / 100 % 100 := by rw [o1 10 (by decide), b4.2 10 (by omega)]; exact e8.2.2.1
    have q11 : y0 483 11 = m % 100 := by rw [o1 11 (by decide), b4.2 11 (by omega)]; exact e8.2.2.2
    have R0 : y0 484 = h 484 := by rw [o0 484 (by decide), b4.1 484 (by decide) (by decide)]; exact e84
    have hlt := hT1.2.1
    obtain ⟨a0, ha0⟩ : ∃ a0, a0 = 1415 + 408 * r := ⟨_, rfl⟩
    rw [aLet_s, mF_t hw, q19, mEq_t rfl, mI_id (x := 408 * r) (by omega) (by omega), mI_id (x := 1415 + 408 * r) (by omega) (by omega), ← ha0, aLet_s, mF_t hw, mF_t hw, q0, mI_id (x := a0 + 408) (by omega) (by omega), mI_id (x := 3455 - a0) (by omega) (by omega), mCy_t w484 w484 (by decide) (by decide) (by omega) (by omega) (by omega) (by omega) (by omega)]
    generalize hy1 : mCpy y0 484 a0 484 (a0 + 408) (3455 - a0) = y1
    have r1 : ∀ b : Int, b ≠ 484 → y1 b = y0 b := fun b hb => by rw [← hy1]; funext i; exact if_neg (fun x => hb x.1)
    have v1 : ∀ j : Int, y1 484 j = if a0 + 408 ≤ j ∧ j < 3863 then h 484 (j - 408) else h 484 j := fun j => by
      rw [← hy1]
      show (if 484 = 484 ∧ a0 + 408 ≤ j ∧ j < a0 + 408 + (3455 - a0) then y0 484 (a0 + (j - (a0 + 408))) else y0 484 j) = _
      rw [R0]
      by_cases c : a0 + 408 ≤ j ∧ j < 3863
      · rw [if_pos (by omega), if_pos c, show a0 + (j - (a0 + 408)) = j - 408 by omega]
      · rw [if_neg (by omega), if_neg c]
    rw [aLet_s, mF_t hw, r1 483 (by decide), q0, mA_t w484 (by decide) (by decide), v1 2, if_neg (by omega), e2, mI_id (x := aN s + 1) (by omega) (by omega), mAw_t w484 (by decide) (by decide) (by decide)]
    generalize hy2 : mUp y1 484 2 (aN s + 1) = y2
    have r2 : ∀ b : Int, b ≠ 484 → y2 b = y0 b := fun b hb => by rw [← hy2, mUp_row hb]; exact r1 b hb
    rw [aLet_s, mF_t hw, mF_t hw, r2 483 (by decide), q0, q8, mAw_t w484 (by omega) (by omega) (by decide)]
    generalize hy3 : mUp y2 484 a0 (m / 1000000) = y3
    have r3 : ∀ b : Int, b ≠ 484 → y3 b = y0 b := fun b hb => by rw [← hy3, mUp_row hb]; exact r2 b hb
    rw [aLet_s, mF_t hw, mF_t hw, r3 483 (by decide), q0, q9, mI_id (x := a0 + 1) (by omega) (by omega), mAw_t w484 (by omega) (by omega) (by decide)]
    generalize hy4 : mUp y3 484 (a0 + 1) (m / 10000 % 100) = y4
    have r4 : ∀ b : Int, b ≠ 484 → y4 b = y0 b := fun b hb => by rw [← hy4, mUp_row hb]; exact r3 b hb
    rw [aLet_s, mF_t hw, mF_t hw, r4 483 (by decide), q0, q10, mI_id (x := a0 + 2) (by omega) (by omega), mAw_t w484 (by omega) (by omega) (by decide)]
    generalize hy5 : mUp y4 484 (a0 + 2) (m / 100 % 100) = y5
    have r5 : ∀ b : Int, b ≠ 484 → y5 b = y0 b := fun b hb => by rw [← hy5, mUp_row hb]; exact r4 b hb
    rw [aLet_s, mF_t hw, mF_t hw, r5 483 (by decide), q0, q11, mI_id (x := a0 + 3) (by omega) (by omega), mAw_t w484 (by omega) (by omega) (by decide)]
    generalize hy6 : mUp y5 484 (a0 + 3) (m % 100) = y6
    have r6 : ∀ b : Int, b ≠ 484 → y6 b = y0 b := fun b hb => by rw [← hy6, mUp_row hb]; exact r5 b hb
    rw [aLet_s, mF_t hw, mD_t (by decide), r6 483 (by decide), q0, mI_id (x := a0 + 4) (by omega) (by omega), mAw_t w484 (by omega) (by omega) (by decide), Int.tdiv_eq_ediv_of_nonneg c2.1, mI_id (x := pv / 10) (by omega) (by omega)]
    generalize hy7 : mUp y6 484 (a0 + 4) (pv / 10) = y7
    have r7 : ∀ b : Int, b ≠ 484 → y7 b = y0 b := fun b hb => by rw [← hy7, mUp_row hb]; exact r6 b hb
    rw [aLet_s, mF_t hw, mD_t (by decide), r7 483 (by decide), q0, mI_id (x := a0 + 5) (by omega) (by omega), mAw_t w484 (by omega) (by omega) (by decide), Int.tmod_eq_emod_of_nonneg c2.1]
    generalize hy8 : mUp y7 484 (a0 + 5) (pv % 10) = y8
    have r8 : ∀ b : Int, b ≠ 484 → y8 b = y0 b := fun b hb => by rw [← hy8, mUp_row hb]; exact r7 b hb
    rw [aLet_s, mF_t hw, r8 483 (by decide), q0, mI_id (x := a0 + 6) (by omega) (by omega), mAw_t w484 (by omega) (by omega) (by decide)]
    generalize hy9 : mUp y8 484 (a0 + 6) st = y9
    have r9 : ∀ b : Int, b ≠ 484 → y9 b = y0 b := fun b hb => by rw [← hy9, mUp_row hb]; exact r8 b hb
    rw [aLet_s, mF_t hw, mF_t hw, r9 483 (by decide), q0, q22, mI_id (x := a0 + 7) (by omega) (by omega), mAw_t w484 (by omega) (by omega) (by decide)]
    generalize hy10 : mUp y9 484 (a0 + 7) ((lenM T : Nat) : Int) = y10
    have r10 : ∀ b : Int, b ≠ 484 → y10 b = y0 b := fun b hb => by rw [← hy10, mUp_row hb]; exact r9 b hb
    rw [aLet_s, mF_t hw, mF_t hw, mF_t hw, r10 483 (by decide), q0, q21, q22, mI_id (x := a0 + 8) (by omega) (by omega), mCy_t (MW_491 hW) w484 (by decide) (by decide) (by decide) (by omega) (by omega) (by omega) (by omega)]
    generalize hy11 : mCpy y10 491 0 484 (a0 + 8) ((lenM T : Nat) : Int) = y11
    have r11 : ∀ b : Int, b ≠ 484 → y11 b = y0 b := fun b hb => by
      rw [← hy11]
      have : mCpy y10 491 0 484 (a0 + 8) ((lenM T : Nat) : Int) b = y10 b := by funext i; exact if_neg (fun x => hb x.1)
      rw [this]; exact r10 b hb
    have v11 : ∀ j : Int, y11 484 j = if a0 + 8 ≤ j ∧ j < a0 + 8 + ((lenM T : Nat) : Int) then h2 491 (j - (a0 + 8)) else y10 484 j := fun j => by
      rw [← hy11]
      show (if 484 = 484 ∧ a0 + 8 ≤ j ∧ j < a0 + 8 + ((lenM T : Nat) : Int) then y10 491 (0 + (j - (a0 + 8))) else y10 484 j) = _
      rw [r10 491 (by decide), o0 491 (by decide), Int.zero_add]
      by_cases c : a0 + 8 ≤ j ∧ j < a0 + 8 + ((lenM T : Nat) : Int)
      · rw [if_pos ⟨rfl, c⟩, if_pos c]
      · rw [if_neg (fun x => c x.2), if_neg c]
    have v10 : ∀ j : Int, y10 484 j = if j = (a0 + 7) then ((lenM T : Nat) : Int) else if j = (a0 + 6) then st else if j = (a0 + 5) then (pv % 10) else if j = (a0 + 4) then (pv / 10) else if j = (a0 + 3) then (m % 100) else if j = (a0 + 2) then (m / 100 % 100) else if j = (a0 + 1) then (m / 10000 % 100) else if j = a0 then (m / 1000000) else if j = 2 then (aN s + 1) else y1 484 j := fun j => by
      rw [← hy10, ← hy9, ← hy8, ← hy7, ← hy6, ← hy5, ← hy4, ← hy3, ← hy2]
      simp only [mUp, true_and]
    have vo : ∀ j : Int, j ≠ 2 → ¬ (a0 ≤ j ∧ j < a0 + 408) → y11 484 j = if a0 + 408 ≤ j ∧ j < 3863 then h 484 (j - 408) else h 484 j := fun j j2 ja => by
      rw [v11 j, if_neg (by omega), v10 j, if_neg (by omega), if_neg (by omega), if_neg (by omega), if_neg (by omega), if_neg (by omega), if_neg (by omega), if_neg (by omega), if_neg (by omega), if_neg j2, v1 j]
    have v2 : y11 484 2 = aN s + 1 := by
      rw [v11 2, if_neg (by omega), v10 2, if_neg (by omega), if_neg (by omega), if_neg (by omega), if_neg (by omega), if_neg (by omega), if_neg (by omega), if_neg (by omega), if_neg (by omega), if_pos rfl]
    have vf0 : y11 484 (a0 + 0) = (m / 1000000) := by rw [v11, if_neg (by omega), v10, if_neg (by omega), if_neg (by omega), if_neg (by omega), if_neg (by omega), if_neg (by omega), if_neg (by omega), if_neg (by omega), if_pos (by omega)]
    have vf1 : y11 484 (a0 + 1) = (m / 10000 % 100) := by rw [v11, if_neg (by omega), v10, if_neg (by omega), if_neg (by omega), if_neg (by omega), if_neg (by omega), if_neg (by omega), if_neg (by omega), if_pos (by omega)]
    have vf2 : y11 484 (a0 + 2) = (m / 100 % 100) := by rw [v11, if_neg (by omega), v10, if_neg (by omega), if_neg (by omega), if_neg (by omega), if_neg (by omega), if_neg (by omega), if_pos (by omega)]
    have vf3 : y11 484 (a0 + 3) = (m % 100) := by rw [v11, if_neg (by omega), v10, if_neg (by omega), if_neg (by omega), if_neg (by omega), if_neg (by omega), if_pos (by omega)]
    have vf4 : y11 484 (a0 + 4) = (pv / 10) := by rw [v11, if_neg (by omega), v10, if_neg (by omega), if_neg (by omega), if_neg (by omega), if_pos (by omega)]
    have vf5 : y11 484 (a0 + 5) = (pv % 10) := by rw [v11, if_neg (by omega), v10, if_neg (by omega), if_neg (by omega), if_pos (by omega)]
    have vf6 : y11 484 (a0 + 6) = st := by rw [v11, if_neg (by omega), v10, if_neg (by omega), if_pos (by omega)]
    have vf7 : y11 484 (a0 + 7) = ((lenM T : Nat) : Int) := by rw [v11, if_neg (by omega), v10, if_pos (by omega)]
    have RR1 : RR (y11 484) (F_rule s r m pv st T) := by
      refine ⟨v2, fun k k0 k1 => ?_⟩
      have k1 : k < aN s + 1 := k1
      have eR : aRul (F_rule s r m pv st T) k = if k < r then aRul s k else if k = r then (fun f => if f = 0 then m / 1000000 else if f = 1 then m / 10000 % 100 else if f = 2 then m / 100 % 100 else if f = 3 then m % 100 else if f = 4 then pv / 10 else if f = 5 then pv % 10 else st) else aRul s (k - 1) := rfl
      have eC : aCod (F_rule s r m pv st T) k = if k < r then aCod s k else if k = r then T else aCod s (k - 1) := rfl
      rw [eR, eC]
      by_cases k2 : k < r
      · rw [if_pos k2, if_pos k2]
        obtain ⟨x1, x2, x3⟩ := hR.2.2.2.2.2.2 k k0 (by omega)
        have hl := cOk_of hI k k0 (by omega)
        refine ⟨fun f f0 f1 => ?_, ?_, fun i hi => ?_⟩
        · rw [vo _ (by omega) (by omega), if_neg (by omega)]; exact x1 f f0 f1
        · rw [vo _ (by omega) (by omega), if_neg (by omega)]; exact x2
        · rw [vo _ (by omega) (by omega), if_neg (by omega)]; exact x3 i hi
      · by_cases k3 : k = r
        · rw [if_neg k2, if_pos k3, if_neg k2, if_pos k3, show 1415 + 408 * k = a0 by omega]
          refine ⟨fun f f0 f1 => ?_, ?_, fun i hi => ?_⟩
          · rcases (show f = 0 ∨ f = 1 ∨ f = 2 ∨ f = 3 ∨ f = 4 ∨ f = 5 ∨ f = 6 by omega) with rfl | rfl | rfl | rfl | rfl | rfl | rfl
            · exact vf0
            · exact vf1
            · exact vf2
            · exact vf3
            · exact vf4
            · exact vf5
            · exact vf6
          · exact vf7
          · have hl := compM_len T 0
            have := b7 i (by omega)
            rw [show ((0 : Nat) : Int) + (i : Int) = (i : Int) by omega] at this
            rw [v11, if_pos (by omega), show a0 + 8 + (i : Int) - (a0 + 8) = i by omega, this]
        · rw [if_neg k2, if_neg k3, if_neg k2, if_neg k3]
          obtain ⟨x1, x2, x3⟩ := hR.2.2.2.2.2.2 (k - 1) (by omega) (by omega)
          have hl := cOk_of hI (k - 1) (by omega) (by omega)
          refine ⟨fun f f0 f1 => ?_, ?_, fun i hi => ?_⟩
          · rw [vo _ (by omega) (by omega), if_pos (by omega), show 1415 + 408 * k + f - 408 = 1415 + 408 * (k - 1) + f by omega]; exact x1 f f0 f1
          · rw [vo _ (by omega) (by omega), if_pos (by omega), show 1415 + 408 * k + 7 - 408 = 1415 + 408 * (k - 1) + 7 by omega]; exact x2
          · rw [vo _ (by omega) (by omega), if_pos (by omega), show 1415 + 408 * k + 8 + (i : Int) - 408 = 1415 + 408 * (k - 1) + 8 + i by omega]; exact x3 i hi
    have R2 : RM (y11 484) (F_rule s r m pv st T) := RM_put hI hR (fun j j2 j1 => by rw [vo j j2 (by omega), if_neg (by omega)]) RR1
    have hr := c1
    unfold isRect at hr
    have I2 : aI (F_rule s r m pv st T) := aI_put hI c0 c4 (by omega) (by omega) (by omega) (by omega) (by omega) hT1
    have fb : ∀ b : Int, b ≠ 483 → b ≠ 484 → b ≠ 491 → y11 b = h b := fun b x1 x2 x3 => by rw [r11 b x2, o0 b x1, b4.1 b x1 x3, mTk_row h m x1]
    have fi : ∀ i : Int, ¬ (8 ≤ i ∧ i < 12) → ¬ (15 ≤ i ∧ i < 24 ∧ i ≠ 21) → y11 483 i = h 483 i := fun i x1 x2 => by
      rw [r11 483 (by decide), o1 i (by omega), b4.2 i (by omega), mTk_o h m (by omega)]
    obtain ⟨h', g1, g2, g3, g4, g5⟩ := E_M_told (d := d) (by omega) hW (MH_fr hH (fun i hi => fi i (by unfold mRef at hi; omega) (by unfold mRef at hi; omega))) (mHis_fr hc (fun i hi => fi i (by omega) (by omega)) (fb 485 (by decide) (by decide) (by decide))) R2 I2 (a := aN s + 1) (by omega)
    rw [aLet_s, mF_t hw, r11 483 (by decide), q0, mA_t w484 (by decide) (by decide), v2, mF_t hw, g1, mC_s]
    refine ⟨h', rfl, g2, by rw [g3 484 (by decide) (by decide)]; exact R2, fun b x1 x2 x3 x4 => by rw [g3 b x1 x3, fb b x1 x2 x4], fun i x1 x2 x3 x4 x5 => by rw [g4 i x1 x2 x3, fi i x4 x5], g5, ?_⟩
    rw [g4 15 (by decide) (by decide) (by decide), r11 483 (by decide)]; exact o15
end PU
