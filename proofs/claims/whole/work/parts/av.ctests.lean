/-! PURE: run and tests of the class. -/
noncomputable def ruN (P : List (List Int)) (s : aS) : rS := rnL 201 P (s, 0, 0, 0, 0)
noncomputable def ruAn (P : List (List Int)) (s : aS) : Int := if rsB (ruN P s) = 0 then rsT (ruN P s) else -100 - rsT (ruN P s)
/-- the sheet that a program leaves -/
noncomputable def ruS (P : List (List Int)) (s : aS) : aS := if rsB (ruN P s) = 0 then rsS (ruN P s) else s
/-- the programs of the class -/
def cPr (w : mm_W) (h : mm_H) (A : aG) : Prop := h 1 16 = gPn A ∧ (0 ≤ gPn A ∧ gPn A ≤ 4) ∧ ∀ k : Int, 0 ≤ k → k < gPn A → PC w h (h 467 k) (gP A k) ∧ prO (gP A k)
noncomputable def tsS (s : aS) (q : Int) : Int := if q = 2 then 100 * aHi s + aWi s else if q = 3 then looksN s else cvP s 0 + cvP s 1 + cvP s 2 + cvP s 3
noncomputable def fTests (A : aG) (k q : Int) : Int := iC ((0 ≤ k ∧ k < gPn A) ∧ 0 ≤ q ∧ q ≤ 3) (if q = 0 then ruAn (gP A k) (gNow A) else tsS (ruS (gP A k) (gNow A)) q) (-2)
noncomputable def fRun (A : aG) (k : Int) : Int := iC (0 ≤ k ∧ k < gPn A) (ruAn (gP A k) (gNow A)) (-2)
/-- a run is told -/
def ruG (A : aG) (k : Int) : Prop := (0 ≤ k ∧ k < gPn A) ∧ rsB (ruN (gP A k) (gNow A)) = 0
section PU
variable {d : Nat} {w : mm_W} {h : mm_H} {A : aG} {s : aS} {P : List (List Int)}
theorem E_runOn (hd : 60 ≤ d) (hW : WK w) (hR : RC w h 4 s) (hI : aI s) (h421 : ShH h 421) (hE : EdH h) (hr : h 435 0 = 420) {a : Int} (hp : PC w h a P) (ok : prO P) : ∃ h', mm_P d 79 [(2, 435), (2, 4), (2, a)] w h = some ((0, ruAn P s), w, h') ∧ RC w h' 4 (rsS (ruN P s)) ∧ ShH h' 421 ∧ h' 435 0 = 420 ∧ XO h h' ∧ rOK (ruN P s) := by
  obtain ⟨d, rfl, hd2⟩ := mm_dS hd; clear hd; have hd := hd2; clear hd2
  have w8 : (w.1 435).1 = 8 := by rw [hW.1.2.2.2.2.2.1]
  rw [P_Rn_runOn]
  simp only [mF_t w8, mZ_0]
  generalize hg : mUp (mUp (mUp (mUp h 435 1 0) 435 2 0) 435 3 0) 435 4 0 = h1
  have e : ∀ b : Int, b ≠ 435 → h1 b = h b := fun b hb => by rw [← hg, mUp_row hb, mUp_row hb, mUp_row hb, mUp_row hb]
  have f0 : h1 435 0 = 420 := by rw [← hg, mUp_n (Or.inr (by decide)), mUp_n (Or.inr (by decide)), mUp_n (Or.inr (by decide)), mUp_n (Or.inr (by decide))]; exact hr
  have f1 : h1 435 1 = 0 := by rw [← hg]; simp [mUp]
  have f2 : h1 435 2 = 0 := by rw [← hg]; simp [mUp]
  have f3 : h1 435 3 = 0 := by rw [← hg]; simp [mUp]
  have f4 : h1 435 4 = 0 := by rw [← hg]; simp [mUp]
  have O1 : XO h h1 := fun b _ _ x => e b x
  have B1 : XB w h1 s 0 0 := ⟨RC_fr hR hI ⟨Int.le_refl _, fun b b0 _ => ⟨rfl, e b (by omega)⟩⟩ (fun b b0 b1 => e b (by omega)), hI, ShH_fr h421 (fun j _ _ => by rw [e 421 (by decide)]) (e _ (by decide)), ⟨by rw [e 420 (by decide)]; exact hE.1, by rw [e 420 (by decide)]; exact hE.2⟩, f0, f2, f3⟩
  have X1 : XSt w h1 (s, 0, 0, 0, 0) := ⟨B1, f1, f4, hI, (by decide : (0 : Int) ≤ 0 ∧ (0 : Int) ≤ 60), (by decide : -99 * (0 : Int) ≤ 0 ∧ (0 : Int) ≤ 99 * 0), (by decide : -99 * (0 : Int) ≤ 0 ∧ (0 : Int) ≤ 99 * 0), Or.inl rfl⟩
  have ea : h1 a = h a := e a (by have := hp.1.1; omega)
  have hl := ok.2.2.1
  have run : ∃ h', mm_P d 80 [(2, 435), (2, 4), (2, a), (0, 0), (0, ((P.length : Nat) : Int)), (0, 0)] w h1 = some ((9, 0), w, h') ∧ XSt w h' (ruN P s) ∧ XO h1 h' := by
    obtain ⟨d, rfl, hd2⟩ := mm_dS (show 58 + 1 ≤ d by omega)
    obtain ⟨h', y1, y2, y3⟩ := X_run hW hp.1.1 hp.2.1 (by omega) (h a) 201 4 P 0 0 0 0 d (s, 0, 0, 0, 0) h1 ok.1 (by decide) (by decide) (clP_gw (w' := w) P 0 (if_pos rfl) hp.2.2) ea (by omega) (by decide) (by decide) (by omega) X1
    rw [show ((0 : Nat) : Int) = 0 from rfl, Int.zero_add] at y1
    rw [P_Rn_runLines]
    rcases y1 with ⟨l, y1⟩ | y1
    · rw [y1, mK_r, if_pos rfl]
      exact ⟨h', rfl, y2, y3⟩
    · rw [y1, mK_l]
      exact ⟨h', rfl, y2, y3⟩
  obtain ⟨h', y1, y2, y3⟩ := run
  rw [mN_t hp.2.1 (by decide), hp.2.1, mD_t (by decide), Int.tdiv_eq_ediv_of_nonneg (by omega), show 9 * ((P.length : Nat) : Int) / 9 = ((P.length : Nat) : Int) by omega, mI_id (x := ((P.length : Nat) : Int)) (by omega) (by omega), y1, mC_s]
  simp only [mF_t w8]
  rw [y2.2.2.1, y2.2.1]
  have tb := y2.2.2.2.2.1
  refine ⟨h', ?_, y2.1.1, y2.1.2.2.1, y2.1.2.2.2.2.1, XO_tr O1 y3, y2.2.2.2⟩
  unfold ruAn
  by_cases c : rsB (ruN P s) = 0
  · rw [mEq_t c, if_pos c]
  · rw [mEq_f c, if_neg c, mI_id (x := -100 - rsT (ruN P s)) (by omega) (by omega)]
theorem E_programOf (hd : 1 ≤ d) (hW : WK w) (hK : HK h) (hp : cPr w h A) (k : Int) : mm_P d 192 [(2, 1), (0, k)] w h = some ((2, @ite _ (0 ≤ k ∧ k < gPn A) (Classical.propDecidable _) (h 467 k) 0), w, h) := by
  obtain ⟨d, rfl, hd2⟩ := mm_dS hd; clear hd; have hd := hd2; clear hd2
  have w1 : (w.1 1).1 = 12 := by rw [hW.1.1]
  have k10 : h 1 10 = 467 := hK.1.2.2.2.2.2.2.2.2.2.2.1
  have w467 : w.1 467 = (150, 4) := hW.2.2.2.2.2.1.2.2.2.2.1
  rw [P_F_programOf]
  by_cases c0 : 0 ≤ k
  rotate_left
  · rw [mLt_t (by omega), if_neg (fun x => c0 x.1)]
  rw [mLt_f c0, mF_t w1, hp.1]
  by_cases c1 : k < gPn A
  rotate_left
  · rw [mLe_t (by omega), if_neg (fun x => c1 x.2)]
  have := hp.2.1
  rw [mLe_f c1, mF_t w1, k10, mN_t w467 (by decide), w467, mLe_f (show k < 4 by omega), mF_t w1, mAr_t w467 (by decide) c0 (by omega), if_pos ⟨c0, c1⟩]
/-- a draft that was edited lets all else stand -/
theorem HK_xo {h' : mm_H} (hK : HK h) (o : ∀ b : Int, ¬ (4 ≤ b ∧ b < 17) → ¬ (421 ≤ b ∧ b < 436) → h' b = h b) (h4 : ShH h' 4) (h421 : ShH h' 421) (e : h' 435 0 = 420) : HK h' := by
  refine HK_fr hK (fun b i hb => ?_) (fun k k0 k1 => ?_) h421 (ShH_fr hK.2.2.2.2.2.2.2 (fun i _ _ => by rw [o 470 (by omega) (by omega)]) (o _ (by omega) (by omega)))
  · unfold kSl at hb
    by_cases c : b = 435
    · subst c
      rw [show i = 0 by omega, e, hK.2.2.1.2.2.1]
    · rw [o b (by omega) (by omega)]
  · by_cases c : k = 0
    · rw [c]; exact h4
    · exact ShH_fr (hK.2.2.2.2.2.1 k k0 k1) (fun i _ _ => by rw [o _ (by omega) (by omega)]) (o _ (by omega) (by omega))
theorem XO_d {h1 h2 : mm_H} (e : ∀ b : Int, ¬ (4 ≤ b ∧ b < 17) → h1 b = h b) (o : XO h1 h2) : ∀ b : Int, ¬ (4 ≤ b ∧ b < 17) → ¬ (421 ≤ b ∧ b < 436) → h2 b = h b := fun b x y => by rw [o b x (by omega) (by omega), e b x]
theorem cHist_xo {h' : mm_H} (hc : cHist w h A) (o : ∀ b : Int, ¬ (4 ≤ b ∧ b < 17) → ¬ (421 ≤ b ∧ b < 436) → h' b = h b) : cHist w h' A := cHist_gr hc ⟨Int.le_refl _, fun a a0 _ => ⟨rfl, o a (by omega) (by omega)⟩⟩ (fun b b0 b1 => o b (by omega) (by omega)) (o 2 (by omega) (by omega))
theorem E_F_run (hd : 70 ≤ d) (hW : WK w) (hK : HK h) (hc : cHist w h A) (hp : cPr w h A) (k : Int) : (¬ ruG A k ∧ ∃ h', mm_P d 154 [(2, 1), (0, k)] w h = some ((0, fRun A k), w, h') ∧ cHist w h' A ∧ HK h' ∧ ∀ b : Int, ¬ (4 ≤ b ∧ b < 17) → ¬ (421 ≤ b ∧ b < 436) → h' b = h b) ∨ (ruG A k ∧ ∃ h', mm_P d 154 [(2, 1), (0, k)] w h = some ((0, fRun A k), w, h') ∧ cHist w h' (gAcc A (ruS (gP A k) (gNow A))) ∧ HK h' ∧ h' 1 15 = 1 ∧ (∀ i : Int, i ≠ 15 → h' 1 i = h 1 i) ∧ ∀ b : Int, b ≠ 1 → b ≠ 2 → ¬ (4 ≤ b ∧ b < 420) → ¬ (421 ≤ b ∧ b < 436) → h' b = h b) := by
  obtain ⟨d, rfl, hd2⟩ := mm_dS hd; clear hd; have hd := hd2; clear hd2
  have w1 : (w.1 1).1 = 12 := by rw [hW.1.1]
  have w2 : (w.1 2).1 = 4 := by rw [hW.1.2.1]
  have w8 : (w.1 435).1 = 8 := by rw [hW.1.2.2.2.2.2.1]
  have k2 : h 1 2 = 435 := hK.1.2.2.1
  unfold fRun
  rw [P_F_run, mF_t w1, E_programOf (by omega) hW hK hp, mC_s]
  by_cases c : 0 ≤ k ∧ k < gPn A
  rotate_left
  · rw [if_neg c, mEq_t rfl, iC_f c]
    exact Or.inl ⟨fun x => c x.1, h, rfl, hc, hK, fun _ _ _ => rfl⟩
  obtain ⟨pc, ok⟩ := hp.2.2 k c.1 c.2
  rw [if_pos c, mEq_f (by have := pc.1; omega)]
  simp only [mF_t w1]
  rw [hK.1.1, mF_t w2, k2]
  obtain ⟨h1, a1, a2, a3, a4, a5, a6⟩ := E_draft (d := d) (by omega) hW hK hc
  have pc1 : PC w h1 (h 467 k) (gP A k) := PC_gr pc ⟨Int.le_refl _, fun a a0 _ => ⟨rfl, a6 a (by omega)⟩⟩
  have eE : EdH h1 := ⟨by rw [a6 420 (by omega)]; exact hK.2.2.1.1, by rw [a6 420 (by omega)]; exact hK.2.2.1.2.1⟩
  obtain ⟨h2, b1, b2, b3, b4, b5, b6⟩ := E_runOn (d := d) (by omega) hW a2 a3 a4.2.2.2.2.2.2.1 eE (by rw [a6 435 (by omega)]; exact hK.2.2.1.2.2.1) pc1 ok
  have o2 := XO_d a6 b5
  have K2 := HK_xo hK o2 b2.1 b3 b4
  have C2 := cHist_xo hc o2
  rw [a1, mC_s, mF_t w8, b1, mC_s, mF_t w1, iC_t c]
  by_cases br : rsB (ruN (gP A k) (gNow A)) = 0
  · have ea : ruAn (gP A k) (gNow A) = rsT (ruN (gP A k) (gNow A)) := if_pos br
    have es : ruS (gP A k) (gNow A) = rsS (ruN (gP A k) (gNow A)) := if_pos br
    rw [ea, es]
    obtain ⟨h3, z1, z2, z3, z4, z5, z6⟩ := E_settle (d := d) (by omega) hW K2 C2 (h1 := h2) (fun _ _ _ => rfl) b2 b3 b6.1 (a := rsT (ruN (gP A k) (gNow A))) b6.2.1.1
    rw [z1, mC_s]
    exact Or.inr ⟨⟨c, br⟩, h3, rfl, z2, z3, z4, fun i hi => by rw [z5 i hi, o2 1 (by omega) (by omega)], fun b x1 x2 x3 x4 => by rw [z6 b x1 x2 x3 (by omega), o2 b (by omega) (by omega)]⟩
  · have ea : ruAn (gP A k) (gNow A) = -100 - rsT (ruN (gP A k) (gNow A)) := if_neg br
    have := b6.2.1
    rw [ea, E_settle0 (by omega) (by omega), mC_s]
    exact Or.inl ⟨fun x => br x.2, h2, rfl, C2, K2, o2⟩
theorem L_tst (hd : 7 ≤ d) (hW : WK w) {S : Int} (hS : sOk S) (hSW : ShW w S) (hI : aI s) {k q a v : Int} : ∀ (m : Nat) (p acc : Int) (h : mm_H), h 1 6 = 452 → VcH h → RC w h S s → 0 ≤ p → p + m = 4 → 0 ≤ acc → acc + 256 * m < 2000 → ∃ h', l_F_tests_0 (mm_P d) 1 k q a 4 v S acc p w h = some (.inr (146, [(2, 1), (0, k), (0, q), (2, a), (2, 4), (0, v), (2, S), (0, acc + sumN (fun p => cvP s p) m p), (0, 4)], w, h')) ∧ VQ h h' := by
  have w1 : (w.1 1).1 = 12 := by rw [hW.1.1]
  have w4 := VcW_4 (WK_Vc hW)
  intro m
  induction m with
  | zero =>
    intro p acc h h6 hc hR p0 hm a0 a1
    have e : sumN (fun p => cvP s p) 0 p = 0 := rfl
    rw [l_F_tests_0_eq, mLe_t (by omega), e, Int.add_zero, show p = 4 by omega]
    exact ⟨h, rfl, VQ_rf h⟩
  | succ m ih =>
    intro p acc h h6 hc hR p0 hm a0 a1
    have e : sumN (fun p => cvP s p) (m + 1) p = cvP s p + sumN (fun p => cvP s p) m (p + 1) := rfl
    obtain ⟨h1, x1, x2, x3⟩ := E_cvTake (d := d) (by omega) (WK_Vc hW) hc hS hSW hI hR (p := p) (by omega)
    have nb := cvN_in (f := aCel s p) (wi := aWi s) (hi := aHi s) ⟨by have := hI.1; omega, hI.1.2⟩
    have ec : cvN (aCel s p) (aWi s) (aHi s) = cvP s p := rfl
    rw [ec] at x1 nb
    have hSS : S + 13 ≤ 452 ∨ S = 470 := by unfold sOk at hS; omega
    have R1 : RC w h1 S s := RC_fr hR hI ⟨Int.le_refl _, fun b b0 _ => ⟨rfl, x2.1 b (by omega)⟩⟩ (fun b b0 b1 => x2.1 b (by omega))
    obtain ⟨h2, y1, y2⟩ := ih (p + 1) (acc + cvP s p) h1 (by rw [x2.1 1 (by decide)]; exact h6) (VQ_H x2 hc) R1 (by omega) (by omega) (by omega) (by omega)
    rw [l_F_tests_0_eq, mLe_f (by omega), mF_t w1, h6, mF_t w4, x1, mC_s]
    try dsimp only
    rw [mI_id (x := acc + cvP s p) (by omega) (by omega), mI_id (x := p + 1) (by omega) (by omega), y1, e, Int.add_assoc]
    exact ⟨h2, rfl, VQ_tr x2 y2⟩
theorem E_F_tests (hd : 70 ≤ d) (hQ : QS w h A) (hp : cPr w h A) (k q : Int) : ∃ h', mm_P d 184 [(2, 1), (0, k), (0, q)] w h = some ((0, fTests A k q), w, h') ∧ QS w h' A ∧ CN h h' := by
  obtain ⟨d, rfl, hd2⟩ := mm_dS hd; clear hd; have hd := hd2; clear hd2
  have hQ0 := hQ
  obtain ⟨hW, hK, hc, hF⟩ := hQ
  have w1 : (w.1 1).1 = 12 := by rw [hW.1.1]
  have w2 : (w.1 2).1 = 4 := by rw [hW.1.2.1]
  have w8 : (w.1 435).1 = 8 := by rw [hW.1.2.2.2.2.2.1]
  have k2 : h 1 2 = 435 := hK.1.2.2.1
  unfold fTests
  rw [P_F_tests, mF_t w1, E_programOf (by omega) hW hK hp, mC_s]
  by_cases c : 0 ≤ k ∧ k < gPn A
  rotate_left
  · rw [if_neg c, mEq_t rfl, iC_f (fun x => c x.1)]
    exact ⟨h, rfl, hQ0, CN_rf h⟩
  obtain ⟨pc, ok⟩ := hp.2.2 k c.1 c.2
  rw [if_pos c, mEq_f (by have := pc.1; omega)]
  by_cases c0 : 0 ≤ q
  rotate_left
  · rw [mLt_t (by omega), iC_f (fun x => c0 x.2.1)]
    exact ⟨h, rfl, hQ0, CN_rf h⟩
  rw [mLt_f c0]
  by_cases c3 : q ≤ 3
  rotate_left
  · rw [mLe_f (by omega), iC_f (fun x => c3 x.2.2)]
    exact ⟨h, rfl, hQ0, CN_rf h⟩
  rw [mLe_t c3, iC_t ⟨c, c0, c3⟩]
  simp only [mF_t w1]
  rw [hK.1.1, mF_t w2]
  obtain ⟨h1, a1, a2, a3, a4, a5, a6⟩ := E_draft (d := d) (by omega) hW hK hc
  have pc1 : PC w h1 (h 467 k) (gP A k) := PC_gr pc ⟨Int.le_refl _, fun a a0 _ => ⟨rfl, a6 a (by omega)⟩⟩
  have eE : EdH h1 := ⟨by rw [a6 420 (by omega)]; exact hK.2.2.1.1, by rw [a6 420 (by omega)]; exact hK.2.2.1.2.1⟩
  obtain ⟨h2, b1, b2, b3, b4, b5, b6⟩ := E_runOn (d := d) (by omega) hW a2 a3 a4.2.2.2.2.2.2.1 eE (by rw [a6 435 (by omega)]; exact hK.2.2.1.2.2.1) pc1 ok
  have o2 := XO_d a6 b5
  have K2 := HK_xo hK o2 b2.1 b3 b4
  have C2 := cHist_xo hc o2
  have e11 : h1 1 = h 1 := a6 1 (by omega)
  have e12 : h2 1 = h 1 := o2 1 (by omega) (by omega)
  have Q2 : QS w h2 A := ⟨hW, K2, C2, by
    rcases hF with x | ⟨x, y⟩
    · exact Or.inl (by rw [e12]; exact x)
    · exact Or.inr ⟨by rw [e12]; exact x, cVw_fr y (fun b x0 x1 => o2 b (by omega) (by omega))⟩⟩
  have N2 : CN h h2 := ⟨fun b x1 x2 x3 => o2 b x2 (by omega), fun i _ => by rw [e12]⟩
  rw [a1, mC_s]
  simp only [mF_t w1]
  rw [e11, k2, mF_t w8, b1, mC_s]
  by_cases q0 : q = 0
  · rw [mEq_t q0, if_pos q0]
    exact ⟨h2, rfl, Q2, N2⟩
  rw [mEq_f q0, if_neg q0]
  -- the sheet that is looked at
  have k5 : h 1 5 = 445 := hK.1.2.2.2.2.2.1
  have k3 : h 1 3 = 436 := hK.1.2.2.2.1
  have k6 : h 1 6 = 452 := HK_16 hK
  have wU : (w.1 445).1 = 11 := by rw [(WK_V2 hW).1]
  have key : ∀ (S v : Int) (s' : aS), sOk S → ShW w S → aI s' → RC w h2 S s' → ∃ h', (mEq q 2 (mF w S 9 none (mF w S 9 none (some ((0, mI ((mI (100 * (h2 S 0))) + (h2 S 1))), w, h2)))) (mEq q 3 (mF w (h2 1 5) 11 none (mC ((mm_P d) 123 [(2, h2 1 5), (2, S), (2, h2 1 3)] w h2) 9 none (fun v10 w11 h12 => mF w11 1 12 none (mF w11 (h12 1 5) 11 none (mC ((mm_P d) 135 [(2, h12 1 5)] w11 h12) 0 none (fun v13 w14 h15 => some ((0, v13), w14, h15))))))) (mK (l_F_tests_0 (mm_P d) 1 k q (h 467 k) 4 v S 0 0 w h2) none some (fun t16 L17 w18 h19 => if t16 = 146 then some ((0, (mP 7 L17)), w18, h19) else none)))) = (some ((0, tsS s' q), w, h') : Option mm_R) ∧ QS w h' A ∧ CN h h' := by
    intro S v s' hS hSW hI' hR'
    have wS : (w.1 S).1 = 9 := by rw [hSW.2.1]
    have i1 := hI'.1; have i2 := hI'.2.1
    unfold tsS
    by_cases q2 : q = 2
    · rw [mEq_t q2, if_pos q2, mF_t wS, mF_t wS, hR'.2.1.1, hR'.2.1.2.1, mI_id (x := 100 * aHi s') (by omega) (by omega), mI_id (by omega) (by omega)]
      exact ⟨h2, rfl, Q2, N2⟩
    rw [mEq_f q2, if_neg q2]
    by_cases q3 : q = 3
    · obtain ⟨h3, t1, t2, t3⟩ := E_take (d := d) (by omega) (WK_PW hW) hS (Or.inr rfl) (WK_V2 hW) hSW hI' (HK_V2 K2) hR' (HK_436 K2)
      have K3 := HK_vt (Or.inr rfl) K2 t2
      have C3 := cHist_vt (Or.inr rfl) C2 t2
      have e13 : h3 1 = h2 1 := t2.1 1 (by decide) (by decide) (by decide)
      obtain ⟨h4, u1, u2⟩ := E_vLooks (d := d) (by omega) (Or.inr rfl) (WK_V2 hW) (VT_VH t2 (HK_V2 K2)) hI' t3
      have e14 : h4 1 = h 1 := by rw [u2 1 (by decide), e13, e12]
      have all4 : ∀ b : Int, b ≠ 436 → b ≠ 437 → ¬ (445 ≤ b ∧ b < 452) → h4 b = h2 b := fun b x1 x2 x3 => by rw [u2 b (by omega), t2.1 b x1 x2 x3]
      have t4 : VT 445 h2 h4 := ⟨all4, by rw [u2 436 (by decide)]; exact t2.2.1, fun i hi => by rw [u2 445 (by decide)]; exact t2.2.2 i hi⟩
      rw [mEq_t q3, if_pos q3, e12, k5, k3, mF_t wU, t1, mC_s, mF_t w1, e13, e12, k5, mF_t wU, u1, mC_s]
      refine ⟨h4, rfl, ⟨hW, HK_vt (Or.inr rfl) K2 t4, cHist_vt (Or.inr rfl) C2 t4, ?_⟩, CN_tr N2 (CN_vt (Or.inr rfl) t4)⟩
      rcases Q2.2.2.2 with x | ⟨x, y⟩
      · exact Or.inl (by rw [e14, ← e12]; exact x)
      · exact Or.inr ⟨by rw [e14, ← e12]; exact x, cVw_fr y (fun b x0 x1 => all4 b (by omega) (by omega) (by omega))⟩
    · obtain ⟨h3, t1, t2⟩ := L_tst (d := d) (by omega) hW hS hSW hI' (k := k) (q := q) (a := h 467 k) (v := v) 4 0 0 h2 (by rw [e12]; exact k6) (HK_Vc K2) hR' (by decide) (by decide) (by decide) (by decide)
      obtain ⟨z1, z2⟩ := QS_cv Q2 t2
      have es : sumN (fun p => cvP s' p) 4 0 = cvP s' 0 + cvP s' 1 + cvP s' 2 + cvP s' 3 := by
        show cvP s' 0 + (cvP s' (0 + 1) + (cvP s' (0 + 1 + 1) + (cvP s' (0 + 1 + 1 + 1) + 0))) = _
        rw [show (0 : Int) + 1 = 1 by decide, show (1 : Int) + 1 = 2 by decide, show (2 : Int) + 1 = 3 by decide]
        omega
      rw [mEq_f q3, if_neg q3, t1, mK_r, if_pos rfl]
      simp only [mP_7]
      rw [Int.zero_add, es]
      exact ⟨h3, rfl, z1, CN_tr N2 z2⟩
  by_cases br : rsB (ruN (gP A k) (gNow A)) = 0
  · have ea : ruAn (gP A k) (gNow A) = rsT (ruN (gP A k) (gNow A)) := if_pos br
    have es : ruS (gP A k) (gNow A) = rsS (ruN (gP A k) (gNow A)) := if_pos br
    rw [ea, es, mLe_t b6.2.1.1]
    simp only [mF_t w1]
    exact key 4 _ _ (Or.inl (by decide)) (W4 hW) b6.1 b2
  · have ea : ruAn (gP A k) (gNow A) = -100 - rsT (ruN (gP A k) (gNow A)) := if_neg br
    have es : ruS (gP A k) (gNow A) = gNow A := if_neg br
    have := b6.2.1
    obtain ⟨n1, n2, n3⟩ := Q_now Q2
    rw [ea, es, mLe_f (by omega), E_now (by omega) hW K2 C2, mC_s]
    simp only [mF_t w1]
    exact key _ _ _ gAt_ok n1 n3 n2
end PU
