/-! PURE: a rule is put in, on both sides. -/
def okRule (s : aS) (r n pv st : Int) : Prop := (0 ≤ r ∧ r ≤ aN s) ∧ isRect (aHi s) (aWi s) n ∧ (0 ≤ pv ∧ pv < 40) ∧ (st = 0 ∨ st = 1)
def F_rule (s : aS) (r n pv st : Int) (T : Term) : aS := F_put s r (n / 1000000) (n / 10000 % 100) (n / 100 % 100) (n % 100) (pv / 10) (pv % 10) st T
section PU
variable {d : Nat} {w w' : mm_W} {h h' : mm_H} {A : aG} {B : Int → Int} {n : Int} {s : aS}
theorem HK_rd (hK : HK h) (e : ∀ b : Int, b < 506 → b ≠ 461 → b ≠ 463 → b ≠ 464 → b ≠ 465 → h' b = h b) (e1 : h' 461 0 = 462) (e2 : h' 463 0 = 461 ∧ h' 463 1 = 464) (e3 : h' 465 0 = 461 ∧ h' 465 1 = 466) : HK h' := by
  obtain ⟨k1, k2, k3, k4, k5, k6, k7, k8⟩ := hK
  have sh : ∀ S : Int, S + 13 ≤ 461 ∨ (466 ≤ S ∧ S + 13 ≤ 506) → ShH h S → ShH h' S := fun S z q => ShH_fr q (fun i _ _ => by rw [e S (by omega) (by omega) (by omega) (by omega) (by omega)]) (e _ (by omega) (by omega) (by omega) (by omega) (by omega))
  refine ⟨by rw [e 1 (by decide) (by decide) (by decide) (by decide) (by decide)]; exact k1, by rw [e 2 (by decide) (by decide) (by decide) (by decide) (by decide), e 3 (by decide) (by decide) (by decide) (by decide) (by decide)]; exact k2, by rw [e 420 (by decide) (by decide) (by decide) (by decide) (by decide), e 435 (by decide) (by decide) (by decide) (by decide) (by decide), e 436 (by decide) (by decide) (by decide) (by decide) (by decide)]; exact k3, by rw [e 438 (by decide) (by decide) (by decide) (by decide) (by decide), e 445 (by decide) (by decide) (by decide) (by decide) (by decide), e 452 (by decide) (by decide) (by decide) (by decide) (by decide)]; exact k4, ⟨e1, e2.1, e2.2, e3⟩, fun k k0 k1 => sh _ (by omega) (k6 k k0 k1), sh _ (by decide) k7, sh _ (by decide) k8⟩
theorem HK_CH (hK : HK h) (hS : SW w h) : CH w h := ⟨hK.2.2.2.2.1.2.1, hK.2.2.2.2.1.2.2.1, hS⟩
theorem cHist_gr (hc : cHist w h A) (hs : CS w w' h h') (hfr : ∀ b : Int, 17 ≤ b → b < 420 → h' b = h b) (e2 : h' 2 = h 2) : cHist w' h' A := by
  obtain ⟨c1, c2, c3, c4, c5⟩ := hc
  refine ⟨by rw [e2]; exact c1, by rw [e2]; exact c2, by rw [e2]; exact c3, c4, fun k k0 k1 => ?_⟩
  obtain ⟨q1, q2⟩ := c5 k k0 k1
  have hin := gAt_in (base := h 2 2) (k := k)
  rw [e2]
  exact ⟨RC_fr q1 q2 hs (fun b b0 b1 => hfr b (by omega) (by omega)), q2⟩
theorem TB_0 (hT : TB h B n) (e0 : h' 461 0 = h 461 0) (e1 : h' 461 1 = 0) (e2 : h' 462 = h 462) : TB h' B 0 := by
  obtain ⟨t1, t2, t3, t4, t5, t6⟩ := hT
  exact ⟨by rw [e0]; exact t1, e1, by decide, fun j j0 j1 => by omega, fun j j0 j1 => by omega, by rw [e2]; exact t6⟩
theorem E_F_rule (hd : 400 ≤ d) (hW : WK w) (hK : HK h) (hS : SW w h) (hc : cHist w h A) (hT : TB h B n) (r pv st : Int) {m : Int} (hm : m < 2147483648) :
    (¬ okRule (gNow A) r m pv st ∧ ∃ h', mm_P d 150 [(2, 1), (0, r), (0, m), (0, pv), (0, st)] w h = some ((0, -2), w, h') ∧ cSame w h h' A) ∨
    ((okRule (gNow A) r m pv st ∧ aN (gNow A) = 6) ∧ ∃ h', mm_P d 150 [(2, 1), (0, r), (0, m), (0, pv), (0, st)] w h = some ((0, -4), w, h') ∧ cSame w h h' A) ∨
    ((okRule (gNow A) r m pv st ∧ aN (gNow A) < 6) ∧
      (∀ f, RWF w B n f → ∃ h', mm_P d 150 [(2, 1), (0, r), (0, m), (0, pv), (0, st)] w h = some ((0, mI (-100 - f)), w, h') ∧ cHist w h' A ∧ HK h' ∧ TB h' B 0 ∧ ∀ b : Int, ¬ (4 ≤ b ∧ b < 17) → b ≠ 461 → b ≠ 463 → b ≠ 464 → h' b = h b) ∧
      ∀ T, okT T → lenC T ≤ 400 → RWT w B n T → ∃ (w' : mm_W) (h' : mm_H), mm_P d 150 [(2, 1), (0, r), (0, m), (0, pv), (0, st)] w h = some ((0, aN (gNow A) + 1), w', h') ∧ GW w w' h h' ∧ (w'.2.1 = w.2.1 + 1 ∧ w'.2.2 ≤ w.2.2 + 400) ∧ cHist w' h' (gAcc A (F_rule (gNow A) r m pv st T)) ∧ HK h' ∧ TB h' B 0 ∧ h' 1 15 = 1 ∧ (∀ i : Int, i ≠ 15 → h' 1 i = h 1 i) ∧ ∀ b : Int, b ≠ 1 → b ≠ 2 → ¬ (4 ≤ b ∧ b < 420) → ¬ (421 ≤ b ∧ b < 435) → b ≠ 461 → b ≠ 463 → b ≠ 464 → b < 506 → h' b = h b) := by
  obtain ⟨d, rfl, hd2⟩ := mm_dS (show 399 + 1 ≤ d by omega)
  have w1 : (w.1 1).1 = 12 := by rw [hW.1.1]
  have w2 : (w.1 2).1 = 4 := by rw [hW.1.2.1]
  have W4' := W4 hW
  have w4 : (w.1 4).1 = 9 := by rw [W4'.2.1]
  have hCW := WK_CW hW
  have h506 : 506 ≤ w.2.1 := hW.2.2.2.2.2.2.2.2.2
  have w463 : (w.1 463).1 = 1 := by rw [hCW.2.1]
  have w461 : (w.1 461).1 = 10 := by rw [hCW.1.1]
  obtain ⟨h1, a1, a2, a3, a4, a5, a6⟩ := E_draft (d := d) (by omega) hW hK hc
  have i3 := a3.2.2.1
  have e42 : h1 4 2 = aN (gNow A) := a2.2.1.2.2
  have same : cSame w h h1 A := cSame_ed hK hc a6 a2.1 rfl
  have k8 : h1 1 8 = 463 := a4.1.2.2.2.2.2.2.2.2.1
  have k7 : h1 1 7 = 461 := a4.1.2.2.2.2.2.2.2.1
  unfold okRule
  rw [P_F_rule]
  simp only [mF_t w1, hK.1.1, mF_t w2]
  rw [a1, mC_s]
  by_cases c0 : 0 ≤ r ∧ r ≤ aN (gNow A)
  rotate_left
  · refine Or.inl ⟨fun x => c0 x.1, h1, ?_, same⟩
    by_cases c : r < 0
    · rw [mLt_t c]
    · rw [mLt_f (by omega), mF_t w4, e42, mLt_t (by omega)]
  rw [mLt_f c0.1, mF_t w4, e42, mLt_f c0.2, mF_t w4, E_hasRect (by omega) W4' hm, mC_s, a2.2.1.1, a2.2.1.2.1]
  by_cases c1 : isRect (aHi (gNow A)) (aWi (gNow A)) m
  rotate_left
  · exact Or.inl ⟨fun x => c1 x.2.1, h1, by rw [bI_f c1, mEq_t rfl], same⟩
  rw [bI_t c1, mEq_f (by decide)]
  by_cases c2 : 0 ≤ pv ∧ pv < 40
  rotate_left
  · refine Or.inl ⟨fun x => c2 x.2.2.1, h1, ?_, same⟩
    by_cases c : pv < 0
    · rw [mLt_t c]
    · rw [mLt_f (by omega), mLe_t (by omega)]
  rw [mLt_f c2.1, mLe_f c2.2, E_isFlag (by omega), mC_s]
  by_cases c3 : st = 0 ∨ st = 1
  rotate_left
  · exact Or.inl ⟨fun x => c3 x.2.2.2, h1, by rw [bI_f c3, mEq_t rfl], same⟩
  rw [bI_t c3, mEq_f (by decide), mF_t w4, e42]
  by_cases c4 : aN (gNow A) < 6
  rotate_left
  · exact Or.inr (Or.inl ⟨⟨⟨c0, c1, c2, c3⟩, by omega⟩, h1, by rw [mLt_f (by omega)], same⟩)
  refine Or.inr (Or.inr ⟨⟨⟨c0, c1, c2, c3⟩, c4⟩, ?_, ?_⟩)
  · intro f hf
    have T1 : TB h1 B n := TB_fr hT (a6 461 (by omega)) (a6 462 (by omega))
    have H1 : CH w h1 := HK_CH a4 (SW_fr hS (fun b hb => a6 b (by omega)))
    obtain ⟨h2, b1, b2, b3, b4, b5⟩ := hf d h1 (by omega) T1 H1
    rw [mLt_t c4, mF_t w1, k8, mF_t w463, b1, mC_s, mF_t w1]
    have e1 : h2 1 = h1 1 := b2.1 1 (by decide) (by decide) (by decide)
    rw [e1, k7, mF_t w461]
    try dsimp only
    obtain ⟨d, rfl, hd3⟩ := mm_dS (show 398 + 1 ≤ d by omega)
    rw [b4, mF_t w1, mF_t w461, P_Ta_clear, mF_t w461, mC_s, mEq_f b5]
    have u : ∀ b : Int, b ≠ 461 → mUp h2 461 1 0 b = h2 b := fun b hb => mUp_row hb
    refine ⟨_, rfl, ?_, ?_, ?_, fun b x1 x2 x3 x4 => by rw [u b x2, b2.1 b x2 x3 x4, a6 b x1]⟩
    · exact cHist_gr a5 ⟨Int.le_refl _, fun a a0 _ => ⟨rfl, by rw [u a (by omega), b2.1 a (by omega) (by omega) (by omega)]⟩⟩ (fun b b0 b1 => by rw [u b (by omega), b2.1 b (by omega) (by omega) (by omega)]) (by rw [u 2 (by decide), b2.1 2 (by decide) (by decide) (by decide)])
    · refine HK_rd a4 (fun b b0 x1 x2 x3 _ => by rw [u b x1, b2.1 b x1 x2 x3]) (by rw [mUp_n (Or.inr (by decide)), b2.2.1.1]; exact T1.1) ?_ ?_
      · rw [u 463 (by decide), b2.2.2.1, b2.2.2.2]; exact ⟨H1.1, H1.2.1⟩
      · rw [u 465 (by decide), b2.1 465 (by decide) (by decide) (by decide)]; exact ⟨a4.2.2.2.2.1.2.2.2.1, a4.2.2.2.2.1.2.2.2.2⟩
    · exact TB_0 b3 (mUp_n (Or.inr (by decide))) mUp_s (u 462 (by decide))
  · intro T hT1 hT2 hf
    have T1 : TB h1 B n := TB_fr hT (a6 461 (by omega)) (a6 462 (by omega))
    have H1 : CH w h1 := HK_CH a4 (SW_fr hS (fun b hb => a6 b (by omega)))
    obtain ⟨h2, b1, b2, b3, b4, b5, b6⟩ := hf d h1 (by omega) T1 H1
    obtain ⟨n1, n2, n3, n4⟩ := mNew_up (w := w) ((lenC T : Nat) : Int) 50
    generalize hw' : mNew w 50 ((lenC T : Nat) : Int) = w' at b1 b3 n1 n2 n3 n4
    have W' : WK w' := WK_up hW (fun b hb => n1 b (by omega)) (by omega)
    have w1' : (w'.1 1).1 = 12 := by rw [W'.1.1]
    have w461' : (w'.1 461).1 = 10 := by rw [(WK_CW W').1.1]
    have w4'' : (w'.1 4).1 = 9 := by rw [(W4 W').2.1]
    rw [mLt_t c4, mF_t w1, k8, mF_t w463, b1, mC_s, mF_t w1']
    have e1 : h2 1 = h1 1 := b2 1 (by decide) (by decide) (by decide) (by omega)
    rw [e1, k7, mF_t w461']
    try dsimp only
    obtain ⟨d, rfl, hd3⟩ := mm_dS (show 398 + 1 ≤ d by omega)
    rw [b5, mF_t w1', mF_t w461', P_Ta_clear, mF_t w461', mC_s, mEq_t rfl, mF_t w4'']
    obtain ⟨h3, hh3⟩ : ∃ h3, h3 = mUp h2 461 1 0 := ⟨_, rfl⟩
    have u : ∀ b : Int, b ≠ 461 → h3 b = h2 b := fun b hb => by rw [hh3]; exact mUp_row hb
    have fr : ∀ b : Int, b ≠ 461 → b ≠ 463 → b ≠ 464 → b ≠ w.2.1 → h3 b = h1 b := fun b x1 x2 x3 x4 => by rw [u b x1, b2 b x1 x2 x3 x4]
    have g1 : GW w w' h1 h3 := ⟨n1, by omega, fun a a0 a1 => ⟨n1 a a1, fr a (by omega) (by omega) (by omega) (by omega)⟩⟩
    have R3 : RC w' h3 4 (gNow A) := RC_fr a2 a3 g1.2 (fun b b0 b1 => fr b (by omega) (by omega) (by omega) (by omega))
    have C3 : cHist w' h3 A := cHist_gr a5 g1.2 (fun b b0 b1 => fr b (by omega) (by omega) (by omega) (by omega)) (fr 2 (by decide) (by decide) (by decide) (by omega))
    have K3 : HK h3 := by
      refine HK_rd a4 (fun b b0 x1 x2 x3 _ => fr b x1 x2 x3 (by omega)) (by rw [hh3, mUp_n (Or.inr (by decide))]; exact b4.1) ?_ ?_
      · rw [u 463 (by decide)]; exact ⟨b3.1, b3.2.1⟩
      · rw [fr 465 (by decide) (by decide) (by decide) (by omega)]; exact ⟨a4.2.2.2.2.1.2.2.2.1, a4.2.2.2.2.1.2.2.2.2⟩
    have CC3 : CC w' h3 w.2.1 T := ⟨h506, by omega, n2, fun i hi => by
      have hl := compC_len T 0
      have := b6 i (by omega)
      rw [show ((0 : Nat) : Int) + (i : Int) = (i : Int) by omega] at this
      rw [u _ (by omega), this]⟩
    obtain ⟨h4, p1, p2, p3⟩ := E_putRule (d := d + 1) (by omega) (W4 W') a3 R3 (st := st) c0 c4 ⟨c1.1, hm⟩ c2 CC3
    have S4 : ShH h4 421 := ShH_fr K3.2.2.2.2.2.2.1 (fun i _ _ => by rw [p3 421 (by decide) (by decide) (by decide)]) (p3 _ (by decide) (by decide) (by decide))
    have hr := c1
    unfold isRect at hr
    have I4 : aI (F_rule (gNow A) r m pv st T) := aI_put a3 c0 c4 (by omega) (by omega) (by omega) (by omega) c3 hT1
    obtain ⟨h5, s1, s2⟩ := E_settle (d := d + 1) (by omega) W' K3 C3 (fun b x y => p3 b (by omega) (by omega) (by omega)) p2 S4 I4 (a := aN (gNow A) + 1) (by omega)
    rw [← hh3, p1, mC_s, mF_t w1', s1, mC_s]
    obtain ⟨y1, y2, y3, y4, y5⟩ := s2
    refine ⟨w', h5, rfl, ?_, ⟨n3, by rw [n4]; omega⟩, y1, y2, ?_, y3, fun i hi => ?_, fun b x1 x2 x3 x4 x5 x6 x7 x8 => ?_⟩
    · refine GW_tr (GW_s (fun b b0 => a6 b (by omega))) (GW_h g1 (fun b b0 => y5 b (by omega) (by omega) (by omega) (by omega)))
    · refine TB_0 b4 ?_ ?_ ?_
      · rw [y5 461 (by decide) (by decide) (by decide) (by decide), hh3, mUp_n (Or.inr (by decide))]
      · rw [y5 461 (by decide) (by decide) (by decide) (by decide), hh3, mUp_s]
      · rw [y5 462 (by decide) (by decide) (by decide) (by decide), u 462 (by decide)]
    · rw [y4 i hi, fr 1 (by decide) (by decide) (by decide) (by omega), a6 1 (by omega)]
    · rw [y5 b x1 x2 x3 x4, fr b x5 x6 x7 (by omega), a6 b (by omega)]
end PU
