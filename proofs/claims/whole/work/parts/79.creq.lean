/-! PURE: the class's requests. -/
/-- nothing that is told has changed -/
def cSame (w : mm_W) (h h' : mm_H) (A : aG) : Prop := cHist w h' A ∧ HK h' ∧ ∀ b : Int, ¬ (4 ≤ b ∧ b < 17) → ¬ (421 ≤ b ∧ b < 435) → h' b = h b
/-- a request was told: the sheet is s' now -/
def cDone (w : mm_W) (h h' : mm_H) (A : aG) (s' : aS) : Prop := cHist w h' (gAcc A s') ∧ HK h' ∧ h' 1 15 = 1 ∧ (∀ i : Int, i ≠ 15 → h' 1 i = h 1 i) ∧ ∀ b : Int, b ≠ 1 → b ≠ 2 → ¬ (4 ≤ b ∧ b < 420) → ¬ (421 ≤ b ∧ b < 435) → h' b = h b
section PU
variable {d : Nat} {w : mm_W} {h : mm_H} {s : aS} {A : aG}
theorem cHist_fr {h' : mm_H} (hc : cHist w h A) (hfr : ∀ b : Int, ¬ (4 ≤ b ∧ b < 17) → ¬ (421 ≤ b ∧ b < 435) → h' b = h b) : cHist w h' A := by
  obtain ⟨c1, c2, c3, c4, c5⟩ := hc
  have e2 : h' 2 = h 2 := hfr 2 (by omega) (by omega)
  refine ⟨by rw [e2]; exact c1, by rw [e2]; exact c2, by rw [e2]; exact c3, c4, fun k k0 k1 => ?_⟩
  obtain ⟨q1, q2⟩ := c5 k k0 k1
  have hin := gAt_in (base := h 2 2) (k := k)
  rw [e2]
  exact ⟨RC_fr q1 q2 ⟨Int.le_refl _, fun a a0 _ => ⟨rfl, hfr a (by omega) (by omega)⟩⟩ (fun b b0 b1 => hfr b (by omega) (by omega)), q2⟩
theorem HK_ed {h' : mm_H} (hK : HK h) (hfr : ∀ b : Int, ¬ (4 ≤ b ∧ b < 17) → ¬ (421 ≤ b ∧ b < 435) → h' b = h b) (h4 : ShH h' 4) (h421 : ShH h' 421) : HK h' := by
  refine HK_fr hK (fun b i hb => by rw [hfr b (by unfold kSl at hb; omega) (by unfold kSl at hb; omega)]) (fun k k0 k1 => ?_) h421 (ShH_fr hK.2.2.2.2.2.2.2 (fun i _ _ => by rw [hfr 470 (by omega) (by omega)]) (hfr _ (by omega) (by omega)))
  by_cases c : k = 0
  · rw [c]; exact h4
  · exact ShH_fr (hK.2.2.2.2.2.1 k k0 k1) (fun i _ _ => by rw [hfr _ (by omega) (by omega)]) (hfr _ (by omega) (by omega))
theorem E_draft (hd : 4 ≤ d) (hW : WK w) (hK : HK h) (hc : cHist w h A) : ∃ h', mm_P d 46 [(2, 2)] w h = some ((2, 4), w, h') ∧ RC w h' 4 (gNow A) ∧ aI (gNow A) ∧ HK h' ∧ cHist w h' A ∧ ∀ b : Int, ¬ (4 ≤ b ∧ b < 17) → h' b = h b := by
  obtain ⟨h', g1, g2, g3⟩ := E_draftOfNow hd hW hK hc
  have fr : ∀ b : Int, ¬ (4 ≤ b ∧ b < 17) → ¬ (421 ≤ b ∧ b < 435) → h' b = h b := fun b x _ => g3 b x
  have hI : aI (gNow A) := (hc.2.2.2.2 (gD A) hc.2.2.2.1.1 (by have := hc.2.2.2.1; omega)).2
  exact ⟨h', g1, g2, hI, HK_ed hK fr g2.1 (ShH_fr hK.2.2.2.2.2.2.1 (fun i _ _ => by rw [g3 421 (by omega)]) (g3 _ (by omega))), cHist_fr hc fr, g3⟩
theorem E_settle0 (hd : 1 ≤ d) {a : Int} (ha : a < 0) : mm_P d 190 [(2, 1), (0, a)] w h = some ((0, a), w, h) := by
  obtain ⟨d, rfl, hd2⟩ := mm_dS hd; clear hd
  rw [P_F_settle, mLt_t ha]
theorem E_settle (hd : 5 ≤ d) (hW : WK w) (hK : HK h) (hc : cHist w h A) {h1 : mm_H} {s' : aS} (hfr : ∀ b : Int, ¬ (4 ≤ b ∧ b < 17) → ¬ (421 ≤ b ∧ b < 435) → h1 b = h b) (hR : RC w h1 4 s') (h421 : ShH h1 421) (hI : aI s') {a : Int} (ha : 0 ≤ a) : ∃ h', mm_P d 190 [(2, 1), (0, a)] w h1 = some ((0, a), w, h') ∧ cDone w h h' A s' := by
  obtain ⟨d, rfl, hd2⟩ := mm_dS hd; clear hd; have hd := hd2; clear hd2
  have w1 : (w.1 1).1 = 12 := by rw [hW.1.1]
  have w2 : (w.1 2).1 = 4 := by rw [hW.1.2.1]
  have hK1 := HK_ed hK hfr hR.1 h421
  have hc1 := cHist_fr hc hfr
  obtain ⟨h2, g1, g2, g3, g4, g5⟩ := E_acceptDraft (d := d) (by omega) hW hK1 hc1 hR hI
  have x0 : h1 1 0 = 2 := hK1.1.1
  rw [P_F_settle, mLt_f ha, mF_t w1, x0, mF_t w2, g1, mC_s, mZ_1, mF_t w1]
  try dsimp only
  have K2 : HK h2 := HK_fr hK1 (fun b i hb => by
    by_cases e : b = 2
    · subst e
      exact g4 i (by unfold kSl at hb; omega)
    · rw [g3 b (by unfold kSl at hb; omega)]) g5 (ShH_fr h421 (fun i _ _ => by rw [g3 421 (by omega)]) (g3 _ (by omega))) (ShH_fr hK1.2.2.2.2.2.2.2 (fun i _ _ => by rw [g3 470 (by omega)]) (g3 _ (by omega)))
  have u : ∀ b : Int, b ≠ 1 → mUp h2 1 15 1 b = h2 b := fun b hb => mUp_row hb
  refine ⟨mUp h2 1 15 1, rfl, ?_, ?_, mUp_s, fun i hi => ?_, fun b b1 b2 b3 b4 => ?_⟩
  · obtain ⟨c1, c2, c3, c4, c5⟩ := g2
    refine ⟨by rw [u 2 (by decide)]; exact c1, by rw [u 2 (by decide)]; exact c2, by rw [u 2 (by decide)]; exact c3, c4, fun k k0 k1 => ?_⟩
    obtain ⟨q1, q2⟩ := c5 k k0 k1
    have hin := gAt_in (base := h2 2 2) (k := k)
    rw [u 2 (by decide)]
    exact ⟨RC_fr q1 q2 ⟨Int.le_refl _, fun a a0 _ => ⟨rfl, u a (by omega)⟩⟩ (fun b b0 b1 => u b (by omega)), q2⟩
  · refine HK_fr K2 (fun b i hb => ?_) (fun k k0 k1 => ShH_fr (K2.2.2.2.2.2.1 k k0 k1) (fun i _ _ => by rw [u _ (by omega)]) (u _ (by omega))) (ShH_fr K2.2.2.2.2.2.2.1 (fun i _ _ => by rw [u _ (by omega)]) (u _ (by omega))) (ShH_fr K2.2.2.2.2.2.2.2 (fun i _ _ => by rw [u _ (by omega)]) (u _ (by omega)))
    exact mUp_n (by unfold kSl at hb; omega)
  · rw [mUp_n (Or.inr hi), g3 1 (by omega), hfr 1 (by omega) (by omega)]
  · rw [u b b1, g3 b (by omega), hfr b (by omega) b4]
theorem W4 (hW : WK w) : ShW w 4 := hW.2.2.2.2.2.2.1 0 (by decide) (by decide)
theorem W421 (hW : WK w) : ShW w 421 := hW.2.2.2.2.2.2.2.1
theorem cSame_ed {h1 h2 : mm_H} (hK : HK h) (hc : cHist w h A) (hfr : ∀ b : Int, ¬ (4 ≤ b ∧ b < 17) → h1 b = h b) (h4 : ShH h1 4) (e : h2 = h1) : cSame w h h2 A := by
  subst e
  have fr : ∀ b : Int, ¬ (4 ≤ b ∧ b < 17) → ¬ (421 ≤ b ∧ b < 435) → h2 b = h b := fun b x _ => hfr b x
  exact ⟨cHist_fr hc fr, HK_ed hK fr h4 (ShH_fr hK.2.2.2.2.2.2.1 (fun i _ _ => by rw [hfr 421 (by omega)]) (hfr _ (by omega))), fr⟩
theorem E_F_paint (hd : 6 ≤ d) (hW : WK w) (hK : HK h) (hc : cHist w h A) (p v : Int) {n : Int} (hn : n < 2147483648) : (¬ okPaint (gNow A) p v n ∧ ∃ h', mm_P d 140 [(2, 1), (0, p), (0, v), (0, n)] w h = some ((0, -2), w, h') ∧ cSame w h h' A) ∨ (okPaint (gNow A) p v n ∧ ∃ h', mm_P d 140 [(2, 1), (0, p), (0, v), (0, n)] w h = some ((0, 1), w, h') ∧ cDone w h h' A (F_paint (gNow A) p v (n / 1000000) (n / 10000 % 100) (n / 100 % 100) (n % 100))) := by
  obtain ⟨d, rfl, hd2⟩ := mm_dS hd; clear hd; have hd := hd2; clear hd2
  have w1 : (w.1 1).1 = 12 := by rw [hW.1.1]
  have w2 : (w.1 2).1 = 4 := by rw [hW.1.2.1]
  have w420 : (w.1 420).1 = 3 := by rw [hW.1.2.2.2.1]
  obtain ⟨h1, a1, a2, a3, a4, a5, a6⟩ := E_draft (d := d) (by omega) hW hK hc
  rw [P_F_paint]
  simp only [mF_t w1, hK.1.1, hK.1.2.1, mF_t w2]
  rw [a1, mC_s, mF_t w420]
  rcases E_paintRect (d := d) (by omega) 420 (W4 hW) (by decide) a3 a2 p v hn with ⟨z, h2, b1, b2, b3⟩ | ⟨z, b1⟩
  · have S421 : ShH h2 421 := ShH_fr a4.2.2.2.2.2.2.1 (fun i _ _ => by rw [b3 421 (by decide)]) (b3 _ (by decide))
    obtain ⟨h', g1, g2⟩ := E_settle (d := d) (by omega) hW hK hc (fun b x y => by rw [b3 b (by omega), a6 b x]) b2 S421 (aI_paint a3 z.2.1) (a := 1) (by decide)
    rw [b1, mC_s, mF_t w1, g1, mC_s]
    exact Or.inr ⟨z, h', rfl, g2⟩
  · rw [b1, mC_s, mF_t w1, E_settle0 (by omega) (by decide), mC_s]
    exact Or.inl ⟨z, h1, rfl, cSame_ed hK hc a6 a2.1 rfl⟩
theorem E_F_lines (hd : 6 ≤ d) (hW : WK w) (hK : HK h) (hc : cHist w h A) (y p v : Int) {n : Int} (hn : n < 2147483648) : (¬ okLines (gNow A) y p v n ∧ ∃ h', mm_P d 141 [(2, 1), (0, y), (0, p), (0, v), (0, n)] w h = some ((0, -2), w, h') ∧ cSame w h h' A) ∨ (okLines (gNow A) y p v n ∧ ∃ h', mm_P d 141 [(2, 1), (0, y), (0, p), (0, v), (0, n)] w h = some ((0, 1), w, h') ∧ cDone w h h' A (F_lines (gNow A) y p v (n / 100) (n % 100))) := by
  obtain ⟨d, rfl, hd2⟩ := mm_dS hd; clear hd; have hd := hd2; clear hd2
  have w1 : (w.1 1).1 = 12 := by rw [hW.1.1]
  have w2 : (w.1 2).1 = 4 := by rw [hW.1.2.1]
  have w420 : (w.1 420).1 = 3 := by rw [hW.1.2.2.2.1]
  obtain ⟨h1, a1, a2, a3, a4, a5, a6⟩ := E_draft (d := d) (by omega) hW hK hc
  rw [P_F_lines]
  simp only [mF_t w1, hK.1.1, hK.1.2.1, mF_t w2]
  rw [a1, mC_s, mF_t w420]
  rcases E_setLines (d := d) (by omega) 420 (W4 hW) (by decide) a3 a2 y p v hn with ⟨z, h2, b1, b2, b3⟩ | ⟨z, b1⟩
  · have S421 : ShH h2 421 := ShH_fr a4.2.2.2.2.2.2.1 (fun i _ _ => by rw [b3 421 (by decide)]) (b3 _ (by decide))
    obtain ⟨h', g1, g2⟩ := E_settle (d := d) (by omega) hW hK hc (fun b x y => by rw [b3 b (by omega), a6 b x]) b2 S421 (aI_lines a3 z.2.2.1) (a := 1) (by decide)
    rw [b1, mC_s, mF_t w1, g1, mC_s]
    exact Or.inr ⟨z, h', rfl, g2⟩
  · rw [b1, mC_s, mF_t w1, E_settle0 (by omega) (by decide), mC_s]
    exact Or.inl ⟨z, h1, rfl, cSame_ed hK hc a6 a2.1 rfl⟩
theorem E_F_ground (hd : 6 ≤ d) (hW : WK w) (hK : HK h) (hc : cHist w h A) (p v : Int) : (¬ ((0 ≤ p ∧ p < 4) ∧ (0 ≤ v ∧ v ≤ 9)) ∧ ∃ h', mm_P d 142 [(2, 1), (0, p), (0, v)] w h = some ((0, -2), w, h') ∧ cSame w h h' A) ∨ (((0 ≤ p ∧ p < 4) ∧ (0 ≤ v ∧ v ≤ 9)) ∧ ∃ h', mm_P d 142 [(2, 1), (0, p), (0, v)] w h = some ((0, 1), w, h') ∧ cDone w h h' A (F_ground (gNow A) p v)) := by
  obtain ⟨d, rfl, hd2⟩ := mm_dS hd; clear hd; have hd := hd2; clear hd2
  have w1 : (w.1 1).1 = 12 := by rw [hW.1.1]
  have w2 : (w.1 2).1 = 4 := by rw [hW.1.2.1]
  have w420 : (w.1 420).1 = 3 := by rw [hW.1.2.2.2.1]
  obtain ⟨h1, a1, a2, a3, a4, a5, a6⟩ := E_draft (d := d) (by omega) hW hK hc
  rw [P_F_ground]
  simp only [mF_t w1, hK.1.1, hK.1.2.1, mF_t w2]
  rw [a1, mC_s, mF_t w420]
  rcases E_setGround (d := d) (by omega) 420 (W4 hW) (by decide) a3 a2 p v with ⟨z, h2, b1, b2, b3⟩ | ⟨z, b1⟩
  · have S421 : ShH h2 421 := ShH_fr a4.2.2.2.2.2.2.1 (fun i _ _ => by rw [b3 421 (by decide)]) (b3 _ (by decide))
    obtain ⟨h', g1, g2⟩ := E_settle (d := d) (by omega) hW hK hc (fun b x y => by rw [b3 b (by omega), a6 b x]) b2 S421 (aI_ground a3 z.2) (a := 1) (by decide)
    rw [b1, mC_s, mF_t w1, g1, mC_s]
    exact Or.inr ⟨z, h', rfl, g2⟩
  · rw [b1, mC_s, mF_t w1, E_settle0 (by omega) (by decide), mC_s]
    exact Or.inl ⟨z, h1, rfl, cSame_ed hK hc a6 a2.1 rfl⟩
theorem E_F_value (hd : 6 ≤ d) (hW : WK w) (hK : HK h) (hc : cHist w h A) (v : Int) {n : Int} (hn : n < 2147483648) : (¬ (isCell (aHi (gNow A)) (aWi (gNow A)) n ∧ (-999 ≤ v ∧ v ≤ 999)) ∧ ∃ h', mm_P d 143 [(2, 1), (0, n), (0, v)] w h = some ((0, -2), w, h') ∧ cSame w h h' A) ∨ ((isCell (aHi (gNow A)) (aWi (gNow A)) n ∧ (-999 ≤ v ∧ v ≤ 999)) ∧ ∃ h', mm_P d 143 [(2, 1), (0, n), (0, v)] w h = some ((0, 1), w, h') ∧ cDone w h h' A (F_value (gNow A) (n / 100) (n % 100) v)) := by
  obtain ⟨d, rfl, hd2⟩ := mm_dS hd; clear hd; have hd := hd2; clear hd2
  have w1 : (w.1 1).1 = 12 := by rw [hW.1.1]
  have w2 : (w.1 2).1 = 4 := by rw [hW.1.2.1]
  have w420 : (w.1 420).1 = 3 := by rw [hW.1.2.2.2.1]
  obtain ⟨h1, a1, a2, a3, a4, a5, a6⟩ := E_draft (d := d) (by omega) hW hK hc
  rw [P_F_value]
  simp only [mF_t w1, hK.1.1, hK.1.2.1, mF_t w2]
  rw [a1, mC_s, mF_t w420]
  rcases E_setValue (d := d) (by omega) 420 (W4 hW) (by decide) a3 a2 v hn with ⟨z, h2, b1, b2, b3⟩ | ⟨z, b1⟩
  · have S421 : ShH h2 421 := ShH_fr a4.2.2.2.2.2.2.1 (fun i _ _ => by rw [b3 421 (by decide)]) (b3 _ (by decide))
    obtain ⟨h', g1, g2⟩ := E_settle (d := d) (by omega) hW hK hc (fun b x y => by rw [b3 b (by omega), a6 b x]) b2 S421 (aI_value a3 z.2) (a := 1) (by decide)
    rw [b1, mC_s, mF_t w1, g1, mC_s]
    exact Or.inr ⟨z, h', rfl, g2⟩
  · rw [b1, mC_s, mF_t w1, E_settle0 (by omega) (by decide), mC_s]
    exact Or.inl ⟨z, h1, rfl, cSame_ed hK hc a6 a2.1 rfl⟩
end PU
