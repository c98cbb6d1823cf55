/-! PURE: a rule put in keeps the sheet; counts. -/
theorem aI_put {s : aS} {r t l b q p v st : Int} {T : Term} (hI : aI s) (hr : 0 ≤ r ∧ r ≤ aN s) (h6 : aN s < 6) (h1 : 0 ≤ t ∧ t ≤ b ∧ b < aHi s) (h2 : 0 ≤ l ∧ l ≤ q ∧ q < aWi s) (h3 : 0 ≤ p ∧ p < 4) (h4 : 0 ≤ v ∧ v ≤ 9) (h5 : st = 0 ∨ st = 1) (hT : okT T) : aI (F_put s r t l b q p v st T) := by
  have hn := hI.2.2.1
  refine ⟨hI.1, hI.2.1, by show 0 ≤ aN s + 1 ∧ aN s + 1 ≤ 6; omega, hI.2.2.2.1, hI.2.2.2.2.1, hI.2.2.2.2.2.1, hI.2.2.2.2.2.2.1, hI.2.2.2.2.2.2.2.1, fun k k0 k1 => ?_⟩
  have k1 : k < aN s + 1 := k1
  have eR : aRul (F_put s r t l b q p v st T) k = if k < r then aRul s k else if k = r then (fun f => if f = 0 then t else if f = 1 then l else if f = 2 then b else if f = 3 then q else if f = 4 then p else if f = 5 then v else st) else aRul s (k - 1) := rfl
  have eC : aCod (F_put s r t l b q p v st T) k = if k < r then aCod s k else if k = r then T else aCod s (k - 1) := rfl
  have D1 : aHi (F_put s r t l b q p v st T) = aHi s := rfl
  have D2 : aWi (F_put s r t l b q p v st T) = aWi s := rfl
  rw [eR, eC, D1, D2]
  by_cases c1 : k < r
  · rw [if_pos c1, if_pos c1]
    exact hI.2.2.2.2.2.2.2.2 k k0 (by omega)
  · rw [if_neg c1, if_neg c1]
    by_cases c2 : k = r
    · rw [if_pos c2, if_pos c2]
      exact ⟨h1, h2, h3, h4, h5, hT⟩
    · rw [if_neg c2, if_neg c2]
      exact hI.2.2.2.2.2.2.2.2 (k - 1) (by omega) (by omega)
def gCount (A : aG) (q : Int) : Int := if q = 0 then aHi (gNow A) else if q = 1 then aWi (gNow A) else if q = 2 then aN (gNow A) else if q = 3 then gD A else if q = 4 then gR A else if q = 5 then gPn A else if q = 6 then gTn A else -2
section PU
variable {d : Nat} {w : mm_W} {h : mm_H} {s : aS} {A : aG}
theorem E_F_count (hd : 4 ≤ d) (hW : WK w) (hK : HK h) (hc : cHist w h A) (hp : h 1 16 = gPn A) (ht : h 461 1 = gTn A) (q : Int) : mm_P d 188 [(2, 1), (0, q)] w h = some ((0, gCount A q), w, h) := by
  obtain ⟨d, rfl, hd2⟩ := mm_dS hd; clear hd; have hd := hd2; clear hd2
  have w1 : (w.1 1).1 = 12 := by rw [hW.1.1]
  have w2 : (w.1 2).1 = 4 := by rw [hW.1.2.1]
  have w461 : (w.1 461).1 = 10 := by rw [hW.2.2.2.2.1.1]
  have wS : (w.1 (gAt (h 2 2) (gD A))).1 = 9 := by rw [(WK_sh hW).2.1]
  have rc := (hc.2.2.2.2 (gD A) hc.2.2.2.1.1 (by have := hc.2.2.2.1; omega)).1
  have en := E_now (d := d) (by omega) hW hK hc
  unfold gCount
  rw [P_F_count]
  simp only [mF_t w1, hK.1.1, hK.1.2.2.2.2.2.2.2.1, mF_t w2, mF_t w461, en, mC_s, mF_t wS]
  by_cases c0 : q = 0
  · rw [mEq_t c0, if_pos c0, rc.2.1.1]
  rw [mEq_f c0, if_neg c0]
  by_cases c1 : q = 1
  · rw [mEq_t c1, if_pos c1, rc.2.1.2.1]
  rw [mEq_f c1, if_neg c1]
  by_cases c2 : q = 2
  · rw [mEq_t c2, if_pos c2, rc.2.1.2.2]
  rw [mEq_f c2, if_neg c2]
  by_cases c3 : q = 3
  · rw [mEq_t c3, if_pos c3, hc.2.1]
  rw [mEq_f c3, if_neg c3]
  by_cases c4 : q = 4
  · rw [mEq_t c4, if_pos c4, hc.2.2.1]
  rw [mEq_f c4, if_neg c4]
  by_cases c5 : q = 5
  · rw [mEq_t c5, if_pos c5, hp]
  rw [mEq_f c5, if_neg c5]
  by_cases c6 : q = 6
  · rw [mEq_t c6, if_pos c6, ht]
  rw [mEq_f c6, if_neg c6]
theorem E_M_count (hd : 1 ≤ d) (hW : MW w) (hH : MH h) (hc : mHis h A) (hR : RM (h 484) (gNow A)) (hp : h 483 43 = gPn A) (ht : h 483 15 = gTn A) (q : Int) : mm_P d 339 [(2, 483), (0, q)] w h = some ((0, gCount A q), w, h) := by
  obtain ⟨d, rfl, hd2⟩ := mm_dS hd; clear hd; have hd := hd2; clear hd2
  have hw : (w.1 483).1 = 13 := by rw [hW.1]
  have c4' := hc.2.2.1
  have A0 : ∀ (α : Type) (x y : α), mA w 484 0 50 x y = y := fun α x y => mA_t hW.2.1 (by decide) (by decide)
  have A1 : ∀ (α : Type) (x y : α), mA w 484 1 50 x y = y := fun α x y => mA_t hW.2.1 (by decide) (by decide)
  have A2 : ∀ (α : Type) (x y : α), mA w 484 2 50 x y = y := fun α x y => mA_t hW.2.1 (by decide) (by decide)
  unfold gCount
  rw [P_M_count]
  simp only [mF_t hw, hH.1, A0, A1, A2, hc.1, hc.2.1]
  by_cases c0 : q = 0
  · rw [mEq_t c0, if_pos c0, hR.1.1]
  rw [mEq_f c0, if_neg c0]
  by_cases c1 : q = 1
  · rw [mEq_t c1, if_pos c1, hR.1.2.1]
  rw [mEq_f c1, if_neg c1]
  by_cases c2 : q = 2
  · rw [mEq_t c2, if_pos c2, hR.1.2.2]
  rw [mEq_f c2, if_neg c2]
  by_cases c3 : q = 3
  · rw [mEq_t c3, if_pos c3]
  rw [mEq_f c3, if_neg c3]
  by_cases c4 : q = 4
  · rw [mEq_t c4, if_pos c4, mI_id (by omega) (by omega), show gD A + gR A - gD A = gR A by omega]
  rw [mEq_f c4, if_neg c4]
  by_cases c5 : q = 5
  · rw [mEq_t c5, if_pos c5, hp]
  rw [mEq_f c5, if_neg c5]
  by_cases c6 : q = 6
  · rw [mEq_t c6, if_pos c6, ht]
  rw [mEq_f c6, if_neg c6]
end PU
