/-! PURE: how many cells are needless, asked of the class. -/
section PU
variable {d : Nat} {w : mm_W} {h : mm_H} {s : aS} {A : aG} {S : Int}
theorem benA_S (hR : RC w h S s) {p r c : Int} (hp : 0 ≤ p ∧ p < 4) (hr : 0 ≤ r ∧ r < aHi s) (hc : 0 ≤ c ∧ c < aWi s) : benA (h (S + 3)) (h (S + 4)) p r c = aBen s p r c := by
  unfold benA aBen
  rw [hR.2.2.2.2.1 p r hp.1 hp.2 hr.1 hr.2, hR.2.2.2.2.2.1 p c hp.1 hp.2 hc.1 hc.2, hR.2.2.2.2.2.2.1 p hp.1 hp.2]
theorem E_needS (hd : 3 ≤ d) (hW : ShW w S) (hI : aI s) (hR : RC w h S s) {p r c : Int} (hp : 0 ≤ p ∧ p < 4) (hr : 0 ≤ r ∧ r < aHi s) (hc : 0 ≤ c ∧ c < aWi s) : mm_P d 100 [(2, S), (0, p), (0, r), (0, c)] w h = some ((0, bI (aNeed s p r c)), w, h) := by
  have h1 := hI.1; have h2 := hI.2.1
  rw [E_isNeedless hd hW hR.1 hp.1 hp.2 hr.1 (by omega) hc.1 (by omega), benA_S hR hp hr hc, hR.2.2.2.1 p r c hp.1 hp.2 hr.1 hr.2 hc.1 hc.2]
  rfl
theorem L_needS1 (hd : 3 ≤ d) (hW : ShW w S) (hI : aI s) (hR : RC w h S s) {p r : Int} (hp : 0 ≤ p ∧ p < 4) (hr : 0 ≤ r ∧ r < aHi s) : ∀ (m : Nat) (c acc : Int), 0 ≤ c → c + m = aWi s → 0 ≤ acc → acc + m < 1000 → l_Sh_needlessCells_1 (mm_P d) S p acc r c w h = some (.inr (44, [(2, S), (0, p), (0, acc + sumN (fun c => bI (aNeed s p r c)) m c), (0, r), (0, aWi s)], w, h)) := by
  have wS : (w.1 S).1 = 9 := by rw [hW.2.1]
  have i1 := hI.1; have i2 := hI.2.1
  intro m
  induction m with
  | zero =>
    intro c acc a1 a2 a3 a4
    rw [l_Sh_needlessCells_1_eq, mF_t wS, hR.2.1.2.1, mLe_t (by omega)]
    have e : sumN (fun c => bI (aNeed s p r c)) 0 c = 0 := rfl
    rw [e, show c = aWi s by omega, show acc + 0 = acc by omega]
  | succ m ih =>
    intro c acc a1 a2 a3 a4
    have e : sumN (fun c => bI (aNeed s p r c)) (m + 1) c = bI (aNeed s p r c) + sumN (fun c => bI (aNeed s p r c)) m (c + 1) := rfl
    have hc : 0 ≤ c ∧ c < aWi s := by omega
    rw [l_Sh_needlessCells_1_eq, mF_t wS, hR.2.1.2.1, mLe_f (by omega), mF_t wS, E_needS hd hW hI hR hp hr hc, mC_s, e]
    try dsimp only
    rw [mI_id (x := c + 1) (by omega) (by omega), mI_id (x := acc + 1) (by omega) (by omega)]
    by_cases k : aNeed s p r c
    · rw [bI_t k, mEq_f (by decide), ih (c + 1) (acc + 1) (by omega) (by omega) (by omega) (by omega), Int.add_assoc]
    · rw [bI_f k, mEq_t rfl, ih (c + 1) acc (by omega) (by omega) (by omega) (by omega), Int.zero_add]
theorem L_needS0 (hd : 3 ≤ d) (hW : ShW w S) (hI : aI s) (hR : RC w h S s) {p : Int} (hp : 0 ≤ p ∧ p < 4) : ∀ (m : Nat) (r acc : Int), 0 ≤ r → r + m = aHi s → 0 ≤ acc → acc + 16 * m < 900 → l_Sh_needlessCells_0 (mm_P d) S p acc r w h = some (.inr (50, [(2, S), (0, p), (0, acc + sumN (fun r => sumN (fun c => bI (aNeed s p r c)) (aWi s).toNat 0) m r), (0, aHi s), (9, 0)], w, h)) := by
  have wS : (w.1 S).1 = 9 := by rw [hW.2.1]
  have i1 := hI.1; have i2 := hI.2.1
  intro m
  induction m with
  | zero =>
    intro r acc a1 a2 a3 a4
    rw [l_Sh_needlessCells_0_eq, mF_t wS, hR.2.1.1, mLe_t (by omega)]
    have e : sumN (fun r => sumN (fun c => bI (aNeed s p r c)) (aWi s).toNat 0) 0 r = 0 := rfl
    rw [e, show r = aHi s by omega, show acc + 0 = acc by omega]
  | succ m ih =>
    intro r acc a1 a2 a3 a4
    have e : sumN (fun r => sumN (fun c => bI (aNeed s p r c)) (aWi s).toNat 0) (m + 1) r = sumN (fun c => bI (aNeed s p r c)) (aWi s).toNat 0 + sumN (fun r => sumN (fun c => bI (aNeed s p r c)) (aWi s).toNat 0) m (r + 1) := rfl
    have b := sumN_le (f := fun c => bI (aNeed s p r c)) (a := 0) (b := 1) (aWi s).toNat 0 (fun c _ _ => by have := bI_01 (aNeed s p r c); omega)
    rw [l_Sh_needlessCells_0_eq, mF_t wS, hR.2.1.1, mLe_f (by omega), L_needS1 hd hW hI hR hp (by omega) (aWi s).toNat 0 acc (by decide) (by omega) a3 (by omega), mK_r, if_pos rfl]
    simp only [mP_0, mP_1, mP_2, mP_3]
    rw [mI_id (x := r + 1) (by omega) (by omega), ih (r + 1) _ (by omega) (by omega) (by omega) (by omega), e, Int.add_assoc]
theorem E_F_needless (hd : 5 ≤ d) (hW : WK w) (hK : HK h) (hc : cHist w h A) (p : Int) : mm_P d 177 [(2, 1), (0, p)] w h = some ((0, @ite _ (0 ≤ p ∧ p < 4) (Classical.propDecidable _) (nNeed (gNow A) p) (-2)), w, h) := by
  obtain ⟨d, rfl, hd2⟩ := mm_dS hd; clear hd; have hd := hd2; clear hd2
  obtain ⟨d, rfl, hd2⟩ := mm_dS hd; clear hd; have hd := hd2; clear hd2
  have w1 : (w.1 1).1 = 12 := by rw [hW.1.1]
  have wS := (WK_sh hW (base := h 2 2) (k := gD A))
  obtain ⟨q1, q2⟩ := hc.2.2.2.2 (gD A) hc.2.2.2.1.1 (by have := hc.2.2.2.1; omega)
  have q1' : RC w h (gAt (h 2 2) (gD A)) (gNow A) := q1
  have q2' : aI (gNow A) := q2
  have i1 : 1 ≤ aHi (gNow A) ∧ aHi (gNow A) ≤ 16 := q2.1
  rw [P_F_needless, E_isProperty (by omega), mC_s]
  by_cases c : 0 ≤ p ∧ p < 4
  · rw [bI_t c, mEq_f (by decide), mF_t w1, E_now (by omega) hW hK hc, mC_s, mF_t (by rw [wS.2.1]), P_Sh_needlessCells, L_needS0 (s := gNow A) (by omega) wS q2' q1' c (aHi (gNow A)).toNat 0 0 (by decide) (by omega) (by decide) (by omega), mK_r, if_pos rfl]
    simp only [mP_2]
    rw [mC_s, if_pos c, Int.zero_add]
    rfl
  · rw [bI_f c, mEq_t rfl, if_neg c]
end PU
