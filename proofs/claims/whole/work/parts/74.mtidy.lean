/-! PURE: needless cells are cleared, in the reference's row. -/
theorem aI_cel {s : aS} {f : Int → Int → Int → Int} (hI : aI s) (hf : ∀ p r c : Int, 0 ≤ p → p < 4 → 0 ≤ r → r < aHi s → 0 ≤ c → c < aWi s → -1 ≤ f p r c ∧ f p r c ≤ 9) : aI (F_cel s f) :=
  ⟨hI.1, hI.2.1, hI.2.2.1, hI.2.2.2.1, hf, hI.2.2.2.2.2⟩
theorem aBen_in {s : aS} (hI : aI s) {p r c : Int} (hp : 0 ≤ p ∧ p < 4) (hr : 0 ≤ r ∧ r < aHi s) (hc : 0 ≤ c ∧ c < aWi s) : 0 ≤ aBen s p r c ∧ aBen s p r c ≤ 9 := by
  have h1 := hI.2.2.2.2.2.1 p r hp.1 hp.2 hr.1 hr.2
  have h2 := hI.2.2.2.2.2.2.1 p c hp.1 hp.2 hc.1 hc.2
  have h3 := hI.2.2.2.2.2.2.2.1 p hp.1 hp.2
  unfold aBen
  repeat' split
  all_goals omega
theorem aNeed_iff {s : aS} (hI : aI s) {p r c : Int} (hp : 0 ≤ p ∧ p < 4) (hr : 0 ≤ r ∧ r < aHi s) (hc : 0 ≤ c ∧ c < aWi s) : aCel s p r c = aBen s p r c ↔ aNeed s p r c := by
  have := aBen_in hI hp hr hc
  unfold aNeed
  omega
/-- cleared so far -/
noncomputable def tG (s : aS) (p r c q i j : Int) : Int := @ite _ (q = p ∧ (i < r ∨ (i = r ∧ j < c)) ∧ aNeed s p i j) (Classical.propDecidable _) (-1) (aCel s q i j)
theorem aI_tG {s : aS} (hI : aI s) (p r c : Int) : aI (F_cel s (tG s p r c)) := aI_cel hI (fun q i j q0 q1 i0 i1 j0 j1 => by
  have := hI.2.2.2.2.1 q i j q0 q1 i0 i1 j0 j1
  unfold tG
  split <;> omega)
theorem aI_tidy {s : aS} (hI : aI s) (p : Int) : aI (F_tidy s p) := aI_cel hI (fun q i j q0 q1 i0 i1 j0 j1 => by
  have := hI.2.2.2.2.1 q i j q0 q1 i0 i1 j0 j1
  try dsimp only
  split <;> omega)
section PU
variable {d : Nat} {w : mm_W} {h : mm_H} {s : aS} {A : aG}
theorem L_M_need1 (hd : 3 ≤ d) (hW : MW w) (hH : MH h) (hI : aI s) (hR : RM (h 484) s) {p r : Int} (hp : 0 ≤ p ∧ p < 4) (hr : 0 ≤ r ∧ r < aHi s) : ∀ (m : Nat) (c acc : Int), 0 ≤ c → c + m = aWi s → 0 ≤ acc → acc + m < 1000 → l_M_needless_1 (mm_P d) 483 p acc r c w h = some (.inr (71, [(2, 483), (0, p), (0, acc + sumN (fun c => bI (aNeed s p r c)) m c), (0, r), (0, aWi s)], w, h)) := by
  have hw : (w.1 483).1 = 13 := by rw [hW.1]
  have i1 := hI.1; have i2 := hI.2.1
  intro m
  induction m with
  | zero =>
    intro c acc a1 a2 a3 a4
    rw [l_M_needless_1_eq, mF_t hw, hH.1, mA_t hW.2.1 (by decide) (by decide), hR.1.2.1, mLe_t (by omega)]
    have e : sumN (fun c => bI (aNeed s p r c)) 0 c = 0 := rfl
    rw [e, show c = aWi s by omega, show acc + 0 = acc by omega]
  | succ m ih =>
    intro c acc a1 a2 a3 a4
    have e : sumN (fun c => bI (aNeed s p r c)) (m + 1) c = bI (aNeed s p r c) + sumN (fun c => bI (aNeed s p r c)) m (c + 1) := rfl
    have hc : 0 ≤ c ∧ c < aWi s := by omega
    rw [l_M_needless_1_eq, mF_t hw, hH.1, mA_t hW.2.1 (by decide) (by decide), hR.1.2.1, mLe_f (by omega), mF_t hw, E_M_own (by omega) hW hH hp (by omega) (by omega), mC_s, mF_t hw, E_M_beneath (by omega) hW hH hI hR hp hr hc, mC_s, hR.2.2.1 p r c hp.1 hp.2 hr.1 hr.2 hc.1 hc.2, e]
    try dsimp only
    rw [mI_id (x := c + 1) (by omega) (by omega), mI_id (x := acc + 1) (by omega) (by omega), mI_id (x := acc + 0) (by omega) (by omega)]
    by_cases k : aCel s p r c = aBen s p r c
    · rw [mEq_t k, ih (c + 1) (acc + 1) (by omega) (by omega) (by omega) (by omega), bI_t ((aNeed_iff hI hp hr hc).1 k), Int.add_assoc]
    · rw [mEq_f k, ih (c + 1) (acc + 0) (by omega) (by omega) (by omega) (by omega), bI_f (fun q => k ((aNeed_iff hI hp hr hc).2 q)), Int.add_assoc]
theorem L_M_need0 (hd : 3 ≤ d) (hW : MW w) (hH : MH h) (hI : aI s) (hR : RM (h 484) s) {p : Int} (hp : 0 ≤ p ∧ p < 4) : ∀ (m : Nat) (r acc : Int), 0 ≤ r → r + m = aHi s → 0 ≤ acc → acc + 16 * m < 900 → l_M_needless_0 (mm_P d) 483 p acc r w h = some (.inr (77, [(2, 483), (0, p), (0, acc + sumN (fun r => sumN (fun c => bI (aNeed s p r c)) (aWi s).toNat 0) m r), (0, aHi s), (9, 0)], w, h)) := by
  have hw : (w.1 483).1 = 13 := by rw [hW.1]
  have i1 := hI.1; have i2 := hI.2.1
  intro m
  induction m with
  | zero =>
    intro r acc a1 a2 a3 a4
    rw [l_M_needless_0_eq, mF_t hw, hH.1, mA_t hW.2.1 (by decide) (by decide), hR.1.1, mLe_t (by omega)]
    have e : sumN (fun r => sumN (fun c => bI (aNeed s p r c)) (aWi s).toNat 0) 0 r = 0 := rfl
    rw [e, show r = aHi s by omega, show acc + 0 = acc by omega]
  | succ m ih =>
    intro r acc a1 a2 a3 a4
    have e : sumN (fun r => sumN (fun c => bI (aNeed s p r c)) (aWi s).toNat 0) (m + 1) r = sumN (fun c => bI (aNeed s p r c)) (aWi s).toNat 0 + sumN (fun r => sumN (fun c => bI (aNeed s p r c)) (aWi s).toNat 0) m (r + 1) := rfl
    have b := sumN_le (f := fun c => bI (aNeed s p r c)) (a := 0) (b := 1) (aWi s).toNat 0 (fun c _ _ => by have := bI_01 (aNeed s p r c); omega)
    rw [l_M_needless_0_eq, mF_t hw, hH.1, mA_t hW.2.1 (by decide) (by decide), hR.1.1, mLe_f (by omega), L_M_need1 hd hW hH hI hR hp (by omega) (aWi s).toNat 0 acc (by decide) (by omega) a3 (by omega), mK_r, if_pos rfl]
    simp only [mP_0, mP_1, mP_2, mP_3]
    rw [mI_id (x := r + 1) (by omega) (by omega), ih (r + 1) _ (by omega) (by omega) (by omega) (by omega), e, Int.add_assoc]
theorem E_M_needless (hd : 4 ≤ d) (hW : MW w) (hH : MH h) (hI : aI s) (hR : RM (h 484) s) (p : Int) : mm_P d 252 [(2, 483), (0, p)] w h = some ((0, @ite _ (0 ≤ p ∧ p < 4) (Classical.propDecidable _) (nNeed s p) (-2)), w, h) := by
  obtain ⟨d, rfl, hd2⟩ := mm_dS hd; clear hd; have hd := hd2; clear hd2
  have i1 := hI.1
  rw [P_M_needless, E_M_isProperty (by omega), mC_s]
  by_cases c : 0 ≤ p ∧ p < 4
  · rw [bI_t c, mEq_f (by decide), L_M_need0 (by omega) hW hH hI hR c (aHi s).toNat 0 0 (by decide) (by omega) (by decide) (by omega), mK_r, if_pos rfl, if_pos c]
    simp only [mP_2]
    rw [Int.zero_add]
    rfl
  · rw [bI_f c, mEq_t rfl, if_neg c]
theorem L_M_tidy1 (hd : 3 ≤ d) (hW : MW w) (hI : aI s) {p r acc : Int} (hp : 0 ≤ p ∧ p < 4) (hr : 0 ≤ r ∧ r < aHi s) : ∀ (m : Nat) (c : Int) (h : mm_H), MH h → RM (h 484) (F_cel s (tG s p r c)) → 0 ≤ c → c + m = aWi s → ∃ h', l_M_doTidy_1 (mm_P d) 483 p acc r c w h = some (.inr (83, [(2, 483), (0, p), (0, acc), (0, r), (0, aWi s)], w, h')) ∧ (∀ b : Int, b ≠ 484 → h' b = h b) ∧ RM (h' 484) (F_cel s (tG s p r (aWi s))) := by
  have hw : (w.1 483).1 = 13 := by rw [hW.1]
  have i1 := hI.1; have i2 := hI.2.1
  intro m
  induction m with
  | zero =>
    intro c h a1 a2 a3 a4
    have e : c = aWi s := by omega
    rw [l_M_doTidy_1_eq, mF_t hw, a1.1, mA_t hW.2.1 (by decide) (by decide), a2.1.2.1, mLe_t (by show aWi s ≤ c; omega)]
    rw [e] at a2
    exact ⟨h, by rw [e], fun _ _ => rfl, a2⟩
  | succ m ih =>
    intro c h a1 a2 a3 a4
    have hc : 0 ≤ c ∧ c < aWi s := by omega
    have I1 := aI_tG hI p r c
    have own : tG s p r c p r c = aCel s p r c := by unfold tG; rw [if_neg (by omega)]
    have next : ∀ q i j : Int, ¬ (q = p ∧ i = r ∧ j = c) → tG s p r c q i j = tG s p r (c + 1) q i j := fun q i j z => by
      unfold tG
      by_cases k : q = p ∧ (i < r ∨ (i = r ∧ j < c)) ∧ aNeed s p i j
      · rw [if_pos k, if_pos ⟨k.1, by omega, k.2.2⟩]
      · rw [if_neg k, if_neg (fun y => k ⟨y.1, by omega, y.2.2⟩)]
    rw [l_M_doTidy_1_eq, mF_t hw, a1.1, mA_t hW.2.1 (by decide) (by decide), a2.1.2.1, mLe_f (by show c < aWi s; omega), mF_t hw, E_M_own (by omega) hW a1 hp (by omega) (by omega), mC_s, mF_t hw, E_M_beneath (by omega) hW a1 I1 a2 hp hr hc, mC_s, a2.2.2.1 p r c hp.1 hp.2 hr.1 hr.2 hc.1 hc.2]
    have own' : aCel (F_cel s (tG s p r c)) p r c = aCel s p r c := own
    have ben' : aBen (F_cel s (tG s p r c)) p r c = aBen s p r c := rfl
    rw [own', ben']
    try dsimp only
    rw [mI_id (x := c + 1) (by omega) (by omega)]
    by_cases k : aCel s p r c = aBen s p r c
    · rw [mEq_t k, mF_t hw, E_M_grid (by omega) (by omega) (by omega) (by omega) (by omega), mC_s, a1.1, mI_id (x := 256 * p) (by omega) (by omega), mI_id (x := 391 + 256 * p) (by omega) (by omega), mI_id (x := 391 + 256 * p + (16 * r + c)) (by omega) (by omega), mAw_t hW.2.1 (by omega) (by omega) (by decide)]
      obtain ⟨h', g1, g2, g3⟩ := ih (c + 1) (mUp h 484 (391 + 256 * p + (16 * r + c)) (-1)) (MH_fr a1 (fun i _ => mUp_n (Or.inl (by decide)))) (RM_cel (f := tG s p r (c + 1)) a2 (fun j hj => mUp_n (Or.inr (by omega))) (fun q i j q0 q1 i0 i1 j0 j1 => by
        have i1' : i < aHi s := i1
        have j1' : j < aWi s := j1
        by_cases z : q = p ∧ i = r ∧ j = c
        · obtain ⟨rfl, rfl, rfl⟩ := z
          rw [show 391 + 256 * q + 16 * i + j = 391 + 256 * q + (16 * i + j) by omega, mUp_s]
          unfold tG
          rw [if_pos ⟨rfl, by omega, (aNeed_iff hI hp hr hc).1 k⟩]
        · rw [mUp_n (Or.inr (by omega)), a2.2.2.1 q i j q0 q1 i0 i1 j0 j1]
          exact next q i j z) I1) (by omega) (by omega)
      exact ⟨h', g1, fun b hb => by rw [g2 b hb, mUp_row hb], g3⟩
    · rw [mEq_f k]
      obtain ⟨h', g1, g2, g3⟩ := ih (c + 1) h a1 (RM_cel (f := tG s p r (c + 1)) a2 (fun j hj => rfl) (fun q i j q0 q1 i0 i1 j0 j1 => by
        rw [a2.2.2.1 q i j q0 q1 i0 i1 j0 j1]
        by_cases z : q = p ∧ i = r ∧ j = c
        · obtain ⟨rfl, rfl, rfl⟩ := z
          rw [own']
          unfold tG
          rw [if_neg (fun y => k ((aNeed_iff hI hp hr hc).2 y.2.2))]
        · exact next q i j z) I1) (by omega) (by omega)
      exact ⟨h', g1, g2, g3⟩
theorem L_M_tidy0 (hd : 3 ≤ d) (hW : MW w) (hI : aI s) {p acc : Int} (hp : 0 ≤ p ∧ p < 4) (hacc : 0 ≤ acc) : ∀ (m : Nat) (r : Int) (h : mm_H), MH h → RM (h 484) (F_cel s (tG s p r 0)) → 0 ≤ r → r + m = aHi s → ∃ h', l_M_doTidy_0 (mm_P d) 483 p acc r w h = some (.inr (89, [(2, 483), (0, p), (0, acc), (0, aHi s), (9, 0)], w, h')) ∧ (∀ b : Int, b ≠ 484 → h' b = h b) ∧ RM (h' 484) (F_cel s (tG s p (aHi s) 0)) := by
  have hw : (w.1 483).1 = 13 := by rw [hW.1]
  have i1 := hI.1; have i2 := hI.2.1
  intro m
  induction m with
  | zero =>
    intro r h a1 a2 a3 a4
    have e : r = aHi s := by omega
    rw [l_M_doTidy_0_eq, mLt_f (by omega), mF_t hw, a1.1, mA_t hW.2.1 (by decide) (by decide), a2.1.1, mLe_t (by show aHi s ≤ r; omega)]
    rw [e] at a2
    exact ⟨h, by rw [e], fun _ _ => rfl, a2⟩
  | succ m ih =>
    intro r h a1 a2 a3 a4
    obtain ⟨h1, b1, b2, b3⟩ := L_M_tidy1 (d := d) hd hW hI (acc := acc) hp (r := r) (by omega) (aWi s).toNat 0 h a1 a2 (by decide) (by omega)
    rw [l_M_doTidy_0_eq, mLt_f (by omega), mF_t hw, a1.1, mA_t hW.2.1 (by decide) (by decide), a2.1.1, mLe_f (by show r < aHi s; omega), b1, mK_r, if_pos rfl]
    simp only [mP_0, mP_1, mP_2, mP_3]
    rw [mI_id (x := r + 1) (by omega) (by omega)]
    obtain ⟨h', g1, g2, g3⟩ := ih (r + 1) h1 (MH_fr a1 (fun i _ => by rw [b2 483 (by decide)])) (RM_cel (f := tG s p (r + 1) 0) b3 (fun j hj => rfl) (fun q i j q0 q1 i0 i1 j0 j1 => by
      have j1' : j < aWi s := j1
      rw [b3.2.2.1 q i j q0 q1 i0 i1 j0 j1]
      show tG s p r (aWi s) q i j = _
      unfold tG
      by_cases k : q = p ∧ (i < r ∨ (i = r ∧ j < aWi s)) ∧ aNeed s p i j
      · rw [if_pos k, if_pos ⟨k.1, by omega, k.2.2⟩]
      · rw [if_neg k, if_neg (fun y => k ⟨y.1, by omega, y.2.2⟩)]) (aI_tG hI p r (aWi s))) (by omega) (by omega)
    exact ⟨h', g1, fun b hb => by rw [g2 b hb, b2 b hb], g3⟩
theorem E_M_doTidy (hd : 5 ≤ d) (hW : MW w) (hH : MH h) (hI : aI s) (hR : RM (h 484) s) (p : Int) : (¬ (0 ≤ p ∧ p < 4) ∧ mm_P d 253 [(2, 483), (0, p)] w h = some ((0, -2), w, h)) ∨ ((0 ≤ p ∧ p < 4) ∧ ∃ h', mm_P d 253 [(2, 483), (0, p)] w h = some ((0, nNeed s p), w, h') ∧ RM (h' 484) (F_tidy s p) ∧ ∀ b : Int, b ≠ 484 → h' b = h b) := by
  obtain ⟨d, rfl, hd2⟩ := mm_dS hd; clear hd; have hd := hd2; clear hd2
  have hw : (w.1 483).1 = 13 := by rw [hW.1]
  have i1 := hI.1; have i2 := hI.2.1
  rw [P_M_doTidy, mF_t hw, E_M_needless (by omega) hW hH hI hR, mC_s]
  by_cases c : 0 ≤ p ∧ p < 4
  rotate_left
  · rw [if_neg c, l_M_doTidy_0_eq, mLt_t (by decide), mK_r, if_pos rfl]
    simp only [mP_2]
    exact Or.inl ⟨c, by first | rfl | trivial⟩
  rw [if_pos c]
  have hn : 0 ≤ nNeed s p ∧ nNeed s p ≤ 256 := sum2_le (by omega) (by omega) (fun r c' _ _ _ _ => by have := bI_01 (aNeed s p r c'); omega)
  obtain ⟨h', g1, g2, g3⟩ := L_M_tidy0 (d := d) (by omega) hW hI (acc := nNeed s p) c hn.1 (aHi s).toNat 0 h hH (RM_cel (f := tG s p 0 0) hR (fun _ _ => rfl) (fun q i j q0 q1 i0 i1 j0 j1 => by
    rw [hR.2.2.1 q i j q0 q1 i0 i1 j0 j1]
    unfold tG
    rw [if_neg (by omega)]) hI) (by decide) (by omega)
  rw [g1, mK_r, if_pos rfl]
  simp only [mP_2]
  refine Or.inr ⟨c, h', rfl, ?_, g2⟩
  refine RM_cel (s := F_cel s (tG s p (aHi s) 0)) (row := h' 484) g3 (fun _ _ => rfl) (fun q i j q0 q1 i0 i1 j0 j1 => ?_) (aI_tG hI _ _ _)
  have i1' : i < aHi s := i1
  rw [g3.2.2.1 q i j q0 q1 i0 i1 j0 j1]
  show tG s p (aHi s) 0 q i j = _
  unfold tG
  by_cases k : q = p ∧ aNeed s p i j
  · rw [if_pos ⟨k.1, by omega, k.2⟩, if_pos k]
  · rw [if_neg (fun y => k ⟨y.1, y.2.2⟩), if_neg k]
end PU
