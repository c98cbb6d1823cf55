/-! PURE: the tape is fed, on both sides. -/
def fB (B : Int → Int) (n v : Int) (j : Int) : Int := if j < n then B j else byt v (j - n)
def gFeed (A : aG) (c v : Int) : aG := (A.1, A.2.1, A.2.2.1, (gTn A + c, fB (gT A) (gTn A) v), A.2.2.2.2)
/-- the reference's tape -/
def mTB (h : mm_H) (A : aG) : Prop := h 483 15 = gTn A ∧ (0 ≤ gTn A ∧ gTn A ≤ 200) ∧ ∀ j : Int, 0 ≤ j → j < gTn A → h 490 j = gT A j
section PU
variable {d : Nat} {w : mm_W} {h : mm_H} {A : aG}
theorem L_append (hd : 1 ≤ d) (hW : TW w) {B : Int → Int} {n c v : Int} (hn : 0 ≤ n) (hc : c ≤ 4) (hz : n + c ≤ 200) : ∀ (m : Nat) (k : Int) (h : mm_H), TB h (fB B n v) (n + k) → 0 ≤ k → k + m = c → ∃ h', l_Ta_append_0 (mm_P d) 461 c v k w h = some (.inr (44, [(2, 461), (0, c), (0, v), (0, c)], w, h')) ∧ TB h' (fB B n v) (n + c) ∧ (∀ b : Int, b ≠ 461 → b ≠ 462 → h' b = h b) ∧ ∀ i : Int, i ≠ 1 → h' 461 i = h 461 i := by
  have hw : (w.1 461).1 = 10 := by rw [hW.1]
  intro m
  induction m with
  | zero =>
    intro k h a1 a2 a3
    have e : k = c := by omega
    rw [l_Ta_append_0_eq, mLe_t (by omega)]
    rw [e] at a1
    exact ⟨h, by rw [e], a1, fun _ _ _ => rfl, fun _ _ => rfl⟩
  | succ m ih =>
    intro k h a1 a2 a3
    obtain ⟨t1, t2, t3, t4, t5, t6⟩ := a1
    rw [l_Ta_append_0_eq, mLe_f (by omega), mF_t hw, mF_t hw, t1, t2, mI_id (x := 8 * k) (by omega) (by omega), byt_u (by omega), E_poke_t hd hW.2 (by decide) (by omega) (by omega), mC_s, mF_t hw, mF_t hw]
    try dsimp only
    rw [mUp_n (Or.inl (by decide)), t2, mI_id (x := n + k + 1) (by omega) (by omega), mI_id (x := k + 1) (by omega) (by omega)]
    generalize hg : mUp (mUp h 462 (n + k) (byt v k)) 461 1 (n + k + 1) = h1
    have e1 : ∀ i : Int, i ≠ 1 → h1 461 i = h 461 i := fun i hi => by rw [← hg, mUp_n (Or.inr hi), mUp_n (Or.inl (by decide))]
    have e2 : h1 461 1 = n + k + 1 := by rw [← hg]; exact mUp_s
    have e3 : ∀ j : Int, j ≠ n + k → h1 462 j = h 462 j := fun j hj => by rw [← hg, mUp_n (Or.inl (by decide)), mUp_n (Or.inr hj)]
    have e4 : h1 462 (n + k) = byt v k := by rw [← hg, mUp_n (Or.inl (by decide)), mUp_s]
    have e5 : ∀ b : Int, b ≠ 461 → b ≠ 462 → h1 b = h b := fun b b1 b2 => by rw [← hg, mUp_row b1, mUp_row b2]
    have v0 : fB B n v (n + k) = byt v k := by unfold fB; rw [if_neg (by omega), show n + k - n = k by omega]
    have T1 : TB h1 (fB B n v) (n + (k + 1)) := ⟨by rw [e1 0 (by decide)]; exact t1, by rw [e2]; omega, by omega, fun j j0 j1 => by
      by_cases q : j = n + k
      · rw [q, e4, v0]
      · rw [e3 j q]; exact t4 j j0 (by omega), fun j j0 j1 => by
      by_cases q : j = n + k
      · rw [q, v0]; exact byt_in v k
      · exact t5 j j0 (by omega), fun j => by
      by_cases q : j = n + k
      · rw [q, e4]; exact byt_in v k
      · rw [e3 j q]; exact t6 j⟩
    obtain ⟨h', g1, g2, g3, g4⟩ := ih (k + 1) h1 T1 (by omega) (by omega)
    exact ⟨h', g1, g2, fun b b1 b2 => by rw [g3 b b1 b2, e5 b b1 b2], fun i hi => by rw [g4 i hi, e1 i hi]⟩
theorem E_F_feed (hd : 3 ≤ d) (hW : WK w) (hK : HK h) (hT : TB h (gT A) (gTn A)) (c v : Int) : (¬ (1 ≤ c ∧ c ≤ 4) ∧ mm_P d 182 [(2, 1), (0, c), (0, v)] w h = some ((0, -2), w, h)) ∨ (((1 ≤ c ∧ c ≤ 4) ∧ 200 < gTn A + c) ∧ mm_P d 182 [(2, 1), (0, c), (0, v)] w h = some ((0, -4), w, h)) ∨ (((1 ≤ c ∧ c ≤ 4) ∧ gTn A + c ≤ 200) ∧ ∃ h', mm_P d 182 [(2, 1), (0, c), (0, v)] w h = some ((0, gTn A + c), w, h') ∧ TB h' (gT (gFeed A c v)) (gTn (gFeed A c v)) ∧ (∀ b : Int, b ≠ 461 → b ≠ 462 → h' b = h b) ∧ ∀ i : Int, i ≠ 1 → h' 461 i = h 461 i) := by
  obtain ⟨d, rfl, hd2⟩ := mm_dS hd; clear hd; have hd := hd2; clear hd2
  obtain ⟨d, rfl, hd2⟩ := mm_dS hd; clear hd; have hd := hd2; clear hd2
  have w1 : (w.1 1).1 = 12 := by rw [hW.1.1]
  have hTW : TW w := hW.2.2.2.2.1
  have w461 : (w.1 461).1 = 10 := by rw [hTW.1]
  have k7 : h 1 7 = 461 := hK.1.2.2.2.2.2.2.2.1
  have hn := hT.2.2.1
  rw [P_F_feed]
  by_cases c1 : c < 1
  · rw [mLt_t c1]
    exact Or.inl ⟨by omega, rfl⟩
  rw [mLt_f (by omega)]
  by_cases c2 : c ≤ 4
  rotate_left
  · rw [mLe_f (by omega)]
    exact Or.inl ⟨by omega, rfl⟩
  rw [mLe_t c2]
  simp only [mF_t w1, k7, mF_t w461]
  rw [hT.2.1, mI_id (x := gTn A + c) (by omega) (by omega)]
  by_cases c3 : gTn A + c ≤ 200
  rotate_left
  · rw [mLe_f (by omega)]
    exact Or.inr (Or.inl ⟨by omega, rfl⟩)
  rw [mLe_t c3]
  have T0 : TB h (fB (gT A) (gTn A) v) (gTn A + 0) := by
    obtain ⟨t1, t2, t3, t4, t5, t6⟩ := hT
    exact ⟨t1, by rw [t2]; omega, by omega, fun j j0 j1 => by unfold fB; rw [if_pos (by omega)]; exact t4 j j0 (by omega), fun j j0 j1 => by unfold fB; rw [if_pos (by omega)]; exact t5 j j0 (by omega), t6⟩
  obtain ⟨h', g1, g2, g3, g4⟩ := L_append (d := d) (by omega) hTW (c := c) (v := v) hn.1 c2 c3 c.toNat 0 h T0 (by decide) (by omega)
  rw [P_Ta_append, g1, mK_r, if_pos rfl]
  simp only [mP_0]
  rw [mF_t w461, g2.2.1, mC_s]
  exact Or.inr (Or.inr ⟨⟨by omega, c3⟩, h', rfl, g2, g3, g4⟩)
theorem L_M_feed (hW : MW w) {n c v : Int} (hn : 0 ≤ n) (hc : c ≤ 4) (hz : n + c ≤ 200) : ∀ (m : Nat) (k : Int) (h : mm_H), MH h → h 483 15 = n → 0 ≤ k → k + m = c → ∃ h', l_M_feed_0 (mm_P d) 483 c v k w h = some (.inr (64, [(2, 483), (0, c), (0, v), (0, c)], w, h')) ∧ (∀ b : Int, b ≠ 490 → h' b = h b) ∧ ∀ j : Int, h' 490 j = if n + k ≤ j ∧ j < n + c then byt v (j - n) else h 490 j := by
  have hw : (w.1 483).1 = 13 := by rw [hW.1]
  have w490 : w.1 490 = (50, 200) := by have := hW; unfold MW at this; simp only [this]
  intro m
  induction m with
  | zero =>
    intro k h a1 a2 a3 a4
    rw [l_M_feed_0_eq, mLe_t (by omega)]
    exact ⟨h, by rw [show k = c by omega], fun _ _ => rfl, fun j => by rw [if_neg (by omega)]⟩
  | succ m ih =>
    intro k h a1 a2 a3 a4
    have r14 : h 483 14 = 490 := by have := a1; unfold MH at this; simp only [this]
    rw [l_M_feed_0_eq, mLe_f (by omega), mF_t hw, mF_t hw, r14, a2, mI_id (x := n + k) (by omega) (by omega), mAw_t w490 (by omega) (by omega) (by decide), mI_id (x := 8 * k) (by omega) (by omega)]
    try dsimp only
    rw [mI_id (x := k + 1) (by omega) (by omega)]
    have eb : mAnd (mShr v (8 * k)) 255 = byt v k := rfl
    rw [eb]
    obtain ⟨h', g1, g2, g3⟩ := ih (k + 1) (mUp h 490 (n + k) (byt v k)) (MH_fr a1 (fun i _ => mUp_n (Or.inl (by decide)))) (by rw [mUp_n (Or.inl (by decide))]; exact a2) (by omega) (by omega)
    refine ⟨h', g1, fun b hb => by rw [g2 b hb, mUp_row hb], fun j => ?_⟩
    rw [g3 j]
    by_cases q : j = n + k
    · rw [if_neg (by omega), q, mUp_s, if_pos (by omega), show n + k - n = k by omega]
    · rw [mUp_n (Or.inr q)]
      repeat' split
      all_goals first | rfl | omega
theorem E_M_feed (hd : 2 ≤ d) (hW : MW w) (hH : MH h) (hT : mTB h A) (c v : Int) : (¬ (1 ≤ c ∧ c ≤ 4) ∧ mm_P d 255 [(2, 483), (0, c), (0, v)] w h = some ((0, -2), w, h)) ∨ (((1 ≤ c ∧ c ≤ 4) ∧ 200 < gTn A + c) ∧ mm_P d 255 [(2, 483), (0, c), (0, v)] w h = some ((0, -4), w, h)) ∨ (((1 ≤ c ∧ c ≤ 4) ∧ gTn A + c ≤ 200) ∧ ∃ h', mm_P d 255 [(2, 483), (0, c), (0, v)] w h = some ((0, gTn A + c), w, h') ∧ mTB h' (gFeed A c v) ∧ (∀ b : Int, b ≠ 483 → b ≠ 490 → h' b = h b) ∧ ∀ i : Int, i ≠ 15 → h' 483 i = h 483 i) := by
  obtain ⟨d, rfl, hd2⟩ := mm_dS hd; clear hd; have hd := hd2; clear hd2
  have hw : (w.1 483).1 = 13 := by rw [hW.1]
  obtain ⟨t1, t2, t3⟩ := hT
  rw [P_M_feed, E_M_in (by omega), mC_s]
  by_cases c1 : 1 ≤ c ∧ c ≤ 4
  rotate_left
  · rw [bI_f c1, mEq_t rfl]
    exact Or.inl ⟨c1, rfl⟩
  rw [bI_t c1, mEq_f (by decide), mF_t hw, t1, mI_id (x := gTn A + c) (by omega) (by omega)]
  by_cases c3 : gTn A + c ≤ 200
  rotate_left
  · rw [mLe_f (by omega)]
    exact Or.inr (Or.inl ⟨⟨c1, by omega⟩, rfl⟩)
  obtain ⟨h1, g1, g2, g3⟩ := L_M_feed (d := d) hW (n := gTn A) (c := c) (v := v) t2.1 c1.2 c3 c.toNat 0 h hH t1 (by decide) (by omega)
  rw [mLe_t c3, g1, mK_r, if_pos rfl]
  simp only [mP_0, mP_1]
  rw [mF_t hw, mF_t hw, g2 483 (by decide), t1, mI_id (x := gTn A + c) (by omega) (by omega)]
  try dsimp only
  rw [mF_t hw, mUp_s]
  refine Or.inr (Or.inr ⟨⟨c1, c3⟩, mUp h1 483 15 (gTn A + c), rfl, ⟨mUp_s, by show 0 ≤ gTn A + c ∧ gTn A + c ≤ 200; omega, fun j j0 j1 => ?_⟩, fun b b1 b2 => by rw [mUp_row b1, g2 b b2], fun i hi => by rw [mUp_n (Or.inr hi), g2 483 (by decide)]⟩)
  have j1 : j < gTn A + c := j1
  rw [mUp_row (by decide), g3 j]
  show _ = if j < gTn A then gT A j else byt v (j - gTn A)
  by_cases q : j < gTn A
  · rw [if_neg (by omega), if_pos q]; exact t3 j j0 q
  · rw [if_pos (by omega), if_neg q]
end PU
