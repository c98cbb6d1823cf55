/-! PURE: rules are carried, dropped, put in, on the class's draft. -/
/-- who sits at k once the one at f is carried to t -/
def crr (f t k : Int) : Int := if k = t then f else if f ≤ k ∧ k < t then k + 1 else if t < k ∧ k ≤ f then k - 1 else k
def F_rul (s : aS) (n : Int) (g : Int → Int) : aS := ((aHi s, aWi s, n), s.2.1, s.2.2.1, s.2.2.2.1, s.2.2.2.2.1, (fun k => aRul s (g k)), (fun k => aCod s (g k)))
def F_drop (s : aS) (r : Int) : aS := F_rul s (aN s - 1) (fun k => if k < r then k else k + 1)
def F_carry (s : aS) (f t : Int) : aS := F_rul s (aN s) (crr f t)
/-- one rule's numbers become others -/
def F_rset (s : aS) (k : Int) (g : Int → Int) : aS := (s.1, s.2.1, s.2.2.1, s.2.2.2.1, s.2.2.2.2.1, (fun i => if i = k then g else aRul s i), aCod s)
def F_put (s : aS) (r t l b q p v st : Int) (T : Term) : aS := ((aHi s, aWi s, aN s + 1), s.2.1, s.2.2.1, s.2.2.2.1, s.2.2.2.2.1, (fun k => if k < r then aRul s k else if k = r then (fun f => if f = 0 then t else if f = 1 then l else if f = 2 then b else if f = 3 then q else if f = 4 then p else if f = 5 then v else st) else aRul s (k - 1)), (fun k => if k < r then aCod s k else if k = r then T else aCod s (k - 1)))
theorem crr_in {f t k : Int} (hf : 0 ≤ f ∧ f < 6) (ht : 0 ≤ t ∧ t < 6) (hk : 0 ≤ k ∧ k < 6) : 0 ≤ crr f t k ∧ crr f t k < 6 := by
  unfold crr; repeat' split
  all_goals omega
theorem crr_inj {f t i j : Int} (h : crr f t i = crr f t j) : i = j := by
  unfold crr at h
  repeat' split at h
  all_goals omega
section PU
variable {d : Nat} {w : mm_W} {h h' : mm_H} {s : aS}
theorem RC_rul (hR : RC w h 4 s) {n : Int} {g : Int → Int} (hn : n ≤ 6) (hg : ∀ k : Int, 0 ≤ k → k < n → 0 ≤ g k ∧ g k < aN s) (hs : aN s ≤ 6) (hH : ShH h' 4) (h4 : ∀ i : Int, i ≠ 2 → h' 4 i = h 4 i) (h42 : h' 4 2 = n) (h9 : ∀ k : Int, 0 ≤ k → k < n → h' 9 k = h 9 (g k)) (hb : ∀ b : Int, b ≠ 4 → b ≠ 9 → h' b = h b) : RC w h' 4 (F_rul s n g) := by
  obtain ⟨r1, r2, r3, r4, r5, r6, r7, r8⟩ := hR
  refine ⟨hH, ⟨by rw [h4 0 (by decide)]; exact r2.1, by rw [h4 1 (by decide)]; exact r2.2.1, h42⟩, by rw [hb (4 + 1) (by decide) (by decide)]; exact r3, by rw [hb (4 + 2) (by decide) (by decide)]; exact r4, by rw [hb (4 + 3) (by decide) (by decide)]; exact r5, by rw [hb (4 + 3) (by decide) (by decide)]; exact r6, by rw [hb (4 + 4) (by decide) (by decide)]; exact r7, fun k k0 k1 => ?_⟩
  have k1 : k < n := k1
  have hgk := hg k k0 k1
  have e9 : (4 : Int) + 5 = 9 := rfl
  have hq := r1.2.2.2.2.2.2.1 (g k) hgk.1 (by omega)
  have hr := r8 (g k) hgk.1 hgk.2
  rw [e9] at hq hr
  rw [e9, h9 k k0 k1, hb (h 9 (g k)) (by omega) (by omega)]
  exact ⟨hr.1, CC_fr hr.2 ⟨Int.le_refl _, fun x x0 _ => ⟨rfl, hb x (by omega) (by omega)⟩⟩⟩
theorem RC_rset (hR : RC w h 4 s) (hs : aN s ≤ 6) {k : Int} {g : Int → Int} (hk : 0 ≤ k ∧ k < aN s) (hg : ∀ f : Int, 0 ≤ f → f < 7 → h' (h 9 k) f = g f) (h7 : h' (h 9 k) 7 = h (h 9 k) 7) (hb : ∀ b : Int, b ≠ h 9 k → h' b = h b) : RC w h' 4 (F_rset s k g) := by
  obtain ⟨r1, r2, r3, r4, r5, r6, r7, r8⟩ := hR
  have e9 : (4 : Int) + 5 = 9 := rfl
  have hq := r1.2.2.2.2.2.2.1 k hk.1 (by omega)
  rw [e9] at hq
  have m : ∀ b : Int, ¬ (11 ≤ b ∧ b < 17) → h' b = h b := fun b hb' => hb b (by omega)
  refine ⟨ShH_fr r1 (fun i _ _ => by rw [m 4 (by decide)]) (m _ (by decide)), by rw [m 4 (by decide)]; exact r2, by rw [m (4 + 1) (by decide)]; exact r3, by rw [m (4 + 2) (by decide)]; exact r4, by rw [m (4 + 3) (by decide)]; exact r5, by rw [m (4 + 3) (by decide)]; exact r6, by rw [m (4 + 4) (by decide)]; exact r7, fun i i0 i1 => ?_⟩
  have i1 : i < aN s := i1
  have hr := r8 i i0 i1
  rw [e9] at hr ⊢
  rw [m 9 (by decide)]
  have cs : CS w w h h' := ⟨Int.le_refl _, fun x x0 _ => ⟨rfl, m x (by omega)⟩⟩
  by_cases hik : i = k
  · subst hik
    rw [h7]
    refine ⟨fun f f0 f1 => ?_, CC_fr hr.2 cs⟩
    rw [hg f f0 f1]
    show g f = (if i = i then g else aRul s i) f
    rw [if_pos rfl]
  · have hne : h 9 i ≠ h 9 k := fun e => hik (r1.2.2.2.2.2.2.2 i k i0 (by omega) hk.1 (by omega) e)
    rw [hb _ hne]
    refine ⟨fun f f0 f1 => ?_, CC_fr hr.2 cs⟩
    rw [hr.1 f f0 f1]
    show aRul s i f = (if i = k then g else aRul s i) f
    rw [if_neg hik]
theorem L_carry0 (hW : ShW w 4) {f t x : Int} (hf : 0 ≤ f) (ht : t < 6) : ∀ (m : Nat) (k : Int) (h : mm_H), h 4 7 = 9 → (∀ i : Int, 0 ≤ i → i < 6 → 11 ≤ h 9 i ∧ h 9 i < 17) → 0 ≤ k → k + m = t → ∃ h', l_Sh_carryRule_0 (mm_P d) 4 f t x k w h = some (.inr (77, [(2, 4), (0, f), (0, t), (2, x), (0, t)], w, h')) ∧ (∀ b : Int, b ≠ 9 → h' b = h b) ∧ ∀ j : Int, h' 9 j = if k ≤ j ∧ j < t then h 9 (j + 1) else h 9 j := by
  have w4 : (w.1 4).1 = 9 := by rw [hW.2.1]
  have w9 : w.1 9 = (107, 6) := hW.2.2.2.2.2.2.1
  intro m
  induction m with
  | zero =>
    intro k h a1 a2 a3 a4
    rw [l_Sh_carryRule_0_eq, mLe_t (by omega)]
    exact ⟨h, by rw [show k = t by omega], fun _ _ => rfl, fun j => by rw [if_neg (by omega)]⟩
  | succ m ih =>
    intro k h a1 a2 a3 a4
    have hv := a2 (k + 1) (by omega) (by omega)
    have wr := hW.2.2.2.2.2.2.2.2 (h 9 (k + 1) - 11) (by omega) (by omega)
    rw [show (4 : Int) + 7 + (h 9 (k + 1) - 11) = h 9 (k + 1) by omega] at wr
    rw [l_Sh_carryRule_0_eq, mLe_f (by omega), mF_t w4, a1, mN_t w9 (by decide), w9, mI_id (x := k + 1) (by omega) (by omega), mLe_f (show k + 1 < (6 : Int) by omega), mF_t w4, mF_t w4, mAr_t w9 (by decide) (by omega) (by omega)]
    rw [show ∀ (α : Type) (b c : α), mAs w 9 k (h 9 (k + 1)) b c = c from fun α b c => if_pos ⟨by rw [w9]; decide, a3, by rw [w9]; show k < 6; omega, by omega, by rw [wr, w9]⟩]
    try dsimp only
    obtain ⟨h', g1, g2, g3⟩ := ih (k + 1) (mUp h 9 k (h 9 (k + 1))) (by rw [mUp_row (by decide)]; exact a1) (fun i i0 i1 => by
      by_cases hi : i = k
      · subst hi; rw [mUp_s]; exact hv
      · rw [mUp_n (Or.inr hi)]; exact a2 i i0 i1) (by omega) (by omega)
    refine ⟨h', g1, fun b hb => by rw [g2 b hb, mUp_row hb], fun j => ?_⟩
    rw [g3]
    by_cases hj : j = k
    · subst hj
      rw [if_neg (by omega), if_pos (by omega), mUp_s]
    · by_cases hh : k ≤ j ∧ j < t
      · rw [if_pos hh, if_pos (by omega), mUp_n (Or.inr (by omega))]
      · rw [if_neg hh, if_neg (by omega), mUp_n (Or.inr hj)]
theorem L_carry1 (hW : ShW w 4) {f t x : Int} (ht : 0 ≤ t) : ∀ (m : Nat) (k : Int) (h : mm_H), h 4 7 = 9 → (∀ i : Int, 0 ≤ i → i < 6 → 11 ≤ h 9 i ∧ h 9 i < 17) → k < 6 → k = t + m → ∃ h', l_Sh_carryRule_1 (mm_P d) 4 f t x k w h = some (.inr (118, [(2, 4), (0, f), (0, t), (2, x), (0, t)], w, h')) ∧ (∀ b : Int, b ≠ 9 → h' b = h b) ∧ ∀ j : Int, h' 9 j = if t < j ∧ j ≤ k then h 9 (j - 1) else h 9 j := by
  have w4 : (w.1 4).1 = 9 := by rw [hW.2.1]
  have w9 : w.1 9 = (107, 6) := hW.2.2.2.2.2.2.1
  intro m
  induction m with
  | zero =>
    intro k h a1 a2 a3 a4
    rw [l_Sh_carryRule_1_eq, mLe_t (by omega)]
    exact ⟨h, by rw [show k = t by omega], fun _ _ => rfl, fun j => by rw [if_neg (by omega)]⟩
  | succ m ih =>
    intro k h a1 a2 a3 a4
    have hv := a2 (k - 1) (by omega) (by omega)
    have wr := hW.2.2.2.2.2.2.2.2 (h 9 (k - 1) - 11) (by omega) (by omega)
    rw [show (4 : Int) + 7 + (h 9 (k - 1) - 11) = h 9 (k - 1) by omega] at wr
    rw [l_Sh_carryRule_1_eq, mLe_f (by omega), mF_t w4, a1, mN_t w9 (by decide), w9, mLe_f (show k < (6 : Int) by omega), mF_t w4, mF_t w4, mI_id (x := k - 1) (by omega) (by omega), mAr_t w9 (by decide) (by omega) (by omega)]
    rw [show ∀ (α : Type) (b c : α), mAs w 9 k (h 9 (k - 1)) b c = c from fun α b c => if_pos ⟨by rw [w9]; decide, by omega, by rw [w9]; show k < 6; omega, by omega, by rw [wr, w9]⟩]
    try dsimp only
    obtain ⟨h', g1, g2, g3⟩ := ih (k + -1) (mUp h 9 k (h 9 (k - 1))) (by rw [mUp_row (by decide)]; exact a1) (fun i i0 i1 => by
      by_cases hi : i = k
      · subst hi; rw [mUp_s]; exact hv
      · rw [mUp_n (Or.inr hi)]; exact a2 i i0 i1) (by omega) (by omega)
    rw [mI_id (by omega) (by omega)]
    refine ⟨h', g1, fun b hb => by rw [g2 b hb, mUp_row hb], fun j => ?_⟩
    rw [g3]
    by_cases hj : j = k
    · subst hj
      rw [if_neg (by omega), if_pos (by omega), mUp_s]
    · by_cases hh : t < j ∧ j ≤ k
      · rw [if_pos hh, if_pos (by omega), mUp_n (Or.inr (by omega))]
      · rw [if_neg hh, if_neg (by omega), mUp_n (Or.inr hj)]
theorem E_carryRule (hd : 1 ≤ d) (hW : ShW w 4) (hH : ShH h 4) {f t : Int} (hf : 0 ≤ f ∧ f < 6) (ht : 0 ≤ t ∧ t < 6) : ∃ h', mm_P d 107 [(2, 4), (0, f), (0, t)] w h = some ((9, 0), w, h') ∧ (∀ b : Int, b ≠ 9 → h' b = h b) ∧ (∀ k : Int, 0 ≤ k → k < 6 → h' 9 k = h 9 (crr f t k)) ∧ ShH h' 4 := by
  obtain ⟨d, rfl, hd2⟩ := mm_dS hd; clear hd; have hd := hd2; clear hd2
  have w4 : (w.1 4).1 = 9 := by rw [hW.2.1]
  have w9 : w.1 9 = (107, 6) := hW.2.2.2.2.2.2.1
  have p7 : h 4 7 = 9 := hH.2.2.2.2.1
  have rg : ∀ i : Int, 0 ≤ i → i < 6 → 11 ≤ h 9 i ∧ h 9 i < 17 := fun i i0 i1 => by
    have := hH.2.2.2.2.2.2.1 i i0 i1
    rw [show (4 : Int) + 5 = 9 from rfl] at this
    omega
  have hv := rg f hf.1 hf.2
  have wr := hW.2.2.2.2.2.2.2.2 (h 9 f - 11) (by omega) (by omega)
  rw [show (4 : Int) + 7 + (h 9 f - 11) = h 9 f by omega] at wr
  -- the first loop
  obtain ⟨h1, b1, b2, b3⟩ : ∃ h1, l_Sh_carryRule_0 (mm_P d) 4 f t (h 9 f) f w h = some (.inr (77, [(2, 4), (0, f), (0, t), (2, h 9 f), (0, if f ≤ t then t else f)], w, h1)) ∧ (∀ b : Int, b ≠ 9 → h1 b = h b) ∧ ∀ j : Int, h1 9 j = if f ≤ j ∧ j < t then h 9 (j + 1) else h 9 j := by
    by_cases c : f ≤ t
    · rw [if_pos c]
      exact L_carry0 hW hf.1 ht.2 (t - f).toNat f h p7 rg hf.1 (by omega)
    · rw [if_neg c, l_Sh_carryRule_0_eq, mLe_t (by omega)]
      exact ⟨h, rfl, fun _ _ => rfl, fun j => by rw [if_neg (by omega)]⟩
  have rg1 : ∀ i : Int, 0 ≤ i → i < 6 → 11 ≤ h1 9 i ∧ h1 9 i < 17 := fun i i0 i1 => by
    rw [b3]
    split
    · exact rg _ (by omega) (by omega)
    · exact rg i i0 i1
  obtain ⟨h2, c1, c2, c3⟩ : ∃ h2, l_Sh_carryRule_1 (mm_P d) 4 f t (h 9 f) f w h1 = some (.inr (118, [(2, 4), (0, f), (0, t), (2, h 9 f), (0, if t ≤ f then t else f)], w, h2)) ∧ (∀ b : Int, b ≠ 9 → h2 b = h1 b) ∧ ∀ j : Int, h2 9 j = if t < j ∧ j ≤ f then h1 9 (j - 1) else h1 9 j := by
    by_cases c : t ≤ f
    · rw [if_pos c]
      exact L_carry1 hW ht.1 (f - t).toNat f h1 (by rw [b2 4 (by decide)]; exact p7) rg1 hf.2 (by omega)
    · rw [if_neg c, l_Sh_carryRule_1_eq, mLe_t (by omega)]
      exact ⟨h1, rfl, fun _ _ => rfl, fun j => by rw [if_neg (by omega)]⟩
  have fin : ∀ k : Int, 0 ≤ k → k < 6 → mUp h2 9 t (h 9 f) 9 k = h 9 (crr f t k) := by
    intro k k0 k1
    unfold crr
    by_cases hk : k = t
    · subst hk; rw [mUp_s, if_pos rfl]
    · rw [mUp_n (Or.inr hk), if_neg hk, c3]
      by_cases q1 : t < k ∧ k ≤ f
      · rw [if_pos q1, b3, if_neg (by omega), if_neg (by omega), if_pos q1]
      · rw [if_neg q1, b3]
        by_cases q2 : f ≤ k ∧ k < t
        · rw [if_pos q2, if_pos q2]
        · rw [if_neg q2, if_neg q2, if_neg q1]
  refine ⟨mUp h2 9 t (h 9 f), ?_, fun b hb => by rw [mUp_row hb, c2 b hb, b2 b hb], fin, ?_⟩
  · rw [P_Sh_carryRule, mLt_f hf.1, mF_t w4, p7, mN_t w9 (by decide), w9, mLe_f hf.2, mLt_f ht.1, mF_t w4, mN_t w9 (by decide), mLt_t ht.2, mF_t w4, mAr_t w9 (by decide) hf.1 hf.2]
    try dsimp only
    rw [b1, mK_r, if_pos rfl]
    simp only [mP_0, mP_1, mP_2, mP_3]
    rw [c1, mK_r, if_pos rfl]
    simp only [mP_0, mP_1, mP_2, mP_3]
    rw [mF_t w4, show h2 4 7 = 9 by rw [c2 4 (by decide), b2 4 (by decide)]; exact p7]
    exact if_pos ⟨by rw [w9]; decide, ht.1, by rw [w9]; exact ht.2, by omega, by rw [wr, w9]⟩
  · have r4 : ∀ b : Int, b ≠ 9 → mUp h2 9 t (h 9 f) b = h b := fun b hb => by rw [mUp_row hb, c2 b hb, b2 b hb]
    obtain ⟨q1, q2, q3, q4, q5, q6, q7, q8⟩ := hH
    refine ⟨by rw [r4 4 (by decide)]; exact q1, by rw [r4 4 (by decide)]; exact q2, by rw [r4 4 (by decide)]; exact q3, by rw [r4 4 (by decide)]; exact q4, by rw [r4 4 (by decide)]; exact q5, by rw [r4 4 (by decide)]; exact q6, fun i i0 i1 => ?_, fun i j i0 i1 j0 j1 e => ?_⟩
    · rw [show (4 : Int) + 5 = 9 from rfl, fin i i0 i1]
      have := crr_in hf ht ⟨i0, i1⟩
      exact q7 _ this.1 this.2
    · rw [show (4 : Int) + 5 = 9 from rfl, fin i i0 i1, fin j j0 j1] at e
      have u := crr_in hf ht ⟨i0, i1⟩
      have v := crr_in hf ht ⟨j0, j1⟩
      exact crr_inj (q8 _ _ u.1 u.2 v.1 v.2 e)
theorem E_dropRule (hd : 2 ≤ d) (hW : ShW w 4) (hs : 0 ≤ aN s ∧ aN s ≤ 6) (hR : RC w h 4 s) (r : Int) : ((0 ≤ r ∧ r < aN s) ∧ ∃ h', mm_P d 105 [(2, 4), (0, r)] w h = some ((0, aN s - 1), w, h') ∧ RC w h' 4 (F_drop s r) ∧ ∀ b : Int, b ≠ 4 → b ≠ 9 → h' b = h b) ∨ (¬ (0 ≤ r ∧ r < aN s) ∧ mm_P d 105 [(2, 4), (0, r)] w h = some ((0, -2), w, h)) := by
  obtain ⟨d, rfl, hd2⟩ := mm_dS hd; clear hd; have hd := hd2; clear hd2
  have w4 : (w.1 4).1 = 9 := by rw [hW.2.1]
  rw [P_Sh_dropRule, mF_t w4, E_hasRule hd hW, mC_s, hR.2.1.2.2]
  by_cases c : 0 ≤ r ∧ r < aN s
  rotate_left
  · rw [bI_f c, mEq_t rfl]
    exact Or.inr ⟨c, rfl⟩
  obtain ⟨h1, b1, b2, b3, b4⟩ := E_carryRule hd hW hR.1 (f := r) (t := aN s - 1) (by omega) (by omega)
  refine Or.inl ⟨c, ?_⟩
  rw [bI_t c, mEq_f (by decide), mF_t w4, mF_t w4, mI_id (by omega) (by omega), b1, mC_s]
  simp only [mF_t w4]
  have e42 : h1 4 2 = aN s := by rw [b2 4 (by decide)]; exact hR.2.1.2.2
  rw [e42, mI_id (by omega) (by omega)]
  refine ⟨mUp h1 4 2 (aN s - 1), by rw [mUp_s], RC_rul hR (by omega) (fun k k0 k1 => by split <;> omega) hs.2 (ShH_fr b4 (fun i i0 _ => mUp_n (Or.inr (by omega))) (mUp_row (by decide))) (fun i hi => by rw [mUp_n (Or.inr hi), b2 4 (by decide)]) mUp_s (fun k k0 k1 => ?_) (fun b n4 n9 => by rw [mUp_row n4, b2 b n9]), fun b n4 n9 => by rw [mUp_row n4, b2 b n9]⟩
  rw [mUp_row (by decide), b3 k k0 (by omega)]
  congr 1
  unfold crr
  repeat' split
  all_goals omega
theorem E_bringRule (hd : 2 ≤ d) (hW : ShW w 4) (hs : 0 ≤ aN s ∧ aN s ≤ 6) (hR : RC w h 4 s) (r t : Int) : (((0 ≤ r ∧ r < aN s) ∧ (0 ≤ t ∧ t < aN s)) ∧ ∃ h', mm_P d 106 [(2, 4), (0, r), (0, t)] w h = some ((0, 1), w, h') ∧ RC w h' 4 (F_carry s r t) ∧ ∀ b : Int, b ≠ 4 → b ≠ 9 → h' b = h b) ∨ (¬ ((0 ≤ r ∧ r < aN s) ∧ (0 ≤ t ∧ t < aN s)) ∧ mm_P d 106 [(2, 4), (0, r), (0, t)] w h = some ((0, -2), w, h)) := by
  obtain ⟨d, rfl, hd2⟩ := mm_dS hd; clear hd; have hd := hd2; clear hd2
  have w4 : (w.1 4).1 = 9 := by rw [hW.2.1]
  rw [P_Sh_bringRule, mF_t w4, E_hasRule hd hW, mC_s, hR.2.1.2.2]
  by_cases c : 0 ≤ r ∧ r < aN s
  rotate_left
  · rw [bI_f c, mEq_t rfl]
    exact Or.inr ⟨fun z => c z.1, rfl⟩
  rw [bI_t c, mEq_f (by decide), mF_t w4, E_hasRule hd hW, mC_s, hR.2.1.2.2]
  by_cases c2 : 0 ≤ t ∧ t < aN s
  rotate_left
  · rw [bI_f c2, mEq_t rfl]
    exact Or.inr ⟨fun z => c2 z.2, rfl⟩
  obtain ⟨h1, b1, b2, b3, b4⟩ := E_carryRule hd hW hR.1 (f := r) (t := t) (by omega) (by omega)
  refine Or.inl ⟨⟨c, c2⟩, ?_⟩
  rw [bI_t c2, mEq_f (by decide), mF_t w4, b1, mC_s]
  refine ⟨h1, rfl, RC_rul hR hs.2 (fun k k0 k1 => ?_) hs.2 b4 (fun i _ => by rw [b2 4 (by decide)]) (by rw [b2 4 (by decide)]; exact hR.2.1.2.2) (fun k k0 k1 => b3 k k0 (by omega)) (fun b _ n9 => b2 b n9), fun b _ n9 => b2 b n9⟩
  unfold crr
  repeat' split
  all_goals omega
end PU
