/-! PURE: programs: a block is read by the class. -/
def zO2 (h h' : mm_H) : Prop := (∀ b : Int, b ≠ 461 → b ≠ 465 → b ≠ 466 → h' b = h b) ∧ (h' 461 0 = h 461 0 ∧ h' 461 1 = h 461 1) ∧ ∀ i : Int, i < 2 → h' 465 i = h 465 i
theorem zO2_rf (h : mm_H) : zO2 h h := ⟨fun _ _ _ _ => rfl, ⟨rfl, rfl⟩, fun _ _ => rfl⟩
theorem zO2_tr {a b c : mm_H} (x : zO2 a b) (y : zO2 b c) : zO2 a c := ⟨fun q h1 h2 h3 => (y.1 q h1 h2 h3).trans (x.1 q h1 h2 h3), ⟨y.2.1.1.trans x.2.1.1, y.2.1.2.trans x.2.1.2⟩, fun i hi => (y.2.2 i hi).trans (x.2.2 i hi)⟩
theorem zO2_1 {h h' : mm_H} (o : zO h h') : zO2 h h' := ⟨o.1, o.2.1, fun i hi => o.2.2 i (by omega)⟩
theorem zO2_H {w : mm_W} {h h' : mm_H} (o : zO2 h h') (c : zH w h) : zH w h' := ⟨by rw [o.2.2 0 (by decide)]; exact c.1, by rw [o.2.2 1 (by decide)]; exact c.2.1, SW_fr c.2.2 (fun b hb => o.1 b (by omega) (by omega) (by omega))⟩
section PU
variable {d : Nat} {w : mm_W} {h : mm_H} {R : Int → Int} {B : Int → Int} {n p : Int} {q0 : Nat} {x : pR}
theorem Z_opens (hd : 8 ≤ d) (hW : zW w) {op : Int} {L : List Int} (hx : zC w R h B n q0 (.inr (p, L))) : ∃ (h' : mm_H) (v : Int), mm_P d 64 [(2, 465), (0, op)] w h = some ((0, v), w, h') ∧ zO h h' ∧ ((v = 0 ∧ ∃ f, opT B n op p = .inl f ∧ zC w R h' B n q0 (.inl f)) ∨ (v = 1 ∧ (op < 4 ∧ tK B n p = 123) ∧ zC w R h' B n q0 (.inr (tE B n p, L)))) := by
  obtain ⟨d, rfl, hd2⟩ := mm_dS hd; clear hd; have hd := hd2; clear hd2
  have hw : (w.1 465).1 = 6 := by rw [hW.2.1]
  have hw2 : (w.1 461).1 = 10 := by rw [hW.1.1]
  rw [P_Pg_opens]
  simp only [mF_t hw]
  by_cases c : op < 4
  rotate_left
  · obtain ⟨h1, a1, a2, a3⟩ := E_refuse (d := d) (by omega) hW.1 hx.2.1
    obtain ⟨k1, k2⟩ := zC_flt (R := R) (q0 := q0) hx.1 a2 a3
    rw [mLe_t (by omega), zC_461 hx, mF_t hw2, a1, mC_s, mLe_t (by omega), mZ_0]
    exact ⟨h1, 0, rfl, k1, Or.inl ⟨rfl, _, opT_f (fun z => c z.1), k2⟩⟩
  obtain ⟨h1, a1, a2, a3⟩ := Z_sg (d := d) (by omega) hW 123 hx
  rw [mLe_f (by omega), zC_461 hx, mF_t hw2, a1, mC_s, mLe_f (by omega)]
  simp only [mF_t hw]
  rw [zC_461 a3, mF_t hw2]
  by_cases q : tK B n p = 123
  · rw [bnd_rr (iSg_t q), List.append_nil] at a3
    rw [a3.2.1.2.1, mEq_t rfl, mZ_1]
    exact ⟨h1, 1, rfl, a2, Or.inr ⟨rfl, ⟨c, q⟩, a3⟩⟩
  · rw [bnd_rl (iSg_f q)] at a3
    rw [a3.2.2.1, mEq_f a3.2.2.2.1, mZ_0]
    exact ⟨h1, 0, rfl, a2, Or.inl ⟨rfl, _, opT_f (fun z => q z.2), a3⟩⟩
/-- a fault ends the loop -/
theorem Z_exit (hW : zW w) (hH : zH w h) {f : Int} (hF : TF h B n f) (op i : Int) : l_Pg_readLines_0 (mm_P d) 465 op i w h = some (.inr (131, [(2, 465), (0, op), (0, i), (9, 0), (9, 0)], w, h)) := by
  have hw : (w.1 465).1 = 6 := by rw [hW.2.1]
  have hw2 : (w.1 461).1 = 10 := by rw [hW.1.1]
  rw [l_Pg_readLines_0_eq]
  by_cases c : 200 ≤ i
  · rw [mLe_t c]
  · rw [mLe_f (by omega)]
    simp only [mF_t hw]
    rw [hH.1, mF_t hw2, hF.2.2.2, mEq_f (by decide)]
/-- what a block leaves -/
def zB (w : mm_W) (B : Int → Int) (n : Int) (h h' : mm_H) (ln : Nat) (p : Int) (z : Int ⊕ (Int × List (List Int))) : Prop := zO2 h h' ∧ zH w h' ∧ match z with
  | .inl f => TF h' B n f
  | .inr (p', P) => TA h' B n p' ∧ h' 465 2 = ((ln + P.length : Nat) : Int) ∧ clP h' 466 ln P ∧ (∀ j : Int, j < 9 * ln → h' 466 j = h 466 j) ∧ tK B n p' ≠ 1 ∧ p + P.length ≤ p' ∧ ∀ L ∈ P, L.length ≤ 9
theorem zC_465 {h0 : mm_H} (hH : zH w h0) {ln : Nat} {p' : Int} (hl : ln < 200) (e2 : h0 465 2 = (ln : Int)) (y : (∃ f, x = .inl f ∧ TF h0 B n f) ∨ (x = .inr (p', []) ∧ TA h0 B n p')) : zC w (h0 466) (mUp (mUp h0 465 2 (mI (h0 465 2 + 1))) 465 3 (mI ((ln : Int) * 9))) B n (9 * ln) x ∧ zO2 h0 (mUp (mUp h0 465 2 (mI (h0 465 2 + 1))) 465 3 (mI ((ln : Int) * 9))) ∧ mUp (mUp h0 465 2 (mI (h0 465 2 + 1))) 465 3 (mI ((ln : Int) * 9)) 465 2 = ((ln + 1 : Nat) : Int) := by
  rw [e2, mI_id (x := (ln : Int) + 1) (by omega) (by omega), mI_id (x := (ln : Int) * 9) (by omega) (by omega)]
  generalize hg : mUp (mUp h0 465 2 ((ln : Int) + 1)) 465 3 ((ln : Int) * 9) = h1
  have e : ∀ b : Int, b ≠ 465 → h1 b = h0 b := fun b hb => by rw [← hg, mUp_row hb, mUp_row hb]
  have o : zO2 h0 h1 := ⟨fun b _ b2 _ => e b b2, ⟨by rw [e 461 (by decide)], by rw [e 461 (by decide)]⟩, fun i hi => by rw [← hg, mUp_n (Or.inr (by omega)), mUp_n (Or.inr (by omega))]⟩
  refine ⟨⟨zO2_H o hH, ?_⟩, o, by rw [← hg, mUp_n (Or.inr (by decide)), mUp_s]; omega⟩
  rcases y with ⟨f, rfl, y⟩ | ⟨rfl, y⟩
  · exact TF_fr y (e 461 (by decide)) (e 462 (by decide))
  · refine ⟨TA_fr y (e 461 (by decide)) (e 462 (by decide)), by rw [← hg, mUp_s]; show (ln : Int) * 9 = ((9 * ln + 0 : Nat) : Int); omega, Seg_nil, fun j _ => by rw [e 466 (by decide)]⟩
theorem pick_L2 (W : List Int) : pick W [112, 97, 105, 110, 116, 32, 114, 111, 119, 115, 32, 99, 111, 108, 117, 109, 110, 115, 32, 105, 110, 115, 101, 114, 116, 32, 114, 101, 109, 111, 118, 101, 32, 99, 111, 112, 121, 32, 116, 117, 114, 110, 32, 116, 105, 100, 121, 32, 115, 104, 105, 102, 116, 32, 114, 101, 112, 101, 97, 116] 60 0 0 0 = oL W := pick_L W
theorem Z_blk (hW : zW w) : ∀ (m : Nat) (op p : Int) (ln : Nat) (i : Int) (d : Nat) (h : mm_H), 0 ≤ op → op ≤ 4 → 35 - op ≤ (d : Int) → TA h B n p → zH w h → h 465 2 = (ln : Int) → (ln : Int) ≤ p → 0 ≤ i → i ≤ p → n - p < m → ∃ (h' : mm_H) (i' : Int), l_Pg_readLines_0 (mm_P d) 465 op i w h = some (.inr (131, [(2, 465), (0, op), (0, i'), (9, 0), (9, 0)], w, h')) ∧ zB w B n h h' ln p (blk B n m op p) := by
  have hw : (w.1 465).1 = 6 := by rw [hW.2.1]
  have hw2 : (w.1 461).1 = 10 := by rw [hW.1.1]
  intro m
  induction m with
  | zero =>
    intro op p ln i d h _ _ _ hA _ _ _ _ _ hm
    have := hA.2.2.2.2.2
    omega
  | succ m ih =>
    intro op p ln i d h o0 o1 hd hA hH el hlp i0 ip hm
    have hp := hA.2.2.2.2.2
    have hn := hA.1.2.2.1
    by_cases hk : tK B n p = 1
    rotate_left
    · rw [l_Pg_readLines_0_eq, blk_e hk]
      have ex : zB w B n h h ln p (.inr (p, [])) := ⟨zO2_rf h, hH, hA, el, trivial, fun _ _ => rfl, hk, by show p + ((0 : Nat) : Int) ≤ p; omega, fun L hL => by cases hL⟩
      by_cases c : 200 ≤ i
      · rw [mLe_t c]; exact ⟨h, i, rfl, ex⟩
      · rw [mLe_f (by omega)]
        simp only [mF_t hw]
        rw [hH.1, mF_t hw2, hA.2.2.1, mEq_f hk]
        exact ⟨h, i, rfl, ex⟩
    have t0 := tE_lt hp.2 (show tK B n p ≠ 0 by omega)
    have ts := tS_le (B := B) hp.2
    rw [l_Pg_readLines_0_eq, mLe_f (by omega)]
    simp only [mF_t hw]
    rw [hH.1, mF_t hw2, hA.2.2.1, mEq_t hk, mF_t hw2]
    -- a fault: the loop ends behind the line
    have flt : ∀ (h1 : mm_H) (f : Int), zO2 h h1 → zC w (h 466) h1 B n (9 * ln) (.inl f) → blk B n (m + 1) op p = .inl f → ∃ (h' : mm_H) (i' : Int), l_Pg_readLines_0 (mm_P d) 465 op (mI (i + 1)) w h1 = some (.inr (131, [(2, 465), (0, op), (0, i'), (9, 0), (9, 0)], w, h')) ∧ zB w B n h h' ln p (blk B n (m + 1) op p) := fun h1 f o c e => by
      rw [Z_exit hW c.1 c.2, e]
      exact ⟨h1, _, rfl, o, c.1, c.2⟩
    rcases E_needOneOf (d := d) (by omega) hW.1 hH.2.2.1 (SW_20 hH.2.2) hA with ⟨k, ck, h1, a1, a2, a3⟩ | ⟨ck, h1, a1, a2, a3⟩
    rotate_left
    · -- no such word
      have ck : oL (tWd B n p) = none := by rw [← pick_L2]; exact ck
      have H1 := zO_H (zO_to a2) hH
      have e1 : h1 465 2 = (ln : Int) := by rw [a2.1 465 (by decide)]; exact el
      obtain ⟨c1, c2, c3⟩ := zC_465 (x := .inl (tS B n p)) (p' := 0) H1 (by omega) e1 (Or.inl ⟨_, rfl, a3⟩)
      rw [show h1 466 = h 466 from a2.1 466 (by decide)] at c1
      rw [a1, mC_s]
      try dsimp only
      simp only [mF_t hw]
      rw [show mI (h1 465 2 * 9) = mI ((ln : Int) * 9) by rw [e1]]
      generalize mUp (mUp h1 465 2 (mI (h1 465 2 + 1))) 465 3 (mI ((ln : Int) * 9)) = h2 at c1 c2 c3 ⊢
      obtain ⟨h3, b1, b2, b3⟩ := Z_add (d := d) (by omega) hW c1 (by omega) (Nat.zero_le _) (-1)
      have b3 : zC w (h 466) h3 B n (9 * ln) (.inl (tS B n p)) := b3
      rw [b1, mC_s]
      simp only [mF_t hw]
      have rd : ∃ h4, mm_P d 65 [(2, 465), (0, -1)] w h3 = some ((9, 0), w, h4) ∧ zO h3 h4 ∧ zC w (h 466) h4 B n (9 * ln) (.inl (tS B n p)) := by
        obtain ⟨d, rfl, hd2⟩ := mm_dS (show 29 + 1 ≤ d by omega)
        obtain ⟨h4, g1, g2, g3⟩ := E_refuse_f (d := d) (by omega) hW.1 b3.2
        obtain ⟨k1, k2⟩ := zC_flt (R := h 466) (q0 := 9 * ln) b3.1 g2 g3
        rw [P_Pg_readNumbers]
        simp only [mF_t hw]
        rw [mEq_f (by decide), mEq_f (by decide), mEq_f (by decide), mEq_f (by decide), mEq_f (by decide), mEq_f (by decide), mEq_f (by decide), mEq_f (by decide), mEq_f (by decide), mEq_f (by decide), zC_461 b3, mF_t hw2, g1, mC_s]
        exact ⟨h4, rfl, k1, k2⟩
      obtain ⟨h4, d1, d2, d3⟩ := rd
      obtain ⟨h5, f1, f2, f3⟩ := Z_sg (d := d) (by omega) hW 59 d3
      rw [d1, mC_s, mEq_f (by decide)]
      simp only [mF_t hw]
      rw [zC_461 d3, mF_t hw2, f1, mC_s]
      exact flt h5 _ (zO2_tr (zO2_1 (zO_to a2)) (zO2_tr c2 (zO2_1 (zO_tr b2 (zO_tr d2 f2))))) f3 (blk_n hk ck)
    have ck : oL (tWd B n p) = some k := by rw [← pick_L2]; exact ck
    obtain ⟨_, l1, l2, l3⟩ := oL_E hp.2 ck
    have H1 := zO_H (zO_to a2) hH
    have e1 : h1 465 2 = (ln : Int) := by rw [a2.1 465 (by decide)]; exact el
    obtain ⟨c1, c2, c3⟩ := zC_465 (x := .inr (tE B n p, [])) (p' := tE B n p) H1 (by omega) e1 (Or.inr ⟨rfl, a3⟩)
    rw [show h1 466 = h 466 from a2.1 466 (by decide)] at c1
    rw [a1, mC_s]
    try dsimp only
    simp only [mF_t hw]
    rw [show mI (h1 465 2 * 9) = (ln : Int) * 9 by rw [e1, mI_id (by omega) (by omega)]]
    rw [mI_id (x := (ln : Int) * 9) (by omega) (by omega)] at c1 c2 c3
    generalize mUp (mUp h1 465 2 (mI (h1 465 2 + 1))) 465 3 ((ln : Int) * 9) = h2 at c1 c2 c3 ⊢
    obtain ⟨h3, b1, b2, b3⟩ := Z_add (d := d) (by omega) hW c1 (by omega) (Nat.zero_le _) (k : Int)
    have b3 : zC w (h 466) h3 B n (9 * ln) (.inr (tE B n p, [(k : Int)])) := b3
    obtain ⟨h4, d1, d2, d3⟩ := Z_nums (d := d) (by omega) hW (by omega) (Nat.le_refl _) b3 (k := (k : Int)) (by omega)
    have O4 : zO2 h h4 := zO2_tr (zO2_1 (zO_to a2)) (zO2_tr c2 (zO2_1 (zO_tr b2 d2)))
    have e4 : h4 465 2 = ((ln + 1 : Nat) : Int) := by rw [d2.2.2 2 (by decide), b2.2.2 2 (by decide)]; exact c3
    rw [b1, mC_s]
    simp only [mF_t hw]
    rw [d1, mC_s]
    rw [lnT_H] at d3
    by_cases h9 : k = 9
    rotate_left
    · -- a line that is no repeat
      rw [mEq_f (by omega)]
      simp only [mF_t hw]
      obtain ⟨h5, f1, f2, f3⟩ := Z_sg (d := d) (by omega) hW 59 d3
      rw [zC_461 d3, mF_t hw2, f1, mC_s]
      rcases et : lnT B n (k : Int) (.inr (tE B n p, [])) with f | ⟨p1, M⟩
      · rw [et] at f3
        exact flt h5 f (zO2_tr O4 (zO2_1 f2)) f3 (blk_lf hk ck h9 et)
      rw [et] at f3
      have f3 : zC w (h 466) h5 B n (9 * ln) (bnd (.inr (p1, (k : Int) :: M)) (iSg B n 59)) := f3
      obtain ⟨n1, n2, n3, n4⟩ := lnT_sp (B := B) (n := n) (k := (k : Int)) (by omega) l2 p1 M et
      obtain ⟨r1, r2⟩ := rfL_k n1 ⟨by omega, by omega⟩
      have cp : 0 ≤ lnC (k : Int) := by unfold lnC; repeat' split <;> omega
      by_cases q : tK B n p1 = 59
      rotate_left
      · rw [bnd_rl (iSg_f q)] at f3
        exact flt h5 _ (zO2_tr O4 (zO2_1 f2)) f3 (blk_ls hk ck h9 et q)
      rw [bnd_rr (iSg_t q), List.append_nil] at f3
      obtain ⟨g0, g1, g2, g3, g4⟩ := f3
      have u1 := tE_lt n3 (show tK B n p1 ≠ 0 by omega)
      have u2 := tE_le (B := B) n3
      obtain ⟨h6, i6, y1, y2, y3, y4⟩ := ih op (tE B n p1) (ln + 1) (i + 1) d h5 o0 o1 hd g1 g0 (by rw [f2.2.2 2 (by decide)]; exact e4) (by omega) (by omega) (by omega) (by omega)
      rw [mI_id (x := i + 1) (by omega) (by omega), y1]
      refine ⟨h6, i6, rfl, zO2_tr (zO2_tr O4 (zO2_1 f2)) y2, y3, ?_⟩
      rcases eb : blk B n m op (tE B n p1) with f | ⟨p2, P2⟩
      · rw [eb] at y4
        rw [blk_lb hk ck h9 et q eb]; exact y4
      · rw [eb] at y4
        obtain ⟨v1, v2, v3, v4, v5, v6, v7⟩ := y4
        have v6 : tE B n p1 + P2.length ≤ p2 := v6
        rw [blk_lr hk ck h9 et q eb]
        have ec : clR ln ((k : Int) :: M) = (k : Int) :: M := if_neg (by show ¬ (k : Int) = 9; omega)
        refine ⟨v1, by rw [v2, List.length_cons]; omega, ⟨?_, v3⟩, fun j hj => by rw [v4 j (by omega)]; exact g4 j (by omega), v5, by rw [List.length_cons]; omega, fun L hL => ?_⟩
        · rw [ec]
          exact Seg_fr g3 (e := 9 * ln + 9) (by omega) (fun j j0 j1 => v4 j (by omega))
        · rcases List.mem_cons.mp hL with rfl | hL
          · exact r2
          · exact v7 L hL
    -- a repeat
    subst h9
    have d3 : zC w (h 466) h4 B n (9 * ln) (prH [9] (lnT B n 9 (.inr (tE B n p, [])))) := d3
    have e9 : lnT B n 9 (.inr (tE B n p, [])) = bnd (.inr (tE B n p, [])) (iNum B n) := by simp [lnT]
    rw [e9] at d3
    rw [mEq_t (by decide)]
    simp only [mF_t hw]
    rcases en : iNum B n (tE B n p) with f | ⟨p1, M⟩
    · -- no number
      rw [bnd_rl en] at d3
      have d3 : zC w (h 466) h4 B n (9 * ln) (.inl f) := d3
      have op0 : ∃ h5, mm_P d 64 [(2, 465), (0, op)] w h4 = some ((0, 0), w, h5) ∧ zO h4 h5 ∧ zC w (h 466) h5 B n (9 * ln) (.inl f) := by
        obtain ⟨d, rfl, hd2⟩ := mm_dS (show 29 + 1 ≤ d by omega)
        rw [P_Pg_opens]
        simp only [mF_t hw]
        by_cases c : op < 4
        · obtain ⟨h5, g1, g2, g3⟩ := E_needSign_f (d := d) (by omega) hW.1 d3.1.2.2.1 d3.2 123
          obtain ⟨k1, k2⟩ := zC_flt (R := h 466) (q0 := 9 * ln) d3.1 g2 g3
          rw [mLe_f (by omega), zC_461 d3, mF_t hw2, g1, mC_s, mLe_f (by omega)]
          simp only [mF_t hw]
          rw [zC_461 k2, mF_t hw2, g3.2.1, mEq_f g3.2.2.1, mZ_0]
          exact ⟨h5, rfl, k1, k2⟩
        · obtain ⟨h5, g1, g2, g3⟩ := E_refuse_f (d := d) (by omega) hW.1 d3.2
          obtain ⟨k1, k2⟩ := zC_flt (R := h 466) (q0 := 9 * ln) d3.1 g2 g3
          rw [mLe_t (by omega), zC_461 d3, mF_t hw2, g1, mC_s, mLe_t (by omega), mZ_0]
          exact ⟨h5, rfl, k1, k2⟩
      obtain ⟨h5, g1, g2, g3⟩ := op0
      rw [g1, mC_s, mEq_t rfl]
      exact flt h5 f (zO2_tr O4 (zO2_1 g2)) g3 (blk_rf hk ck en)
    rw [bnd_rr en] at d3
    obtain ⟨n1, n2, n3, n4⟩ := iNum_sp (B := B) (n := n) (tE B n p) p1 M (by omega) l2 en
    obtain ⟨t, rfl⟩ : ∃ t, M = [t] := by
      cases M with
      | nil => cases n1
      | cons t M => cases M with
        | nil => exact ⟨t, rfl⟩
        | cons u M => simp at n1
    have d3 : zC w (h 466) h4 B n (9 * ln) (.inr (p1, [9, t])) := d3
    obtain ⟨h5, v, g1, g2, g3⟩ := Z_opens (d := d) (op := op) (by omega) hW d3
    rw [g1, mC_s]
    rcases g3 with ⟨rfl, f, ef, g3⟩ | ⟨rfl, q, g3⟩
    · rw [mEq_t rfl]
      exact flt h5 f (zO2_tr O4 (zO2_1 g2)) g3 (blk_ro hk ck en ef)
    rw [mEq_f (by decide)]
    simp only [mF_t hw]
    have u1 := tE_lt n3 (show tK B n p1 ≠ 0 by omega)
    have u2 := tE_le (B := B) n3
    have O5 := zO2_tr O4 (zO2_1 g2)
    have e5 : h5 465 2 = ((ln + 1 : Nat) : Int) := by rw [g2.2.2 2 (by decide)]; exact e4
    obtain ⟨g0, gA, gq, gS, gR⟩ := g3
    rw [mI_id (x := op + 1) (by omega) (by omega)]
    -- the lines within
    have inn : ∃ h6, mm_P d 63 [(2, 465), (0, op + 1)] w h5 = some ((9, 0), w, h6) ∧ zB w B n h5 h6 (ln + 1) (tE B n p1) (blk B n m (op + 1) (tE B n p1)) := by
      obtain ⟨d, rfl, hd2⟩ := mm_dS (show 30 + 1 ≤ d by omega)
      obtain ⟨h6, i6, y1, y2⟩ := ih (op + 1) (tE B n p1) (ln + 1) 0 d h5 (by omega) (by omega) (by omega) gA g0 e5 (by omega) (Int.le_refl _) (by omega) (by omega)
      rw [P_Pg_readLines, y1, mK_r, if_pos rfl]
      exact ⟨h6, rfl, y2⟩
    obtain ⟨h6, y1, yO, yH, y4⟩ := inn
    rw [y1, mC_s]
    simp only [mF_t hw]
    rw [yH.1, mF_t hw2, mI_id (x := (ln : Int) * 9 + 2) (by omega) (by omega)]
    have O6 := zO2_tr O5 yO
    -- behind a fault within, or at the brace
    have fl2 : ∀ (h7 : mm_H) (f : Int), zO2 h h7 → zH w h7 → TF h7 B n f → blk B n (m + 1) op p = .inl f → ∃ (h' : mm_H) (i' : Int), (mF w 465 6 none (mF w 465 6 none (mC ((mm_P d) 200 [(2, h7 465 1), (0, (ln : Int) * 9 + 2), (0, h7 465 2)] w h7) 9 none (fun v23 w24 h25 => l_Pg_readLines_0 (mm_P d) 465 op (mI (i + 1)) w24 h25)))) = some (.inr (131, [(2, 465), (0, op), (0, i'), (9, 0), (9, 0)], w, h')) ∧ zB w B n h h' ln p (blk B n (m + 1) op p) := fun h7 f o hH7 hF e => by
      rw [mF_t hw, mF_t hw, hH7.2.1, E_poke_t (by omega) hW.2.2 (by decide) (by omega) (by omega), mC_s]
      have u : ∀ b : Int, b ≠ 466 → mUp h7 466 ((ln : Int) * 9 + 2) (h7 465 2) b = h7 b := fun b hb => mUp_row hb
      have o2 : zO2 h7 (mUp h7 466 ((ln : Int) * 9 + 2) (h7 465 2)) := ⟨fun b _ _ b3 => u b b3, ⟨by rw [u 461 (by decide)], by rw [u 461 (by decide)]⟩, fun i _ => by rw [u 465 (by decide)]⟩
      have F2 : TF (mUp h7 466 ((ln : Int) * 9 + 2) (h7 465 2)) B n f := TF_fr hF (u 461 (by decide)) (u 462 (by decide))
      rw [Z_exit hW (zO2_H o2 hH7) F2, e]
      exact ⟨_, _, rfl, zO2_tr o o2, zO2_H o2 hH7, F2⟩
    simp only [mF_t hw] at fl2
    rcases eb : blk B n m (op + 1) (tE B n p1) with f | ⟨p3, P1⟩
    · rw [eb] at y4
      obtain ⟨h7, z1, z2, z3⟩ := E_needSign_f (d := d) (by omega) hW.1 yH.2.2.1 y4 125
      rw [z1, mC_s]
      simp only [mF_t hw]
      exact fl2 h7 f (zO2_tr O6 (zO2_1 (zO_to z2))) (zO_H (zO_to z2) yH) z3 (blk_rb hk ck en (opT_t q) eb)
    rw [eb] at y4
    obtain ⟨v1, v2, v3, v4, v5, v6, v7⟩ := y4
    have v6 : tE B n p1 + P1.length ≤ p3 := v6
    obtain ⟨h7, z1, z2, z3⟩ := E_needSign (d := d) (by omega) hW.1 yH.2.2.1 v1 125
    have O7 := zO2_tr O6 (zO2_1 (zO_to z2))
    have H7 := zO_H (zO_to z2) yH
    rw [z1, mC_s]
    simp only [mF_t hw]
    rcases z3 with ⟨c, z3⟩ | ⟨c, z3⟩
    rotate_left
    · exact fl2 h7 _ O7 H7 z3 (blk_rc hk ck en (opT_t q) eb c)
    clear fl2 flt
    have p3n := v1.2.2.2.2.2.2
    have u3 := tE_lt p3n (show tK B n p3 ≠ 0 by omega)
    have u4 := tE_le (B := B) p3n
    have r7 : h7 466 = h6 466 := z2.1 466 (by decide)
    have e7 : h7 465 2 = ((ln + 1 + P1.length : Nat) : Int) := by rw [z2.1 465 (by decide)]; exact v2
    rw [H7.2.1, E_poke_t (by omega) hW.2.2 (by decide) (by omega) (by omega), mC_s, e7]
    generalize hg : mUp h7 466 ((ln : Int) * 9 + 2) ((ln + 1 + P1.length : Nat) : Int) = h8
    have u : ∀ b : Int, b ≠ 466 → h8 b = h7 b := fun b hb => by rw [← hg]; exact mUp_row hb
    have r8 : ∀ j : Int, j ≠ (ln : Int) * 9 + 2 → h8 466 j = h7 466 j := fun j hj => by rw [← hg]; exact mUp_n (Or.inr hj)
    have o8 : zO2 h7 h8 := ⟨fun b _ _ b3 => u b b3, ⟨by rw [u 461 (by decide)], by rw [u 461 (by decide)]⟩, fun i _ => by rw [u 465 (by decide)]⟩
    have O8 := zO2_tr O7 o8
    have H8 := zO2_H o8 H7
    obtain ⟨h9, i9, s1, s2, s3, s4⟩ := ih op (tE B n p3) (ln + 1 + P1.length) (i + 1) d h8 o0 o1 hd (TA_fr z3 (u 461 (by decide)) (u 462 (by decide))) H8 (by rw [u 465 (by decide)]; exact e7) (by omega) (by omega) (by omega) (by omega)
    rw [mI_id (x := i + 1) (by omega) (by omega), s1]
    refine ⟨h9, i9, rfl, zO2_tr O8 s2, s3, ?_⟩
    rcases ec : blk B n m op (tE B n p3) with f | ⟨p4, P2⟩
    · rw [ec] at s4
      rw [blk_rd hk ck en (opT_t q) eb c ec]; exact s4
    rw [ec] at s4
    obtain ⟨x1, x2, x3, x4, x5, x6, x7⟩ := s4
    have x6 : tE B n p3 + P2.length ≤ p4 := x6
    rw [blk_rr hk ck en (opT_t q) eb c ec]
    have ecl : clR ln (9 :: ([t] ++ [((P1.length : Nat) : Int)])) = [9, t, ((ln + 1 : Nat) : Int) + ((P1.length : Nat) : Int)] := if_pos rfl
    -- row 466 from h5 on: the head of the line, and what was ahead of it
    have k6 : ∀ j : Int, j < 9 * ((ln + 1 : Nat) : Int) → h9 466 j = if j = (ln : Int) * 9 + 2 then ((ln + 1 + P1.length : Nat) : Int) else h5 466 j := fun j hj => by
      rw [x4 j (by omega)]
      by_cases cj : j = (ln : Int) * 9 + 2
      · rw [if_pos cj, cj, ← hg, mUp_s]
      · rw [if_neg cj, r8 j cj, r7, v4 j (by omega)]
    have len1 : (((9 :: ([t] ++ [((P1.length : Nat) : Int)])) :: (P1 ++ P2)).length : Nat) = 1 + P1.length + P2.length := by rw [List.length_cons, List.length_append]; omega
    refine ⟨x1, by rw [x2, len1]; omega, ⟨?_, clP_app P1 P2 (ln + 1) (clP_fr P1 (ln + 1) v7 (fun j j0 j1 => ?_) v3) x3⟩, fun j hj => ?_, x5, by rw [len1]; omega, fun L hL => ?_⟩
    · rw [ecl]
      have g0' := gS 0 (show 0 < 2 by decide)
      have g1' := gS 1 (show 1 < 2 by decide)
      refine Seg_cons.mpr ⟨?_, Seg_cons.mpr ⟨?_, Seg_cons.mpr ⟨?_, Seg_nil⟩⟩⟩
      · rw [k6 _ (by omega), if_neg (by omega)]
        rw [show ((9 * ln : Nat) : Int) + ((0 : Nat) : Int) = ((9 * ln : Nat) : Int) by omega] at g0'
        exact g0'
      · rw [k6 _ (by omega), if_neg (by omega)]
        rw [show ((9 * ln : Nat) : Int) + ((1 : Nat) : Int) = ((9 * ln + 1 : Nat) : Int) by omega] at g1'
        exact g1'
      · rw [k6 _ (by omega), if_pos (by omega)]; omega
    · rw [x4 j (by omega), r8 j (by omega), r7]
    · rw [k6 j (by omega), if_neg (by omega)]; exact gR j (by omega)
    · rcases List.mem_cons.mp hL with rfl | hL
      · exact (by decide : 3 ≤ 9)
      · rcases List.mem_append.mp hL with hL | hL
        · exact v7 L hL
        · exact x7 L hL
end PU
