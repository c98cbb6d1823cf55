/-! PURE: programs: a line is read by the reference. -/
section PU
variable {d : Nat} {w : mm_W} {h : mm_H} {R : Int → Int} {B : Int → Int} {n p op : Int} {q0 : Nat} {x : pR}
theorem Y_place (hd : 5 ≤ d) (hW : MW w) (hx : yC R h B n op q0 x) : ∃ h', mm_P d 324 [(2, 483)] w h = some ((9, 0), w, h') ∧ Mp h h' ∧ ((∃ f, (x = .inl f ∨ ∃ p L, x = .inr (p, L) ∧ iPl B n p = .inl f) ∧ yC R h' B n op q0 (.inl f)) ∨ ∃ (p : Int) (L : List Int) (p' c r : Int), x = .inr (p, L) ∧ iPl B n p = .inr (p', c, r) ∧ h' 483 45 = c ∧ h' 483 44 = r ∧ yC R h' B n op q0 (.inr (p', L))) := by
  obtain ⟨d, rfl, hd2⟩ := mm_dS hd; clear hd; have hd := hd2; clear hd2
  have hw : (w.1 483).1 = 13 := by rw [hW.1]
  rw [P_M_readsPlace]
  simp only [mF_t hw]
  rcases x with f | ⟨p, L⟩
  · obtain ⟨h2, g1, g2, g3⟩ := E_M_wrongF (d := d) (by omega) hW hx.1
    obtain ⟨k1, k2⟩ := yC_flt (R := R) (op := op) (q0 := q0) hx.2 g2 g3
    rw [hx.1.2.2.2.1, mEq_f (by decide), g1, mC_s]
    exact ⟨h2, rfl, k1, Or.inl ⟨f, Or.inl rfl, k2⟩⟩
  obtain ⟨hB, h19, hK, h16, h17, h23, hp0, hp1⟩ := hx.1.1
  obtain ⟨hw2, g1, g2, g3⟩ := E_M_wrong (d := d) (by omega) hW hx.1.1
  obtain ⟨k1, k2⟩ := yC_flt (R := R) (op := op) (q0 := q0) hx.1.2.1 g2 g3
  have no : oA (tWd B n p) = none → ∃ h', some (((9, 0), w, hw2) : mm_R) = some ((9, 0), w, h') ∧ Mp h h' ∧ ((∃ f, ((Sum.inr (p, L) : pR) = .inl f ∨ ∃ p_1 L_1, (Sum.inr (p, L) : pR) = .inr (p_1, L_1) ∧ iPl B n p_1 = .inl f) ∧ yC R h' B n op q0 (.inl f)) ∨ ∃ (p_1 : Int) (L_1 : List Int) (p' c r : Int), (Sum.inr (p, L) : pR) = .inr (p_1, L_1) ∧ iPl B n p_1 = .inr (p', c, r) ∧ h' 483 45 = c ∧ h' 483 44 = r ∧ yC R h' B n op q0 (.inr (p', L_1))) := fun co => ⟨hw2, rfl, k1, Or.inl ⟨_, Or.inr ⟨p, L, rfl, iPl_n co⟩, k2⟩⟩
  by_cases c1 : tK B n p = 1
  rotate_left
  · rw [mEq_f (fun x => c1 ((MA_k hx.1 (Or.inr (Or.inl rfl))).mp x)), g1, mC_s]
    exact no (by rw [tWd_0 c1]; decide)
  have ts := tS_le (B := B) hp1
  have te := tE_le (B := B) hp1
  have hn := hB.2.1
  rw [mEq_t ((MA_k hx.1 (Or.inr (Or.inl rfl))).mpr c1), h16, h17, mI_id (x := tE B n p - tS B n p) (by omega) (by omega)]
  by_cases c2 : tE B n p - tS B n p = 1
  rotate_left
  · rw [mEq_f c2, g1, mC_s]
    refine no ?_
    rcases co : oA (tWd B n p) with _ | i
    · rfl
    · have a := oA_len co
      have b := tWd_len c1
      omega
  have l1 : (tWd B n p).length = 1 := by rw [tWd_len c1]; omega
  have eW : tWd B n p = [B (tS B n p)] := by
    have := tWd_get c1 (i := 0) (by omega)
    cases e : tWd B n p with
    | nil => rw [e] at l1; cases l1
    | cons a l =>
      rw [e] at l1
      cases l with
      | nil =>
        have g : (tWd B n p).getD 0 0 = B (tS B n p) := by
          rw [List.getD_eq_getElem?_getD, List.getElem?_eq_getElem (by omega), this]
          simp
        rw [e] at g
        rw [show a = B (tS B n p) from g]
      | cons b l => simp at l1
  have hb : 97 ≤ B (tS B n p) ∧ B (tS B n p) ≤ 122 := tWd_in (B := B) (n := n) (p := p) (by rw [eW]; exact List.mem_singleton.mpr rfl)
  have e23 : h 483 23 = B (tS B n p) - 96 := by
    rw [h23 c1, show (tE B n p - tS B n p).toNat = 0 + 1 by omega]
    show (if 0 < 12 then 32 * hsh B (tS B n p) 0 + B (tS B n p + ((0 : Nat) : Int)) - 97 + 1 else -1) = _
    rw [if_pos (by decide), show tS B n p + ((0 : Nat) : Int) = tS B n p by omega]
    show 32 * 0 + B (tS B n p) - 97 + 1 = _
    omega
  have o1 := oA_1 (B (tS B n p) - 97).toNat (by omega)
  rw [show 97 + (((B (tS B n p) - 97).toNat : Nat) : Int) = B (tS B n p) by omega, ← eW] at o1
  rw [mEq_t c2, e23]
  by_cases c3 : B (tS B n p) - 96 ≤ 16
  rotate_left
  · have m1 : mCmp (B (tS B n p) - 96) 16 = 1 := by unfold mCmp; rw [if_neg (by omega), if_neg (by omega)]
    rw [m1, mLe_f (by decide), g1, mC_s]
    exact no (by rw [o1, if_neg (by omega)])
  rw [if_pos (by omega)] at o1
  have m1 : mCmp (B (tS B n p) - 96) 16 ≤ 0 := by unfold mCmp; repeat' split <;> omega
  rw [mLe_t m1, mI_id (x := B (tS B n p) - 96) (by omega) (by omega), mI_id (x := B (tS B n p) - 96 - 1) (by omega) (by omega)]
  obtain ⟨o45, x45⟩ := yC_45 (i := 45) (z := B (tS B n p) - 96 - 1) (Or.inr rfl) hx
  have e45 : mUp h 483 45 (B (tS B n p) - 96 - 1) 483 45 = B (tS B n p) - 96 - 1 := mUp_s
  generalize mUp h 483 45 (B (tS B n p) - 96 - 1) = h1 at o45 x45 e45 ⊢
  clear g1 g2 g3 k1 k2 no
  obtain ⟨h2, g1, g2, g3⟩ := E_M_nextA (d := d) (by omega) hW x45.1.2.1.1 x45.1.1
  obtain ⟨k1, k2⟩ := yC_tok x45 g2 g3
  obtain ⟨h3, v, b1, b2, b3, b4⟩ := Y_num (d := d) (by omega) hW k2
  rw [g1, mC_s]
  simp only [mF_t hw]
  rw [b1, mC_s]
  simp only [mF_t hw]
  have f45 : h3 483 45 = B (tS B n p) - 96 - 1 := by rw [b3.2, g2.2 45 (by omega) (by decide)]; exact e45
  rcases b4 with ⟨f, e, b4⟩ | ⟨p', L', e, cn, ev, b4⟩
  · obtain ⟨y1, y2⟩ := yC_45 (i := 44) (z := v) (Or.inl rfl) b4
    have e2 : iPl B n p = .inl f := by
      by_cases cn : tK B n (tE B n p) = 2 ∧ tE B n (tE B n p) - tS B n (tE B n p) ≤ 2
      · rw [bnd_rr (iNum_t cn)] at e; cases e
      · rw [bnd_rl (iNum_f cn)] at e
        cases e
        exact iPl_f o1 cn
    exact ⟨_, rfl, Mp_tr o45 (Mp_tr k1 (Mp_tr b2 y1)), Or.inl ⟨f, Or.inr ⟨p, L, rfl, e2⟩, y2⟩⟩
  · cases e
    obtain ⟨y1, y2⟩ := yC_45 (i := 44) (z := v) (Or.inl rfl) b4
    refine ⟨_, rfl, Mp_tr o45 (Mp_tr k1 (Mp_tr b2 y1)), Or.inr ⟨p, L, _, _, _, rfl, iPl_t o1 cn, ?_, ?_, y2⟩⟩
    · rw [mUp_n (Or.inr (by decide)), f45]; omega
    · rw [mUp_s, ev]
theorem Y_wrF (hd : 1 ≤ d) (hW : MW w) {f : Int} (hx : yC R h B n op q0 (.inl f)) (v : Int) : mm_P d 266 [(2, 483), (0, v)] w h = some ((9, 0), w, h) := E_M_writesF hd hW hx.1 v
theorem Y_area (hd : 6 ≤ d) (hW : MW w) (hq : q0 + 12 ≤ 400) (hl : pln x ≤ 8) (hx : yC R h B n op q0 x) : ∃ h', mm_P d 325 [(2, 483)] w h = some ((9, 0), w, h') ∧ Mp h h' ∧ yC R h' B n op q0 (bnd x (iArea B n)) := by
  obtain ⟨d, rfl, hd2⟩ := mm_dS hd; clear hd; have hd := hd2; clear hd2
  have hw : (w.1 483).1 = 13 := by rw [hW.1]
  obtain ⟨h1, a1, a2, a3⟩ := Y_place (d := d) (by omega) hW hx
  rw [P_M_readsArea]
  simp only [mF_t hw]
  rw [a1, mC_s]
  simp only [mF_t hw]
  rcases a3 with ⟨f, e, a3⟩ | ⟨p, L, p1, c, r, rfl, pl, e45, e44, a3⟩
  · have e2 : bnd x (iArea B n) = .inl f := by
      rcases e with rfl | ⟨p, L, rfl, e⟩
      · rfl
      · exact bnd_rl (iArea_0 e)
    rw [Y_wrF (by omega) hW a3, mC_s]
    simp only [mF_t hw]
    rw [Y_wrF (by omega) hW a3, mC_s]
    simp only [mF_t hw]
    rw [E_M_takesSignF (by omega) hW a3.1 (by decide), mC_s, mEq_t rfl]
    simp only [mF_t hw]
    rw [Y_wrF (by omega) hW a3, mC_s]
    simp only [mF_t hw]
    rw [Y_wrF (by omega) hW a3, mC_s, e2]
    exact ⟨h1, rfl, a2, a3⟩
  have hl : L.length ≤ 8 := hl
  obtain ⟨h2, b1, b2, b3, b44, b45⟩ := Y_wr (d := d) (by omega) hW a3 hq (show L.length ≤ 11 by omega) r
  have b3 : yC R h2 B n op q0 (.inr (p1, L ++ [r])) := b3
  obtain ⟨h3, c1, c2, c3, c44, c45⟩ := Y_wr (d := d) (by omega) hW b3 hq (show (L ++ [r]).length ≤ 11 by rw [List.length_append]; show L.length + 1 ≤ 11; omega) c
  have c3 : yC R h3 B n op q0 (.inr (p1, L ++ [r] ++ [c])) := c3
  have l3 : (L ++ [r] ++ [c]).length = L.length + 2 := by rw [List.length_append, List.length_append]; rfl
  rw [e44, b1, mC_s]
  simp only [mF_t hw]
  rw [b45, e45, c1, mC_s]
  simp only [mF_t hw]
  rcases E_M_takesSign (d := d) (by omega) hW c3.1.2.1.1 (c := 58) (by decide) c3.1.1 with ⟨q, h4, g1, g2, g3⟩ | ⟨q, g1⟩
  rotate_left
  · obtain ⟨h5, i1, i2, i3, i44, i45⟩ := Y_wr (d := d) (by omega) hW c3 hq (show (L ++ [r] ++ [c]).length ≤ 11 by omega) r
    have i3 : yC R h5 B n op q0 (.inr (p1, L ++ [r] ++ [c] ++ [r])) := i3
    obtain ⟨h6, j1, j2, j3, _⟩ := Y_wr (d := d) (by omega) hW i3 hq (show (L ++ [r] ++ [c] ++ [r]).length ≤ 11 by rw [List.length_append, l3]; show L.length + 2 + 1 ≤ 11; omega) c
    rw [g1, mC_s, mEq_t rfl]
    simp only [mF_t hw]
    rw [c44, b44, e44, i1, mC_s]
    simp only [mF_t hw]
    rw [i45, c45, b45, e45, j1, mC_s, bnd_rr (iArea_1 pl q)]
    refine ⟨h6, rfl, Mp_tr a2 (Mp_tr b2 (Mp_tr c2 (Mp_tr i2 j2))), ?_⟩
    have j3 : yC R h6 B n op q0 (.inr (p1, L ++ [r] ++ [c] ++ [r] ++ [c])) := j3
    simp only [List.append_assoc, List.cons_append, List.nil_append] at j3
    exact j3
  obtain ⟨k1, k2⟩ := yC_tok c3 g2 g3
  obtain ⟨h5, i1, i2, i3⟩ := Y_place (d := d) (by omega) hW k2
  rw [g1, mC_s, mEq_f (by decide)]
  simp only [mF_t hw]
  rw [i1, mC_s]
  simp only [mF_t hw]
  rcases i3 with ⟨f, e, i3⟩ | ⟨p', L', p2, c', r', e, pl2, f45, f44, i3⟩
  · have e2 : bnd (.inr (p, L)) (iArea B n) = .inl f := by
      rcases e with e | ⟨p', L', e, e'⟩
      · cases e
      · cases e
        exact bnd_rl (iArea_2 pl q e')
    rw [Y_wrF (by omega) hW i3, mC_s]
    simp only [mF_t hw]
    rw [Y_wrF (by omega) hW i3, mC_s, e2]
    exact ⟨h5, rfl, Mp_tr a2 (Mp_tr b2 (Mp_tr c2 (Mp_tr k1 i2))), i3⟩
  cases e
  obtain ⟨h6, j1, j2, j3, j44, j45⟩ := Y_wr (d := d) (by omega) hW i3 hq (show (L ++ [r] ++ [c]).length ≤ 11 by omega) r'
  have j3 : yC R h6 B n op q0 (.inr (p2, L ++ [r] ++ [c] ++ [r'])) := j3
  obtain ⟨h7, u1, u2, u3, _⟩ := Y_wr (d := d) (by omega) hW j3 hq (show (L ++ [r] ++ [c] ++ [r']).length ≤ 11 by rw [List.length_append, l3]; show L.length + 2 + 1 ≤ 11; omega) c'
  rw [f44, j1, mC_s]
  simp only [mF_t hw]
  rw [j45, f45, u1, mC_s, bnd_rr (iArea_3 pl q pl2)]
  refine ⟨h7, rfl, Mp_tr a2 (Mp_tr b2 (Mp_tr c2 (Mp_tr k1 (Mp_tr i2 (Mp_tr j2 u2))))), ?_⟩
  have u3 : yC R h7 B n op q0 (.inr (p2, L ++ [r] ++ [c] ++ [r'] ++ [c'])) := u3
  simp only [List.append_assoc, List.cons_append, List.nil_append] at u3
  exact u3
theorem Y_two (hd : 5 ≤ d) (hW : MW w) {ws : List Int} {v : Int} (hv : wNum ws v) (hq : q0 + 12 ≤ 400) (hl : pln x ≤ 9) (hx : yC R h B n op q0 x) : ∃ h', mm_P d 328 [(2, 483), (1, v)] w h = some ((9, 0), w, h') ∧ Mp h h' ∧ yC R h' B n op q0 (twT B n ws x) := by
  obtain ⟨d, rfl, hd2⟩ := mm_dS hd; clear hd; have hd := hd2; clear hd2
  have hw : (w.1 483).1 = 13 := by rw [hW.1]
  obtain ⟨h1, u1, h2, a1, a2, a3, a4⟩ := Y_numA (d := d) (by omega) hW hq (by omega) hx
  have l2 : pln (bnd x (iNum B n)) ≤ 10 := Nat.le_trans (pln_bnd (k := 1) (fun p p' M e => iNum_len e)) (by omega)
  obtain ⟨h3, u2, h4, b1, b2, b3, b4⟩ := Y_wd (d := d) (by omega) hW hv a4
  have l3 : pln (bnd (bnd x (iNum B n)) (iWd B n ws)) ≤ 10 := Nat.le_trans (pln_bnd (k := 0) (fun p p' M e => iWd_len e)) (by omega)
  obtain ⟨h5, u3, h6, c1, c2, c3, c4⟩ := Y_numA (d := d) (by omega) hW hq (by omega) b4
  rw [P_M_readsTwo]
  simp only [mF_t hw]
  rw [a1, mC_s]
  simp only [mF_t hw]
  rw [a2, mC_s]
  simp only [mF_t hw]
  rw [b1, mC_s]
  simp only [mF_t hw]
  rw [b2, mC_s]
  simp only [mF_t hw]
  rw [c1, mC_s]
  simp only [mF_t hw]
  rw [c2, mC_s]
  exact ⟨h6, rfl, Mp_tr a3 (Mp_tr b3 c3), c4⟩
theorem Y_way (hd : 4 ≤ d) (hW : MW w) (hq : q0 + 12 ≤ 400) (hl : pln x ≤ 11) (hx : yC R h B n op q0 x) : ∃ h', mm_P d 327 [(2, 483)] w h = some ((9, 0), w, h') ∧ Mp h h' ∧ yC R h' B n op q0 (bnd x (iPk B n oW)) := by
  obtain ⟨d, rfl, hd2⟩ := mm_dS hd; clear hd; have hd := hd2; clear hd2
  have hw : (w.1 483).1 = 13 := by rw [hW.1]
  rw [P_M_readsLinesWay]
  simp only [mF_t hw]
  rcases x with f | ⟨p, L⟩
  · obtain ⟨h2, g1, g2, g3⟩ := E_M_wrongF (d := d) (by omega) hW hx.1
    obtain ⟨k1, k2⟩ := yC_flt (R := R) (op := op) (q0 := q0) hx.2 g2 g3
    rw [E_M_isWordF (by omega) hW hx.1, mC_s, mEq_t rfl]
    simp only [mF_t hw]
    rw [E_M_isWordF (by omega) hW hx.1, mC_s, mEq_t rfl]
    simp only [mF_t hw]
    rw [g1, mC_s]
    exact ⟨h2, rfl, k1, k2⟩
  have iw : ∀ {ws : List Int} {v : Int}, wNum ws v → mm_P d 261 [(2, 483), (1, v)] w h = some ((0, bI (tWd B n p = ws)), w, h) := fun hv => E_M_isWord (by omega) hW hv hx.1.1
  have nx : ∀ v : Int, ∃ h1 h2, mm_P d 266 [(2, 483), (0, v)] w h = some ((9, 0), w, h1) ∧ mm_P d 258 [(2, 483)] w h1 = some ((9, 0), w, h2) ∧ Mp h h2 ∧ yC R h2 B n op q0 (.inr (tE B n p, L ++ [v])) := fun v => by
    obtain ⟨h1, a1, a2, a3, _⟩ := Y_wr (d := d) (by omega) hW hx hq hl v
    have a3 : yC R h1 B n op q0 (.inr (p, L ++ [v])) := a3
    obtain ⟨h2, g1, g2, g3⟩ := E_M_nextA (d := d) (by omega) hW a3.1.2.1.1 a3.1.1
    obtain ⟨k1, k2⟩ := yC_tok a3 g2 g3
    exact ⟨h1, h2, a1, g1, Mp_tr a2 k1, k2⟩
  rw [iw w_rows, mC_s]
  by_cases c0 : tWd B n p = [114, 111, 119, 115]
  · obtain ⟨h1, h2, g1, g2, g3, g4⟩ := nx 0
    rw [bI_t c0, mEq_f (by decide)]
    simp only [mF_t hw]
    rw [iw w_rows, mC_s, bI_t c0, mEq_f (by decide)]
    simp only [mF_t hw]
    rw [g1, mC_s]
    simp only [mF_t hw]
    rw [g2, mC_s, bnd_rr (iPk_t (i := 0) (show oW (tWd B n p) = some 0 by unfold oW; rw [if_pos c0]))]
    exact ⟨h2, rfl, g3, g4⟩
  rw [bI_f c0, mEq_t rfl]
  simp only [mF_t hw]
  rw [iw w_columns, mC_s]
  by_cases c1 : tWd B n p = [99, 111, 108, 117, 109, 110, 115]
  · obtain ⟨h1, h2, g1, g2, g3, g4⟩ := nx 1
    rw [bI_t c1, mEq_f (by decide)]
    simp only [mF_t hw]
    rw [iw w_rows, mC_s, bI_f c0, mEq_t rfl]
    simp only [mF_t hw]
    rw [g1, mC_s]
    simp only [mF_t hw]
    rw [g2, mC_s, bnd_rr (iPk_t (i := 1) (show oW (tWd B n p) = some 1 by unfold oW; rw [if_neg c0, if_pos c1]))]
    exact ⟨h2, rfl, g3, g4⟩
  obtain ⟨h2, g1, g2, g3⟩ := E_M_wrong (d := d) (by omega) hW hx.1.1
  obtain ⟨k1, k2⟩ := yC_flt (R := R) (op := op) (q0 := q0) hx.1.2.1 g2 g3
  rw [bI_f c1, mEq_t rfl]
  simp only [mF_t hw]
  rw [g1, mC_s, bnd_rl (iPk_f (show oW (tWd B n p) = none by unfold oW; rw [if_neg c0, if_neg c1]))]
  exact ⟨h2, rfl, k1, k2⟩
end PU
