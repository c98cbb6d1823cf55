/-! PURE: programs: the reference's items. -/
def Mp (h h' : mm_H) : Prop := (∀ b : Int, b ≠ 483 → b ≠ 491 → h' b = h b) ∧ ∀ i : Int, ¬ (16 ≤ i ∧ i < 24 ∧ i ≠ 21) → i ≠ 44 → i ≠ 45 → h' 483 i = h 483 i
theorem Mp_rf (h : mm_H) : Mp h h := ⟨fun _ _ _ => rfl, fun _ _ _ _ => rfl⟩
theorem Mp_tr {a b c : mm_H} (x : Mp a b) (y : Mp b c) : Mp a c := ⟨fun q h1 h2 => (y.1 q h1 h2).trans (x.1 q h1 h2), fun i hi h4 h5 => (y.2 i hi h4 h5).trans (x.2 i hi h4 h5)⟩
theorem Mp_q {h h' : mm_H} (o : Mq h h') : Mp h h' := ⟨o.1, fun i hi _ _ => o.2 i hi⟩
/-- what was read -/
def yC (R : Int → Int) (h : mm_H) (B : Int → Int) (n op : Int) (q0 : Nat) (x : pR) : Prop := match x with
  | .inl f => MG h B n f
  | .inr (p, L) => MA h B n p op (q0 + L.length) ∧ Seg h 491 q0 L ∧ ∀ j : Int, j < q0 → h 491 j = R j
theorem oA_1 : ∀ c : Nat, c < 26 → oA [97 + (c : Int)] = if c < 16 then some c else none := by decide
theorem oA_len {W : List Int} {i : Nat} (h : oA W = some i) : W.length = 1 := by
  unfold oA at h
  iterate 16 (rcases ifO h with ⟨rfl, rfl⟩ | h; rfl)
  cases h
section PU
variable {d : Nat} {w : mm_W} {h : mm_H} {R : Int → Int} {B : Int → Int} {n p op : Int} {q0 : Nat} {x : pR}
theorem yC_M (hx : yC R h B n op q0 x) : MH h ∧ mNam h := by
  rcases x with f | ⟨p, L⟩
  · exact hx.2
  · exact hx.1.2.1
theorem yC_tok {h' : mm_H} {p' : Int} {L : List Int} (hx : yC R h B n op q0 (.inr (p, L))) (o : MO h h') (t : MT h' B n p') : Mp h h' ∧ yC R h' B n op q0 (.inr (p', L)) := by
  obtain ⟨a1, a2, a3⟩ := hx
  obtain ⟨k1, k2, k3⟩ := MA_mo a1 o t
  exact ⟨Mp_q k1, k2, fun i hi => by rw [k3]; exact a2 i hi, fun j hj => by rw [k3]; exact a3 j hj⟩
theorem yC_flt {h' : mm_H} {f : Int} (hH : MH h ∧ mNam h) (o : MO h h') (t : MF h' B n f) : Mp h h' ∧ yC R h' B n op q0 (.inl f) := by
  obtain ⟨k1, k2⟩ := MG_mo hH o t
  exact ⟨Mp_q k1, k2⟩
theorem yC_45 {i z : Int} (hi : i = 44 ∨ i = 45) (hx : yC R h B n op q0 x) : Mp h (mUp h 483 i z) ∧ yC R (mUp h 483 i z) B n op q0 x := by
  have e : ∀ j : Int, j ≠ 44 → j ≠ 45 → mUp h 483 i z 483 j = h 483 j := fun j j1 j2 => mUp_n (Or.inr (by omega))
  have e2 : ∀ b : Int, b ≠ 483 → mUp h 483 i z b = h b := fun b hb => mUp_row hb
  refine ⟨⟨fun b b1 _ => e2 b b1, fun j _ j4 j5 => e j j4 j5⟩, ?_⟩
  have mb : MB h B n → MB (mUp h 483 i z) B n := fun t => ⟨by rw [e 15 (by decide) (by decide)]; exact t.1, t.2.1, by rw [e2 490 (by decide)]; exact t.2.2.1, t.2.2.2⟩
  have mh : MH h ∧ mNam h → MH (mUp h 483 i z) ∧ mNam (mUp h 483 i z) := fun t => ⟨MH_fr t.1 (fun j hj => e j (by unfold mRef at hj; omega) (by unfold mRef at hj; omega)), mNam_fr t.2 (e2 492 (by decide))⟩
  rcases x with f | ⟨p, L⟩
  · obtain ⟨⟨a1, a2, a3, a4, a5, a6⟩, b1⟩ := hx
    exact ⟨⟨mb a1, by rw [e 19 (by decide) (by decide)]; exact a2, a3, by rw [e 18 (by decide) (by decide)]; exact a4, by rw [e 16 (by decide) (by decide)]; exact a5, by rw [e 17 (by decide) (by decide)]; exact a6⟩, mh b1⟩
  · obtain ⟨⟨⟨t1, a2, a3, a4, a5, a6, a7⟩, m1, m2, m3⟩, s1, s2⟩ := hx
    refine ⟨⟨⟨mb t1, by rw [e 19 (by decide) (by decide)]; exact a2, by rw [e 18 (by decide) (by decide)]; exact a3, by rw [e 16 (by decide) (by decide)]; exact a4, by rw [e 17 (by decide) (by decide)]; exact a5, by rw [e 23 (by decide) (by decide)]; exact a6, a7⟩, mh m1, by rw [e 20 (by decide) (by decide)]; exact m2, by rw [e 22 (by decide) (by decide)]; exact m3⟩, fun i hi => by rw [e2 491 (by decide)]; exact s1 i hi, fun j hj => by rw [e2 491 (by decide)]; exact s2 j hj⟩
theorem Y_wr (hd : 1 ≤ d) (hW : MW w) (hx : yC R h B n op q0 x) (hq : q0 + 12 ≤ 400) (hl : pln x ≤ 11) (v : Int) : ∃ h', mm_P d 266 [(2, 483), (0, v)] w h = some ((9, 0), w, h') ∧ Mp h h' ∧ yC R h' B n op q0 (apd x [v]) ∧ h' 483 44 = h 483 44 ∧ h' 483 45 = h 483 45 := by
  rcases x with f | ⟨p, L⟩
  · exact ⟨h, E_M_writesF hd hW hx.1 v, Mp_rf h, hx, rfl, rfl⟩
  · obtain ⟨a1, a2, a3⟩ := hx
    have hl : L.length ≤ 11 := hl
    obtain ⟨h', g1, g2, g3, g4, g5⟩ := E_M_wr (d := d) hd hW a1 (by omega) v
    refine ⟨h', g1, Mp_q g2, ⟨?_, Seg_app.mpr ⟨fun i hi => by rw [g5 _ (by omega)]; exact a2 i hi, Seg_cons.mpr ⟨g4, Seg_nil⟩⟩, fun j hj => by rw [g5 j (by omega)]; exact a3 j hj⟩, g2.2 44 (by omega), g2.2 45 (by omega)⟩
    show MA h' B n p op (q0 + (L ++ [v]).length)
    rw [List.length_append, ← Nat.add_assoc]; exact g3
theorem Y_num (hd : 4 ≤ d) (hW : MW w) (hx : yC R h B n op q0 x) : ∃ (h' : mm_H) (v : Int), mm_P d 265 [(2, 483), (0, 2)] w h = some ((0, v), w, h') ∧ Mp h h' ∧ (h' 483 44 = h 483 44 ∧ h' 483 45 = h 483 45) ∧ ((∃ f, bnd x (iNum B n) = .inl f ∧ yC R h' B n op q0 (.inl f)) ∨ ∃ (p : Int) (L : List Int), x = .inr (p, L) ∧ (tK B n p = 2 ∧ tE B n p - tS B n p ≤ 2) ∧ v = tNum B n p ∧ yC R h' B n op q0 (.inr (tE B n p, L))) := by
  have ff : ∀ {h' : mm_H}, MO h h' → h' 483 44 = h 483 44 ∧ h' 483 45 = h 483 45 := fun o => ⟨o.2 44 (by omega) (by decide), o.2 45 (by omega) (by decide)⟩
  rcases x with f | ⟨p, L⟩
  · obtain ⟨h', g1, g2, g3⟩ := E_M_numberF (d := d) (by omega) hW hx.1 2
    obtain ⟨k1, k2⟩ := yC_flt (R := R) (op := op) (q0 := q0) hx.2 g2 g3
    exact ⟨h', 0, g1, k1, ff g2, Or.inl ⟨f, rfl, k2⟩⟩
  · rcases E_M_number (d := d) hd hW hx.1.2.1.1 hx.1.1 (g := 2) (by decide) with ⟨c, h', g1, g2, g3⟩ | ⟨c, h', g1, g2, g3⟩
    · obtain ⟨k1, k2⟩ := yC_tok hx g2 g3
      exact ⟨h', _, g1, k1, ff g2, Or.inr ⟨p, L, rfl, c, rfl, k2⟩⟩
    · obtain ⟨k1, k2⟩ := yC_flt (R := R) (op := op) (q0 := q0) hx.1.2.1 g2 g3
      exact ⟨h', _, g1, k1, ff g2, Or.inl ⟨_, bnd_rl (iNum_f c), k2⟩⟩
theorem Y_numA (hd : 4 ≤ d) (hW : MW w) (hq : q0 + 12 ≤ 400) (hl : pln x ≤ 11) (hx : yC R h B n op q0 x) : ∃ (h1 : mm_H) (v : Int) (h2 : mm_H), mm_P d 265 [(2, 483), (0, 2)] w h = some ((0, v), w, h1) ∧ mm_P d 266 [(2, 483), (0, v)] w h1 = some ((9, 0), w, h2) ∧ Mp h h2 ∧ yC R h2 B n op q0 (bnd x (iNum B n)) := by
  obtain ⟨h1, v, g1, o1, _, g2⟩ := Y_num (d := d) hd hW hx
  rcases g2 with ⟨f, e, g2⟩ | ⟨p, L, e, c, ev, g2⟩
  · obtain ⟨h2, a1, a2, a3, _⟩ := Y_wr (d := d) (by omega) hW g2 hq (Nat.zero_le _) v
    rw [e]
    exact ⟨h1, v, h2, g1, a1, Mp_tr o1 a2, a3⟩
  · subst e
    obtain ⟨h2, a1, a2, a3, _⟩ := Y_wr (d := d) (by omega) hW g2 hq hl v
    rw [bnd_rr (iNum_t c), ← ev]
    exact ⟨h1, v, h2, g1, a1, Mp_tr o1 a2, a3⟩
theorem Y_sg (hd : 4 ≤ d) (hW : MW w) {c : Int} (hc : c ∈ sgs) (h0 : c ≠ 0) (hx : yC R h B n op q0 x) : ∃ (h1 : mm_H) (v : Int) (h2 : mm_H), mm_P d 263 [(2, 483), (0, c)] w h = some ((0, v), w, h1) ∧ mm_P d 264 [(2, 483), (0, v)] w h1 = some ((9, 0), w, h2) ∧ Mp h h2 ∧ yC R h2 B n op q0 (bnd x (iSg B n c)) := by
  rcases x with f | ⟨p, L⟩
  · obtain ⟨h2, g1, g2, g3⟩ := E_M_wantsF (d := d) (by omega) hW hx.1 0
    obtain ⟨k1, k2⟩ := yC_flt (R := R) (op := op) (q0 := q0) hx.2 g2 g3
    exact ⟨h, 0, h2, E_M_takesSignF (by omega) hW hx.1 h0, g1, k1, k2⟩
  · rcases E_M_takesSign (d := d) hd hW hx.1.2.1.1 hc hx.1.1 with ⟨q, h1, g1, g2, g3⟩ | ⟨q, g1⟩
    · obtain ⟨k1, k2⟩ := yC_tok hx g2 g3
      rw [bnd_rr (iSg_t q), List.append_nil]
      exact ⟨h1, 1, h1, g1, E_M_wants1 (by omega), k1, k2⟩
    · obtain ⟨h2, a1, a2, a3⟩ := E_M_wants0 (d := d) (by omega) hW hx.1.1
      obtain ⟨k1, k2⟩ := yC_flt (R := R) (op := op) (q0 := q0) hx.1.2.1 a2 a3
      rw [bnd_rl (iSg_f q)]
      exact ⟨h, 0, h2, g1, a1, k1, k2⟩
theorem Y_wd (hd : 4 ≤ d) (hW : MW w) {ws : List Int} {v : Int} (hv : wNum ws v) (hx : yC R h B n op q0 x) : ∃ (h1 : mm_H) (u : Int) (h2 : mm_H), mm_P d 262 [(2, 483), (1, v)] w h = some ((0, u), w, h1) ∧ mm_P d 264 [(2, 483), (0, u)] w h1 = some ((9, 0), w, h2) ∧ Mp h h2 ∧ yC R h2 B n op q0 (bnd x (iWd B n ws)) := by
  rcases x with f | ⟨p, L⟩
  · obtain ⟨h2, g1, g2, g3⟩ := E_M_wantsF (d := d) (by omega) hW hx.1 0
    obtain ⟨k1, k2⟩ := yC_flt (R := R) (op := op) (q0 := q0) hx.2 g2 g3
    exact ⟨h, 0, h2, E_M_takesWordF (by omega) hW hx.1 v, g1, k1, k2⟩
  · rcases E_M_takesWord (d := d) hd hW hx.1.2.1.1 hv hx.1.1 with ⟨q, h1, g1, g2, g3⟩ | ⟨q, g1⟩
    · obtain ⟨k1, k2⟩ := yC_tok hx g2 g3
      rw [bnd_rr (iWd_t q), List.append_nil]
      exact ⟨h1, 1, h1, g1, E_M_wants1 (by omega), k1, k2⟩
    · obtain ⟨h2, a1, a2, a3⟩ := E_M_wants0 (d := d) (by omega) hW hx.1.1
      obtain ⟨k1, k2⟩ := yC_flt (R := R) (op := op) (q0 := q0) hx.1.2.1 a2 a3
      rw [bnd_rl (iWd_f q)]
      exact ⟨h, 0, h2, g1, a1, k1, k2⟩
theorem w_face : wNum [102, 97, 99, 101] 197733 := ⟨by decide, by decide, by decide, by decide⟩
theorem w_size : wNum [115, 105, 122, 101] 632645 := ⟨by decide, by decide, by decide, by decide⟩
theorem w_ink : wNum [105, 110, 107] 9675 := ⟨by decide, by decide, by decide, by decide⟩
theorem w_fill : wNum [102, 105, 108, 108] 206220 := ⟨by decide, by decide, by decide, by decide⟩
theorem w_none : wNum [110, 111, 110, 101] 474565 := ⟨by decide, by decide, by decide, by decide⟩
theorem w_rows : wNum [114, 111, 119, 115] 605939 := ⟨by decide, by decide, by decide, by decide⟩
theorem w_columns : wNum [99, 111, 108, 117, 109, 110, 115] 3737826771 := ⟨by decide, by decide, by decide, by decide⟩
theorem w_to : wNum [116, 111] 655 := ⟨by decide, by decide, by decide, by decide⟩
theorem w_by : wNum [98, 121] 89 := ⟨by decide, by decide, by decide, by decide⟩
/-- the next token, and a number is written -/
theorem Y_nxw (hd : 3 ≤ d) (hW : MW w) {L : List Int} (hx : yC R h B n op q0 (.inr (p, L))) (hq : q0 + 12 ≤ 400) (hl : L.length ≤ 11) (v : Int) : ∃ h1 h2, mm_P d 258 [(2, 483)] w h = some ((9, 0), w, h1) ∧ mm_P d 266 [(2, 483), (0, v)] w h1 = some ((9, 0), w, h2) ∧ Mp h h2 ∧ yC R h2 B n op q0 (.inr (tE B n p, L ++ [v])) := by
  obtain ⟨h1, g1, g2, g3⟩ := E_M_nextA (d := d) hd hW hx.1.2.1.1 hx.1.1
  obtain ⟨k1, k2⟩ := yC_tok hx g2 g3
  obtain ⟨h2, a1, a2, a3, _⟩ := Y_wr (d := d) (by omega) hW k2 hq hl v
  exact ⟨h1, h2, g1, a1, Mp_tr k1 a2, a3⟩
theorem Y_prop (hd : 4 ≤ d) (hW : MW w) (hq : q0 + 12 ≤ 400) (hl : pln x ≤ 11) (hx : yC R h B n op q0 x) : ∃ h', mm_P d 322 [(2, 483)] w h = some ((9, 0), w, h') ∧ Mp h h' ∧ yC R h' B n op q0 (bnd x (iPk B n oN)) := by
  obtain ⟨d, rfl, hd2⟩ := mm_dS hd; clear hd; have hd := hd2; clear hd2
  have hw : (w.1 483).1 = 13 := by rw [hW.1]
  rw [P_M_readsProperty]
  simp only [mF_t hw]
  rcases x with f | ⟨p, L⟩
  · obtain ⟨h2, g1, g2, g3⟩ := E_M_wrongF (d := d) (by omega) hW hx.1
    obtain ⟨k1, k2⟩ := yC_flt (R := R) (op := op) (q0 := q0) hx.2 g2 g3
    rw [E_M_isWordF (by omega) hW hx.1, mC_s, mEq_t rfl]
    simp only [mF_t hw]
    rw [E_M_isWordF (by omega) hW hx.1, mC_s, mEq_t rfl]
    simp only [mF_t hw]
    rw [E_M_isWordF (by omega) hW hx.1, mC_s, mEq_t rfl]
    simp only [mF_t hw]
    rw [E_M_isWordF (by omega) hW hx.1, mC_s, mEq_t rfl, mEq_t rfl, g1, mC_s]
    simp only [mF_t hw]
    exact ⟨h2, rfl, k1, k2⟩
  have iw : ∀ {ws : List Int} {v : Int}, wNum ws v → mm_P d 261 [(2, 483), (1, v)] w h = some ((0, bI (tWd B n p = ws)), w, h) := fun hv => E_M_isWord (by omega) hW hv hx.1.1
  have nx := fun v => Y_nxw (d := d) (by omega) hW hx hq hl v
  rw [iw w_face, mC_s]
  by_cases c0 : tWd B n p = [102, 97, 99, 101]
  · obtain ⟨h1, h2, g1, g2, g3, g4⟩ := nx 0
    rw [bI_t c0, mEq_f (by decide), mEq_f (by decide), g1, mC_s]
    simp only [mF_t hw]
    rw [g2, mC_s, bnd_rr (iPk_t (i := 0) (show oN (tWd B n p) = some 0 by unfold oN; rw [if_pos c0]))]
    exact ⟨h2, rfl, g3, g4⟩
  rw [bI_f c0, mEq_t rfl]
  simp only [mF_t hw]
  rw [iw w_size, mC_s]
  by_cases c1 : tWd B n p = [115, 105, 122, 101]
  · obtain ⟨h1, h2, g1, g2, g3, g4⟩ := nx 1
    rw [bI_t c1, mEq_f (by decide), mEq_f (by decide), g1, mC_s]
    simp only [mF_t hw]
    rw [g2, mC_s, bnd_rr (iPk_t (i := 1) (show oN (tWd B n p) = some 1 by unfold oN; rw [if_neg c0, if_pos c1]))]
    exact ⟨h2, rfl, g3, g4⟩
  rw [bI_f c1, mEq_t rfl]
  simp only [mF_t hw]
  rw [iw w_ink, mC_s]
  by_cases c2 : tWd B n p = [105, 110, 107]
  · obtain ⟨h1, h2, g1, g2, g3, g4⟩ := nx 2
    rw [bI_t c2, mEq_f (by decide), mEq_f (by decide), g1, mC_s]
    simp only [mF_t hw]
    rw [g2, mC_s, bnd_rr (iPk_t (i := 2) (show oN (tWd B n p) = some 2 by unfold oN; rw [if_neg c0, if_neg c1, if_pos c2]))]
    exact ⟨h2, rfl, g3, g4⟩
  rw [bI_f c2, mEq_t rfl]
  simp only [mF_t hw]
  rw [iw w_fill, mC_s]
  by_cases c3 : tWd B n p = [102, 105, 108, 108]
  · obtain ⟨h1, h2, g1, g2, g3, g4⟩ := nx 3
    rw [bI_t c3, mEq_f (by decide), mEq_f (by decide), g1, mC_s]
    simp only [mF_t hw]
    rw [g2, mC_s, bnd_rr (iPk_t (i := 3) (show oN (tWd B n p) = some 3 by unfold oN; rw [if_neg c0, if_neg c1, if_neg c2, if_pos c3]))]
    exact ⟨h2, rfl, g3, g4⟩
  obtain ⟨h2, g1, g2, g3⟩ := E_M_wrong (d := d) (by omega) hW hx.1.1
  obtain ⟨k1, k2⟩ := yC_flt (R := R) (op := op) (q0 := q0) hx.1.2.1 g2 g3
  rw [bI_f c3, mEq_t rfl, mEq_t rfl, g1, mC_s, bnd_rl (iPk_f (show oN (tWd B n p) = none by unfold oN; rw [if_neg c0, if_neg c1, if_neg c2, if_neg c3]))]
  simp only [mF_t hw]
  exact ⟨h2, rfl, k1, k2⟩
theorem Y_what (hd : 5 ≤ d) (hW : MW w) (hq : q0 + 12 ≤ 400) (hl : pln x ≤ 11) (hx : yC R h B n op q0 x) : ∃ h', mm_P d 323 [(2, 483)] w h = some ((9, 0), w, h') ∧ Mp h h' ∧ yC R h' B n op q0 (bnd x (iWhat B n)) := by
  obtain ⟨d, rfl, hd2⟩ := mm_dS hd; clear hd; have hd := hd2; clear hd2
  have hw : (w.1 483).1 = 13 := by rw [hW.1]
  rw [P_M_readsWhat]
  simp only [mF_t hw]
  rcases x with f | ⟨p, L⟩
  · obtain ⟨h1, v, h2, a1, a2, a3, a4⟩ := Y_numA (d := d) (by omega) hW hq hl hx
    rw [E_M_takesWordF (by omega) hW hx.1, mC_s, mEq_t rfl]
    simp only [mF_t hw]
    rw [a1, mC_s]
    simp only [mF_t hw]
    rw [a2, mC_s]
    exact ⟨h2, rfl, a3, a4⟩
  rcases E_M_takesWord (d := d) (by omega) hW hx.1.2.1.1 w_none hx.1.1 with ⟨q, h1, g1, g2, g3⟩ | ⟨q, g1⟩
  · obtain ⟨k1, k2⟩ := yC_tok hx g2 g3
    obtain ⟨h2, a1, a2, a3, _⟩ := Y_wr (d := d) (by omega) hW k2 hq hl (-1)
    rw [g1, mC_s, mEq_f (by decide)]
    simp only [mF_t hw]
    rw [a1, mC_s, bnd_rr (show iWhat B n p = .inr (tE B n p, [-1]) from if_pos q)]
    exact ⟨h2, rfl, Mp_tr k1 a2, a3⟩
  · obtain ⟨h1, v, h2, a1, a2, a3, a4⟩ := Y_numA (d := d) (by omega) hW hq hl hx
    rw [g1, mC_s, mEq_t rfl]
    simp only [mF_t hw]
    rw [a1, mC_s]
    simp only [mF_t hw]
    rw [a2, mC_s, bnd_c (show iWhat B n p = iNum B n p from if_neg q)]
    exact ⟨h2, rfl, a3, a4⟩
theorem Y_move (hd : 5 ≤ d) (hW : MW w) (hq : q0 + 12 ≤ 400) (hl : pln x ≤ 11) (hx : yC R h B n op q0 x) : ∃ h', mm_P d 326 [(2, 483)] w h = some ((9, 0), w, h') ∧ Mp h h' ∧ yC R h' B n op q0 (bnd x (iMove B n)) := by
  obtain ⟨d, rfl, hd2⟩ := mm_dS hd; clear hd; have hd := hd2; clear hd2
  have hw : (w.1 483).1 = 13 := by rw [hW.1]
  rw [P_M_readsMove]
  simp only [mF_t hw]
  have plus : ∀ {h : mm_H} {y : pR}, yC R h B n op q0 y → pln y ≤ 11 → ∃ (h1 : mm_H) (v : Int) (h2 : mm_H), mm_P d 265 [(2, 483), (0, 2)] w h = some ((0, v), w, h1) ∧ mm_P d 266 [(2, 483), (0, mI (1 * v))] w h1 = some ((9, 0), w, h2) ∧ Mp h h2 ∧ yC R h2 B n op q0 (bnd y (iNum B n)) := fun {h y} hy hl => by
    obtain ⟨h1, v, g1, o1, _, g2⟩ := Y_num (d := d) (by omega) hW hy
    rcases g2 with ⟨f, e, g2⟩ | ⟨p, L, e, c, ev, g2⟩
    · obtain ⟨h2, a1, a2, a3, _⟩ := Y_wr (d := d) (by omega) hW g2 hq (Nat.zero_le _) (mI (1 * v))
      rw [e]
      exact ⟨h1, v, h2, g1, a1, Mp_tr o1 a2, a3⟩
    · subst e
      have bd := tNum_2 (B := B) (n := n) (p := p) hy.1.1.2.2.2.2.2.2.2 c.1 c.2
      obtain ⟨h2, a1, a2, a3, _⟩ := Y_wr (d := d) (by omega) hW g2 hq hl (mI (1 * v))
      rw [bnd_rr (iNum_t c)]
      refine ⟨h1, v, h2, g1, a1, Mp_tr o1 a2, ?_⟩
      rw [show mI (1 * v) = tNum B n p by rw [mI_id (by omega) (by omega), ev]; omega] at a3
      exact a3
  rcases x with f | ⟨p, L⟩
  · obtain ⟨h1, v, h2, a1, a2, a3, a4⟩ := plus hx hl
    rw [E_M_takesSignF (by omega) hW hx.1 (by decide), mC_s, mEq_t rfl]
    simp only [mF_t hw]
    rw [a1, mC_s]
    simp only [mF_t hw]
    rw [a2, mC_s]
    exact ⟨h2, rfl, a3, a4⟩
  rcases E_M_takesSign (d := d) (by omega) hW hx.1.2.1.1 (c := 45) (by decide) hx.1.1 with ⟨q, h1, g1, g2, g3⟩ | ⟨q, g1⟩
  rotate_left
  · obtain ⟨h1, v, h2, a1, a2, a3, a4⟩ := plus hx hl
    rw [g1, mC_s, mEq_t rfl]
    simp only [mF_t hw]
    rw [a1, mC_s]
    simp only [mF_t hw]
    rw [a2, mC_s, bnd_c (show iMove B n p = iNum B n p from if_neg q)]
    exact ⟨h2, rfl, a3, a4⟩
  obtain ⟨k1, k2⟩ := yC_tok hx g2 g3
  obtain ⟨h2, v, b1, b2, _, b3⟩ := Y_num (d := d) (by omega) hW k2
  rw [g1, mC_s, mEq_f (by decide)]
  simp only [mF_t hw]
  rw [b1, mC_s]
  simp only [mF_t hw]
  have um : iMove B n p = (match iNum B n (tE B n p) with | .inl f => (Sum.inl f : pR) | .inr (p', L) => .inr (p', [-(L.getD 0 0)])) := if_pos q
  rcases b3 with ⟨f, e, b3⟩ | ⟨p', L', e, cn, ev, b3⟩
  · obtain ⟨h3, c1, c2, c3, _⟩ := Y_wr (d := d) (by omega) hW b3 hq (Nat.zero_le _) (mI ((-1) * v))
    have e2 : bnd (.inr (p, L)) (iMove B n) = .inl f := by
      by_cases cn : tK B n (tE B n p) = 2 ∧ tE B n (tE B n p) - tS B n (tE B n p) ≤ 2
      · rw [bnd_rr (iNum_t cn)] at e; cases e
      · rw [bnd_rl (iNum_f cn)] at e
        rw [iNum_f cn] at um
        rw [bnd_rl um]; exact e
    rw [c1, mC_s, e2]
    exact ⟨h3, rfl, Mp_tr k1 (Mp_tr b2 c2), c3⟩
  · cases e
    obtain ⟨h3, c1, c2, c3, _⟩ := Y_wr (d := d) (by omega) hW b3 hq hl (mI ((-1) * v))
    rw [iNum_t cn] at um
    have bd := tNum_2 (B := B) (n := n) (p := tE B n p) k2.1.1.2.2.2.2.2.2.2 cn.1 cn.2
    rw [c1, mC_s, bnd_rr um]
    rw [show mI ((-1) * v) = -(tNum B n (tE B n p)) by rw [mI_id (by omega) (by omega), ev]; omega] at c3
    exact ⟨h3, rfl, Mp_tr k1 (Mp_tr b2 c2), c3⟩
end PU
