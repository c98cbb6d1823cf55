/-! PURE: a program is read by the class, whole. -/
/-- the fault of a text, or the program that it spells -/
def txT (B : Int → Int) (n : Int) : Int ⊕ List (List Int) := match blk B n 201 0 0 with
  | .inl f => .inl f
  | .inr (p, P) => if tK B n p = 0 then .inr P else .inl (tS B n p)
def prO (P : List (List Int)) : Prop := wfP 201 4 P ∧ rfW P ≤ 200 ∧ 2 * P.length ≤ 200 ∧ ∀ L ∈ P, L.length ≤ 9
/-- a program's code row of the class -/
def PC (w : mm_W) (h : mm_H) (a : Int) (P : List (List Int)) : Prop := (506 ≤ a ∧ a < w.2.1) ∧ w.1 a = (50, 9 * ((P.length : Nat) : Int)) ∧ clP h a 0 P
section PU
variable {d : Nat} {w : mm_W} {h : mm_H} {A : aG} {B : Int → Int} {n : Int}
theorem txT_b {f : Int} (e : blk B n 201 0 0 = .inl f) : txT B n = .inl f := by unfold txT; rw [e]
theorem txT_f {p : Int} {P : List (List Int)} (e : blk B n 201 0 0 = .inr (p, P)) (k : tK B n p ≠ 0) : txT B n = .inl (tS B n p) := by unfold txT; rw [e]; exact if_neg k
theorem txT_t {p : Int} {P : List (List Int)} (e : blk B n 201 0 0 = .inr (p, P)) (k : tK B n p = 0) : txT B n = .inr P := by unfold txT; rw [e]; exact if_pos k
theorem txT_ok (hn : 0 ≤ n ∧ n ≤ 200) {P : List (List Int)} (e : txT B n = .inr P) : prO P := by
  rcases eb : blk B n 201 0 0 with f | ⟨p, Q⟩
  · rw [txT_b eb] at e; cases e
  · obtain ⟨a1, a2, a3, a4, a5, a6⟩ := blk_sp 201 0 0 p Q (by decide) (by decide) (by decide) hn.1 (by omega) eb
    by_cases k : tK B n p = 0
    · rw [txT_t eb k] at e
      cases e
      exact ⟨a1, by omega, by omega, a6⟩
    · rw [txT_f eb k] at e; cases e
/-- the reader's run: a fault, or a new row -/
theorem E_Pg_read (hd : 60 ≤ d) (hW : zW w) (hg : 467 ≤ w.2.1) (hH : zH w h) (hT : TB h B n) : (∃ f, txT B n = .inl f ∧ ∃ h', mm_P d 62 [(2, 465)] w h = some ((2, 0), w, h') ∧ zO2 h h' ∧ TB h' B n ∧ h' 461 3 = f ∧ f ≠ -1) ∨ ∃ P, txT B n = .inr P ∧ ∃ h', mm_P d 62 [(2, 465)] w h = some ((2, w.2.1), mNew w 50 (9 * ((P.length : Nat) : Int)), h') ∧ (∀ b : Int, b ≠ 461 → b ≠ 465 → b ≠ 466 → b ≠ w.2.1 → h' b = h b) ∧ (h' 461 0 = h 461 0 ∧ h' 461 1 = h 461 1) ∧ (∀ i : Int, i < 2 → h' 465 i = h 465 i) ∧ TB h' B n ∧ h' 461 3 = -1 ∧ clP h' w.2.1 0 P := by
  obtain ⟨d, rfl, hd2⟩ := mm_dS hd; clear hd; have hd := hd2; clear hd2
  have hw : (w.1 465).1 = 6 := by rw [hW.2.1]
  have hw2 : (w.1 461).1 = 10 := by rw [hW.1.1]
  have hn := hT.2.2.1
  have e : ∀ b : Int, b ≠ 465 → mUp h 465 2 0 b = h b := fun b hb => mUp_row hb
  have T1 : TB (mUp h 465 2 0) B n := TB_fr hT (e 461 (by decide)) (e 462 (by decide))
  have o1 : zO2 h (mUp h 465 2 0) := ⟨fun b _ b2 _ => e b b2, ⟨by rw [e 461 (by decide)], by rw [e 461 (by decide)]⟩, fun i hi => mUp_n (Or.inr (by omega))⟩
  have H1 := zO2_H o1 hH
  obtain ⟨h1, a1, a2, a3⟩ := E_rewind (d := d) (by omega) hW.1 H1.2.2.1 T1
  have O1 := zO2_tr o1 (zO2_1 (zO_to a2))
  have H2 := zO2_H O1 hH
  have e2 : h1 465 2 = ((0 : Nat) : Int) := by rw [a2.1 465 (by decide), mUp_s]; rfl
  have rd : ∃ h2, mm_P d 63 [(2, 465), (0, 0)] w h1 = some ((9, 0), w, h2) ∧ zB w B n h1 h2 0 0 (blk B n 201 0 0) := by
    obtain ⟨d, rfl, hd3⟩ := mm_dS (show 40 + 1 ≤ d by omega)
    obtain ⟨h2, i2, y1, y2⟩ := Z_blk hW 201 0 0 0 0 d h1 (by decide) (by decide) (by omega) a3 H2 e2 (by decide) (by decide) (by decide) (by omega)
    rw [P_Pg_readLines, y1, mK_r, if_pos rfl]
    exact ⟨h2, rfl, y2⟩
  obtain ⟨h2, b1, bO, bH, b4⟩ := rd
  have O2 := zO2_tr O1 bO
  rw [P_Pg_read]
  simp only [mF_t hw]
  rw [mUp_n (Or.inr (by decide)), hH.1, mF_t hw2, a1, mC_s]
  simp only [mF_t hw]
  rw [b1, mC_s]
  simp only [mF_t hw]
  rw [bH.1, mF_t hw2]
  have flt : ∀ (h3 : mm_H) (f : Int), zO2 h h3 → TF h3 B n f → txT B n = .inl f → mm_P d 118 [(2, 461), (0, 0)] w h2 = some ((9, 0), w, h3) → ∃ h', (mC ((mm_P d) 118 [(2, 461), (0, 0)] w h2) 9 none (fun v8 w9 h10 => mF w9 465 6 none (let x11 := mI ((h10 465 2) * 9); mF w9 465 6 none (mF w9 (h10 465 0) 10 none (mEq (h10 (h10 465 0) 3) (-1) (mLt x11 0 (mEq 0 0 (some ((2, 0), w9, h10)) (mF w9 465 6 none (mC ((mm_P d) 353 [(2, h10 465 1), (0, x11)] w9 h10) 2 none (fun v12 w13 h14 => some ((2, v12), w13, h14))))) (mF w9 465 6 none (mN w9 (h10 465 1) none (mLt ((w9.1 (h10 465 1)).2) x11 (mEq 0 0 (some ((2, 0), w9, h10)) (mF w9 465 6 none (mC ((mm_P d) 353 [(2, h10 465 1), (0, x11)] w9 h10) 2 none (fun v15 w16 h17 => some ((2, v15), w16, h17))))) (mEq 1 0 (some ((2, 0), w9, h10)) (mF w9 465 6 none (mC ((mm_P d) 353 [(2, h10 465 1), (0, x11)] w9 h10) 2 none (fun v18 w19 h20 => some ((2, v18), w19, h20))))))))) (mEq 0 0 (some ((2, 0), w9, h10)) (mF w9 465 6 none (mC ((mm_P d) 353 [(2, h10 465 1), (0, x11)] w9 h10) 2 none (fun v21 w22 h23 => some ((2, v21), w22, h23)))))))))) = some ((2, 0), w, h') ∧ zO2 h h' ∧ TB h' B n ∧ h' 461 3 = f ∧ f ≠ -1 := fun h3 f o hF et g => by
    rw [g, mC_s]
    try dsimp only
    simp only [mF_t hw]
    rw [(zO2_H o hH).1, mF_t hw2, hF.2.1, mEq_f hF.2.2.1, mEq_t rfl]
    exact ⟨h3, rfl, o, hF.1, hF.2.1, hF.2.2.1⟩
  rcases eb : blk B n 201 0 0 with f | ⟨p, P⟩
  · rw [eb] at b4
    obtain ⟨h3, c1, c2, c3⟩ := E_needSign_f (d := d) (by omega) hW.1 bH.2.2.1 b4 0
    exact Or.inl ⟨f, txT_b eb, flt h3 f (zO2_tr O2 (zO2_1 (zO_to c2))) c3 (txT_b eb) c1⟩
  rw [eb] at b4
  obtain ⟨v1, v2, v3, v4, v5, v6, v7⟩ := b4
  obtain ⟨_, _, s3, _, s5, _⟩ := blk_sp 201 0 0 p P (by decide) (by decide) (by decide) hn.1 (by omega) eb
  obtain ⟨h3, c1, c2, c3⟩ := E_needSign (d := d) (by omega) hW.1 bH.2.2.1 v1 0
  have O3 := zO2_tr O2 (zO2_1 (zO_to c2))
  rcases c3 with ⟨k, c3⟩ | ⟨k, c3⟩
  rotate_left
  · exact Or.inl ⟨_, txT_f eb k, flt h3 _ O3 c3 (txT_f eb k) c1⟩
  have H3 := zO2_H O3 hH
  have e3 : h3 465 2 = ((P.length : Nat) : Int) := by rw [c2.1 465 (by decide), v2, Nat.zero_add]
  obtain ⟨h4, g1, g2, g3⟩ := E_copyOf (d := d) (h := h3) (by omega) hW.2.2 (by omega) (m := 9 * ((P.length : Nat) : Int)) (by omega) (by decide)
  have q : ∀ b : Int, b < 467 → h4 b = h3 b := fun b hb => g2 b (by omega)
  refine Or.inr ⟨P, txT_t eb k, h4, ?_, fun b x1 x2 x3 x4 => by rw [g2 b x4, O3.1 b x1 x2 x3], ⟨by rw [q 461 (by decide)]; exact O3.2.1.1, by rw [q 461 (by decide)]; exact O3.2.1.2⟩, fun i hi => by rw [q 465 (by decide)]; exact O3.2.2 i hi, TB_fr c3.1 (q 461 (by decide)) (q 462 (by decide)), by rw [q 461 (by decide)]; exact c3.2.1, ?_⟩
  · rw [c1, mC_s]
    try dsimp only
    simp only [mF_t hw]
    rw [H3.1, mF_t hw2, c3.2.1, mEq_t rfl, e3, mI_id (x := ((P.length : Nat) : Int) * 9) (by omega) (by omega), mLt_f (by omega), H3.2.1, mN_t hW.2.2 (by decide), hW.2.2, mLt_f (show ((P.length : Nat) : Int) * 9 ≤ 1800 by omega), mEq_f (by decide), show ((P.length : Nat) : Int) * 9 = 9 * ((P.length : Nat) : Int) by omega, g1, mC_s]
  · have r3 : h3 466 = h2 466 := c2.1 466 (by decide)
    have key : ∀ (Q : List (List Int)) (i : Nat), (i + Q.length : Nat) ≤ P.length → (∀ L ∈ Q, L.length ≤ 9) → clP h2 466 i Q → clP h4 w.2.1 i Q := by
      intro Q
      induction Q with
      | nil => intro i _ _ _; exact trivial
      | cons L Q ih =>
        intro i hi hl hc
        rw [List.length_cons] at hi
        have ll := clR_len (i := i) (hl L (List.mem_cons_self ..))
        refine ⟨fun j hj => ?_, ih (i + 1) (by omega) (fun L hL => hl L (List.mem_cons_of_mem _ hL)) hc.2⟩
        have := hc.1 j hj
        rw [g3 _ (by omega) (by omega), r3, this]
    exact key P 0 (by omega) v7 v3
theorem WK_zW (hW : WK w) : zW w := ⟨hW.2.2.2.2.1, hW.2.2.2.2.2.1.2.2.1, hW.2.2.2.2.2.1.2.2.2.1⟩
theorem HK_zH (hK : HK h) (hS : SW w h) : zH w h := ⟨hK.2.2.2.2.1.2.2.2.1, hK.2.2.2.2.1.2.2.2.2, hS⟩
theorem clP_gw {w' : mm_W} {h' : mm_H} {a : Int} : ∀ (P : List (List Int)) (i : Nat), h' a = h a → clP h a i P → clP h' a i P := by
  intro P
  induction P with
  | nil => intro i _ _; exact trivial
  | cons L P ih => intro i e hp; exact ⟨fun j hj => by rw [e]; exact hp.1 j hj, ih (i + 1) e hp.2⟩
theorem PC_gr {w' : mm_W} {h' : mm_H} {a : Int} {P : List (List Int)} (hp : PC w h a P) (hs : CS w w' h h') : PC w' h' a P := by
  obtain ⟨e1, e2⟩ := hs.2 a hp.1.1 hp.1.2
  exact ⟨⟨hp.1.1, Int.lt_of_lt_of_le hp.1.2 hs.1⟩, by rw [e1]; exact hp.2.1, clP_gw (w' := w') P 0 e2 hp.2.2⟩
theorem E_F_text (hd : 70 ≤ d) (hW : WK w) (hK : HK h) (hS : SW w h) (hT : TB h B n) {N : Int} (hN : h 1 16 = N) (h0 : 0 ≤ N ∧ N ≤ 4) : (N = 4 ∧ mm_P d 183 [(2, 1)] w h = some ((0, -4), w, h)) ∨ (N < 4 ∧ ∃ f, txT B n = .inl f ∧ ∃ h', mm_P d 183 [(2, 1)] w h = some ((0, mI (-100 - f)), w, h') ∧ HK h' ∧ TB h' B 0 ∧ ∀ b : Int, b ≠ 461 → b ≠ 465 → b ≠ 466 → h' b = h b) ∨ (N < 4 ∧ ∃ P, txT B n = .inr P ∧ ∃ (w' : mm_W) (h' : mm_H), mm_P d 183 [(2, 1)] w h = some ((0, N), w', h') ∧ GW w w' h h' ∧ (w'.2.1 = w.2.1 + 1 ∧ w'.2.2 ≤ w.2.2 + 1800) ∧ HK h' ∧ TB h' B 0 ∧ h' 1 16 = N + 1 ∧ (∀ i : Int, i ≠ 16 → h' 1 i = h 1 i) ∧ h' 467 N = w.2.1 ∧ (∀ j : Int, j ≠ N → h' 467 j = h 467 j) ∧ PC w' h' w.2.1 P ∧ ∀ b : Int, b ≠ 1 → b ≠ 461 → b ≠ 465 → b ≠ 466 → b ≠ 467 → b < 506 → h' b = h b) := by
  obtain ⟨d, rfl, hd2⟩ := mm_dS hd; clear hd; have hd := hd2; clear hd2
  have w1 : (w.1 1).1 = 12 := by rw [hW.1.1]
  have hz := WK_zW hW
  have w465 : (w.1 465).1 = 6 := by rw [hz.2.1]
  have w461 : (w.1 461).1 = 10 := by rw [hz.1.1]
  have h506 : 506 ≤ w.2.1 := hW.2.2.2.2.2.2.2.2.2
  have k9 : h 1 9 = 465 := hK.1.2.2.2.2.2.2.2.2.2.1
  have k7 : h 1 7 = 461 := hK.1.2.2.2.2.2.2.2.1
  have k10 : h 1 10 = 467 := hK.1.2.2.2.2.2.2.2.2.2.2.1
  have w467 : w.1 467 = (150, 4) := hW.2.2.2.2.2.1.2.2.2.2.1
  rw [P_F_text, mF_t w1, hN]
  by_cases c0 : N < 4
  rotate_left
  · rw [mLt_f (by omega)]
    exact Or.inl ⟨by omega, rfl⟩
  rw [mLt_t c0, mF_t w1, k9, mF_t w465]
  refine Or.inr ?_
  have hkf : ∀ h' : mm_H, (∀ b : Int, b ≠ 461 → b ≠ 465 → b ≠ 466 → b ≠ 1 → b ≠ 467 → b < 506 → h' b = h b) → (∀ i : Int, i < 14 → h' 1 i = h 1 i) → h' 461 0 = h 461 0 → (∀ i : Int, i < 2 → h' 465 i = h 465 i) → HK h' := fun h' e e1 e2 e3 => by
    refine HK_fr hK (fun b i hb => ?_) (fun q q0 q1 => ShH_fr (hK.2.2.2.2.2.1 q q0 q1) (fun j _ _ => by rw [e _ (by omega) (by omega) (by omega) (by omega) (by omega) (by omega)]) (e _ (by omega) (by omega) (by omega) (by omega) (by omega) (by omega))) (ShH_fr hK.2.2.2.2.2.2.1 (fun j _ _ => by rw [e _ (by omega) (by omega) (by omega) (by omega) (by omega) (by omega)]) (e _ (by omega) (by omega) (by omega) (by omega) (by omega) (by omega))) (ShH_fr hK.2.2.2.2.2.2.2 (fun j _ _ => by rw [e _ (by omega) (by omega) (by omega) (by omega) (by omega) (by omega)]) (e _ (by omega) (by omega) (by omega) (by omega) (by omega) (by omega)))
    unfold kSl at hb
    by_cases x1 : b = 1
    · subst x1; exact e1 i (by omega)
    by_cases x2 : b = 461
    · subst x2; rw [show i = 0 by omega]; exact e2
    by_cases x3 : b = 465
    · subst x3; exact e3 i (by omega)
    rw [e b x2 x3 (by omega) x1 (by omega) (by omega)]
  rcases E_Pg_read (d := d) (by omega) hz (by omega) (HK_zH hK hS) hT with ⟨f, et, h1, b1, b2, b3, b4, b5⟩ | ⟨P, et, h1, b1, b2, b3, b4, b5, b6, b7⟩
  · have e1 : h1 1 = h 1 := b2.1 1 (by decide) (by decide) (by decide)
    rw [b1, mC_s, mF_t w1, e1, k7, mF_t w461]
    try dsimp only
    rw [mF_t w1, mF_t w461, b4]
    obtain ⟨d, rfl, hd3⟩ := mm_dS (show 68 + 1 ≤ d by omega)
    rw [P_Ta_clear, mF_t w461]
    try dsimp only
    rw [mC_s, mEq_f b5]
    have u : ∀ b : Int, b ≠ 461 → mUp h1 461 1 0 b = h1 b := fun b hb => mUp_row hb
    refine Or.inl ⟨c0, f, et, _, rfl, hkf _ (fun b x1 x2 x3 _ _ _ => by rw [u b x1, b2.1 b x1 x2 x3]) (fun i _ => by rw [u 1 (by decide), e1]) (by rw [mUp_n (Or.inr (by decide))]; exact b2.2.1.1) (fun i hi => by rw [u 465 (by decide)]; exact b2.2.2 i hi), TB_0 b3 (mUp_n (Or.inr (by decide))) mUp_s (u 462 (by decide)), fun b x1 x2 x3 => by rw [u b x1, b2.1 b x1 x2 x3]⟩
  · obtain ⟨n1, n2, n3, n4⟩ := mNew_up (w := w) (9 * ((P.length : Nat) : Int)) 50
    have pok := txT_ok hT.2.2.1 et
    generalize hw' : mNew w 50 (9 * ((P.length : Nat) : Int)) = w' at b1 n1 n2 n3 n4
    have w1' : (w'.1 1).1 = 12 := by rw [n1 1 (by omega)]; exact w1
    have w461' : (w'.1 461).1 = 10 := by rw [n1 461 (by omega)]; exact w461
    have w467' : w'.1 467 = (150, 4) := by rw [n1 467 (by omega)]; exact w467
    have e1 : h1 1 = h 1 := b2 1 (by decide) (by decide) (by decide) (by omega)
    rw [b1, mC_s, mF_t w1', e1, k7, mF_t w461']
    try dsimp only
    rw [mF_t w1', mF_t w461', b6]
    obtain ⟨d, rfl, hd3⟩ := mm_dS (show 68 + 1 ≤ d by omega)
    rw [P_Ta_clear, mF_t w461']
    try dsimp only
    rw [mC_s, mEq_t rfl]
    have u : ∀ b : Int, b ≠ 461 → mUp h1 461 1 0 b = h1 b := fun b hb => mUp_row hb
    have u1 : mUp h1 461 1 0 1 = h 1 := by rw [u 1 (by decide), e1]
    generalize hh2 : mUp h1 461 1 0 = h2 at u u1
    rw [u1, hN, mF_t w1', mLt_f h0.1, mF_t w1', mF_t w1', k10, mN_t w467' (by decide), w467', mLe_f (show N < 4 from c0), mF_t w1', mF_t w1']
    have as : ∀ {α : Type} (x y : α), mAs w' 467 N w.2.1 x y = y := fun x y => if_pos ⟨by rw [w467']; decide, h0.1, by rw [w467']; exact c0, by omega, by rw [n2, w467']⟩
    rw [as]
    simp only [mF_t w1']
    have eN : mUp h2 467 N w.2.1 1 16 = N := by rw [mUp_row (by decide), u1, hN]
    rw [eN, mI_id (x := N + 1) (by omega) (by omega), mUp_s, mI_id (x := N + 1 - 1) (by omega) (by omega), show N + 1 - 1 = N by omega]
    generalize hh3 : mUp (mUp h2 467 N w.2.1) 1 16 (N + 1) = h3
    have v : ∀ b : Int, b ≠ 1 → b ≠ 467 → h3 b = h2 b := fun b x y => by rw [← hh3, mUp_row x, mUp_row y]
    have v1 : ∀ i : Int, i ≠ 16 → h3 1 i = h 1 i := fun i hi => by rw [← hh3, mUp_n (Or.inr hi), mUp_row (by decide), u1]
    have v2 : h3 467 = mUp h2 467 N w.2.1 467 := by rw [← hh3, mUp_row (by decide)]
    have big : ∀ b : Int, b ≠ 1 → b ≠ 461 → b ≠ 465 → b ≠ 466 → b ≠ 467 → b ≠ w.2.1 → h3 b = h b := fun b x1 x2 x3 x4 x5 x6 => by rw [v b x1 x5, u b x2, b2 b x2 x3 x4 x6]
    refine Or.inr ⟨c0, P, et, w', h3, rfl, ⟨n1, by omega, fun a a0 a1 => ⟨n1 a a1, big a (by omega) (by omega) (by omega) (by omega) (by omega) (by omega)⟩⟩, ⟨n3, by have := pok.2.2.1; omega⟩, hkf h3 (fun b x1 x2 x3 x4 x5 x6 => big b x4 x1 x2 x3 x5 (by omega)) (fun i hi => v1 i (by omega)) ?_ ?_, ?_, ?_, v1, ?_, ?_, ⟨⟨h506, by omega⟩, n2, ?_⟩, fun b x1 x2 x3 x4 x5 x6 => big b x1 x2 x3 x4 x5 (by omega)⟩
    · rw [v 461 (by decide) (by decide), ← hh2, mUp_n (Or.inr (by decide))]; exact b3.1
    · intro i hi; rw [v 465 (by decide) (by decide), u 465 (by decide)]; exact b4 i hi
    · refine TB_0 b5 ?_ ?_ ?_
      · rw [v 461 (by decide) (by decide), ← hh2, mUp_n (Or.inr (by decide))]
      · rw [v 461 (by decide) (by decide), ← hh2, mUp_s]
      · rw [v 462 (by decide) (by decide), u 462 (by decide)]
    · rw [← hh3, mUp_s]
    · rw [v2, mUp_s]
    · intro j hj
      rw [v2, mUp_n (Or.inr hj), u 467 (by decide), b2 467 (by decide) (by decide) (by decide) (by omega)]
    · refine clP_gw (w' := w') P 0 ?_ b7
      rw [v _ (by omega) (by omega), u _ (by omega)]
end PU
