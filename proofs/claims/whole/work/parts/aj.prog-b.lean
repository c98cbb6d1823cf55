/-! PURE: a line of a program is read by the class. -/
section
variable (B : Int → Int) (n : Int)
def twT (ws : List Int) (y : pR) : pR := bnd (bnd (bnd y (iNum B n)) (iWd B n ws)) (iNum B n)
def lnT (k : Int) (x : pR) : pR :=
  if k = 0 then bnd (bnd (bnd x (iPk B n oN)) (iWhat B n)) (iArea B n)
  else if k = 1 then twT B n [116, 111] (bnd (bnd x (iPk B n oN)) (iWhat B n))
  else if k = 2 then twT B n [116, 111] (bnd (bnd x (iPk B n oN)) (iWhat B n))
  else if k = 3 then twT B n [98, 121] (bnd x (iPk B n oW))
  else if k = 4 then twT B n [116, 111] (bnd x (iPk B n oW))
  else if k = 5 then bnd (bnd (bnd x (iArea B n)) (iWd B n [116, 111])) (iArea B n)
  else if k = 6 then bnd (bnd (bnd x (iArea B n)) (iWd B n [116, 111])) (iArea B n)
  else if k = 7 then bnd x (iPk B n oN)
  else if k = 8 then bnd (bnd x (iMove B n)) (iMove B n)
  else bnd x (iNum B n)
end
theorem bnd_c {p : Int} {L : List Int} {t t' : Int → pR} (h : t p = t' p) : bnd (.inr (p, L)) t = bnd (.inr (p, L)) t' := by
  simp only [bnd, h]
theorem apd_apd {x : pR} {M N : List Int} : apd (apd x M) N = apd x (M ++ N) := by
  rcases x with f | ⟨p, L⟩
  · rfl
  · show Sum.inr (p, L ++ M ++ N) = (Sum.inr (p, L ++ (M ++ N)) : pR)
    rw [List.append_assoc]
theorem pln_apd {x : pR} {M : List Int} : pln (apd x M) ≤ pln x + M.length := by
  rcases x with f | ⟨p, L⟩
  · exact Nat.zero_le _
  · show (L ++ M).length ≤ L.length + M.length
    rw [List.length_append]; exact Nat.le_refl _
section PU
variable {d : Nat} {w : mm_W} {h : mm_H} {R : Int → Int} {B : Int → Int} {n p : Int} {q0 : Nat} {x : pR}
theorem SW_20 (hS : SW w h) : StrAt w h (-20) [112, 97, 105, 110, 116, 32, 114, 111, 119, 115, 32, 99, 111, 108, 117, 109, 110, 115, 32, 105, 110, 115, 101, 114, 116, 32, 114, 101, 109, 111, 118, 101, 32, 99, 111, 112, 121, 32, 116, 117, 114, 110, 32, 116, 105, 100, 121, 32, 115, 104, 105, 102, 116, 32, 114, 101, 112, 101, 97, 116] := hS.2.2.2.2.2.1
theorem SW_22 (hS : SW w h) : StrAt w h (-22) [102, 97, 99, 101, 32, 115, 105, 122, 101, 32, 105, 110, 107, 32, 102, 105, 108, 108] := hS.2.2.2.2.2.2.1
theorem SW_24 (hS : SW w h) : StrAt w h (-24) [110, 111, 110, 101] := hS.2.2.2.2.2.2.2.1
theorem SW_26 (hS : SW w h) : StrAt w h (-26) [97, 32, 98, 32, 99, 32, 100, 32, 101, 32, 102, 32, 103, 32, 104, 32, 105, 32, 106, 32, 107, 32, 108, 32, 109, 32, 110, 32, 111, 32, 112] := hS.2.2.2.2.2.2.2.2.1
theorem SW_28 (hS : SW w h) : StrAt w h (-28) [116, 111] := hS.2.2.2.2.2.2.2.2.2.1
theorem SW_30 (hS : SW w h) : StrAt w h (-30) [114, 111, 119, 115, 32, 99, 111, 108, 117, 109, 110, 115] := hS.2.2.2.2.2.2.2.2.2.2.1
theorem SW_32 (hS : SW w h) : StrAt w h (-32) [98, 121] := hS.2.2.2.2.2.2.2.2.2.2.2
theorem Z_fmt (hd : 8 ≤ d) (hW : zW w) (hq : q0 + 9 ≤ 1800) (hl : pln x ≤ 7) (hx : zC w R h B n q0 x) : ∃ h', mm_P d 66 [(2, 465)] w h = some ((9, 0), w, h') ∧ zO h h' ∧ zC w R h' B n q0 (bnd (bnd x (iPk B n oN)) (iWhat B n)) := by
  obtain ⟨d, rfl, hd2⟩ := mm_dS hd; clear hd; have hd := hd2; clear hd2
  have hw : (w.1 465).1 = 6 := by rw [hW.2.1]
  have hw2 : (w.1 461).1 = 10 := by rw [hW.1.1]
  obtain ⟨h1, v, h2, a1, a2, a3, a4⟩ := Z_pkA (d := d) hd hW hq (by omega) (SW_22 hx.1.2.2) (o := oN) (fun W => pick_N W) hx
  have hl2 : pln (bnd x (iPk B n oN)) ≤ 8 := Nat.le_trans (pln_bnd (k := 1) (fun p p' M e => iPk_len e)) (by omega)
  rw [P_Pg_addFormat]
  simp only [mF_t hw]
  rw [zC_461 hx, mF_t hw2, a1, mC_s]
  simp only [mF_t hw]
  rw [a2, mC_s]
  simp only [mF_t hw]
  rw [zC_461 a4, mF_t hw2]
  generalize bnd x (iPk B n oN) = y at a4 hl2 ⊢
  rcases y with f | ⟨p, L⟩
  · obtain ⟨h3, u, h4, b1, b2, b3, b4⟩ := Z_numA (d := d) (by omega) hW hq hl2 a4
    rw [E_takesWord_f (by omega) hW.1 (SW_24 a4.1.2.2) a4.2, mC_s, mEq_t rfl]
    simp only [mF_t hw]
    rw [zC_461 a4, mF_t hw2, b1, mC_s]
    simp only [mF_t hw]
    rw [b2, mC_s]
    exact ⟨h4, rfl, zO_tr a3 b3, b4⟩
  · rcases E_takesWord (d := d) (by omega) hW.1 a4.1.2.2.1 (SW_24 a4.1.2.2) (by decide) a4.2.1 with ⟨c, h3, b1, b2, b3⟩ | ⟨c, b1⟩
    · obtain ⟨k1, k2⟩ := zC_tok a4 b2 b3
      obtain ⟨h4, c1, c2, c3⟩ := Z_add (d := d) (by omega) hW k2 hq hl2 (-1)
      rw [b1, mC_s, mEq_f (by decide)]
      simp only [mF_t hw]
      rw [c1, mC_s, bnd_rr (show iWhat B n p = .inr (tE B n p, [-1]) from if_pos c)]
      exact ⟨h4, rfl, zO_tr a3 (zO_tr k1 c2), c3⟩
    · obtain ⟨h3, u, h4, c1, c2, c3, c4⟩ := Z_numA (d := d) (by omega) hW hq hl2 a4
      rw [b1, mC_s, mEq_t rfl]
      simp only [mF_t hw]
      rw [zC_461 a4, mF_t hw2, c1, mC_s]
      simp only [mF_t hw]
      rw [c2, mC_s, bnd_c (show iWhat B n p = iNum B n p from if_neg c)]
      exact ⟨h4, rfl, zO_tr a3 c3, c4⟩
theorem Z_two (hd : 8 ≤ d) (hW : zW w) {a : Int} {cs : List Int} (hs : ∀ h', SW w h' → StrAt w h' a cs) (ho : ∀ W, pick W cs cs.length 0 0 0 = oT cs W) (hq : q0 + 9 ≤ 1800) (hl : pln x ≤ 7) (hx : zC w R h B n q0 x) : ∃ h', mm_P d 67 [(2, 465), (2, a)] w h = some ((9, 0), w, h') ∧ zO h h' ∧ zC w R h' B n q0 (twT B n cs x) := by
  obtain ⟨d, rfl, hd2⟩ := mm_dS hd; clear hd; have hd := hd2; clear hd2
  have hw : (w.1 465).1 = 6 := by rw [hW.2.1]
  have hw2 : (w.1 461).1 = 10 := by rw [hW.1.1]
  obtain ⟨h1, v, h2, a1, a2, a3, a4⟩ := Z_numA (d := d) (by omega) hW hq (by omega) hx
  have l2 : pln (bnd x (iNum B n)) ≤ 8 := Nat.le_trans (pln_bnd (k := 1) (fun p p' M e => iNum_len e)) (by omega)
  obtain ⟨h3, u, b1, b2, b3⟩ := Z_wd (d := d) hd hW (hs h2 a4.1.2.2) ho a4
  have l3 : pln (bnd (bnd x (iNum B n)) (iWd B n cs)) ≤ 8 := Nat.le_trans (pln_bnd (k := 0) (fun p p' M e => iWd_len e)) (by omega)
  obtain ⟨h4, y, h5, c1, c2, c3, c4⟩ := Z_numA (d := d) (by omega) hW hq l3 b3
  rw [P_Pg_addTwo]
  simp only [mF_t hw]
  rw [zC_461 hx, mF_t hw2, a1, mC_s]
  simp only [mF_t hw]
  rw [a2, mC_s]
  simp only [mF_t hw]
  rw [zC_461 a4, mF_t hw2, b1, mC_s]
  simp only [mF_t hw]
  rw [zC_461 b3, mF_t hw2, c1, mC_s]
  simp only [mF_t hw]
  rw [c2, mC_s]
  exact ⟨h5, rfl, zO_tr a3 (zO_tr b2 c3), c4⟩
theorem Z_add4 (hd : 2 ≤ d) (hW : zW w) (hx : zC w R h B n q0 x) (hq : q0 + 9 ≤ 1800) (hl : pln x ≤ 5) (a b c e : Int) : ∃ h1 h2 h3 h4, mm_P d 70 [(2, 465), (0, a)] w h = some ((9, 0), w, h1) ∧ mm_P d 70 [(2, 465), (0, b)] w h1 = some ((9, 0), w, h2) ∧ mm_P d 70 [(2, 465), (0, c)] w h2 = some ((9, 0), w, h3) ∧ mm_P d 70 [(2, 465), (0, e)] w h3 = some ((9, 0), w, h4) ∧ zO h h4 ∧ zC w R h4 B n q0 (apd x [a, b, c, e]) := by
  obtain ⟨h1, a1, a2, a3⟩ := Z_add hd hW hx hq (by omega) a
  have l1 := pln_apd (x := x) (M := [a])
  have l1 : pln (apd x [a]) ≤ 6 := Nat.le_trans l1 (by show pln x + 1 ≤ 6; omega)
  obtain ⟨h2, b1, b2, b3⟩ := Z_add hd hW a3 hq (by omega) b
  rw [apd_apd] at b3
  have l2 : pln (apd x ([a] ++ [b])) ≤ 7 := Nat.le_trans (pln_apd (x := x) (M := [a] ++ [b])) (by show pln x + 2 ≤ 7; omega)
  obtain ⟨h3, c1, c2, c3⟩ := Z_add hd hW b3 hq (by omega) c
  rw [apd_apd] at c3
  have l3 : pln (apd x ([a] ++ [b] ++ [c])) ≤ 8 := Nat.le_trans (pln_apd (x := x) (M := [a] ++ [b] ++ [c])) (by show pln x + 3 ≤ 8; omega)
  obtain ⟨h4, e1, e2, e3⟩ := Z_add hd hW c3 hq l3 e
  rw [apd_apd] at e3
  exact ⟨h1, h2, h3, h4, a1, b1, c1, e1, zO_tr a2 (zO_tr b2 (zO_tr c2 e2)), e3⟩
theorem Z_num0 (hd : 6 ≤ d) (hW : zW w) {f : Int} (hx : zC w R h B n q0 (.inl f)) : ∃ h', mm_P d 119 [(2, 461), (0, 2)] w h = some ((0, 0), w, h') ∧ zO h h' ∧ zC w R h' B n q0 (.inl f) := by
  obtain ⟨h', g1, g2, g3⟩ := E_needNumber_f (d := d) hd hW.1 hx.2 2
  obtain ⟨k1, k2⟩ := zC_flt (R := R) (q0 := q0) hx.1 g2 g3
  exact ⟨h', g1, k1, k2⟩
theorem Z_area (hd : 8 ≤ d) (hW : zW w) (hq : q0 + 9 ≤ 1800) (hl : pln x ≤ 5) (hx : zC w R h B n q0 x) : ∃ h', mm_P d 68 [(2, 465)] w h = some ((9, 0), w, h') ∧ zO h h' ∧ zC w R h' B n q0 (bnd x (iArea B n)) := by
  obtain ⟨d, rfl, hd2⟩ := mm_dS hd; clear hd; have hd := hd2; clear hd2
  have hw : (w.1 465).1 = 6 := by rw [hW.2.1]
  have hw2 : (w.1 461).1 = 10 := by rw [hW.1.1]
  obtain ⟨h1, v1, a1, a2, a3⟩ := Z_pk (d := d) hd hW (SW_26 hx.1.2.2) (o := oA) (fun W => pick_A W) hx
  rw [P_Pg_addArea]
  simp only [mF_t hw]
  rw [zC_461 hx, mF_t hw2, a1, mC_s]
  simp only [mF_t hw]
  rcases a3 with ⟨f, e, a3⟩ | ⟨p, L, i, e, ci, ev, a3⟩
  · obtain ⟨h2, b1, b2, b3⟩ := Z_num0 (d := d) (by omega) hW a3
    obtain ⟨k1, k2, k3, k4, c1, c2, c3, c4, c5, c6⟩ := Z_add4 (d := d) (by omega) hW b3 hq (Nat.zero_le _) 0 v1 0 v1
    have e2 : bnd x (iArea B n) = .inl f := by
      rcases x with g | ⟨p, L⟩
      · exact e
      · rcases co : oA (tWd B n p) with _ | i
        · rw [bnd_rl (iPk_f co)] at e
          rw [bnd_rl (iArea_0 (iPl_n co))]; exact e
        · rw [bnd_rr (iPk_t co)] at e; cases e
    rw [zC_461 a3, mF_t hw2, b1, mC_s]
    simp only [mF_t hw]
    rw [zC_461 b3, mF_t hw2, E_takesSign_f (by omega) hW.1 b3.2 (by decide), mC_s, mEq_t rfl, mEq_t rfl]
    simp only [mF_t hw]
    rw [c1, mC_s]
    simp only [mF_t hw]
    rw [c2, mC_s]
    simp only [mF_t hw]
    rw [c3, mC_s]
    simp only [mF_t hw]
    rw [c4, mC_s, e2]
    exact ⟨k4, rfl, zO_tr a2 (zO_tr b2 c5), c6⟩
  subst e
  have hl : L.length ≤ 5 := hl
  obtain ⟨h2, v4, b1, b2, b3⟩ := Z_num (d := d) (by omega) hW a3
  rw [zC_461 a3, mF_t hw2, b1, mC_s]
  simp only [mF_t hw]
  rcases b3 with ⟨f, e, b3⟩ | ⟨p', L', e, cn, eu, b3⟩
  · obtain ⟨k1, k2, k3, k4, c1, c2, c3, c4, c5, c6⟩ := Z_add4 (d := d) (by omega) hW b3 hq (Nat.zero_le _) v4 v1 v4 v1
    have e2 : bnd (.inr (p, L)) (iArea B n) = .inl f := by
      by_cases cn : tK B n (tE B n p) = 2 ∧ tE B n (tE B n p) - tS B n (tE B n p) ≤ 2
      · rw [bnd_rr (iNum_t cn)] at e; cases e
      · rw [bnd_rl (iNum_f cn)] at e
        rw [bnd_rl (iArea_0 (iPl_f ci cn))]; exact e
    rw [zC_461 b3, mF_t hw2, E_takesSign_f (by omega) hW.1 b3.2 (by decide), mC_s, mEq_t rfl, mEq_t rfl]
    simp only [mF_t hw]
    rw [c1, mC_s]
    simp only [mF_t hw]
    rw [c2, mC_s]
    simp only [mF_t hw]
    rw [c3, mC_s]
    simp only [mF_t hw]
    rw [c4, mC_s, e2]
    exact ⟨k4, rfl, zO_tr a2 (zO_tr b2 c5), c6⟩
  cases e
  have pl := iPl_t ci cn
  rw [zC_461 b3, mF_t hw2]
  rcases E_takesSign (d := d) (by omega) hW.1 b3.1.2.2.1 b3.2.1 58 with ⟨c8, h3, c1, c2, c3⟩ | ⟨c8, c1⟩
  rotate_left
  · obtain ⟨k1, k2, k3, k4, y1, y2, y3, y4, y5, y6⟩ := Z_add4 (d := d) (by omega) hW b3 hq hl v4 v1 v4 v1
    rw [c1, mC_s, mEq_t rfl, mEq_t rfl]
    simp only [mF_t hw]
    rw [y1, mC_s]
    simp only [mF_t hw]
    rw [y2, mC_s]
    simp only [mF_t hw]
    rw [y3, mC_s]
    simp only [mF_t hw]
    rw [y4, mC_s, bnd_rr (iArea_1 pl c8), ← ev, ← eu]
    exact ⟨k4, rfl, zO_tr a2 (zO_tr b2 y5), y6⟩
  obtain ⟨o3, s3⟩ := zC_tok b3 c2 c3
  obtain ⟨h4, v7, y1, y2, y3⟩ := Z_pk (d := d) hd hW (SW_26 s3.1.2.2) (o := oA) (fun W => pick_A W) s3
  rw [c1, mC_s, mEq_f (by decide)]
  simp only [mF_t hw]
  rw [zC_461 s3, mF_t hw2, y1, mC_s, mEq_f (by decide)]
  simp only [mF_t hw]
  rcases y3 with ⟨f, e, y3⟩ | ⟨p', L', j, e, cj, ew, y3⟩
  · obtain ⟨h5, z1, z2, z3⟩ := Z_num0 (d := d) (by omega) hW y3
    obtain ⟨k1, k2, k3, k4, u1, u2, u3, u4, u5, u6⟩ := Z_add4 (d := d) (by omega) hW z3 hq (Nat.zero_le _) v4 v1 0 v7
    have e2 : bnd (.inr (p, L)) (iArea B n) = .inl f := by
      rcases co : oA (tWd B n (tE B n (tE B n (tE B n p)))) with _ | i
      · rw [bnd_rl (iPk_f co)] at e
        rw [bnd_rl (iArea_2 pl c8 (iPl_n co))]; exact e
      · rw [bnd_rr (iPk_t co)] at e; cases e
    rw [zC_461 y3, mF_t hw2, z1, mC_s]
    simp only [mF_t hw]
    rw [u1, mC_s]
    simp only [mF_t hw]
    rw [u2, mC_s]
    simp only [mF_t hw]
    rw [u3, mC_s]
    simp only [mF_t hw]
    rw [u4, mC_s, e2]
    exact ⟨k4, rfl, zO_tr a2 (zO_tr b2 (zO_tr o3 (zO_tr y2 (zO_tr z2 u5)))), u6⟩
  cases e
  obtain ⟨h5, v9, z1, z2, z3⟩ := Z_num (d := d) (by omega) hW y3
  rw [zC_461 y3, mF_t hw2, z1, mC_s]
  simp only [mF_t hw]
  rcases z3 with ⟨f, e, z3⟩ | ⟨p', L', e, cm, ez, z3⟩
  · obtain ⟨k1, k2, k3, k4, u1, u2, u3, u4, u5, u6⟩ := Z_add4 (d := d) (by omega) hW z3 hq (Nat.zero_le _) v4 v1 v9 v7
    have e2 : bnd (.inr (p, L)) (iArea B n) = .inl f := by
      by_cases cm : tK B n (tE B n (tE B n (tE B n (tE B n p)))) = 2 ∧ tE B n (tE B n (tE B n (tE B n (tE B n p)))) - tS B n (tE B n (tE B n (tE B n (tE B n p)))) ≤ 2
      · rw [bnd_rr (iNum_t cm)] at e; cases e
      · rw [bnd_rl (iNum_f cm)] at e
        rw [bnd_rl (iArea_2 pl c8 (iPl_f cj cm))]; exact e
    rw [u1, mC_s]
    simp only [mF_t hw]
    rw [u2, mC_s]
    simp only [mF_t hw]
    rw [u3, mC_s]
    simp only [mF_t hw]
    rw [u4, mC_s, e2]
    exact ⟨k4, rfl, zO_tr a2 (zO_tr b2 (zO_tr o3 (zO_tr y2 (zO_tr z2 u5)))), u6⟩
  cases e
  obtain ⟨k1, k2, k3, k4, u1, u2, u3, u4, u5, u6⟩ := Z_add4 (d := d) (by omega) hW z3 hq hl v4 v1 v9 v7
  rw [u1, mC_s]
  simp only [mF_t hw]
  rw [u2, mC_s]
  simp only [mF_t hw]
  rw [u3, mC_s]
  simp only [mF_t hw]
  rw [u4, mC_s, bnd_rr (iArea_3 pl c8 (iPl_t cj cm)), ← ev, ← eu, ← ew, ← ez]
  exact ⟨k4, rfl, zO_tr a2 (zO_tr b2 (zO_tr o3 (zO_tr y2 (zO_tr z2 u5)))), u6⟩
theorem Z_move (hd : 8 ≤ d) (hW : zW w) (hq : q0 + 9 ≤ 1800) (hl : pln x ≤ 8) (hx : zC w R h B n q0 x) : ∃ h', mm_P d 69 [(2, 465)] w h = some ((9, 0), w, h') ∧ zO h h' ∧ zC w R h' B n q0 (bnd x (iMove B n)) := by
  obtain ⟨d, rfl, hd2⟩ := mm_dS hd; clear hd; have hd := hd2; clear hd2
  have hw : (w.1 465).1 = 6 := by rw [hW.2.1]
  have hw2 : (w.1 461).1 = 10 := by rw [hW.1.1]
  rw [P_Pg_addMove]
  simp only [mF_t hw]
  rw [zC_461 hx, mF_t hw2]
  rcases x with f | ⟨p, L⟩
  · obtain ⟨h1, v, h2, a1, a2, a3, a4⟩ := Z_numA (d := d) (by omega) hW hq (Nat.zero_le _) hx
    rw [E_takesSign_f (by omega) hW.1 hx.2 (by decide), mC_s]
    simp only [mF_t hw]
    rw [zC_461 hx, mF_t hw2, a1, mC_s, mEq_t rfl]
    simp only [mF_t hw]
    rw [a2, mC_s]
    exact ⟨h2, rfl, a3, a4⟩
  rcases E_takesSign (d := d) (by omega) hW.1 hx.1.2.2.1 hx.2.1 45 with ⟨c, h1, a1, a2, a3⟩ | ⟨c, a1⟩
  rotate_left
  · obtain ⟨h1, v, h2, b1, b2, b3, b4⟩ := Z_numA (d := d) (by omega) hW hq hl hx
    rw [a1, mC_s]
    simp only [mF_t hw]
    rw [zC_461 hx, mF_t hw2, b1, mC_s, mEq_t rfl]
    simp only [mF_t hw]
    rw [b2, mC_s, bnd_c (show iMove B n p = iNum B n p from if_neg c)]
    exact ⟨h2, rfl, b3, b4⟩
  obtain ⟨o1, s1⟩ := zC_tok hx a2 a3
  obtain ⟨h2, v, b1, b2, b3⟩ := Z_num (d := d) (by omega) hW s1
  rw [a1, mC_s]
  simp only [mF_t hw]
  rw [zC_461 s1, mF_t hw2, b1, mC_s, mEq_f (by decide)]
  simp only [mF_t hw]
  have um : iMove B n p = (match iNum B n (tE B n p) with | .inl f => (Sum.inl f : pR) | .inr (p', L) => .inr (p', [-(L.getD 0 0)])) := if_pos c
  rcases b3 with ⟨f, e, b3⟩ | ⟨p', L', e, cn, ev, b3⟩
  · obtain ⟨h3, c1, c2, c3⟩ := Z_add (d := d) (by omega) hW b3 hq (Nat.zero_le _) (mI (-v))
    have e2 : bnd (.inr (p, L)) (iMove B n) = .inl f := by
      by_cases cn : tK B n (tE B n p) = 2 ∧ tE B n (tE B n p) - tS B n (tE B n p) ≤ 2
      · rw [bnd_rr (iNum_t cn)] at e; cases e
      · rw [bnd_rl (iNum_f cn)] at e
        rw [iNum_f cn] at um
        rw [bnd_rl um]; exact e
    rw [c1, mC_s, e2]
    exact ⟨h3, rfl, zO_tr o1 (zO_tr b2 c2), c3⟩
  · cases e
    obtain ⟨h3, c1, c2, c3⟩ := Z_add (d := d) (by omega) hW b3 hq hl (mI (-v))
    rw [iNum_t cn] at um
    have bd := tNum_2 (B := B) (n := n) (p := tE B n p) s1.2.1.2.2.2.2.2.2 cn.1 cn.2
    rw [c1, mC_s, bnd_rr um]
    rw [mI_id (x := -v) (by omega) (by omega), ev] at c3
    exact ⟨h3, rfl, zO_tr o1 (zO_tr b2 c2), c3⟩
end PU
