/-! PURE: programs: a line is read by the reference. Printed by wip/whole/gen/genaq.py. -/
theorem w_paint : wNum [112, 97, 105, 110, 116] 16819668 := ⟨by decide, by decide, by decide, by decide⟩
theorem w_insert : wNum [105, 110, 115, 101, 114, 116] 317298260 := ⟨by decide, by decide, by decide, by decide⟩
theorem w_remove : wNum [114, 101, 109, 111, 118, 101] 609664709 := ⟨by decide, by decide, by decide, by decide⟩
theorem w_copy : wNum [99, 111, 112, 121] 114201 := ⟨by decide, by decide, by decide, by decide⟩
theorem w_turn : wNum [116, 117, 114, 110] 677454 := ⟨by decide, by decide, by decide, by decide⟩
theorem w_tidy : wNum [116, 105, 100, 121] 664729 := ⟨by decide, by decide, by decide, by decide⟩
theorem w_shift : wNum [115, 104, 105, 102, 116] 20194516 := ⟨by decide, by decide, by decide, by decide⟩
theorem w_repeat : wNum [114, 101, 112, 101, 97, 116] 609752116 := ⟨by decide, by decide, by decide, by decide⟩
/-- how the reference begins a line -/
def rfH (k : Nat) : List Int := if k = 0 then [1] else if k = 1 then [2, 0] else if k = 2 then [2, 1] else if k = 3 then [3] else if k = 4 then [4] else if k = 5 then [5, 0] else if k = 6 then [5, 1] else if k = 7 then [6] else if k = 8 then [7] else []
section
variable {B : Int → Int} {n : Int} {x : pR}
theorem lnT_0 : lnT B n (((0 : Nat) : Int)) x = bnd (bnd (bnd x (iPk B n oN)) (iWhat B n)) (iArea B n) := by simp [lnT]
theorem lnT_1 : lnT B n (((1 : Nat) : Int)) x = twT B n [116, 111] (bnd (bnd x (iPk B n oN)) (iWhat B n)) := by simp [lnT]
theorem lnT_2 : lnT B n (((2 : Nat) : Int)) x = twT B n [116, 111] (bnd (bnd x (iPk B n oN)) (iWhat B n)) := by simp [lnT]
theorem lnT_3 : lnT B n (((3 : Nat) : Int)) x = twT B n [98, 121] (bnd x (iPk B n oW)) := by simp [lnT]
theorem lnT_4 : lnT B n (((4 : Nat) : Int)) x = twT B n [116, 111] (bnd x (iPk B n oW)) := by simp [lnT]
theorem lnT_5 : lnT B n (((5 : Nat) : Int)) x = bnd (bnd (bnd x (iArea B n)) (iWd B n [116, 111])) (iArea B n) := by simp [lnT]
theorem lnT_6 : lnT B n (((6 : Nat) : Int)) x = bnd (bnd (bnd x (iArea B n)) (iWd B n [116, 111])) (iArea B n) := by simp [lnT]
theorem lnT_7 : lnT B n (((7 : Nat) : Int)) x = bnd x (iPk B n oN) := by simp [lnT]
theorem lnT_8 : lnT B n (((8 : Nat) : Int)) x = bnd (bnd x (iMove B n)) (iMove B n) := by simp [lnT]
end
section PU
variable {d : Nat} {w : mm_W} {h : mm_H} {R : Int → Int} {B : Int → Int} {n p op : Int} {q0 : Nat} {x : pR}
theorem MA_y (hA : MA h B n p op q0) : yC (h 491) h B n op q0 (.inr (p, [])) := ⟨hA, Seg_nil, fun _ _ => rfl⟩
theorem pl1 {t : Int → pR} {m k : Nat} (hx : pln x ≤ m) (h : ∀ p p' M, t p = .inr (p', M) → M.length ≤ k) : pln (bnd x t) ≤ m + k := Nat.le_trans (pln_bnd h) (by omega)
theorem Y_line (hd : 8 ≤ d) (hW : MW w) (hA : MA h B n p op q0) (hq : q0 + 12 ≤ 400) {k : Nat} (ho : oL (tWd B n p) = some k) (h9 : k ≠ 9) : ∃ h', mm_P d 330 [(2, 483)] w h = some ((9, 0), w, h') ∧ Mp h h' ∧ yC (h 491) h' B n op q0 (bnd (prH (rfH k) (lnT B n (k : Int) (.inr (tE B n p, [])))) (iSg B n 59)) := by
  obtain ⟨d, rfl, hd2⟩ := mm_dS hd; clear hd; have hd := hd2; clear hd2
  have hw : (w.1 483).1 = 13 := by rw [hW.1]
  have hy := MA_y hA
  have no : ∀ {ws : List Int} {v : Int}, wNum ws v → tWd B n p ≠ ws → mm_P d 262 [(2, 483), (1, v)] w h = some ((0, 0), w, h) := fun hv hne => by
    rcases E_M_takesWord (d := d) (by omega) hW hA.2.1.1 hv hA.1 with ⟨q, _⟩ | ⟨_, g⟩
    · exact absurd q hne
    · exact g
  have ok : ∀ {ws : List Int} {v : Int}, wNum ws v → tWd B n p = ws → ∃ h1, mm_P d 262 [(2, 483), (1, v)] w h = some ((0, 1), w, h1) ∧ Mp h h1 ∧ yC (h 491) h1 B n op q0 (.inr (tE B n p, [])) := fun hv he => by
    rcases E_M_takesWord (d := d) (by omega) hW hA.2.1.1 hv hA.1 with ⟨_, h1, g1, g2, g3⟩ | ⟨q, _⟩
    · obtain ⟨k1, k2⟩ := yC_tok hy g2 g3
      exact ⟨h1, g1, k1, k2⟩
    · exact absurd he q
  have isn : ∀ {ws : List Int} {v : Int}, wNum ws v → tWd B n p ≠ ws → mm_P d 261 [(2, 483), (1, v)] w h = some ((0, 0), w, h) := fun hv hne => by rw [E_M_isWord (by omega) hW hv hA.1, bI_f hne]
  have isy : ∀ {ws : List Int} {v : Int}, wNum ws v → tWd B n p = ws → mm_P d 261 [(2, 483), (1, v)] w h = some ((0, 1), w, h) := fun hv he => by rw [E_M_isWord (by omega) hW hv hA.1, bI_t he]
  rw [P_M_readsLine]
  simp only [mF_t hw]
  unfold oL at ho
  rcases ifO ho with ⟨e, rfl⟩ | ho
  · -- paint
    rw [no w_repeat (by rw [e]; decide), mC_s, mEq_t rfl]
    simp only [mF_t hw]
    obtain ⟨g0, a0, o0, y0⟩ := ok w_paint e
    rw [a0, mC_s, mEq_f (by decide)]
    simp only [mF_t hw]
    obtain ⟨g1, a1, o1, y1, _⟩ := Y_wr (d := d) (by omega) hW y0 hq (Nat.zero_le _) 1
    have y1 : yC (h 491) g1 B n op q0 (.inr (tE B n p, [1])) := y1
    rw [a1, mC_s]
    simp only [mF_t hw]
    have l1 : pln (.inr (tE B n p, [1]) : pR) ≤ 1 := Nat.le_refl _
    obtain ⟨g2, a2, o2, y2⟩ := Y_prop (d := d) (by omega) hW hq (Nat.le_trans l1 (by decide)) y1
    have l2 := pl1 (x := _) l1 (fun p p' M e => iPk_len (B := B) (n := n) (o := oN) (p := p) (p' := p') (M := M) e)
    rw [a2, mC_s]
    simp only [mF_t hw]
    obtain ⟨g3, a3, o3, y3⟩ := Y_what (d := d) (by omega) hW hq (Nat.le_trans l2 (by decide)) y2
    have l3 := pl1 (x := _) l2 (fun p p' M e => iWhat_len (B := B) (n := n) (p := p) (p' := p') (M := M) e)
    rw [a3, mC_s]
    simp only [mF_t hw]
    obtain ⟨g4, a4, o4, y4⟩ := Y_area (d := d) (by omega) hW hq (Nat.le_trans l3 (by decide)) y3
    have l4 := pl1 (x := _) l3 (fun p p' M e => iArea_len (B := B) (n := n) (p := p) (p' := p') (M := M) e)
    rw [a4, mC_s]
    simp only [mF_t hw]
    obtain ⟨f5, u5, g5, a5, b5, o5, y5⟩ := Y_sg (d := d) (by omega) hW (c := 59) (by decide) (by decide) y4
    rw [a5, mC_s]
    simp only [mF_t hw]
    rw [b5, mC_s]
    refine ⟨g5, rfl, Mp_tr o0 (Mp_tr o1 (Mp_tr o2 (Mp_tr o3 (Mp_tr o4 o5)))), ?_⟩
    rw [show prH (rfH 0) (lnT B n ((0 : Nat) : Int) (.inr (tE B n p, []))) = lnT B n ((0 : Nat) : Int) (.inr (tE B n p, [1])) from lnT_H.symm, lnT_0]
    exact y5
  rcases ifO ho with ⟨e, rfl⟩ | ho
  · -- rows
    rw [no w_repeat (by rw [e]; decide), mC_s, mEq_t rfl]
    simp only [mF_t hw]
    rw [no w_paint (by rw [e]; decide), mC_s, mEq_t rfl]
    simp only [mF_t hw]
    rw [isy w_rows e, mC_s, mEq_f (by decide)]
    simp only [mF_t hw]
    obtain ⟨g1, a1, o1, y1, _⟩ := Y_wr (d := d) (by omega) hW hy hq (Nat.zero_le _) 2
    have y1 : yC (h 491) g1 B n op q0 (.inr (p, [2])) := y1
    rw [a1, mC_s]
    simp only [mF_t hw]
    obtain ⟨g2, a2, o2, y2⟩ := Y_way (d := d) (by omega) hW hq (show pln (.inr (p, [2]) : pR) ≤ 11 from (by decide : 1 ≤ 11)) y1
    rw [bnd_rr (iPk_t (i := 0) (show oW (tWd B n p) = some 0 from if_pos e))] at y2
    have y2 : yC (h 491) g2 B n op q0 (.inr (tE B n p, [2, 0])) := y2
    rw [a2, mC_s]
    simp only [mF_t hw]
    have l2 : pln (.inr (tE B n p, [2, 0]) : pR) ≤ 2 := Nat.le_refl _
    obtain ⟨g3, a3, o3, y3⟩ := Y_prop (d := d) (by omega) hW hq (Nat.le_trans l2 (by decide)) y2
    have l3 := pl1 (x := _) l2 (fun p p' M e => iPk_len (B := B) (n := n) (o := oN) (p := p) (p' := p') (M := M) e)
    rw [a3, mC_s]
    simp only [mF_t hw]
    obtain ⟨g4, a4, o4, y4⟩ := Y_what (d := d) (by omega) hW hq (Nat.le_trans l3 (by decide)) y3
    have l4 := pl1 (x := _) l3 (fun p p' M e => iWhat_len (B := B) (n := n) (p := p) (p' := p') (M := M) e)
    rw [a4, mC_s]
    simp only [mF_t hw]
    obtain ⟨g5, a5, o5, y5⟩ := Y_two (d := d) (by omega) hW w_to hq (Nat.le_trans l4 (by decide)) y4
    rw [a5, mC_s]
    simp only [mF_t hw]
    obtain ⟨f6, u6, g6, a6, b6, o6, y6⟩ := Y_sg (d := d) (by omega) hW (c := 59) (by decide) (by decide) y5
    rw [a6, mC_s]
    simp only [mF_t hw]
    rw [b6, mC_s]
    refine ⟨g6, rfl, Mp_tr o1 (Mp_tr o2 (Mp_tr o3 (Mp_tr o4 (Mp_tr o5 o6)))), ?_⟩
    rw [show prH (rfH 1) (lnT B n ((1 : Nat) : Int) (.inr (tE B n p, []))) = lnT B n ((1 : Nat) : Int) (.inr (tE B n p, [2, 0])) from lnT_H.symm, lnT_1]
    exact y6
  rcases ifO ho with ⟨e, rfl⟩ | ho
  · -- columns
    rw [no w_repeat (by rw [e]; decide), mC_s, mEq_t rfl]
    simp only [mF_t hw]
    rw [no w_paint (by rw [e]; decide), mC_s, mEq_t rfl]
    simp only [mF_t hw]
    rw [isn w_rows (by rw [e]; decide), mC_s, mEq_t rfl]
    simp only [mF_t hw]
    rw [isy w_columns e, mC_s, mEq_f (by decide)]
    simp only [mF_t hw]
    obtain ⟨g1, a1, o1, y1, _⟩ := Y_wr (d := d) (by omega) hW hy hq (Nat.zero_le _) 2
    have y1 : yC (h 491) g1 B n op q0 (.inr (p, [2])) := y1
    rw [a1, mC_s]
    simp only [mF_t hw]
    obtain ⟨g2, a2, o2, y2⟩ := Y_way (d := d) (by omega) hW hq (show pln (.inr (p, [2]) : pR) ≤ 11 from (by decide : 1 ≤ 11)) y1
    rw [bnd_rr (iPk_t (i := 1) (show oW (tWd B n p) = some 1 from (if_neg (by rw [e]; decide)).trans (if_pos e)))] at y2
    have y2 : yC (h 491) g2 B n op q0 (.inr (tE B n p, [2, 1])) := y2
    rw [a2, mC_s]
    simp only [mF_t hw]
    have l2 : pln (.inr (tE B n p, [2, 1]) : pR) ≤ 2 := Nat.le_refl _
    obtain ⟨g3, a3, o3, y3⟩ := Y_prop (d := d) (by omega) hW hq (Nat.le_trans l2 (by decide)) y2
    have l3 := pl1 (x := _) l2 (fun p p' M e => iPk_len (B := B) (n := n) (o := oN) (p := p) (p' := p') (M := M) e)
    rw [a3, mC_s]
    simp only [mF_t hw]
    obtain ⟨g4, a4, o4, y4⟩ := Y_what (d := d) (by omega) hW hq (Nat.le_trans l3 (by decide)) y3
    have l4 := pl1 (x := _) l3 (fun p p' M e => iWhat_len (B := B) (n := n) (p := p) (p' := p') (M := M) e)
    rw [a4, mC_s]
    simp only [mF_t hw]
    obtain ⟨g5, a5, o5, y5⟩ := Y_two (d := d) (by omega) hW w_to hq (Nat.le_trans l4 (by decide)) y4
    rw [a5, mC_s]
    simp only [mF_t hw]
    obtain ⟨f6, u6, g6, a6, b6, o6, y6⟩ := Y_sg (d := d) (by omega) hW (c := 59) (by decide) (by decide) y5
    rw [a6, mC_s]
    simp only [mF_t hw]
    rw [b6, mC_s]
    refine ⟨g6, rfl, Mp_tr o1 (Mp_tr o2 (Mp_tr o3 (Mp_tr o4 (Mp_tr o5 o6)))), ?_⟩
    rw [show prH (rfH 2) (lnT B n ((2 : Nat) : Int) (.inr (tE B n p, []))) = lnT B n ((2 : Nat) : Int) (.inr (tE B n p, [2, 1])) from lnT_H.symm, lnT_2]
    exact y6
  rcases ifO ho with ⟨e, rfl⟩ | ho
  · -- insert
    rw [no w_repeat (by rw [e]; decide), mC_s, mEq_t rfl]
    simp only [mF_t hw]
    rw [no w_paint (by rw [e]; decide), mC_s, mEq_t rfl]
    simp only [mF_t hw]
    rw [isn w_rows (by rw [e]; decide), mC_s, mEq_t rfl]
    simp only [mF_t hw]
    rw [isn w_columns (by rw [e]; decide), mC_s, mEq_t rfl]
    simp only [mF_t hw]
    obtain ⟨g0, a0, o0, y0⟩ := ok w_insert e
    rw [a0, mC_s, mEq_f (by decide)]
    simp only [mF_t hw]
    obtain ⟨g1, a1, o1, y1, _⟩ := Y_wr (d := d) (by omega) hW y0 hq (Nat.zero_le _) 3
    have y1 : yC (h 491) g1 B n op q0 (.inr (tE B n p, [3])) := y1
    rw [a1, mC_s]
    simp only [mF_t hw]
    have l1 : pln (.inr (tE B n p, [3]) : pR) ≤ 1 := Nat.le_refl _
    obtain ⟨g2, a2, o2, y2⟩ := Y_way (d := d) (by omega) hW hq (Nat.le_trans l1 (by decide)) y1
    have l2 := pl1 (x := _) l1 (fun p p' M e => iPk_len (B := B) (n := n) (o := oW) (p := p) (p' := p') (M := M) e)
    rw [a2, mC_s]
    simp only [mF_t hw]
    obtain ⟨g3, a3, o3, y3⟩ := Y_two (d := d) (by omega) hW w_by hq (Nat.le_trans l2 (by decide)) y2
    rw [a3, mC_s]
    simp only [mF_t hw]
    obtain ⟨f4, u4, g4, a4, b4, o4, y4⟩ := Y_sg (d := d) (by omega) hW (c := 59) (by decide) (by decide) y3
    rw [a4, mC_s]
    simp only [mF_t hw]
    rw [b4, mC_s]
    refine ⟨g4, rfl, Mp_tr o0 (Mp_tr o1 (Mp_tr o2 (Mp_tr o3 o4))), ?_⟩
    rw [show prH (rfH 3) (lnT B n ((3 : Nat) : Int) (.inr (tE B n p, []))) = lnT B n ((3 : Nat) : Int) (.inr (tE B n p, [3])) from lnT_H.symm, lnT_3]
    exact y4
  rcases ifO ho with ⟨e, rfl⟩ | ho
  · -- remove
    rw [no w_repeat (by rw [e]; decide), mC_s, mEq_t rfl]
    simp only [mF_t hw]
    rw [no w_paint (by rw [e]; decide), mC_s, mEq_t rfl]
    simp only [mF_t hw]
    rw [isn w_rows (by rw [e]; decide), mC_s, mEq_t rfl]
    simp only [mF_t hw]
    rw [isn w_columns (by rw [e]; decide), mC_s, mEq_t rfl]
    simp only [mF_t hw]
    rw [no w_insert (by rw [e]; decide), mC_s, mEq_t rfl]
    simp only [mF_t hw]
    obtain ⟨g0, a0, o0, y0⟩ := ok w_remove e
    rw [a0, mC_s, mEq_f (by decide)]
    simp only [mF_t hw]
    obtain ⟨g1, a1, o1, y1, _⟩ := Y_wr (d := d) (by omega) hW y0 hq (Nat.zero_le _) 4
    have y1 : yC (h 491) g1 B n op q0 (.inr (tE B n p, [4])) := y1
    rw [a1, mC_s]
    simp only [mF_t hw]
    have l1 : pln (.inr (tE B n p, [4]) : pR) ≤ 1 := Nat.le_refl _
    obtain ⟨g2, a2, o2, y2⟩ := Y_way (d := d) (by omega) hW hq (Nat.le_trans l1 (by decide)) y1
    have l2 := pl1 (x := _) l1 (fun p p' M e => iPk_len (B := B) (n := n) (o := oW) (p := p) (p' := p') (M := M) e)
    rw [a2, mC_s]
    simp only [mF_t hw]
    obtain ⟨g3, a3, o3, y3⟩ := Y_two (d := d) (by omega) hW w_to hq (Nat.le_trans l2 (by decide)) y2
    rw [a3, mC_s]
    simp only [mF_t hw]
    obtain ⟨f4, u4, g4, a4, b4, o4, y4⟩ := Y_sg (d := d) (by omega) hW (c := 59) (by decide) (by decide) y3
    rw [a4, mC_s]
    simp only [mF_t hw]
    rw [b4, mC_s]
    refine ⟨g4, rfl, Mp_tr o0 (Mp_tr o1 (Mp_tr o2 (Mp_tr o3 o4))), ?_⟩
    rw [show prH (rfH 4) (lnT B n ((4 : Nat) : Int) (.inr (tE B n p, []))) = lnT B n ((4 : Nat) : Int) (.inr (tE B n p, [4])) from lnT_H.symm, lnT_4]
    exact y4
  rcases ifO ho with ⟨e, rfl⟩ | ho
  · -- copy
    rw [no w_repeat (by rw [e]; decide), mC_s, mEq_t rfl]
    simp only [mF_t hw]
    rw [no w_paint (by rw [e]; decide), mC_s, mEq_t rfl]
    simp only [mF_t hw]
    rw [isn w_rows (by rw [e]; decide), mC_s, mEq_t rfl]
    simp only [mF_t hw]
    rw [isn w_columns (by rw [e]; decide), mC_s, mEq_t rfl]
    simp only [mF_t hw]
    rw [no w_insert (by rw [e]; decide), mC_s, mEq_t rfl]
    simp only [mF_t hw]
    rw [no w_remove (by rw [e]; decide), mC_s, mEq_t rfl]
    simp only [mF_t hw]
    rw [isy w_copy e, mC_s, mEq_f (by decide)]
    simp only [mF_t hw]
    rw [isn w_turn (by rw [e]; decide), mC_s, mEq_t rfl]
    simp only [mF_t hw]
    obtain ⟨g1, g2, a1, a2, o1, y1⟩ := Y_nxw (d := d) (by omega) hW hy hq (Nat.zero_le _) 5
    have y1 : yC (h 491) g2 B n op q0 (.inr (tE B n p, [5])) := y1
    rw [a1, mC_s]
    simp only [mF_t hw]
    rw [a2, mC_s]
    simp only [mF_t hw]
    obtain ⟨g3, a3, o3, y3, _⟩ := Y_wr (d := d) (by omega) hW y1 hq (show pln (.inr (tE B n p, [5]) : pR) ≤ 11 from (by decide : 1 ≤ 11)) 0
    have y3 : yC (h 491) g3 B n op q0 (.inr (tE B n p, [5, 0])) := y3
    rw [a3, mC_s]
    simp only [mF_t hw]
    have l3 : pln (.inr (tE B n p, [5, 0]) : pR) ≤ 2 := Nat.le_refl _
    obtain ⟨g4, a4, o4, y4⟩ := Y_area (d := d) (by omega) hW hq (Nat.le_trans l3 (by decide)) y3
    have l4 := pl1 (x := _) l3 (fun p p' M e => iArea_len (B := B) (n := n) (p := p) (p' := p') (M := M) e)
    rw [a4, mC_s]
    simp only [mF_t hw]
    obtain ⟨f5, u5, g5, a5, b5, o5, y5⟩ := Y_wd (d := d) (by omega) hW w_to y4
    have l5 := pl1 (x := _) l4 (fun p p' M e => iWd_len (B := B) (n := n) (ws := [116, 111]) (p := p) (p' := p') (M := M) e)
    rw [a5, mC_s]
    simp only [mF_t hw]
    rw [b5, mC_s]
    simp only [mF_t hw]
    obtain ⟨g6, a6, o6, y6⟩ := Y_area (d := d) (by omega) hW hq (Nat.le_trans l5 (by decide)) y5
    have l6 := pl1 (x := _) l5 (fun p p' M e => iArea_len (B := B) (n := n) (p := p) (p' := p') (M := M) e)
    rw [a6, mC_s]
    simp only [mF_t hw]
    obtain ⟨f7, u7, g7, a7, b7, o7, y7⟩ := Y_sg (d := d) (by omega) hW (c := 59) (by decide) (by decide) y6
    rw [a7, mC_s]
    simp only [mF_t hw]
    rw [b7, mC_s]
    refine ⟨g7, rfl, Mp_tr o1 (Mp_tr o3 (Mp_tr o4 (Mp_tr o5 (Mp_tr o6 o7)))), ?_⟩
    rw [show prH (rfH 5) (lnT B n ((5 : Nat) : Int) (.inr (tE B n p, []))) = lnT B n ((5 : Nat) : Int) (.inr (tE B n p, [5, 0])) from lnT_H.symm, lnT_5]
    exact y7
  rcases ifO ho with ⟨e, rfl⟩ | ho
  · -- turn
    rw [no w_repeat (by rw [e]; decide), mC_s, mEq_t rfl]
    simp only [mF_t hw]
    rw [no w_paint (by rw [e]; decide), mC_s, mEq_t rfl]
    simp only [mF_t hw]
    rw [isn w_rows (by rw [e]; decide), mC_s, mEq_t rfl]
    simp only [mF_t hw]
    rw [isn w_columns (by rw [e]; decide), mC_s, mEq_t rfl]
    simp only [mF_t hw]
    rw [no w_insert (by rw [e]; decide), mC_s, mEq_t rfl]
    simp only [mF_t hw]
    rw [no w_remove (by rw [e]; decide), mC_s, mEq_t rfl]
    simp only [mF_t hw]
    rw [isn w_copy (by rw [e]; decide), mC_s, mEq_t rfl]
    simp only [mF_t hw]
    rw [isy w_turn e, mC_s, mEq_f (by decide)]
    simp only [mF_t hw]
    rw [isy w_turn e, mC_s, mEq_f (by decide)]
    simp only [mF_t hw]
    obtain ⟨g1, g2, a1, a2, o1, y1⟩ := Y_nxw (d := d) (by omega) hW hy hq (Nat.zero_le _) 5
    have y1 : yC (h 491) g2 B n op q0 (.inr (tE B n p, [5])) := y1
    rw [a1, mC_s]
    simp only [mF_t hw]
    rw [a2, mC_s]
    simp only [mF_t hw]
    obtain ⟨g3, a3, o3, y3, _⟩ := Y_wr (d := d) (by omega) hW y1 hq (show pln (.inr (tE B n p, [5]) : pR) ≤ 11 from (by decide : 1 ≤ 11)) 1
    have y3 : yC (h 491) g3 B n op q0 (.inr (tE B n p, [5, 1])) := y3
    rw [a3, mC_s]
    simp only [mF_t hw]
    have l3 : pln (.inr (tE B n p, [5, 1]) : pR) ≤ 2 := Nat.le_refl _
    obtain ⟨g4, a4, o4, y4⟩ := Y_area (d := d) (by omega) hW hq (Nat.le_trans l3 (by decide)) y3
    have l4 := pl1 (x := _) l3 (fun p p' M e => iArea_len (B := B) (n := n) (p := p) (p' := p') (M := M) e)
    rw [a4, mC_s]
    simp only [mF_t hw]
    obtain ⟨f5, u5, g5, a5, b5, o5, y5⟩ := Y_wd (d := d) (by omega) hW w_to y4
    have l5 := pl1 (x := _) l4 (fun p p' M e => iWd_len (B := B) (n := n) (ws := [116, 111]) (p := p) (p' := p') (M := M) e)
    rw [a5, mC_s]
    simp only [mF_t hw]
    rw [b5, mC_s]
    simp only [mF_t hw]
    obtain ⟨g6, a6, o6, y6⟩ := Y_area (d := d) (by omega) hW hq (Nat.le_trans l5 (by decide)) y5
    have l6 := pl1 (x := _) l5 (fun p p' M e => iArea_len (B := B) (n := n) (p := p) (p' := p') (M := M) e)
    rw [a6, mC_s]
    simp only [mF_t hw]
    obtain ⟨f7, u7, g7, a7, b7, o7, y7⟩ := Y_sg (d := d) (by omega) hW (c := 59) (by decide) (by decide) y6
    rw [a7, mC_s]
    simp only [mF_t hw]
    rw [b7, mC_s]
    refine ⟨g7, rfl, Mp_tr o1 (Mp_tr o3 (Mp_tr o4 (Mp_tr o5 (Mp_tr o6 o7)))), ?_⟩
    rw [show prH (rfH 6) (lnT B n ((6 : Nat) : Int) (.inr (tE B n p, []))) = lnT B n ((6 : Nat) : Int) (.inr (tE B n p, [5, 1])) from lnT_H.symm, lnT_6]
    exact y7
  rcases ifO ho with ⟨e, rfl⟩ | ho
  · -- tidy
    rw [no w_repeat (by rw [e]; decide), mC_s, mEq_t rfl]
    simp only [mF_t hw]
    rw [no w_paint (by rw [e]; decide), mC_s, mEq_t rfl]
    simp only [mF_t hw]
    rw [isn w_rows (by rw [e]; decide), mC_s, mEq_t rfl]
    simp only [mF_t hw]
    rw [isn w_columns (by rw [e]; decide), mC_s, mEq_t rfl]
    simp only [mF_t hw]
    rw [no w_insert (by rw [e]; decide), mC_s, mEq_t rfl]
    simp only [mF_t hw]
    rw [no w_remove (by rw [e]; decide), mC_s, mEq_t rfl]
    simp only [mF_t hw]
    rw [isn w_copy (by rw [e]; decide), mC_s, mEq_t rfl]
    simp only [mF_t hw]
    rw [isn w_turn (by rw [e]; decide), mC_s, mEq_t rfl]
    simp only [mF_t hw]
    obtain ⟨g0, a0, o0, y0⟩ := ok w_tidy e
    rw [a0, mC_s, mEq_f (by decide)]
    simp only [mF_t hw]
    obtain ⟨g1, a1, o1, y1, _⟩ := Y_wr (d := d) (by omega) hW y0 hq (Nat.zero_le _) 6
    have y1 : yC (h 491) g1 B n op q0 (.inr (tE B n p, [6])) := y1
    rw [a1, mC_s]
    simp only [mF_t hw]
    have l1 : pln (.inr (tE B n p, [6]) : pR) ≤ 1 := Nat.le_refl _
    obtain ⟨g2, a2, o2, y2⟩ := Y_prop (d := d) (by omega) hW hq (Nat.le_trans l1 (by decide)) y1
    have l2 := pl1 (x := _) l1 (fun p p' M e => iPk_len (B := B) (n := n) (o := oN) (p := p) (p' := p') (M := M) e)
    rw [a2, mC_s]
    simp only [mF_t hw]
    obtain ⟨f3, u3, g3, a3, b3, o3, y3⟩ := Y_sg (d := d) (by omega) hW (c := 59) (by decide) (by decide) y2
    rw [a3, mC_s]
    simp only [mF_t hw]
    rw [b3, mC_s]
    refine ⟨g3, rfl, Mp_tr o0 (Mp_tr o1 (Mp_tr o2 o3)), ?_⟩
    rw [show prH (rfH 7) (lnT B n ((7 : Nat) : Int) (.inr (tE B n p, []))) = lnT B n ((7 : Nat) : Int) (.inr (tE B n p, [6])) from lnT_H.symm, lnT_7]
    exact y3
  rcases ifO ho with ⟨e, rfl⟩ | ho
  · -- shift
    rw [no w_repeat (by rw [e]; decide), mC_s, mEq_t rfl]
    simp only [mF_t hw]
    rw [no w_paint (by rw [e]; decide), mC_s, mEq_t rfl]
    simp only [mF_t hw]
    rw [isn w_rows (by rw [e]; decide), mC_s, mEq_t rfl]
    simp only [mF_t hw]
    rw [isn w_columns (by rw [e]; decide), mC_s, mEq_t rfl]
    simp only [mF_t hw]
    rw [no w_insert (by rw [e]; decide), mC_s, mEq_t rfl]
    simp only [mF_t hw]
    rw [no w_remove (by rw [e]; decide), mC_s, mEq_t rfl]
    simp only [mF_t hw]
    rw [isn w_copy (by rw [e]; decide), mC_s, mEq_t rfl]
    simp only [mF_t hw]
    rw [isn w_turn (by rw [e]; decide), mC_s, mEq_t rfl]
    simp only [mF_t hw]
    rw [no w_tidy (by rw [e]; decide), mC_s, mEq_t rfl]
    simp only [mF_t hw]
    obtain ⟨g0, a0, o0, y0⟩ := ok w_shift e
    rw [a0, mC_s, mEq_f (by decide)]
    simp only [mF_t hw]
    obtain ⟨g1, a1, o1, y1, _⟩ := Y_wr (d := d) (by omega) hW y0 hq (Nat.zero_le _) 7
    have y1 : yC (h 491) g1 B n op q0 (.inr (tE B n p, [7])) := y1
    rw [a1, mC_s]
    simp only [mF_t hw]
    have l1 : pln (.inr (tE B n p, [7]) : pR) ≤ 1 := Nat.le_refl _
    obtain ⟨g2, a2, o2, y2⟩ := Y_move (d := d) (by omega) hW hq (Nat.le_trans l1 (by decide)) y1
    have l2 := pl1 (x := _) l1 (fun p p' M e => iMove_len (B := B) (n := n) (p := p) (p' := p') (M := M) e)
    rw [a2, mC_s]
    simp only [mF_t hw]
    obtain ⟨g3, a3, o3, y3⟩ := Y_move (d := d) (by omega) hW hq (Nat.le_trans l2 (by decide)) y2
    have l3 := pl1 (x := _) l2 (fun p p' M e => iMove_len (B := B) (n := n) (p := p) (p' := p') (M := M) e)
    rw [a3, mC_s]
    simp only [mF_t hw]
    obtain ⟨f4, u4, g4, a4, b4, o4, y4⟩ := Y_sg (d := d) (by omega) hW (c := 59) (by decide) (by decide) y3
    rw [a4, mC_s]
    simp only [mF_t hw]
    rw [b4, mC_s]
    refine ⟨g4, rfl, Mp_tr o0 (Mp_tr o1 (Mp_tr o2 (Mp_tr o3 o4))), ?_⟩
    rw [show prH (rfH 8) (lnT B n ((8 : Nat) : Int) (.inr (tE B n p, []))) = lnT B n ((8 : Nat) : Int) (.inr (tE B n p, [7])) from lnT_H.symm, lnT_8]
    exact y4
  rcases ifO ho with ⟨e, rfl⟩ | ho
  · exact absurd rfl h9
  · cases ho
theorem Y_lineN (hd : 8 ≤ d) (hW : MW w) (hA : MA h B n p op q0) (ho : oL (tWd B n p) = none) : ∃ h', mm_P d 330 [(2, 483)] w h = some ((9, 0), w, h') ∧ Mp h h' ∧ MG h' B n (tS B n p) := by
  obtain ⟨d, rfl, hd2⟩ := mm_dS hd; clear hd; have hd := hd2; clear hd2
  have hw : (w.1 483).1 = 13 := by rw [hW.1]
  have hy := MA_y hA
  have no : ∀ {ws : List Int} {v : Int}, wNum ws v → tWd B n p ≠ ws → mm_P d 262 [(2, 483), (1, v)] w h = some ((0, 0), w, h) := fun hv hne => by
    rcases E_M_takesWord (d := d) (by omega) hW hA.2.1.1 hv hA.1 with ⟨q, _⟩ | ⟨_, g⟩
    · exact absurd q hne
    · exact g
  have isn : ∀ {ws : List Int} {v : Int}, wNum ws v → tWd B n p ≠ ws → mm_P d 261 [(2, 483), (1, v)] w h = some ((0, 0), w, h) := fun hv hne => by rw [E_M_isWord (by omega) hW hv hA.1, bI_f hne]
  have ne : ∀ ws : List Int, oL ws ≠ none → tWd B n p ≠ ws := fun ws hn e => hn (e ▸ ho)
  rw [P_M_readsLine]
  simp only [mF_t hw]
  rw [no w_repeat (ne _ (by decide)), mC_s, mEq_t rfl]
  simp only [mF_t hw]
  rw [no w_paint (ne _ (by decide)), mC_s, mEq_t rfl]
  simp only [mF_t hw]
  rw [isn w_rows (ne _ (by decide)), mC_s, mEq_t rfl]
  simp only [mF_t hw]
  rw [isn w_columns (ne _ (by decide)), mC_s, mEq_t rfl]
  simp only [mF_t hw]
  rw [no w_insert (ne _ (by decide)), mC_s, mEq_t rfl]
  simp only [mF_t hw]
  rw [no w_remove (ne _ (by decide)), mC_s, mEq_t rfl]
  simp only [mF_t hw]
  rw [isn w_copy (ne _ (by decide)), mC_s, mEq_t rfl]
  simp only [mF_t hw]
  rw [isn w_turn (ne _ (by decide)), mC_s, mEq_t rfl]
  simp only [mF_t hw]
  rw [no w_tidy (ne _ (by decide)), mC_s, mEq_t rfl]
  simp only [mF_t hw]
  rw [no w_shift (ne _ (by decide)), mC_s, mEq_t rfl]
  simp only [mF_t hw]
  obtain ⟨h1, g1, g2, g3⟩ := E_M_wrong (d := d) (by omega) hW hA.1
  obtain ⟨k1, k2⟩ := yC_flt (R := h 491) (op := op) (q0 := q0) hA.2.1 g2 g3
  obtain ⟨h2, a1, a2, a3⟩ := E_M_wantsF (d := d) (by omega) hW g3 0
  obtain ⟨k3, k4⟩ := yC_flt (R := h 491) (op := op) (q0 := q0) k2.2 a2 a3
  rw [g1, mC_s]
  simp only [mF_t hw]
  rw [E_M_takesSignF (by omega) hW g3 (by decide), mC_s]
  simp only [mF_t hw]
  rw [a1, mC_s]
  exact ⟨h2, rfl, Mp_tr k1 k3, k4⟩
end PU
