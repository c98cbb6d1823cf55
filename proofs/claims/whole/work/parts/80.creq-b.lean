/-! PURE: the class's requests, more. Printed by wip/whole/gen/gen80.py. -/
section PU
variable {d : Nat} {w : mm_W} {h : mm_H} {s : aS} {A : aG}
theorem E_F_insert (hd : 7 ≤ d) (hW : WK w) (hK : HK h) (hc : cHist w h A) (y a n : Int) (i3 : -2147483648 ≤ n ∧ n < 2147483648) : (¬ okIns (gNow A) y a n ∧ ∃ h', mm_P d 144 [(2, 1), (0, y), (0, a), (0, n)] w h = some ((0, -2), w, h') ∧ cSame w h h' A) ∨ ((okIns (gNow A) y a n ∧ 16 < aSz (gNow A) y + n) ∧ ∃ h', mm_P d 144 [(2, 1), (0, y), (0, a), (0, n)] w h = some ((0, -4), w, h') ∧ cSame w h h' A) ∨ ((okIns (gNow A) y a n ∧ aSz (gNow A) y + n ≤ 16) ∧ ∃ h', mm_P d 144 [(2, 1), (0, y), (0, a), (0, n)] w h = some ((0, aSz (gNow A) y + n), w, h') ∧ cDone w h h' A (F_insert (gNow A) y a n)) := by
  obtain ⟨d, rfl, hd2⟩ := mm_dS hd; clear hd; have hd := hd2; clear hd2
  have w1 : (w.1 1).1 = 12 := by rw [hW.1.1]
  have w2 : (w.1 2).1 = 4 := by rw [hW.1.2.1]
  have w4' : (w.1 4).1 = 9 := by rw [(W4 hW).2.1]
  have w420 : (w.1 420).1 = 3 := by rw [hW.1.2.2.2.1]
  obtain ⟨h1, a1, a2, a3, a4, a5, a6⟩ := E_draft (d := d) (by omega) hW hK hc
  have Ed : EdH h1 := ⟨a4.2.2.1.1, a4.2.2.1.2.1⟩
  have hN := a3.2.2.1
  have S1 : ShH h1 421 := a4.2.2.2.2.2.2.1
  rw [P_F_insert]
  simp only [mF_t w1, hK.1.1, hK.1.2.1, mF_t w2]
  rw [a1, mC_s, mF_t w420]
  rcases E_insertLines (d := d) (by omega) hW.1.2.2.2.1 hW.1.2.2.2.2.1 (W4 hW) (W421 hW) a3 a2 S1 Ed y a n i3 with ⟨z, b1⟩ | ⟨z, b1⟩ | ⟨z, h2, b1, b2, b3, b4⟩
  · rw [b1, mC_s, mF_t w1, E_settle0 (by omega) (by decide), mC_s]
    exact Or.inl ⟨z, h1, rfl, cSame_ed hK hc a6 a2.1 rfl⟩
  · rw [b1, mC_s, mF_t w1, E_settle0 (by omega) (by decide), mC_s]
    exact Or.inr (Or.inl ⟨z, h1, rfl, cSame_ed hK hc a6 a2.1 rfl⟩)
  · have S421 : ShH h2 421 := b3
    have z' := z
    obtain ⟨h', g1, g2⟩ := E_settle (d := d) (by omega) hW hK hc (fun b x y => by rw [b4 b x y, a6 b x]) b2 S421 (aI_insert a3 z.1 z.2) (a := aSz (gNow A) y + n) (by have := z.1.2.2; have := aSz_le a3 y; omega)
    rw [b1, mC_s, mF_t w1, g1, mC_s]
    exact Or.inr (Or.inr ⟨z', h', rfl, g2⟩)
theorem E_F_remove (hd : 7 ≤ d) (hW : WK w) (hK : HK h) (hc : cHist w h A) (y : Int) {n : Int} (hn : n < 2147483648) : (¬ ((y = 0 ∨ y = 1) ∧ isAB (aSz (gNow A) y) n) ∧ ∃ h', mm_P d 145 [(2, 1), (0, y), (0, n)] w h = some ((0, -2), w, h') ∧ cSame w h h' A) ∨ ((((y = 0 ∨ y = 1) ∧ isAB (aSz (gNow A) y) n) ∧ aSz (gNow A) y = n % 100 - n / 100 + 1) ∧ ∃ h', mm_P d 145 [(2, 1), (0, y), (0, n)] w h = some ((0, -3), w, h') ∧ cSame w h h' A) ∨ ((((y = 0 ∨ y = 1) ∧ isAB (aSz (gNow A) y) n) ∧ n % 100 - n / 100 + 1 < aSz (gNow A) y) ∧ ∃ h', mm_P d 145 [(2, 1), (0, y), (0, n)] w h = some ((0, aSz (gNow A) y - (n % 100 - n / 100 + 1)), w, h') ∧ cDone w h h' A (F_remove (gNow A) y (n / 100) (n % 100))) := by
  obtain ⟨d, rfl, hd2⟩ := mm_dS hd; clear hd; have hd := hd2; clear hd2
  have w1 : (w.1 1).1 = 12 := by rw [hW.1.1]
  have w2 : (w.1 2).1 = 4 := by rw [hW.1.2.1]
  have w4' : (w.1 4).1 = 9 := by rw [(W4 hW).2.1]
  have w420 : (w.1 420).1 = 3 := by rw [hW.1.2.2.2.1]
  obtain ⟨h1, a1, a2, a3, a4, a5, a6⟩ := E_draft (d := d) (by omega) hW hK hc
  have Ed : EdH h1 := ⟨a4.2.2.1.1, a4.2.2.1.2.1⟩
  have hN := a3.2.2.1
  have S1 : ShH h1 421 := a4.2.2.2.2.2.2.1
  rw [P_F_remove]
  simp only [mF_t w1, hK.1.1, hK.1.2.1, mF_t w2]
  rw [a1, mC_s, mF_t w420]
  rcases E_removeLines (d := d) (by omega) hW.1.2.2.2.1 hW.1.2.2.2.2.1 (W4 hW) (W421 hW) a3 a2 S1 Ed y hn with ⟨z, b1⟩ | ⟨z, b1⟩ | ⟨z, h2, b1, b2, b3, b4⟩
  · rw [b1, mC_s, mF_t w1, E_settle0 (by omega) (by decide), mC_s]
    exact Or.inl ⟨z, h1, rfl, cSame_ed hK hc a6 a2.1 rfl⟩
  · rw [b1, mC_s, mF_t w1, E_settle0 (by omega) (by decide), mC_s]
    exact Or.inr (Or.inl ⟨z, h1, rfl, cSame_ed hK hc a6 a2.1 rfl⟩)
  · have S421 : ShH h2 421 := b3
    have z' := z
    obtain ⟨h', g1, g2⟩ := E_settle (d := d) (by omega) hW hK hc (fun b x y => by rw [b4 b x y, a6 b x]) b2 S421 (aI_remove a3 z.1.1 (by have := z.1.2; unfold isAB at this; omega) z.2) (a := aSz (gNow A) y - (n % 100 - n / 100 + 1)) (by omega)
    rw [b1, mC_s, mF_t w1, g1, mC_s]
    exact Or.inr (Or.inr ⟨z', h', rfl, g2⟩)
theorem E_F_copy (hd : 7 ≤ d) (hW : WK w) (hK : HK h) (hc : cHist w h A) {n m : Int} (tu : Int) (hn : n < 2147483648) (hm : m < 2147483648) : (¬ okCopy (gNow A) n m tu ∧ ∃ h', mm_P d 146 [(2, 1), (0, n), (0, m), (0, tu)] w h = some ((0, -2), w, h') ∧ cSame w h h' A) ∨ (okCopy (gNow A) n m tu ∧ ∃ h', mm_P d 146 [(2, 1), (0, n), (0, m), (0, tu)] w h = some ((0, 1), w, h') ∧ cDone w h h' A (F_copy (gNow A) n m tu)) := by
  obtain ⟨d, rfl, hd2⟩ := mm_dS hd; clear hd; have hd := hd2; clear hd2
  have w1 : (w.1 1).1 = 12 := by rw [hW.1.1]
  have w2 : (w.1 2).1 = 4 := by rw [hW.1.2.1]
  have w4' : (w.1 4).1 = 9 := by rw [(W4 hW).2.1]
  have w420 : (w.1 420).1 = 3 := by rw [hW.1.2.2.2.1]
  obtain ⟨h1, a1, a2, a3, a4, a5, a6⟩ := E_draft (d := d) (by omega) hW hK hc
  have Ed : EdH h1 := ⟨a4.2.2.1.1, a4.2.2.1.2.1⟩
  have hN := a3.2.2.1
  have S1 : ShH h1 421 := a4.2.2.2.2.2.2.1
  rw [P_F_copy]
  simp only [mF_t w1, hK.1.1, hK.1.2.1, mF_t w2]
  rw [a1, mC_s, mF_t w420]
  rcases E_copyRect (d := d) (by omega) hW.1.2.2.2.1 (W4 hW) (W421 hW) a3 a2 S1 Ed tu hn hm with ⟨z, b1⟩ | ⟨z, h2, b1, b2, b3, b4⟩
  · rw [b1, mC_s, mF_t w1, E_settle0 (by omega) (by decide), mC_s]
    exact Or.inl ⟨z, h1, rfl, cSame_ed hK hc a6 a2.1 rfl⟩
  · have S421 : ShH h2 421 := b3
    have z' := z
    obtain ⟨h', g1, g2⟩ := E_settle (d := d) (by omega) hW hK hc (fun b x y => by rw [b4 b (by omega) (by omega), a6 b x]) b2 S421 (aI_copyC a3 ((okCopy_C z.1.1 z.2.1.1).1 z)) (a := 1) (by decide)
    rw [b1, mC_s, mF_t w1, g1, mC_s]
    exact Or.inr ⟨z', h', rfl, g2⟩
theorem E_F_sort (hd : 7 ≤ d) (hW : WK w) (hK : HK h) (hc : cHist w h A) {n : Int} (c fa : Int) (hn : n < 2147483648) : (¬ okSort (gNow A) n c fa ∧ ∃ h', mm_P d 147 [(2, 1), (0, n), (0, c), (0, fa)] w h = some ((0, -2), w, h') ∧ cSame w h h' A) ∨ ((okSort (gNow A) n c fa ∧ ∃ o, srt (kSort (gNow A) c fa) (n / 100) (n % 100 - n / 100 + 1).toNat o) ∧ ∃ h', mm_P d 147 [(2, 1), (0, n), (0, c), (0, fa)] w h = some ((0, 1), w, h') ∧ cDone w h h' A (F_sort (gNow A) n c fa)) := by
  obtain ⟨d, rfl, hd2⟩ := mm_dS hd; clear hd; have hd := hd2; clear hd2
  have w1 : (w.1 1).1 = 12 := by rw [hW.1.1]
  have w2 : (w.1 2).1 = 4 := by rw [hW.1.2.1]
  have w4' : (w.1 4).1 = 9 := by rw [(W4 hW).2.1]
  have w420 : (w.1 420).1 = 3 := by rw [hW.1.2.2.2.1]
  obtain ⟨h1, a1, a2, a3, a4, a5, a6⟩ := E_draft (d := d) (by omega) hW hK hc
  have Ed : EdH h1 := ⟨a4.2.2.1.1, a4.2.2.1.2.1⟩
  have hN := a3.2.2.1
  have S1 : ShH h1 421 := a4.2.2.2.2.2.2.1
  rw [P_F_sort]
  simp only [mF_t w1, hK.1.1, hK.1.2.1, mF_t w2]
  rw [a1, mC_s, mF_t w420]
  rcases E_sortRows (d := d) (by omega) hW.1.2.2.2.1 hW.1.2.2.2.2.1 (W4 hW) (W421 hW) a3 a2 S1 Ed c fa hn with ⟨z, b1⟩ | ⟨z, h2, b1, b2, b3, b4⟩
  · rw [b1, mC_s, mF_t w1, E_settle0 (by omega) (by decide), mC_s]
    exact Or.inl ⟨z, h1, rfl, cSame_ed hK hc a6 a2.1 rfl⟩
  · have S421 : ShH h2 421 := b3
    have z' := z
    obtain ⟨o, ho⟩ := z.2
    obtain ⟨h', g1, g2⟩ := E_settle (d := d) (by omega) hW hK hc (fun b x y => by rw [b4 b x y, a6 b x]) b2 S421 (aI_sort a3 z.1 ho) (a := 1) (by decide)
    rw [b1, mC_s, mF_t w1, g1, mC_s]
    exact Or.inr ⟨z', h', rfl, g2⟩
theorem E_F_move (hd : 7 ≤ d) (hW : WK w) (hK : HK h) (hc : cHist w h A) (y : Int) {n : Int} (a : Int) (hn : n < 2147483648) : (¬ okMove (gNow A) y n a ∧ ∃ h', mm_P d 148 [(2, 1), (0, y), (0, n), (0, a)] w h = some ((0, -2), w, h') ∧ cSame w h h' A) ∨ (okMove (gNow A) y n a ∧ ∃ h', mm_P d 148 [(2, 1), (0, y), (0, n), (0, a)] w h = some ((0, 1), w, h') ∧ cDone w h h' A (F_move (gNow A) y n a)) := by
  obtain ⟨d, rfl, hd2⟩ := mm_dS hd; clear hd; have hd := hd2; clear hd2
  have w1 : (w.1 1).1 = 12 := by rw [hW.1.1]
  have w2 : (w.1 2).1 = 4 := by rw [hW.1.2.1]
  have w4' : (w.1 4).1 = 9 := by rw [(W4 hW).2.1]
  have w420 : (w.1 420).1 = 3 := by rw [hW.1.2.2.2.1]
  obtain ⟨h1, a1, a2, a3, a4, a5, a6⟩ := E_draft (d := d) (by omega) hW hK hc
  have Ed : EdH h1 := ⟨a4.2.2.1.1, a4.2.2.1.2.1⟩
  have hN := a3.2.2.1
  have S1 : ShH h1 421 := a4.2.2.2.2.2.2.1
  rw [P_F_move]
  simp only [mF_t w1, hK.1.1, hK.1.2.1, mF_t w2]
  rw [a1, mC_s, mF_t w420]
  rcases E_moveLines (d := d) (by omega) hW.1.2.2.2.1 hW.1.2.2.2.2.1 (W4 hW) (W421 hW) a3 a2 S1 Ed y a hn with ⟨z, b1⟩ | ⟨z, h2, b1, b2, b3, b4⟩
  · rw [b1, mC_s, mF_t w1, E_settle0 (by omega) (by decide), mC_s]
    exact Or.inl ⟨z, h1, rfl, cSame_ed hK hc a6 a2.1 rfl⟩
  · have S421 : ShH h2 421 := b3
    have z' := z
    obtain ⟨h', g1, g2⟩ := E_settle (d := d) (by omega) hW hK hc (fun b x y => by rw [b4 b x y, a6 b x]) b2 S421 (aI_move a3 z) (a := 1) (by decide)
    rw [b1, mC_s, mF_t w1, g1, mC_s]
    exact Or.inr ⟨z', h', rfl, g2⟩
theorem E_F_tidy (hd : 7 ≤ d) (hW : WK w) (hK : HK h) (hc : cHist w h A) (p : Int) : (¬ (0 ≤ p ∧ p < 4) ∧ ∃ h', mm_P d 149 [(2, 1), (0, p)] w h = some ((0, -2), w, h') ∧ cSame w h h' A) ∨ ((0 ≤ p ∧ p < 4) ∧ ∃ h', mm_P d 149 [(2, 1), (0, p)] w h = some ((0, nNeed (gNow A) p), w, h') ∧ cDone w h h' A (F_tidy (gNow A) p)) := by
  obtain ⟨d, rfl, hd2⟩ := mm_dS hd; clear hd; have hd := hd2; clear hd2
  have w1 : (w.1 1).1 = 12 := by rw [hW.1.1]
  have w2 : (w.1 2).1 = 4 := by rw [hW.1.2.1]
  have w4' : (w.1 4).1 = 9 := by rw [(W4 hW).2.1]
  have w420 : (w.1 420).1 = 3 := by rw [hW.1.2.2.2.1]
  obtain ⟨h1, a1, a2, a3, a4, a5, a6⟩ := E_draft (d := d) (by omega) hW hK hc
  have Ed : EdH h1 := ⟨a4.2.2.1.1, a4.2.2.1.2.1⟩
  have hN := a3.2.2.1
  have S1 : ShH h1 421 := a4.2.2.2.2.2.2.1
  rw [P_F_tidy]
  simp only [mF_t w1, hK.1.1, hK.1.2.1, mF_t w2]
  rw [a1, mC_s, mF_t w420]
  rcases E_clearNeedless (d := d) (by omega) (W4 hW) a3 a2 p with ⟨z, b1⟩ | ⟨z, h2, b1, b2, b4⟩
  · rw [b1, mC_s, mF_t w1, E_settle0 (by omega) (by decide), mC_s]
    exact Or.inl ⟨z, h1, rfl, cSame_ed hK hc a6 a2.1 rfl⟩
  · have S421 : ShH h2 421 := (ShH_fr S1 (fun i _ _ => by rw [b4 421 (by decide)]) (b4 _ (by decide)))
    have z' := z
    obtain ⟨h', g1, g2⟩ := E_settle (d := d) (by omega) hW hK hc (fun b x y => by rw [b4 b (by omega), a6 b x]) b2 S421 (aI_tidy a3 p) (a := nNeed (gNow A) p) ((sum2_le (by have := a3.1; omega) (by have := a3.2.1; omega) (fun r c _ _ _ _ => by have := bI_01 (aNeed (gNow A) p r c); omega)).1)
    rw [b1, mC_s, mF_t w1, g1, mC_s]
    exact Or.inr ⟨z', h', rfl, g2⟩
theorem E_F_drop (hd : 6 ≤ d) (hW : WK w) (hK : HK h) (hc : cHist w h A) (r : Int) : (¬ (0 ≤ r ∧ r < aN (gNow A)) ∧ ∃ h', mm_P d 151 [(2, 1), (0, r)] w h = some ((0, -2), w, h') ∧ cSame w h h' A) ∨ ((0 ≤ r ∧ r < aN (gNow A)) ∧ ∃ h', mm_P d 151 [(2, 1), (0, r)] w h = some ((0, aN (gNow A) - 1), w, h') ∧ cDone w h h' A (F_drop (gNow A) r)) := by
  obtain ⟨d, rfl, hd2⟩ := mm_dS hd; clear hd; have hd := hd2; clear hd2
  have w1 : (w.1 1).1 = 12 := by rw [hW.1.1]
  have w2 : (w.1 2).1 = 4 := by rw [hW.1.2.1]
  have w4' : (w.1 4).1 = 9 := by rw [(W4 hW).2.1]
  have w420 : (w.1 420).1 = 3 := by rw [hW.1.2.2.2.1]
  obtain ⟨h1, a1, a2, a3, a4, a5, a6⟩ := E_draft (d := d) (by omega) hW hK hc
  have Ed : EdH h1 := ⟨a4.2.2.1.1, a4.2.2.1.2.1⟩
  have hN := a3.2.2.1
  have S1 : ShH h1 421 := a4.2.2.2.2.2.2.1
  rw [P_F_drop]
  simp only [mF_t w1, hK.1.1, mF_t w2]
  rw [a1, mC_s, mF_t w4']
  rcases E_dropRule (d := d) (by omega) (W4 hW) hN a2 r with ⟨z, h2, b1, b2, b4⟩ | ⟨z, b1⟩
  · have S421 : ShH h2 421 := (ShH_fr S1 (fun i _ _ => by rw [b4 421 (by decide) (by decide)]) (b4 _ (by decide) (by decide)))
    have z' := z
    obtain ⟨h', g1, g2⟩ := E_settle (d := d) (by omega) hW hK hc (fun b x y => by rw [b4 b (by omega) (by omega), a6 b x]) b2 S421 (aI_drop a3 z) (a := aN (gNow A) - 1) (by omega)
    rw [b1, mC_s, mF_t w1, g1, mC_s]
    exact Or.inr ⟨z', h', rfl, g2⟩
  · rw [b1, mC_s, mF_t w1, E_settle0 (by omega) (by decide), mC_s]
    exact Or.inl ⟨z, h1, rfl, cSame_ed hK hc a6 a2.1 rfl⟩
theorem E_F_bring (hd : 6 ≤ d) (hW : WK w) (hK : HK h) (hc : cHist w h A) (r t : Int) : (¬ ((0 ≤ r ∧ r < aN (gNow A)) ∧ (0 ≤ t ∧ t < aN (gNow A))) ∧ ∃ h', mm_P d 152 [(2, 1), (0, r), (0, t)] w h = some ((0, -2), w, h') ∧ cSame w h h' A) ∨ (((0 ≤ r ∧ r < aN (gNow A)) ∧ (0 ≤ t ∧ t < aN (gNow A))) ∧ ∃ h', mm_P d 152 [(2, 1), (0, r), (0, t)] w h = some ((0, 1), w, h') ∧ cDone w h h' A (F_carry (gNow A) r t)) := by
  obtain ⟨d, rfl, hd2⟩ := mm_dS hd; clear hd; have hd := hd2; clear hd2
  have w1 : (w.1 1).1 = 12 := by rw [hW.1.1]
  have w2 : (w.1 2).1 = 4 := by rw [hW.1.2.1]
  have w4' : (w.1 4).1 = 9 := by rw [(W4 hW).2.1]
  have w420 : (w.1 420).1 = 3 := by rw [hW.1.2.2.2.1]
  obtain ⟨h1, a1, a2, a3, a4, a5, a6⟩ := E_draft (d := d) (by omega) hW hK hc
  have Ed : EdH h1 := ⟨a4.2.2.1.1, a4.2.2.1.2.1⟩
  have hN := a3.2.2.1
  have S1 : ShH h1 421 := a4.2.2.2.2.2.2.1
  rw [P_F_bring]
  simp only [mF_t w1, hK.1.1, mF_t w2]
  rw [a1, mC_s, mF_t w4']
  rcases E_bringRule (d := d) (by omega) (W4 hW) hN a2 r t with ⟨z, h2, b1, b2, b4⟩ | ⟨z, b1⟩
  · have S421 : ShH h2 421 := (ShH_fr S1 (fun i _ _ => by rw [b4 421 (by decide) (by decide)]) (b4 _ (by decide) (by decide)))
    have z' := z
    obtain ⟨h', g1, g2⟩ := E_settle (d := d) (by omega) hW hK hc (fun b x y => by rw [b4 b (by omega) (by omega), a6 b x]) b2 S421 (aI_carry a3 z.1 z.2) (a := 1) (by decide)
    rw [b1, mC_s, mF_t w1, g1, mC_s]
    exact Or.inr ⟨z', h', rfl, g2⟩
  · rw [b1, mC_s, mF_t w1, E_settle0 (by omega) (by decide), mC_s]
    exact Or.inl ⟨z, h1, rfl, cSame_ed hK hc a6 a2.1 rfl⟩
end PU
