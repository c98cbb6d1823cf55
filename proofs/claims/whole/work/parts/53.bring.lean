/-! PURE: lines come in an order, on the class's draft. -/
/-- a cell's place by its line and the place across -/
def ix (y L X : Int) : Int := if y = 0 then 16 * L + X else 16 * X + L
def at2 {α : Type} (y : Int) (f : Int → Int → α) (L X : Int) : α := if y = 0 then f L X else f X L
def F_bring (s : aS) (y : Int) (o : Int → Int) (z : Int) : aS := ((if y = 0 then z else aHi s, if y = 0 then aWi s else z, aN s),
  (fun r c => if at2 y (fun L _ => o L) r c < 0 then 0 else if y = 0 then aVal s (o r) c else aVal s r (o c)),
  (fun p r c => if at2 y (fun L _ => o L) r c < 0 then -1 else if y = 0 then aCel s p (o r) c else aCel s p r (o c)),
  (fun q p i => if q = y then (if o i < 0 then -1 else aLin s y p (o i)) else aLin s q p i), s.2.2.2.2)
/-- the editor's cells -/
def EdH (h : mm_H) : Prop := h 420 0 = 421 ∧ h 420 1 = 434
section PU
variable {d : Nat} {w : mm_W} {h : mm_H} {s : aS}
theorem L_bringCell (hd : 1 ≤ d) (hE : w.1 420 = (3, 2)) (hW : ShW w 4) (hW2 : ShW w 421) {r c fr fc g : Int} {nv : Int → Int} (hr : 0 ≤ r ∧ r < 16) (hc : 0 ≤ c ∧ c < 16) (hg : (g = 1 ∧ ∀ q : Int, nv q = -1) ∨ (g = 0 ∧ 0 ≤ fr ∧ fr < 16 ∧ 0 ≤ fc ∧ fc < 16)) : ∀ (m : Nat) (p : Int) (h : mm_H), h 420 0 = 421 → h 4 4 = 6 → h 421 4 = 423 → (g = 0 → ∀ q : Int, h 423 (256 * q + 16 * fr + fc) = nv q) → 0 ≤ p → p + m = 4 → ∃ h', l_Ed_bringCell_0 (mm_P d) 420 4 r c fr fc g p w h = some (.inr (92, [(2, 420), (2, 4), (0, r), (0, c), (0, fr), (0, fc), (0, g), (0, 4), (9, 0)], w, h')) ∧ (∀ b : Int, b ≠ 6 → h' b = h b) ∧ ∀ q i j : Int, 0 ≤ q → q < 4 → 0 ≤ i → i < 16 → 0 ≤ j → j < 16 → h' 6 (256 * q + 16 * i + j) = if i = r ∧ j = c ∧ p ≤ q then nv q else h 6 (256 * q + 16 * i + j) := by
  have hw : (w.1 420).1 = 3 := by rw [hE]
  have w4 : (w.1 4).1 = 9 := by rw [hW.2.1]
  have w5 : (w.1 421).1 = 9 := by rw [hW2.2.1]
  intro m
  induction m with
  | zero =>
    intro p h a1 a2 a3 av a4 a5
    rw [l_Ed_bringCell_0_eq, mLe_t (by omega)]
    exact ⟨h, by rw [show p = 4 by omega], fun _ _ => rfl, fun q i j _ _ _ _ _ _ => by rw [if_neg (by omega)]⟩
  | succ m ih =>
    intro p h a1 a2 a3 av a4 a5
    have fin : ∃ h', l_Ed_bringCell_0 (mm_P d) 420 4 r c fr fc g (p + 1) w (mUp h (4 + 2) (256 * p + 16 * r + c) (nv p)) = some (.inr (92, [(2, 420), (2, 4), (0, r), (0, c), (0, fr), (0, fc), (0, g), (0, 4), (9, 0)], w, h')) ∧ (∀ b : Int, b ≠ 6 → h' b = h b) ∧ ∀ q i j : Int, 0 ≤ q → q < 4 → 0 ≤ i → i < 16 → 0 ≤ j → j < 16 → h' 6 (256 * q + 16 * i + j) = if i = r ∧ j = c ∧ p ≤ q then nv q else h 6 (256 * q + 16 * i + j) := by
      obtain ⟨h', g1, g2, g3⟩ := ih (p + 1) (mUp h (4 + 2) (256 * p + 16 * r + c) (nv p)) (by rw [mUp_row (by decide)]; exact a1) (by rw [mUp_row (by decide)]; exact a2) (by rw [mUp_row (by decide)]; exact a3) (fun e q => by rw [mUp_row (by decide)]; exact av e q) (by omega) (by omega)
      refine ⟨h', g1, fun b hb => by rw [g2 b hb, mUp_row (by omega)], fun q i j q0 q1 i0 i1 j0 j1 => ?_⟩
      rw [g3 q i j q0 q1 i0 i1 j0 j1]
      by_cases hh : i = r ∧ j = c ∧ p ≤ q
      · rw [if_pos hh]
        by_cases h2 : p + 1 ≤ q
        · rw [if_pos ⟨hh.1, hh.2.1, h2⟩]
        · rw [if_neg (by omega), show 256 * q + 16 * i + j = 256 * p + 16 * r + c by omega, show q = p by omega]
          exact mUp_s
      · rw [if_neg hh, if_neg (by omega), mUp_n (by omega)]
    rw [l_Ed_bringCell_0_eq, mLe_f (by omega)]
    rcases hg with ⟨rfl, hv⟩ | ⟨rfl, f0, f1, f2, f3⟩
    · rw [mEq_f (by decide), mF_t w4, E_setCellFormat hd hW a2 (-1) (by omega) (by omega) hr.1 hr.2 hc.1 hc.2, mC_s]
      try dsimp only
      rw [mI_id (by omega) (by omega), ← hv p]
      exact fin
    · rw [mEq_t rfl, mF_t hw, a1, mF_t w5, E_cellFormat hd hW2 a3 (by omega) (by omega) f0 f1 f2 f3, mC_s, mF_t w4, E_setCellFormat hd hW a2 _ (by omega) (by omega) hr.1 hr.2 hc.1 hc.2, mC_s]
      try dsimp only
      rw [mI_id (by omega) (by omega), show (421 : Int) + 2 = 423 from rfl, av rfl p]
      exact fin
theorem E_bringCell (hd : 2 ≤ d) (hE : w.1 420 = (3, 2)) (hW : ShW w 4) (hW2 : ShW w 421) (hH : ShH h 4) (hH2 : ShH h 421) (he : EdH h) {r c fr fc : Int} (hr : 0 ≤ r ∧ r < 16) (hc : 0 ≤ c ∧ c < 16) (hf : (fr < 0 ∨ fc < 0) ∨ (0 ≤ fr ∧ fr < 16 ∧ 0 ≤ fc ∧ fc < 16)) : ∃ h', mm_P d 42 [(2, 420), (2, 4), (0, r), (0, c), (0, fr), (0, fc)] w h = some ((9, 0), w, h') ∧ (∀ b : Int, b ≠ 5 → b ≠ 6 → h' b = h b) ∧ (∀ j : Int, h' 5 j = if j = 16 * r + c then (if fr < 0 ∨ fc < 0 then 0 else h 422 (16 * fr + fc)) else h 5 j) ∧ ∀ q i j : Int, 0 ≤ q → q < 4 → 0 ≤ i → i < 16 → 0 ≤ j → j < 16 → h' 6 (256 * q + 16 * i + j) = if i = r ∧ j = c then (if fr < 0 ∨ fc < 0 then -1 else h 423 (256 * q + 16 * fr + fc)) else h 6 (256 * q + 16 * i + j) := by
  obtain ⟨d, rfl, hd2⟩ := mm_dS hd; clear hd; have hd := hd2; clear hd2
  have hw : (w.1 420).1 = 3 := by rw [hE]
  have w4 : (w.1 4).1 = 9 := by rw [hW.2.1]
  have w5 : (w.1 421).1 = 9 := by rw [hW2.2.1]
  by_cases hn : fr < 0 ∨ fc < 0
  · obtain ⟨h', g1, g2, g3⟩ := L_bringCell hd hE hW hW2 (fr := fr) (fc := fc) (g := 1) (nv := fun _ => -1) hr hc (Or.inl ⟨rfl, fun _ => rfl⟩) 4 0 (mUp h (4 + 1) (16 * r + c) 0) (by rw [mUp_row (by decide)]; exact he.1) (by rw [mUp_row (by decide)]; exact hH.2.1) (by rw [mUp_row (by decide)]; exact hH2.2.1) (fun e => absurd e (by decide)) (by decide) (by decide)
    refine ⟨h', ?_, fun b b5 b6 => by rw [g2 b b6, mUp_row (by omega)], fun j => ?_, fun q i j q0 q1 i0 i1 j0 j1 => ?_⟩
    · rw [P_Ed_bringCell]
      by_cases c1 : fr < 0
      · rw [mLt_t c1, mEq_f (by decide), mF_t w4, E_setValueOf hd hW hH.1 0 hr.1 hr.2 hc.1 hc.2, mC_s, g1, mK_r, if_pos rfl]
      · rw [mLt_f (by omega), mLe_f (by omega), mEq_f (by decide), mF_t w4, E_setValueOf hd hW hH.1 0 hr.1 hr.2 hc.1 hc.2, mC_s, g1, mK_r, if_pos rfl]
    · rw [g2 5 (by decide), if_pos hn]
      by_cases hj : j = 16 * r + c
      · rw [if_pos hj, hj]; exact mUp_s
      · rw [if_neg hj]; exact mUp_n (Or.inr hj)
    · rw [g3 q i j q0 q1 i0 i1 j0 j1, if_pos hn, mUp_row (show (6 : Int) ≠ 4 + 1 by decide)]
      by_cases hh : i = r ∧ j = c
      · rw [if_pos ⟨hh.1, hh.2, q0⟩, if_pos hh]
      · rw [if_neg (by omega), if_neg hh]
  · have hf2 : 0 ≤ fr ∧ fr < 16 ∧ 0 ≤ fc ∧ fc < 16 := by omega
    obtain ⟨h', g1, g2, g3⟩ := L_bringCell hd hE hW hW2 (fr := fr) (fc := fc) (g := 0) (nv := fun q => h 423 (256 * q + 16 * fr + fc)) hr hc (Or.inr ⟨rfl, hf2⟩) 4 0 (mUp h (4 + 1) (16 * r + c) (h (421 + 1) (16 * fr + fc))) (by rw [mUp_row (by decide)]; exact he.1) (by rw [mUp_row (by decide)]; exact hH.2.1) (by rw [mUp_row (by decide)]; exact hH2.2.1) (fun _ q => by rw [mUp_row (by decide)]) (by decide) (by decide)
    refine ⟨h', ?_, fun b b5 b6 => by rw [g2 b b6, mUp_row (by omega)], fun j => ?_, fun q i j q0 q1 i0 i1 j0 j1 => ?_⟩
    · rw [P_Ed_bringCell, mLt_f (by omega), mLe_t (by omega), mEq_t rfl, mF_t hw, he.1, mF_t w5, E_valueOf hd hW2 hH2.1 hf2.1 hf2.2.1 hf2.2.2.1 hf2.2.2.2, mC_s, mF_t w4, E_setValueOf hd hW hH.1 _ hr.1 hr.2 hc.1 hc.2, mC_s, g1, mK_r, if_pos rfl]
    · rw [g2 5 (by decide), if_neg hn]
      by_cases hj : j = 16 * r + c
      · rw [if_pos hj, hj]; exact mUp_s
      · rw [if_neg hj]; exact mUp_n (Or.inr hj)
    · rw [g3 q i j q0 q1 i0 i1 j0 j1, if_neg hn, mUp_row (show (6 : Int) ≠ 4 + 1 by decide)]
      by_cases hh : i = r ∧ j = c
      · rw [if_pos ⟨hh.1, hh.2, q0⟩, if_pos hh]
      · rw [if_neg (by omega), if_neg hh]
theorem L_bring1 (hd : 2 ≤ d) (hE : w.1 420 = (3, 2)) (hW : ShW w 4) (hW2 : ShW w 421) {y z L fr ac : Int} (hy : y = 0 ∨ y = 1) (hL : 0 ≤ L ∧ L < 16) (hfr : -1 ≤ fr ∧ fr < 16) (hac : ac ≤ 16) : ∀ (m : Nat) (X : Int) (h : mm_H), ShH h 4 → ShH h 421 → EdH h → (if y = 0 then h 4 1 else h 4 0) = ac → 0 ≤ X → X + m = ac → ∃ h', l_Ed_bringLines_1 (mm_P d) 420 4 y z L fr X w h = some (.inr (99, [(2, 420), (2, 4), (0, y), (0, z), (0, L), (0, fr), (0, ac)], w, h')) ∧ (∀ b : Int, b ≠ 5 → b ≠ 6 → h' b = h b) ∧ (∀ l x : Int, 0 ≤ l → l < 16 → 0 ≤ x → x < 16 → h' 5 (ix y l x) = if l = L ∧ X ≤ x ∧ x < ac then (if fr < 0 then 0 else h 422 (ix y fr x)) else h 5 (ix y l x)) ∧ ∀ q l x : Int, 0 ≤ q → q < 4 → 0 ≤ l → l < 16 → 0 ≤ x → x < 16 → h' 6 (256 * q + ix y l x) = if l = L ∧ X ≤ x ∧ x < ac then (if fr < 0 then -1 else h 423 (256 * q + ix y fr x)) else h 6 (256 * q + ix y l x) := by
  have hw : (w.1 420).1 = 3 := by rw [hE]
  have w4 : (w.1 4).1 = 9 := by rw [hW.2.1]
  intro m
  induction m with
  | zero =>
    intro X h a1 a2 a3 a4 a5 a6
    have e1 : mm_P d 87 [(2, 4), (0, 1 - y)] w h = some ((0, ac), w, h) := by
      rw [E_size (by omega) hW, ← a4]
      rcases hy with rfl | rfl <;> rfl
    rw [l_Ed_bringLines_1_eq, mF_t w4, mI_id (by omega) (by omega), e1, mC_s, mLe_t (by omega)]
    exact ⟨h, by rw [show X = ac by omega], fun _ _ _ => rfl, fun l x _ _ _ _ => by rw [if_neg (by omega)], fun q l x _ _ _ _ _ _ => by rw [if_neg (by omega)]⟩
  | succ m ih =>
    intro X h a1 a2 a3 a4 a5 a6
    have e1 : mm_P d 87 [(2, 4), (0, 1 - y)] w h = some ((0, ac), w, h) := by
      rw [E_size (by omega) hW, ← a4]
      rcases hy with rfl | rfl <;> rfl
    obtain ⟨h2, f1, f2, f3, f4⟩ : ∃ h2, (mEq y 0 (mm_P d 42 [(2, 420), (2, 4), (0, L), (0, X), (0, fr), (0, X)] w h) (mm_P d 42 [(2, 420), (2, 4), (0, X), (0, L), (0, X), (0, fr)] w h)) = some ((9, 0), w, h2) ∧ (∀ b : Int, b ≠ 5 → b ≠ 6 → h2 b = h b) ∧ (∀ l x : Int, 0 ≤ l → l < 16 → 0 ≤ x → x < 16 → h2 5 (ix y l x) = if l = L ∧ x = X then (if fr < 0 then 0 else h 422 (ix y fr x)) else h 5 (ix y l x)) ∧ ∀ q l x : Int, 0 ≤ q → q < 4 → 0 ≤ l → l < 16 → 0 ≤ x → x < 16 → h2 6 (256 * q + ix y l x) = if l = L ∧ x = X then (if fr < 0 then -1 else h 423 (256 * q + ix y fr x)) else h 6 (256 * q + ix y l x) := by
      rcases hy with rfl | rfl
      · obtain ⟨h2, f1, f2, f3, f4⟩ := E_bringCell hd hE hW hW2 a1 a2 a3 (r := L) (c := X) (fr := fr) (fc := X) hL (by omega) (by omega)
        refine ⟨h2, by rw [mEq_t rfl]; exact f1, f2, fun l x l0 l1 x0 x1 => ?_, fun q l x q0 q1 l0 l1 x0 x1 => ?_⟩
        · rw [show ix 0 l x = 16 * l + x from if_pos rfl, show ix 0 fr x = 16 * fr + x from if_pos rfl, f3]
          clear f4 f3 f2 f1 ih
          repeat' split
          all_goals first | rfl | omega | (congr 1; omega)
        · rw [show ix 0 l x = 16 * l + x from if_pos rfl, show ix 0 fr x = 16 * fr + x from if_pos rfl, show 256 * q + (16 * l + x) = 256 * q + 16 * l + x by omega, f4 q l x q0 q1 l0 l1 x0 x1]
          clear f4 f3 f2 f1 ih
          repeat' split
          all_goals first | rfl | omega | (congr 1; omega)
      · obtain ⟨h2, f1, f2, f3, f4⟩ := E_bringCell hd hE hW hW2 a1 a2 a3 (r := X) (c := L) (fr := X) (fc := fr) (by omega) hL (by omega)
        refine ⟨h2, by rw [mEq_f (by decide)]; exact f1, f2, fun l x l0 l1 x0 x1 => ?_, fun q l x q0 q1 l0 l1 x0 x1 => ?_⟩
        · rw [show ix 1 l x = 16 * x + l from if_neg (by decide), show ix 1 fr x = 16 * x + fr from if_neg (by decide), f3]
          clear f4 f3 f2 f1 ih
          repeat' split
          all_goals first | rfl | omega | (congr 1; omega)
        · rw [show ix 1 l x = 16 * x + l from if_neg (by decide), show ix 1 fr x = 16 * x + fr from if_neg (by decide), show 256 * q + (16 * x + l) = 256 * q + 16 * x + l by omega, f4 q x l q0 q1 x0 x1 l0 l1]
          clear f4 f3 f2 f1 ih
          repeat' split
          all_goals first | rfl | omega | (congr 1; omega)
    obtain ⟨h', g1, g2, g3, g4⟩ := ih (X + 1) h2 (ShH_fr a1 (fun i _ _ => by rw [f2 4 (by decide) (by decide)]) (f2 _ (by decide) (by decide))) (ShH_fr a2 (fun i _ _ => by rw [f2 421 (by decide) (by decide)]) (f2 _ (by decide) (by decide))) (by unfold EdH; rw [f2 420 (by decide) (by decide)]; exact a3) (by rw [f2 4 (by decide) (by decide)]; exact a4) (by omega) (by omega)
    refine ⟨h', ?_, fun b b5 b6 => by rw [g2 b b5 b6, f2 b b5 b6], fun l x l0 l1 x0 x1 => ?_, fun q l x q0 q1 l0 l1 x0 x1 => ?_⟩
    · rw [l_Ed_bringLines_1_eq, mF_t w4, mI_id (by omega) (by omega), e1, mC_s, mLe_f (by omega), mF_t hw, mF_t hw]
      rcases hy with rfl | rfl
      · rw [mEq_t rfl] at f1 ⊢
        rw [f1, mC_s]
        try dsimp only
        rw [mI_id (by omega) (by omega), g1]
      · rw [mEq_f (by decide)] at f1 ⊢
        rw [f1, mC_s]
        try dsimp only
        rw [mI_id (by omega) (by omega), g1]
    · rw [g3 l x l0 l1 x0 x1, f3 l x l0 l1 x0 x1, f2 422 (by decide) (by decide)]
      by_cases hh : l = L ∧ X ≤ x ∧ x < ac
      · rw [if_pos hh]
        by_cases h2 : X + 1 ≤ x
        · rw [if_pos ⟨hh.1, h2, hh.2.2⟩]
        · rw [if_neg (by omega), if_pos (by omega)]
      · rw [if_neg hh, if_neg (by omega), if_neg (by omega)]
    · rw [g4 q l x q0 q1 l0 l1 x0 x1, f4 q l x q0 q1 l0 l1 x0 x1, f2 423 (by decide) (by decide)]
      by_cases hh : l = L ∧ X ≤ x ∧ x < ac
      · rw [if_pos hh]
        by_cases h2 : X + 1 ≤ x
        · rw [if_pos ⟨hh.1, h2, hh.2.2⟩]
        · rw [if_neg (by omega), if_pos (by omega)]
      · rw [if_neg hh, if_neg (by omega), if_neg (by omega)]
theorem L_bring2 (hd : 1 ≤ d) (hE : w.1 420 = (3, 2)) (hW : ShW w 4) (hW2 : ShW w 421) {y z L fr : Int} (hy : y = 0 ∨ y = 1) (hL : 0 ≤ L ∧ L < 16) (hfr : -1 ≤ fr ∧ fr < 16) : ∀ (m : Nat) (p : Int) (h : mm_H), h 420 0 = 421 → h 4 5 = 7 → h 421 5 = 424 → 0 ≤ p → p + m = 4 → ∃ h', l_Ed_bringLines_2 (mm_P d) 420 4 y z L fr p w h = some (.inr (144, [(2, 420), (2, 4), (0, y), (0, z), (0, L), (0, fr), (0, 4)], w, h')) ∧ (∀ b : Int, b ≠ 7 → h' b = h b) ∧ ∀ v q i : Int, (v = 0 ∨ v = 1) → 0 ≤ q → q < 4 → 0 ≤ i → i < 16 → h' 7 (64 * v + 16 * q + i) = if v = y ∧ i = L ∧ p ≤ q then (if fr < 0 then -1 else h 424 (64 * y + 16 * q + fr)) else h 7 (64 * v + 16 * q + i) := by
  have hw : (w.1 420).1 = 3 := by rw [hE]
  have w4 : (w.1 4).1 = 9 := by rw [hW.2.1]
  have w5 : (w.1 421).1 = 9 := by rw [hW2.2.1]
  intro m
  induction m with
  | zero =>
    intro p h a1 a2 a3 a4 a5
    rw [l_Ed_bringLines_2_eq, mLe_t (by omega)]
    exact ⟨h, by rw [show p = 4 by omega], fun _ _ => rfl, fun v q i _ _ _ _ _ => by rw [if_neg (by omega)]⟩
  | succ m ih =>
    intro p h a1 a2 a3 a4 a5
    have fin : ∀ x : Int, x = (if fr < 0 then -1 else h 424 (64 * y + 16 * p + fr)) → ∃ h', l_Ed_bringLines_2 (mm_P d) 420 4 y z L fr (p + 1) w (mUp h (4 + 3) (64 * y + 16 * p + L) x) = some (.inr (144, [(2, 420), (2, 4), (0, y), (0, z), (0, L), (0, fr), (0, 4)], w, h')) ∧ (∀ b : Int, b ≠ 7 → h' b = h b) ∧ ∀ v q i : Int, (v = 0 ∨ v = 1) → 0 ≤ q → q < 4 → 0 ≤ i → i < 16 → h' 7 (64 * v + 16 * q + i) = if v = y ∧ i = L ∧ p ≤ q then (if fr < 0 then -1 else h 424 (64 * y + 16 * q + fr)) else h 7 (64 * v + 16 * q + i) := by
      intro x hx
      obtain ⟨h', g1, g2, g3⟩ := ih (p + 1) (mUp h (4 + 3) (64 * y + 16 * p + L) x) (by rw [mUp_row (by decide)]; exact a1) (by rw [mUp_row (by decide)]; exact a2) (by rw [mUp_row (by decide)]; exact a3) (by omega) (by omega)
      refine ⟨h', g1, fun b hb => by rw [g2 b hb, mUp_row (by omega)], fun v q i hv q0 q1 i0 i1 => ?_⟩
      rw [g3 v q i hv q0 q1 i0 i1, mUp_row (show (424 : Int) ≠ 4 + 3 by decide)]
      by_cases hh : v = y ∧ i = L ∧ p ≤ q
      · rw [if_pos hh]
        by_cases h2 : p + 1 ≤ q
        · rw [if_pos ⟨hh.1, hh.2.1, h2⟩]
        · rw [if_neg (by omega), show q = p by omega, hh.1, hh.2.1, ← hx]
          exact mUp_s
      · rw [if_neg hh, if_neg (by omega), mUp_n (by omega)]
    rw [l_Ed_bringLines_2_eq, mLe_f (by omega)]
    by_cases hf : fr < 0
    · rw [mLe_f hf, mF_t w4, E_setLineFormat hd hW a2 (-1) hy (by omega) (by omega) hL.1 hL.2, mC_s]
      try dsimp only
      rw [mI_id (by omega) (by omega)]
      exact fin (-1) (by rw [if_pos hf])
    · rw [mLe_t (by omega), mF_t hw, a1, mF_t w5, E_lineFormat hd hW2 a3 hy (by omega) (by omega) (by omega) hfr.2, mC_s, mF_t w4, E_setLineFormat hd hW a2 _ hy (by omega) (by omega) hL.1 hL.2, mC_s]
      try dsimp only
      rw [mI_id (by omega) (by omega)]
      exact fin _ (by rw [if_neg hf]; rfl)
end PU
