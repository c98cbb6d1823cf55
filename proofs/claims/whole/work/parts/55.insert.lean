/-! PURE: insert, on the class's draft. -/
def oIns (a n L : Int) : Int := if L < a then L else if L < a + n then -1 else L - n
/-- a rule's numbers, when n lines come in at a -/
def rIns (y a n : Int) (g : Int → Int) (f : Int) : Int := if (f = y ∨ f = 2 + y) ∧ a ≤ g f then g f + n else g f
def okIns (s : aS) (y a n : Int) : Prop := (y = 0 ∨ y = 1) ∧ (0 ≤ a ∧ a ≤ aSz s y) ∧ 1 ≤ n ∧ n ≤ 16
/-- a cell's own number by line and place across -/
def celY (s : aS) (y p L X : Int) : Int := if y = 0 then aCel s p L X else aCel s p X L
def F_insert (s : aS) (y a n : Int) : aS := ((if y = 0 then aHi s + n else aHi s, if y = 0 then aWi s else aWi s + n, aN s),
  (F_bring s y (oIns a n) (aSz s y + n)).2.1,
  (fun p r c => if (0 < a ∧ a < aSz s y) ∧ (a ≤ (if y = 0 then r else c) ∧ (if y = 0 then r else c) < a + n) ∧ celY s y p (a - 1) (if y = 0 then c else r) = celY s y p a (if y = 0 then c else r) then celY s y p (a - 1) (if y = 0 then c else r) else aCel (F_bring s y (oIns a n) (aSz s y + n)) p r c),
  (F_bring s y (oIns a n) (aSz s y + n)).2.2.2.1, aGro s, (fun k => rIns y a n (aRul s k)), aCod s)
section PU
variable {d : Nat} {w : mm_W} {h : mm_H} {s : aS}
theorem L_ins0 (hd : 1 ≤ d) (hE : w.1 420 = (3, 2)) (hO : w.1 434 = (50, 16)) {y a n z : Int} (ha : 0 ≤ a ∧ a ≤ 16) (hn : 1 ≤ n ∧ n ≤ 16) (hz : z ≤ 16) : ∀ (m : Nat) (k : Int) (h : mm_H), EdH h → 0 ≤ k → k + m = z → ∃ h', l_Ed_insertLines_0 (mm_P d) 420 4 y a n z k w h = some (.inr (110, [(2, 420), (2, 4), (0, y), (0, a), (0, n), (0, z), (0, z)], w, h')) ∧ (∀ b : Int, b ≠ 434 → h' b = h b) ∧ ∀ j : Int, h' 434 j = if k ≤ j ∧ j < z then oIns a n j else h 434 j := by
  have hw : (w.1 420).1 = 3 := by rw [hE]
  intro m
  induction m with
  | zero =>
    intro k h a1 a2 a3
    rw [l_Ed_insertLines_0_eq, mLe_t (by omega)]
    exact ⟨h, by rw [show k = z by omega], fun _ _ => rfl, fun j => by rw [if_neg (by omega)]⟩
  | succ m ih =>
    intro k h a1 a2 a3
    have fin : ∃ h', l_Ed_insertLines_0 (mm_P d) 420 4 y a n z (k + 1) w (mUp h 434 k (oIns a n k)) = some (.inr (110, [(2, 420), (2, 4), (0, y), (0, a), (0, n), (0, z), (0, z)], w, h')) ∧ (∀ b : Int, b ≠ 434 → h' b = h b) ∧ ∀ j : Int, h' 434 j = if k ≤ j ∧ j < z then oIns a n j else h 434 j := by
      obtain ⟨h', g1, g2, g3⟩ := ih (k + 1) (mUp h 434 k (oIns a n k)) (by unfold EdH; rw [mUp_row (by decide)]; exact a1) (by omega) (by omega)
      refine ⟨h', g1, fun b hb => by rw [g2 b hb, mUp_row hb], fun j => ?_⟩
      rw [g3]
      by_cases hj : j = k
      · subst hj
        rw [if_neg (by omega), if_pos (by omega)]; exact mUp_s
      · rw [mUp_n (Or.inr hj)]
        by_cases hh : k ≤ j ∧ j < z
        · rw [if_pos hh, if_pos (by omega)]
        · rw [if_neg hh, if_neg (by omega)]
    rw [l_Ed_insertLines_0_eq, mLe_f (by omega), mF_t hw]
    by_cases c1 : a ≤ k
    · rw [mLe_t c1, mI_id (x := a + n) (by omega) (by omega)]
      by_cases c2 : a + n ≤ k
      · rw [mLe_t c2, mI_id (x := k - n) (by omega) (by omega), a1.2, E_poke_t hd hO (by decide) a2 (by omega), mC_s]
        try dsimp only
        rw [mI_id (by omega) (by omega), show k - n = oIns a n k by unfold oIns; rw [if_neg (by omega), if_neg (by omega)]]
        exact fin
      · rw [mLe_f (by omega), a1.2, E_poke_t hd hO (by decide) a2 (by omega), mC_s]
        try dsimp only
        rw [mI_id (by omega) (by omega), show (-1 : Int) = oIns a n k by unfold oIns; rw [if_neg (by omega), if_pos (by omega)]]
        exact fin
    · rw [mLe_f (by omega), a1.2, E_poke_t hd hO (by decide) a2 (by omega), mC_s]
      try dsimp only
      rw [mI_id (by omega) (by omega)]
      have e : oIns a n k = k := by unfold oIns; rw [if_pos (by omega)]
      rw [e] at fin
      exact fin
theorem L_join1 (hd : 2 ≤ d) (hE : w.1 420 = (3, 2)) (hW : ShW w 4) (hW2 : ShW w 421) {y a L p ac : Int} (hy : y = 0 ∨ y = 1) (ha : 1 ≤ a ∧ a < 16) (hL : 0 ≤ L ∧ L < 16) (hp : 0 ≤ p ∧ p < 4) (hac : ac ≤ 16) : ∀ (m : Nat) (X : Int) (h : mm_H), ShH h 4 → ShH h 421 → EdH h → (if y = 0 then h 4 1 else h 4 0) = ac → 0 ≤ X → X + m = ac → ∃ h', l_Ed_joinNewLine_1 (mm_P d) 420 4 y a L p X w h = some (.inr (138, [(2, 420), (2, 4), (0, y), (0, a), (0, L), (0, p), (0, ac), (9, 0), (9, 0)], w, h')) ∧ (∀ b : Int, b ≠ 6 → h' b = h b) ∧ ∀ q l x : Int, 0 ≤ q → q < 4 → 0 ≤ l → l < 16 → 0 ≤ x → x < 16 → h' 6 (256 * q + ix y l x) = if (q = p ∧ l = L ∧ X ≤ x ∧ x < ac) ∧ h 423 (256 * p + ix y (a - 1) x) = h 423 (256 * p + ix y a x) then h 423 (256 * p + ix y (a - 1) x) else h 6 (256 * q + ix y l x) := by
  have hw : (w.1 420).1 = 3 := by rw [hE]
  have w4 : (w.1 4).1 = 9 := by rw [hW.2.1]
  have w5 : (w.1 421).1 = 9 := by rw [hW2.2.1]
  intro m
  induction m with
  | zero =>
    intro X h a1 a2 a3 a4 a5 a6
    have e1 : mm_P d 87 [(2, 4), (0, 1 - y)] w h = some ((0, ac), w, h) := by
      rw [E_size (by omega) hW, ← a4]
      rcases hy with rfl | rfl <;> rfl
    rw [l_Ed_joinNewLine_1_eq, mF_t w4, mI_id (by omega) (by omega), e1, mC_s, mLe_t (by omega)]
    exact ⟨h, by rw [show X = ac by omega], fun _ _ => rfl, fun q l x _ _ _ _ _ _ => by rw [if_neg (by omega)]⟩
  | succ m ih =>
    intro X h a1 a2 a3 a4 a5 a6
    have e1 : mm_P d 87 [(2, 4), (0, 1 - y)] w h = some ((0, ac), w, h) := by
      rw [E_size (by omega) hW, ← a4]
      rcases hy with rfl | rfl <;> rfl
    rw [l_Ed_joinNewLine_1_eq, mF_t w4, mI_id (x := 1 - y) (by omega) (by omega), e1, mC_s, mLe_f (by omega), mI_id (x := a - 1) (by omega) (by omega)]
    -- both ways, one step
    have step : ∀ hx : mm_H, hx = (if h 423 (256 * p + ix y (a - 1) X) = h 423 (256 * p + ix y a X) then mUp h 6 (256 * p + ix y L X) (h 423 (256 * p + ix y (a - 1) X)) else h) → ∃ h', l_Ed_joinNewLine_1 (mm_P d) 420 4 y a L p (X + 1) w hx = some (.inr (138, [(2, 420), (2, 4), (0, y), (0, a), (0, L), (0, p), (0, ac), (9, 0), (9, 0)], w, h')) ∧ (∀ b : Int, b ≠ 6 → h' b = h b) ∧ ∀ q l x : Int, 0 ≤ q → q < 4 → 0 ≤ l → l < 16 → 0 ≤ x → x < 16 → h' 6 (256 * q + ix y l x) = if (q = p ∧ l = L ∧ X ≤ x ∧ x < ac) ∧ h 423 (256 * p + ix y (a - 1) x) = h 423 (256 * p + ix y a x) then h 423 (256 * p + ix y (a - 1) x) else h 6 (256 * q + ix y l x) := by
      intro hx he
      have f2 : ∀ b : Int, b ≠ 6 → hx b = h b := fun b hb => by rw [he]; split; exact mUp_row hb; rfl
      have f3 : ∀ q l x : Int, 0 ≤ q → q < 4 → 0 ≤ l → l < 16 → 0 ≤ x → x < 16 → hx 6 (256 * q + ix y l x) = if (q = p ∧ l = L ∧ x = X) ∧ h 423 (256 * p + ix y (a - 1) X) = h 423 (256 * p + ix y a X) then h 423 (256 * p + ix y (a - 1) X) else h 6 (256 * q + ix y l x) := by
        intro q l x q0 q1 l0 l1 x0 x1
        rw [he]
        by_cases ce : h 423 (256 * p + ix y (a - 1) X) = h 423 (256 * p + ix y a X)
        · rw [if_pos ce]
          by_cases ch : q = p ∧ l = L ∧ x = X
          · rw [if_pos ⟨ch, ce⟩, ch.1, ch.2.1, ch.2.2]; exact mUp_s
          · rw [if_neg (fun z => ch z.1)]
            refine mUp_n (Or.inr (fun z => ch ?_))
            unfold ix at z
            split at z <;> omega
        · rw [if_neg ce, if_neg (fun z => ce z.2)]
      obtain ⟨h', g1, g2, g3⟩ := ih (X + 1) hx (ShH_fr a1 (fun i _ _ => by rw [f2 4 (by decide)]) (f2 _ (by decide))) (ShH_fr a2 (fun i _ _ => by rw [f2 421 (by decide)]) (f2 _ (by decide))) (by unfold EdH; rw [f2 420 (by decide)]; exact a3) (by rw [f2 4 (by decide)]; exact a4) (by omega) (by omega)
      refine ⟨h', g1, fun b hb => by rw [g2 b hb, f2 b hb], fun q l x q0 q1 l0 l1 x0 x1 => ?_⟩
      rw [g3 q l x q0 q1 l0 l1 x0 x1, f2 423 (by decide), f3 q l x q0 q1 l0 l1 x0 x1]
      by_cases hX : x = X
      · subst hX
        rw [if_neg (by omega)]
        by_cases c : (q = p ∧ l = L ∧ x = x) ∧ h 423 (256 * p + ix y (a - 1) x) = h 423 (256 * p + ix y a x)
        · rw [if_pos c, if_pos ⟨⟨c.1.1, c.1.2.1, by omega⟩, c.2⟩]
        · rw [if_neg c, if_neg (fun z => c ⟨⟨z.1.1, z.1.2.1, rfl⟩, z.2⟩)]
      · by_cases c : (q = p ∧ l = L ∧ X ≤ x ∧ x < ac) ∧ h 423 (256 * p + ix y (a - 1) x) = h 423 (256 * p + ix y a x)
        · rw [if_pos c, if_pos ⟨⟨c.1.1, c.1.2.1, by omega⟩, c.2⟩]
        · rw [if_neg c, if_neg (fun z => c ⟨⟨z.1.1, z.1.2.1, by omega⟩, z.2⟩), if_neg (fun z => hX z.1.2.2)]
    rcases hy with rfl | rfl
    · rw [mEq_t rfl, mF_t hw, a3.1, mF_t w5, E_cellFormat (by omega) hW2 a2.2.1 hp.1 hp.2 (by omega) (by omega) a5 (by omega), mC_s, mEq_t rfl, mF_t hw, a3.1, mF_t w5, E_cellFormat (by omega) hW2 a2.2.1 hp.1 hp.2 (by omega) (by omega) a5 (by omega), mC_s]
      have i1 : 256 * p + ix 0 (a - 1) X = 256 * p + 16 * (a - 1) + X := by show 256 * p + (16 * (a - 1) + X) = _; omega
      have i2 : 256 * p + ix 0 a X = 256 * p + 16 * a + X := by show 256 * p + (16 * a + X) = _; omega
      have i3 : 256 * p + ix 0 L X = 256 * p + 16 * L + X := by show 256 * p + (16 * L + X) = _; omega
      rw [i1, i2, i3] at step
      show ∃ h', mEq (h 423 (256 * p + 16 * (a - 1) + X)) (h 423 (256 * p + 16 * a + X)) _ _ = _ ∧ _
      by_cases ce : h 423 (256 * p + 16 * (a - 1) + X) = h 423 (256 * p + 16 * a + X)
      · rw [mEq_t ce, mEq_t rfl, mF_t w4, E_setCellFormat (by omega) hW a1.2.1 _ hp.1 hp.2 hL.1 hL.2 a5 (by omega), mC_s]
        try dsimp only
        rw [mI_id (by omega) (by omega)]
        exact step _ (by rw [if_pos ce]; rfl)
      · rw [mEq_f ce]
        try dsimp only
        rw [mI_id (by omega) (by omega)]
        exact step _ (by rw [if_neg ce])
    · rw [mEq_f (by decide), mF_t hw, a3.1, mF_t w5, E_cellFormat (by omega) hW2 a2.2.1 hp.1 hp.2 a5 (by omega) (by omega) (by omega), mC_s, mEq_f (by decide), mF_t hw, a3.1, mF_t w5, E_cellFormat (by omega) hW2 a2.2.1 hp.1 hp.2 a5 (by omega) (by omega) (by omega), mC_s]
      have i1 : 256 * p + ix 1 (a - 1) X = 256 * p + 16 * X + (a - 1) := by show 256 * p + (16 * X + (a - 1)) = _; omega
      have i2 : 256 * p + ix 1 a X = 256 * p + 16 * X + a := by show 256 * p + (16 * X + a) = _; omega
      have i3 : 256 * p + ix 1 L X = 256 * p + 16 * X + L := by show 256 * p + (16 * X + L) = _; omega
      rw [i1, i2, i3] at step
      show ∃ h', mEq (h 423 (256 * p + 16 * X + (a - 1))) (h 423 (256 * p + 16 * X + a)) _ _ = _ ∧ _
      by_cases ce : h 423 (256 * p + 16 * X + (a - 1)) = h 423 (256 * p + 16 * X + a)
      · rw [mEq_t ce, mEq_f (by decide), mF_t w4, E_setCellFormat (by omega) hW a1.2.1 _ hp.1 hp.2 a5 (by omega) hL.1 hL.2, mC_s]
        try dsimp only
        rw [mI_id (by omega) (by omega)]
        exact step _ (by rw [if_pos ce]; rfl)
      · rw [mEq_f ce]
        try dsimp only
        rw [mI_id (by omega) (by omega)]
        exact step _ (by rw [if_neg ce])
theorem L_join0 (hd : 2 ≤ d) (hE : w.1 420 = (3, 2)) (hW : ShW w 4) (hW2 : ShW w 421) {y a L ac : Int} (hy : y = 0 ∨ y = 1) (ha : 1 ≤ a ∧ a < 16) (hL : 0 ≤ L ∧ L < 16) (hac : 0 ≤ ac ∧ ac ≤ 16) : ∀ (m : Nat) (p : Int) (h : mm_H), ShH h 4 → ShH h 421 → EdH h → (if y = 0 then h 4 1 else h 4 0) = ac → 0 ≤ p → p + m = 4 → ∃ h', l_Ed_joinNewLine_0 (mm_P d) 420 4 y a L p w h = some (.inr (144, [(2, 420), (2, 4), (0, y), (0, a), (0, L), (0, 4), (9, 0), (9, 0), (9, 0)], w, h')) ∧ (∀ b : Int, b ≠ 6 → h' b = h b) ∧ ∀ q l x : Int, 0 ≤ q → q < 4 → 0 ≤ l → l < 16 → 0 ≤ x → x < 16 → h' 6 (256 * q + ix y l x) = if (p ≤ q ∧ l = L ∧ x < ac) ∧ h 423 (256 * q + ix y (a - 1) x) = h 423 (256 * q + ix y a x) then h 423 (256 * q + ix y (a - 1) x) else h 6 (256 * q + ix y l x) := by
  intro m
  induction m with
  | zero =>
    intro p h a1 a2 a3 a4 a5 a6
    rw [l_Ed_joinNewLine_0_eq, mLe_t (by omega)]
    exact ⟨h, by rw [show p = 4 by omega], fun _ _ => rfl, fun q l x _ _ _ _ _ _ => by rw [if_neg (by omega)]⟩
  | succ m ih =>
    intro p h a1 a2 a3 a4 a5 a6
    obtain ⟨h1, b1, b2, b3⟩ := L_join1 hd hE hW hW2 (p := p) hy ha hL (by omega) hac.2 ac.toNat 0 h a1 a2 a3 a4 (by decide) (by omega)
    obtain ⟨h', g1, g2, g3⟩ := ih (p + 1) h1 (ShH_fr a1 (fun i _ _ => by rw [b2 4 (by decide)]) (b2 _ (by decide))) (ShH_fr a2 (fun i _ _ => by rw [b2 421 (by decide)]) (b2 _ (by decide))) (by unfold EdH; rw [b2 420 (by decide)]; exact a3) (by rw [b2 4 (by decide)]; exact a4) (by omega) (by omega)
    refine ⟨h', ?_, fun b hb => by rw [g2 b hb, b2 b hb], fun q l x q0 q1 l0 l1 x0 x1 => ?_⟩
    · rw [l_Ed_joinNewLine_0_eq, mLe_f (by omega), b1, mK_r, if_pos rfl]
      simp only [mP_0, mP_1, mP_2, mP_3, mP_4, mP_5]
      rw [mI_id (by omega) (by omega), g1]
    · rw [g3 q l x q0 q1 l0 l1 x0 x1, b2 423 (by decide), b3 q l x q0 q1 l0 l1 x0 x1]
      by_cases hq : q = p
      · subst hq
        rw [if_neg (by omega)]
        by_cases c : (q = q ∧ l = L ∧ 0 ≤ x ∧ x < ac) ∧ h 423 (256 * q + ix y (a - 1) x) = h 423 (256 * q + ix y a x)
        · rw [if_pos c, if_pos ⟨⟨Int.le_refl _, c.1.2.1, c.1.2.2.2⟩, c.2⟩]
        · rw [if_neg c, if_neg (fun z => c ⟨⟨rfl, z.1.2.1, x0, z.1.2.2⟩, z.2⟩)]
      · by_cases c : (p ≤ q ∧ l = L ∧ x < ac) ∧ h 423 (256 * q + ix y (a - 1) x) = h 423 (256 * q + ix y a x)
        · rw [if_pos c, if_pos ⟨⟨by omega, c.1.2.1, c.1.2.2⟩, c.2⟩]
        · rw [if_neg c, if_neg (fun z => c ⟨⟨by omega, z.1.2.1, z.1.2.2⟩, z.2⟩), if_neg (fun z => hq z.1.1)]
theorem L_ins1 (hd : 3 ≤ d) (hE : w.1 420 = (3, 2)) (hW : ShW w 4) (hW2 : ShW w 421) {y a n z ac : Int} (hy : y = 0 ∨ y = 1) (ha : 1 ≤ a ∧ a < 16) (hn : 1 ≤ n) (hz : a + n ≤ 16) (hac : 0 ≤ ac ∧ ac ≤ 16) : ∀ (m : Nat) (k : Int) (h : mm_H), ShH h 4 → ShH h 421 → EdH h → (if y = 0 then h 4 1 else h 4 0) = ac → 0 ≤ k → k + m = a + n → ∃ h', l_Ed_insertLines_1 (mm_P d) 420 4 y a n z k w h = some (.inr (158, [(2, 420), (2, 4), (0, y), (0, a), (0, n), (0, z), (0, a + n)], w, h')) ∧ (∀ b : Int, b ≠ 6 → h' b = h b) ∧ ∀ q l x : Int, 0 ≤ q → q < 4 → 0 ≤ l → l < 16 → 0 ≤ x → x < 16 → h' 6 (256 * q + ix y l x) = if (k ≤ l ∧ l < a + n ∧ x < ac) ∧ h 423 (256 * q + ix y (a - 1) x) = h 423 (256 * q + ix y a x) then h 423 (256 * q + ix y (a - 1) x) else h 6 (256 * q + ix y l x) := by
  have hw : (w.1 420).1 = 3 := by rw [hE]
  intro m
  induction m with
  | zero =>
    intro k h a1 a2 a3 a4 a5 a6
    rw [l_Ed_insertLines_1_eq, mI_id (x := a + n) (by omega) (by omega), mLe_t (by omega)]
    exact ⟨h, by rw [show k = a + n by omega], fun _ _ => rfl, fun q l x _ _ _ _ _ _ => by rw [if_neg (by omega)]⟩
  | succ m ih =>
    intro k h a1 a2 a3 a4 a5 a6
    obtain ⟨h1, b1, b2, b3⟩ := L_join0 (d := d - 1) (by omega) hE hW hW2 (L := k) hy ha (by omega) hac 4 0 h a1 a2 a3 a4 (by decide) (by decide)
    have c1 : mm_P d 43 [(2, 420), (2, 4), (0, y), (0, a), (0, k)] w h = some ((9, 0), w, h1) := by
      obtain ⟨d', rfl⟩ : ∃ d', d = d' + 1 := ⟨d - 1, by omega⟩
      rw [P_Ed_joinNewLine]
      rw [show d' + 1 - 1 = d' by omega] at b1
      rw [b1, mK_r, if_pos rfl]
    obtain ⟨h', g1, g2, g3⟩ := ih (k + 1) h1 (ShH_fr a1 (fun i _ _ => by rw [b2 4 (by decide)]) (b2 _ (by decide))) (ShH_fr a2 (fun i _ _ => by rw [b2 421 (by decide)]) (b2 _ (by decide))) (by unfold EdH; rw [b2 420 (by decide)]; exact a3) (by rw [b2 4 (by decide)]; exact a4) (by omega) (by omega)
    refine ⟨h', ?_, fun b hb => by rw [g2 b hb, b2 b hb], fun q l x q0 q1 l0 l1 x0 x1 => ?_⟩
    · rw [l_Ed_insertLines_1_eq, mI_id (x := a + n) (by omega) (by omega), mLe_f (by omega), mF_t hw, c1, mC_s]
      try dsimp only
      rw [mI_id (by omega) (by omega), g1]
    · rw [g3 q l x q0 q1 l0 l1 x0 x1, b2 423 (by decide), b3 q l x q0 q1 l0 l1 x0 x1]
      by_cases hq : l = k
      · subst hq
        rw [if_neg (by omega)]
        by_cases c : (0 ≤ q ∧ l = l ∧ x < ac) ∧ h 423 (256 * q + ix y (a - 1) x) = h 423 (256 * q + ix y a x)
        · rw [if_pos c, if_pos ⟨⟨Int.le_refl _, by omega, c.1.2.2⟩, c.2⟩]
        · rw [if_neg c, if_neg (fun z => c ⟨⟨q0, rfl, z.1.2.2⟩, z.2⟩)]
      · by_cases c : (k ≤ l ∧ l < a + n ∧ x < ac) ∧ h 423 (256 * q + ix y (a - 1) x) = h 423 (256 * q + ix y a x)
        · rw [if_pos c, if_pos ⟨⟨by omega, c.1.2.1, c.1.2.2⟩, c.2⟩]
        · rw [if_neg c, if_neg (fun z => c ⟨⟨by omega, z.1.2.1, z.1.2.2⟩, z.2⟩), if_neg (fun z => hq z.1.2.1)]
theorem E_makeRoom (hd : 1 ≤ d) {o : Int} (ho : w.1 o = (7, 8)) {y a n : Int} (hy : y = 0 ∨ y = 1) (hn : 0 ≤ n ∧ n ≤ 16) (hb : ∀ f : Int, 0 ≤ f → f < 4 → 0 ≤ h o f ∧ h o f ≤ 16) : ∃ h', mm_P d 74 [(2, o), (0, y), (0, a), (0, n)] w h = some ((9, 0), w, h') ∧ (∀ b : Int, b ≠ o → h' b = h b) ∧ ∀ f : Int, h' o f = rIns y a n (h o) f := by
  obtain ⟨d, rfl, hd2⟩ := mm_dS hd; clear hd; have hd := hd2; clear hd2
  have hw : (w.1 o).1 = 7 := by rw [ho]
  have b0 := hb 0 (by decide) (by decide)
  have b1 := hb 1 (by decide) (by decide)
  have b2 := hb 2 (by decide) (by decide)
  have b3 := hb 3 (by decide) (by decide)
  rw [P_Ru_makeRoom]
  simp only [mF_t hw]
  rcases hy with rfl | rfl
  · rw [mEq_t rfl]
    by_cases c1 : h o 0 < a
    · rw [mLt_t c1]
      by_cases c2 : h o 2 < a
      · rw [mLt_t c2]
        refine ⟨_, rfl, fun _ _ => rfl, fun f => ?_⟩
        unfold rIns
        rw [if_neg]
        rintro ⟨rfl | rfl, z⟩
        · omega
        · have z : a ≤ h o 2 := z
          omega
      · rw [mLt_f (by omega), mI_id (by omega) (by omega)]
        refine ⟨_, rfl, fun b hb => mUp_row hb, fun f => ?_⟩
        unfold rIns
        by_cases hf : f = 2
        · subst hf; rw [mUp_s, if_pos ⟨Or.inr rfl, by omega⟩]
        · rw [mUp_n (Or.inr hf), if_neg]
          rintro ⟨rfl | rfl, z⟩ <;> omega
    · rw [mLt_f (by omega), mUp_n (Or.inr (by decide)), mI_id (x := h o 0 + n) (by omega) (by omega)]
      by_cases c2 : h o 2 < a
      · rw [mLt_t c2]
        refine ⟨_, rfl, fun b hb => mUp_row hb, fun f => ?_⟩
        unfold rIns
        by_cases hf : f = 0
        · subst hf; rw [mUp_s, if_pos ⟨Or.inl rfl, by omega⟩]
        · rw [mUp_n (Or.inr hf), if_neg]
          rintro ⟨rfl | rfl, z⟩
          · omega
          · have z : a ≤ h o 2 := z
            omega
      · rw [mLt_f (by omega), mI_id (by omega) (by omega)]
        refine ⟨_, rfl, fun b hb => by rw [mUp_row hb, mUp_row hb], fun f => ?_⟩
        unfold rIns
        by_cases hf : f = 2
        · subst hf; rw [mUp_s, if_pos ⟨Or.inr rfl, by omega⟩]
        · rw [mUp_n (Or.inr hf)]
          by_cases hf : f = 0
          · subst hf; rw [mUp_s, if_pos ⟨Or.inl rfl, by omega⟩]
          · rw [mUp_n (Or.inr hf), if_neg]
            rintro ⟨rfl | rfl, z⟩ <;> omega
  · rw [mEq_f (by decide)]
    by_cases c1 : h o 1 < a
    · rw [mLt_t c1]
      by_cases c2 : h o 3 < a
      · rw [mLt_t c2]
        refine ⟨_, rfl, fun _ _ => rfl, fun f => ?_⟩
        unfold rIns
        rw [if_neg]
        rintro ⟨rfl | rfl, z⟩
        · omega
        · have z : a ≤ h o 3 := z
          omega
      · rw [mLt_f (by omega), mI_id (by omega) (by omega)]
        refine ⟨_, rfl, fun b hb => mUp_row hb, fun f => ?_⟩
        unfold rIns
        by_cases hf : f = 3
        · subst hf; rw [mUp_s, if_pos ⟨Or.inr rfl, by omega⟩]
        · rw [mUp_n (Or.inr hf), if_neg]
          rintro ⟨rfl | rfl, z⟩ <;> omega
    · rw [mLt_f (by omega), mUp_n (Or.inr (by decide)), mI_id (x := h o 1 + n) (by omega) (by omega)]
      by_cases c2 : h o 3 < a
      · rw [mLt_t c2]
        refine ⟨_, rfl, fun b hb => mUp_row hb, fun f => ?_⟩
        unfold rIns
        by_cases hf : f = 1
        · subst hf; rw [mUp_s, if_pos ⟨Or.inl rfl, by omega⟩]
        · rw [mUp_n (Or.inr hf), if_neg]
          rintro ⟨rfl | rfl, z⟩
          · omega
          · have z : a ≤ h o 3 := z
            omega
      · rw [mLt_f (by omega), mI_id (by omega) (by omega)]
        refine ⟨_, rfl, fun b hb => by rw [mUp_row hb, mUp_row hb], fun f => ?_⟩
        unfold rIns
        by_cases hf : f = 3
        · subst hf; rw [mUp_s, if_pos ⟨Or.inr rfl, by omega⟩]
        · rw [mUp_n (Or.inr hf)]
          by_cases hf : f = 1
          · subst hf; rw [mUp_s, if_pos ⟨Or.inl rfl, by omega⟩]
          · rw [mUp_n (Or.inr hf), if_neg]
            rintro ⟨rfl | rfl, z⟩ <;> omega
end PU
