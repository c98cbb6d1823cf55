/-! PURE: behind a fault nothing is read. -/
section PU
variable {d : Nat} {w : mm_W} {h : mm_H} {B : Int → Int} {n p : Int}
theorem C_l01 {d : Nat} {op : Int} {w : mm_W} {h h' : mm_H} (hW : CW w) {m : Int} (hm : m = 0 ∨ m = 1) (e : mm_P d 3 [(2, 463), (0, m), (0, op)] w h = some ((9, 0), w, h')) : mm_P (d + 1) 2 [(2, 463), (0, m), (0, op)] w h = some ((9, 0), w, h') := by
  have hw : (w.1 463).1 = 1 := by rw [hW.2.1]
  rw [P_Cr_readLevel]
  simp only [mF_t hw]
  rcases hm with rfl | rfl <;> simp [mEq, e, mC_s]
theorem C_l2 {d : Nat} {op : Int} {w : mm_W} {h h' : mm_H} (hW : CW w) (e : mm_P d 4 [(2, 463), (0, op)] w h = some ((9, 0), w, h')) : mm_P (d + 1) 2 [(2, 463), (0, 2), (0, op)] w h = some ((9, 0), w, h') := by
  have hw : (w.1 463).1 = 1 := by rw [hW.2.1]
  rw [P_Cr_readLevel]
  simp only [mF_t hw]
  simp [mEq, e, mC_s]
theorem C_l3 {d : Nat} {op : Int} {w : mm_W} {h h' : mm_H} (hW : CW w) (e : mm_P d 5 [(2, 463), (0, op)] w h = some ((9, 0), w, h')) : mm_P (d + 1) 2 [(2, 463), (0, 3), (0, op)] w h = some ((9, 0), w, h') := by
  have hw : (w.1 463).1 = 1 := by rw [hW.2.1]
  rw [P_Cr_readLevel]
  simp only [mF_t hw]
  simp [mEq, e, mC_s]
theorem C_l45 {d : Nat} {op : Int} {w : mm_W} {h h' : mm_H} (hW : CW w) {m : Int} (hm : m = 4 ∨ m = 5) (e : mm_P d 6 [(2, 463), (0, m), (0, op)] w h = some ((9, 0), w, h')) : mm_P (d + 1) 2 [(2, 463), (0, m), (0, op)] w h = some ((9, 0), w, h') := by
  have hw : (w.1 463).1 = 1 := by rw [hW.2.1]
  rw [P_Cr_readLevel]
  simp only [mF_t hw]
  rcases hm with rfl | rfl <;> simp [mEq, e, mC_s]
theorem C_l6 {d : Nat} {op : Int} {w : mm_W} {h h' : mm_H} (hW : CW w) (e : mm_P d 8 [(2, 463), (0, op)] w h = some ((9, 0), w, h')) : mm_P (d + 1) 2 [(2, 463), (0, 6), (0, op)] w h = some ((9, 0), w, h') := by
  have hw : (w.1 463).1 = 1 := by rw [hW.2.1]
  rw [P_Cr_readLevel]
  simp only [mF_t hw]
  simp [mEq, e, mC_s]
def FC (w : mm_W) (B : Int → Int) (n m op : Int) : Prop := ∀ (d : Nat) (h : mm_H) (f : Int), 40 * (5 - op) - 4 * m + 20 ≤ d → CF w h B n f → ∃ h', mm_P d 2 [(2, 463), (0, m), (0, op)] w h = some ((9, 0), w, h') ∧ CO h h' ∧ CF w h' B n f
theorem FC_6 (hW : CW w) {op : Int} (ho : op ≤ 4) : FC w B n 6 op := by
  intro d h f hd hA
  obtain ⟨d, rfl, hd2⟩ := mm_dS (show 35 + 1 ≤ d by omega)
  obtain ⟨d, rfl, hd3⟩ := mm_dS (show 34 + 1 ≤ d by omega)
  have hw : (w.1 463).1 = 1 := by rw [hW.2.1]
  have hw2 : (w.1 461).1 = 10 := by rw [hW.1.1]
  obtain ⟨h1, a1, a2, a3⟩ := E_needOneOf_f (d := d) (by omega) hW.1 hA.2.2.2.2.2.2.2.1 hA.1
  obtain ⟨b1, b2⟩ := CF_to hA.2 a2 a3
  obtain ⟨h2, z, c1, c2, c3⟩ := E_emitWithF (d := d - 1) (by omega) hW b2 2 (-1)
  refine ⟨h2, C_l6 hW ?_, CO_tr b1 c2, c3⟩
  rw [P_Cr_readUnit]
  simp only [mF_t hw]
  rw [hA.2.1]
  simp only [mF_t hw2]
  rw [hA.1.2.2.2, mEq_f (by decide), mEq_f (by decide), mEq_f (by decide), a1, mC_s, mF_t hw]
  obtain ⟨d, rfl, hd4⟩ := mm_dS (show 33 + 1 ≤ d by omega)
  rw [P_Cr_emitWord, mEq_f (by decide), mEq_f (by decide), mF_t hw]
  rw [show d + 1 - 1 = d from rfl] at c1
  rw [c1, mC_s, mC_s]
theorem FC_45 (hW : CW w) {op m : Int} (hm : m = 4 ∨ m = 5) (ho : op ≤ 4) (ih : FC w B n (m + 1) op) : FC w B n m op := by
  intro d h f hd hA
  obtain ⟨d, rfl, hd2⟩ := mm_dS (show 35 + 1 ≤ d by omega)
  obtain ⟨d, rfl, hd3⟩ := mm_dS (show 34 + 1 ≤ d by omega)
  have hw : (w.1 463).1 = 1 := by rw [hW.2.1]
  have hw2 : (w.1 461).1 = 10 := by rw [hW.1.1]
  obtain ⟨h1, a1, a2, a3⟩ := ih d h f (by omega) hA
  refine ⟨h1, C_l45 hW hm ?_, a2, a3⟩
  have e : mm_P d 7 [(0, m), (0, 0)] w h1 = some ((0, 0), w, h1) := by
    obtain ⟨d, rfl, hd4⟩ := mm_dS (show 33 + 1 ≤ d by omega)
    rw [P_Cr_reckons]
    rcases hm with rfl | rfl <;> simp [mEq, mZ_0]
  rw [P_Cr_readReckoned, mF_t hw, mI_id (by omega) (by omega), a1, mC_s, l_Cr_readReckoned_0_eq, mLe_f (by decide), mF_t hw, a3.2.1, mF_t hw2, a3.1.2.2.2, e, mC_s, mEq_t rfl, mK_r, if_pos rfl]
theorem FC_3 (hW : CW w) {op : Int} (ho : op ≤ 4) (ih : FC w B n 4 op) : FC w B n 3 op := by
  intro d h f hd hA
  obtain ⟨d, rfl, hd2⟩ := mm_dS (show 35 + 1 ≤ d by omega)
  obtain ⟨d, rfl, hd3⟩ := mm_dS (show 34 + 1 ≤ d by omega)
  have hw : (w.1 463).1 = 1 := by rw [hW.2.1]
  have hw2 : (w.1 461).1 = 10 := by rw [hW.1.1]
  obtain ⟨h1, a1, a2, a3⟩ := ih d h f (by omega) hA
  obtain ⟨h2, b1, b2, b3⟩ := E_refuse_f (d := d) (by omega) hW.1 a3.1
  obtain ⟨c1, c2⟩ := CF_to a3.2 b2 b3
  obtain ⟨h3, e1, e2, e3⟩ := ih d h2 f (by omega) c2
  obtain ⟨h4, g1, g2, g3⟩ := E_emitF (d := d) (by omega) hW e3 0
  refine ⟨h4, C_l3 hW ?_, CO_tr (CO_tr (CO_tr a2 c1) e2) g2, g3⟩
  rw [P_Cr_readCompared, mF_t hw, a1, mC_s, mF_t hw, a3.2.1, mF_t hw2]
  try dsimp only
  rw [a3.1.2.2.2, mEq_f (by decide), mEq_f (by decide), mEq_f (by decide), mF_t hw, mF_t hw2, b1, mC_s, mF_t hw, e1, mC_s, mF_t hw, g1, mC_s]
theorem FC_2 (hW : CW w) {op : Int} (ho : op ≤ 4) (ih : FC w B n 3 op) : FC w B n 2 op := by
  intro d h f hd hA
  obtain ⟨d, rfl, hd2⟩ := mm_dS (show 35 + 1 ≤ d by omega)
  obtain ⟨d, rfl, hd3⟩ := mm_dS (show 34 + 1 ≤ d by omega)
  have hw : (w.1 463).1 = 1 := by rw [hW.2.1]
  have hw2 : (w.1 461).1 = 10 := by rw [hW.1.1]
  obtain ⟨h1, a1, a2, a3⟩ := ih d h f (by omega) hA
  refine ⟨h1, C_l2 hW ?_, a2, a3⟩
  rw [P_Cr_readNegated, mF_t hw, hA.2.1, mF_t hw2, E_isWord_f (by omega) hW.1 hA.2.2.2.2.2.2.1 hA.1, mC_s, mEq_t rfl, mF_t hw, hA.2.1, mF_t hw2, hA.1.2.2.2, mEq_f (by decide), mF_t hw, a1, mC_s]
theorem FC_01 (hW : CW w) {op m : Int} (hm : m = 0 ∨ m = 1) (ho : op ≤ 4) (ih : FC w B n (m + 1) op) : FC w B n m op := by
  intro d h f hd hA
  obtain ⟨d, rfl, hd2⟩ := mm_dS (show 35 + 1 ≤ d by omega)
  obtain ⟨d, rfl, hd3⟩ := mm_dS (show 34 + 1 ≤ d by omega)
  have hw : (w.1 463).1 = 1 := by rw [hW.2.1]
  have hw2 : (w.1 461).1 = 10 := by rw [hW.1.1]
  obtain ⟨h1, a1, a2, a3⟩ := ih d h f (by omega) hA
  refine ⟨h1, C_l01 hW hm ?_, a2, a3⟩
  rw [P_Cr_readJoined]
  simp only [mF_t hw]
  rw [mI_id (by omega) (by omega), a1, mC_s, mC_s]
  rcases hm with rfl | rfl
  · rw [mEq_t rfl, l_Cr_readJoined_0_eq, mLe_f (by decide), mF_t hw, a3.2.1, mF_t hw2, E_takesWord_f (by omega) hW.1 a3.2.2.2.2.1 a3.1, mC_s, mEq_t rfl, mK_r, if_pos rfl]
  · rw [mEq_f (by decide), l_Cr_readJoined_0_eq, mLe_f (by decide), mF_t hw, a3.2.1, mF_t hw2, E_takesWord_f (by omega) hW.1 a3.2.2.2.2.2.1 a3.1, mC_s, mEq_t rfl, mK_r, if_pos rfl]
theorem FC_all (hW : CW w) {op m : Int} (hm : 0 ≤ m ∧ m ≤ 6) (ho : op ≤ 4) : FC w B n m op := by
  have h6 := FC_6 (B := B) (n := n) hW ho
  have h5 : FC w B n 5 op := FC_45 hW (Or.inr rfl) ho h6
  have h4 : FC w B n 4 op := FC_45 hW (Or.inl rfl) ho h5
  have h3 := FC_3 hW ho h4
  have h2 := FC_2 hW ho h3
  have h1 : FC w B n 1 op := FC_01 hW (Or.inr rfl) ho h2
  have h0 : FC w B n 0 op := FC_01 hW (Or.inl rfl) ho h1
  have : m = 0 ∨ m = 1 ∨ m = 2 ∨ m = 3 ∨ m = 4 ∨ m = 5 ∨ m = 6 := by omega
  rcases this with rfl | rfl | rfl | rfl | rfl | rfl | rfl <;> assumption
/-! the reference -/
theorem MW_492 (hW : MW w) : w.1 492 = (53, 10) := hW.2.2.2.2.2.2.2.2.2.1
theorem MH_24 (hH : MH h) : h 483 24 = 492 := hH.2.2.2.2.2.2.2.2.1
theorem L_nameF (hd : 1 ≤ d) (hW : MW w) {f : Int} (hA : MG h B n f) : ∀ (m : Nat) (k : Int), 0 ≤ k → k + m = 10 → l_M_nameNow_0 (mm_P d) 483 k w h = some (.inr (32, [(2, 483), (0, 10)], w, h)) := by
  have hw : (w.1 483).1 = 13 := by rw [hW.1]
  have h10 := MW_492 hW
  intro m
  induction m with
  | zero =>
    intro k k0 k1
    rw [l_M_nameNow_0_eq, mF_t hw, MH_24 hA.2.1, mN_t h10 (by decide), h10, mLe_t (show (10 : Int) ≤ k by omega), show k = 10 by omega]
  | succ m ih =>
    intro k k0 k1
    rw [l_M_nameNow_0_eq, mF_t hw, MH_24 hA.2.1, mN_t h10 (by decide), h10, mLe_f (show k < 10 by omega), mF_t hw, mA_t h10 k0 (by omega), mF_t hw, E_M_isWordF hd hW hA.1, mC_s, mEq_t rfl]
    try dsimp only
    rw [mI_id (by omega) (by omega)]
    exact ih (k + 1) (by omega) (by omega)
def FM (w : mm_W) (B : Int → Int) (n : Int) (id : Nat) (k : Nat) : Prop := ∀ (d : Nat) (h : mm_H) (f : Int), k ≤ d → MG h B n f → ∃ h', mm_P d id [(2, 483)] w h = some ((9, 0), w, h') ∧ Mq h h' ∧ MG h' B n f
theorem FM_6 (hW : MW w) : FM w B n 274 10 := by
  intro d h f hd hA
  obtain ⟨d, rfl, hd2⟩ := mm_dS (show 9 + 1 ≤ d by omega)
  have hw : (w.1 483).1 = 13 := by rw [hW.1]
  obtain ⟨h1, a1, a2, a3⟩ := E_M_numberF (d := d) (by omega) hW hA.1 4
  obtain ⟨b1, b2⟩ := MG_mo hA.2 a2 a3
  have e : mm_P d 273 [(2, 483)] w h = some ((0, -1), w, h) := by
    obtain ⟨d, rfl, hd4⟩ := mm_dS (show 8 + 1 ≤ d by omega)
    rw [P_M_nameNow, L_nameF (d := d) (by omega) hW hA 10 0 (by decide) (by decide), mK_r, if_pos rfl]
  refine ⟨h1, ?_, b1, b2⟩
  rw [P_M_readsUnit]
  simp only [mF_t hw]
  rw [hA.1.2.2.2.1, mEq_f (by decide), mEq_f (by decide), e, mC_s, mEq_t rfl, a1, mC_s, E_M_writesF (by omega) hW b2.1, mC_s, E_M_writesF (by omega) hW b2.1, mC_s]
  simp only [mF_t hw]
theorem FM_5 (hW : MW w) (ih : FM w B n 274 10) : FM w B n 272 11 := by
  intro d h f hd hA
  obtain ⟨d, rfl, hd2⟩ := mm_dS (show 10 + 1 ≤ d by omega)
  have hw : (w.1 483).1 = 13 := by rw [hW.1]
  obtain ⟨h1, a1, a2, a3⟩ := ih d h f (by omega) hA
  refine ⟨h1, ?_, a2, a3⟩
  rw [P_M_readsPart, mF_t hw, a1, mC_s, l_M_readsPart_0_eq, mF_t hw, E_M_takesSignF (by omega) hW a3.1 (by decide), mC_s, mEq_t rfl, mK_r, if_pos rfl]
theorem FM_4 (hW : MW w) (ih : FM w B n 272 11) : FM w B n 271 12 := by
  intro d h f hd hA
  obtain ⟨d, rfl, hd2⟩ := mm_dS (show 11 + 1 ≤ d by omega)
  have hw : (w.1 483).1 = 13 := by rw [hW.1]
  obtain ⟨h1, a1, a2, a3⟩ := ih d h f (by omega) hA
  refine ⟨h1, ?_, a2, a3⟩
  rw [P_M_readsSum, mF_t hw, a1, mC_s, l_M_readsSum_0_eq, mF_t hw, a3.1.2.2.2.1, mEq_f (by decide), mF_t hw, mEq_f (by decide), mK_r, if_pos rfl]
theorem FM_2 (hW : MW w) (ih : FM w B n 271 12) : FM w B n 270 13 := by
  intro d h f hd hA
  obtain ⟨d, rfl, hd2⟩ := mm_dS (show 12 + 1 ≤ d by omega)
  have hw : (w.1 483).1 = 13 := by rw [hW.1]
  obtain ⟨h1, a1, a2, a3⟩ := ih d h f (by omega) hA
  obtain ⟨h2, b1, b2, b3⟩ := E_M_wrongF (d := d) (by omega) hW a3.1
  obtain ⟨c1, c2⟩ := MG_mo a3.2 b2 b3
  refine ⟨h2, ?_, Mq_tr a2 c1, c2⟩
  rw [P_M_readsNot, mF_t hw, E_M_isWordF (by omega) hW hA.1, mC_s, mEq_t rfl, mF_t hw, hA.1.2.2.2.1, mEq_f (by decide), mF_t hw, a1, mC_s, mF_t hw]
  try dsimp only
  rw [a3.1.2.2.2.1, mEq_f (by decide), mEq_f (by decide), mEq_f (by decide), mF_t hw, b1, mC_s]
theorem FM_1 (hW : MW w) (ih : FM w B n 270 13) : FM w B n 269 14 := by
  intro d h f hd hA
  obtain ⟨d, rfl, hd2⟩ := mm_dS (show 13 + 1 ≤ d by omega)
  have hw : (w.1 483).1 = 13 := by rw [hW.1]
  obtain ⟨h1, a1, a2, a3⟩ := ih d h f (by omega) hA
  refine ⟨h1, ?_, a2, a3⟩
  rw [P_M_readsAll, mF_t hw, a1, mC_s, l_M_readsAll_0_eq, mF_t hw, E_M_takesWordF (by omega) hW a3.1, mC_s, mEq_t rfl, mK_r, if_pos rfl]
theorem FM_0 (hW : MW w) (ih : FM w B n 269 14) : FM w B n 268 15 := by
  intro d h f hd hA
  obtain ⟨d, rfl, hd2⟩ := mm_dS (show 14 + 1 ≤ d by omega)
  have hw : (w.1 483).1 = 13 := by rw [hW.1]
  obtain ⟨h1, a1, a2, a3⟩ := ih d h f (by omega) hA
  refine ⟨h1, ?_, a2, a3⟩
  rw [P_M_readsCondition, mF_t hw, a1, mC_s, l_M_readsCondition_0_eq, mF_t hw, E_M_takesWordF (by omega) hW a3.1, mC_s, mEq_t rfl, mK_r, if_pos rfl]
/-- the reference's method of a level -/
def mId (m : Int) : Nat := if m = 0 then 268 else if m = 1 then 269 else if m = 2 then 270 else if m = 4 then 271 else if m = 5 then 272 else 274
theorem FM_all (hW : MW w) (m : Int) : FM w B n (mId m) 15 := by
  have h6 := FM_6 (B := B) (n := n) hW
  have h5 := FM_5 hW h6
  have h4 := FM_4 hW h5
  have h2 := FM_2 hW h4
  have h1 := FM_1 hW h2
  have h0 := FM_0 hW h1
  unfold mId
  intro d h f hd hA
  repeat' split
  · exact h0 d h f (by omega) hA
  · exact h1 d h f (by omega) hA
  · exact h2 d h f (by omega) hA
  · exact h4 d h f (by omega) hA
  · exact h5 d h f (by omega) hA
  · exact h6 d h f (by omega) hA
/-! the names -/
theorem E_M_nameNow (hd : 2 ≤ d) (hW : MW w) {op : Int} {q : Nat} (hA : MA h B n p op q) : mm_P d 273 [(2, 483)] w h = some ((0, match nmO (tWd B n p) with | some i => (i : Int) | none => -1), w, h) := by
  obtain ⟨d, rfl, hd2⟩ := mm_dS hd; clear hd; have hd := hd2; clear hd2
  have hw : (w.1 483).1 = 13 := by rw [hW.1]
  have h10 := MW_492 hW
  have nm := hA.2.1.2
  unfold mNam at nm
  have key : ∀ {k v : Int} {ws : List Int}, 0 ≤ k → k < 10 → h 492 k = v → wNum ws v → l_M_nameNow_0 (mm_P d) 483 k w h = if tWd B n p = ws then some (Sum.inl ((0, k), w, h)) else l_M_nameNow_0 (mm_P d) 483 (k + 1) w h := by
    intro k v ws k0 k1 hv hn
    rw [l_M_nameNow_0_eq, mF_t hw, MH_24 hA.2.1.1, mN_t h10 (by decide), h10, mLe_f k1, mF_t hw, mA_t h10 k0 k1, mF_t hw, hv, E_M_isWord hd hW hn hA.1, mC_s]
    by_cases c : tWd B n p = ws
    · rw [bI_t c, mEq_f (by decide), if_pos c]
    · rw [bI_f c, mEq_t rfl, if_neg c]
      try dsimp only
      rw [mI_id (by omega) (by omega)]
  have last : l_M_nameNow_0 (mm_P d) 483 10 w h = some (.inr (32, [(2, 483), (0, 10)], w, h)) := by
    rw [l_M_nameNow_0_eq, mF_t hw, MH_24 hA.2.1.1, mN_t h10 (by decide), h10, mLe_t (Int.le_refl _)]
  have e0 := key (k := 0) (by decide) (by decide) (nm.1) (show wNum [118, 97, 108, 117, 101] 23114405 from ⟨by decide, by decide, by decide, by decide⟩)
  have e1 := key (k := 1) (by decide) (by decide) (nm.2.1) (show wNum [114, 111, 119] 18935 from ⟨by decide, by decide, by decide, by decide⟩)
  have e2 := key (k := 2) (by decide) (by decide) (nm.2.2.1) (show wNum [99, 111, 108, 117, 109, 110] 116807086 from ⟨by decide, by decide, by decide, by decide⟩)
  have e3 := key (k := 3) (by decide) (by decide) (nm.2.2.2.1) (show wNum [108, 101, 102, 116] 398548 from ⟨by decide, by decide, by decide, by decide⟩)
  have e4 := key (k := 4) (by decide) (by decide) (nm.2.2.2.2.1) (show wNum [97, 98, 111, 118, 101] 1130181 from ⟨by decide, by decide, by decide, by decide⟩)
  have e5 := key (k := 5) (by decide) (by decide) (nm.2.2.2.2.2.1) (show wNum [115, 117, 109] 20141 from ⟨by decide, by decide, by decide, by decide⟩)
  have e6 := key (k := 6) (by decide) (by decide) (nm.2.2.2.2.2.2.1) (show wNum [109, 111, 115, 116] 441972 from ⟨by decide, by decide, by decide, by decide⟩)
  have e7 := key (k := 7) (by decide) (by decide) (nm.2.2.2.2.2.2.2.1) (show wNum [108, 101, 97, 115, 116] 12748404 from ⟨by decide, by decide, by decide, by decide⟩)
  have e8 := key (k := 8) (by decide) (by decide) (nm.2.2.2.2.2.2.2.2.1) (show wNum [108, 105, 107, 101] 402789 from ⟨by decide, by decide, by decide, by decide⟩)
  have e9 := key (k := 9) (by decide) (by decide) (nm.2.2.2.2.2.2.2.2.2) (show wNum [103, 114, 101, 97, 116, 101, 114] 8125468850 from ⟨by decide, by decide, by decide, by decide⟩)
  rw [P_M_nameNow]
  unfold nmO
  rw [e0]
  by_cases c0 : tWd B n p = [118, 97, 108, 117, 101]
  · rw [if_pos c0, if_pos c0, mK_l]; rfl
  rw [if_neg c0, if_neg c0, show (0 : Int) + 1 = 1 from rfl]
  rw [e1]
  by_cases c1 : tWd B n p = [114, 111, 119]
  · rw [if_pos c1, if_pos c1, mK_l]; rfl
  rw [if_neg c1, if_neg c1, show (1 : Int) + 1 = 2 from rfl]
  rw [e2]
  by_cases c2 : tWd B n p = [99, 111, 108, 117, 109, 110]
  · rw [if_pos c2, if_pos c2, mK_l]; rfl
  rw [if_neg c2, if_neg c2, show (2 : Int) + 1 = 3 from rfl]
  rw [e3]
  by_cases c3 : tWd B n p = [108, 101, 102, 116]
  · rw [if_pos c3, if_pos c3, mK_l]; rfl
  rw [if_neg c3, if_neg c3, show (3 : Int) + 1 = 4 from rfl]
  rw [e4]
  by_cases c4 : tWd B n p = [97, 98, 111, 118, 101]
  · rw [if_pos c4, if_pos c4, mK_l]; rfl
  rw [if_neg c4, if_neg c4, show (4 : Int) + 1 = 5 from rfl]
  rw [e5]
  by_cases c5 : tWd B n p = [115, 117, 109]
  · rw [if_pos c5, if_pos c5, mK_l]; rfl
  rw [if_neg c5, if_neg c5, show (5 : Int) + 1 = 6 from rfl]
  rw [e6]
  by_cases c6 : tWd B n p = [109, 111, 115, 116]
  · rw [if_pos c6, if_pos c6, mK_l]; rfl
  rw [if_neg c6, if_neg c6, show (6 : Int) + 1 = 7 from rfl]
  rw [e7]
  by_cases c7 : tWd B n p = [108, 101, 97, 115, 116]
  · rw [if_pos c7, if_pos c7, mK_l]; rfl
  rw [if_neg c7, if_neg c7, show (7 : Int) + 1 = 8 from rfl]
  rw [e8]
  by_cases c8 : tWd B n p = [108, 105, 107, 101]
  · rw [if_pos c8, if_pos c8, mK_l]; rfl
  rw [if_neg c8, if_neg c8, show (8 : Int) + 1 = 9 from rfl]
  rw [e9]
  by_cases c9 : tWd B n p = [103, 114, 101, 97, 116, 101, 114]
  · rw [if_pos c9, if_pos c9, mK_l]; rfl
  rw [if_neg c9, if_neg c9, show (9 : Int) + 1 = 10 from rfl]
  rw [last, mK_r, if_pos rfl]
end PU
