/-! PURE: the reference is asked. -/
/-- what a question of the reference rests on -/
def brd (h : mm_H) : Prop := ∀ j : Int, 0 ≤ j → j ≤ 16 → h 497 j = 0 ∧ h 497 (17 * j) = 0
def mHib (h : mm_H) (A : aG) : Prop := mHis h A ∧ brd h
def QT (w : mm_W) (h : mm_H) (A : aG) : Prop := MW w ∧ MH h ∧ mHib h A ∧ RM (h 484) (gNow A) ∧ mFr h (gNow A)
/-- what it may change -/
def MN (h h' : mm_H) : Prop := (∀ b : Int, qRow b → b ≠ 484 → b ≠ 497 → h' b = h b) ∧ ∀ i : Int, qFd i → h' 483 i = h 483 i
theorem MN_rf (h : mm_H) : MN h h := ⟨fun _ _ _ _ => rfl, fun _ _ => rfl⟩
theorem MN_tr {a b c : mm_H} (x : MN a b) (y : MN b c) : MN a c := ⟨fun q h1 h2 h3 => (y.1 q h1 h2 h3).trans (x.1 q h1 h2 h3), fun i hi => (y.2 i hi).trans (x.2 i hi)⟩
theorem MN_QM {h h' : mm_H} (o : QM h h') : MN h h' := ⟨fun b hb _ _ => o.1 b hb, o.2⟩
theorem MN_FQ {h h' : mm_H} (o : FQ h h') : MN h h' := MN_QM (FQ_QM o)
theorem QM_tk (h : mm_H) (n : Int) : QM h (mTk h n) := ⟨fun b hb => mTk_row h n hb.1, fun i hi => mTk_o h n (by unfold qFd at hi; omega)⟩
theorem MN_MH {h h' : mm_H} (o : MN h h') (hM : MH h) : MH h' := MH_fr hM (fun i hi => o.2 i (by unfold mRef at hi; unfold qFd; omega))
theorem MN_His {h h' : mm_H} {A : aG} (o : MN h h') (hc : mHis h A) : mHis h' A := mHis_fr hc (fun i hi => o.2 i (by unfold qFd; omega)) (o.1 485 (by unfold qRow; omega) (by decide) (by decide))
theorem iC_eq {P Q : Prop} {a b : Int} (h : P ↔ Q) : iC P a b = iC Q a b := by
  by_cases c : P
  · rw [iC_t c, iC_t (h.mp c)]
  · rw [iC_f c, iC_f (fun x => c (h.mpr x))]
section PU
variable {d : Nat} {w : mm_W} {h : mm_H} {A : aG}
theorem QT_I (hT : QT w h A) : aI (gNow A) := (hT.2.2.1.1.2.2.2 (gD A) hT.2.2.1.1.2.2.1.1 (by have := hT.2.2.1.1.2.2.1; omega)).2
theorem QT_QM {h' : mm_H} (hT : QT w h A) (o : QM h h') (hF : mFr h' (gNow A)) : QT w h' A := ⟨hT.1, QM_MH o hT.2.1, ⟨MN_His (MN_QM o) hT.2.2.1.1, fun j j0 j1 => by rw [o.1 497 (by unfold qRow; omega)]; exact hT.2.2.1.2 j j0 j1⟩, QM_RM o hT.2.2.2.1, hF⟩
theorem QT_FQ {h' : mm_H} (hT : QT w h A) (o : FQ h h') (hF : mFs h' (gNow A)) : QT w h' A := QT_QM hT (FQ_QM o) (fun _ => hF.2)
theorem QT_tk (hT : QT w h A) (n : Int) : QT w (mTk h n) A := QT_QM hT (QM_tk h n) (by
  unfold mFr HCs HC
  rw [mTk_o h n (by omega), mTk_row h n (by decide)]
  exact hT.2.2.2.2)
theorem T_cell (hd : 1 ≤ d) (hT : QT w h A) {n : Int} (hn : n < 2147483648) : mm_P d 227 [(2, 483), (0, n)] w h = some ((0, bI (isCell (aHi (gNow A)) (aWi (gNow A)) n)), w, h) := by
  rw [E_M_isCell hd hT.1 hT.2.1 hn, hT.2.2.2.1.1.1, hT.2.2.2.1.1.2.1]
theorem n100 {n : Int} (h0 : 0 ≤ n) (h1 : n < 2147483648) : mI (Int.tdiv n 100) = n / 100 ∧ Int.tmod n 100 = n % 100 := by
  rw [Int.tdiv_eq_ediv_of_nonneg h0, Int.tmod_eq_emod_of_nonneg h0, mI_id (by omega) (by omega)]
  exact ⟨rfl, rfl⟩
theorem E_M_shown (hd : 30 ≤ d) (hT : QT w h A) {n : Int} (hn : n < 2147483648) (p : Int) : ∃ h', mm_P d 287 [(2, 483), (0, n), (0, p)] w h = some ((0, fShown A n p), w, h') ∧ QT w h' A ∧ MN h h' := by
  obtain ⟨d, rfl, hd2⟩ := mm_dS (show 29 + 1 ≤ d by omega)
  have hw : (w.1 483).1 = 13 := by rw [hT.1.1]
  have hI := QT_I hT
  unfold fShown
  rw [P_M_shown, mF_t hw, T_cell (by omega) hT hn, mC_s]
  by_cases c1 : isCell (aHi (gNow A)) (aWi (gNow A)) n
  rotate_left
  · rw [bI_f c1, mEq_t rfl, iC_f (fun x => c1 x.1)]
    exact ⟨h, rfl, hT, MN_rf h⟩
  rw [bI_t c1, mEq_f (by decide), E_M_isProperty (by omega), mC_s]
  by_cases c2 : 0 ≤ p ∧ p < 4
  rotate_left
  · rw [bI_f c2, mEq_t rfl, iC_f (fun x => c2 x.2)]
    exact ⟨h, rfl, hT, MN_rf h⟩
  rw [bI_t c2, mEq_f (by decide), mD_t (by decide), mD_t (by decide), mF_t hw, (n100 c1.1 hn).1, (n100 c1.1 hn).2, iC_t ⟨c1, c2⟩]
  unfold isCell at c1
  obtain ⟨h1, x1, x2, x3⟩ := E_M_shows (d := d) (by omega) hT.1 hI hT.2.1 hT.2.2.2.1 hT.2.2.2.2 c2 (r := n / 100) (c := n % 100) (by omega) (by omega)
  rw [x1, mC_s]
  exact ⟨h1, rfl, QT_FQ hT x2 x3, MN_FQ x2⟩
theorem E_M_by (hd : 30 ≤ d) (hT : QT w h A) {n : Int} (hn : n < 2147483648) (p : Int) : ∃ h', mm_P d 290 [(2, 483), (0, n), (0, p)] w h = some ((0, fBy A n p), w, h') ∧ QT w h' A ∧ MN h h' := by
  obtain ⟨d, rfl, hd2⟩ := mm_dS (show 29 + 1 ≤ d by omega)
  have hw : (w.1 483).1 = 13 := by rw [hT.1.1]
  have hI := QT_I hT
  have h16 := hI.1; have w16 := hI.2.1; have n6 := hI.2.2.1
  unfold fBy
  rw [P_M_by, mF_t hw, T_cell (by omega) hT hn, mC_s]
  by_cases c1 : isCell (aHi (gNow A)) (aWi (gNow A)) n
  rotate_left
  · rw [bI_f c1, mEq_t rfl, iC_f (fun x => c1 x.1)]
    exact ⟨h, rfl, hT, MN_rf h⟩
  rw [bI_t c1, mEq_f (by decide), E_M_isProperty (by omega), mC_s]
  by_cases c2 : 0 ≤ p ∧ p < 4
  rotate_left
  · rw [bI_f c2, mEq_t rfl, iC_f (fun x => c2 x.2)]
    exact ⟨h, rfl, hT, MN_rf h⟩
  rw [bI_t c2, mEq_f (by decide), mD_t (by decide), mD_t (by decide), (n100 c1.1 hn).1, (n100 c1.1 hn).2, iC_t ⟨c1, c2⟩]
  try dsimp only
  unfold isCell at c1
  generalize hr : n / 100 = r at c1
  generalize hcc : n % 100 = c at c1
  have c0 : 0 ≤ r ∧ 0 ≤ c := by omega
  obtain ⟨h1, x1, x2, x3⟩ := E_M_showing (d := d) (by omega) hT.1 hI hT.2.1 hT.2.2.2.1 hT.2.2.2.2 (p := p) (r := r) (c := c) (by omega) (by omega)
  have T1 := QT_FQ hT x2 x3
  have sA := srcA_in hI p r c
  have R1 := T1.2.2.2.1
  rw [mF_t hw, x1, mC_s]
  refine ⟨h1, ?_, T1, MN_FQ x2⟩
  unfold fromA frm
  by_cases c3 : srcA (gNow A) p r c = -1
  rotate_left
  · rw [mEq_f c3, if_pos (by omega), mI_id (by omega) (by omega)]
  rw [mEq_t c3, if_neg (by omega), mF_t hw, E_M_own (by omega) hT.1 T1.2.1 c2 (by omega) (by omega), mC_s, R1.2.2.1 p r c c2.1 c2.2 c0.1 (by omega) c0.2 (by omega)]
  by_cases c4 : aCel (gNow A) p r c = -1
  rotate_left
  · rw [mEq_f c4, if_pos c4]
  rw [mEq_t c4, if_neg (fun x => x c4), mF_t hw, E_M_lined (by omega) (Or.inl rfl) c2 (by omega) (by omega), mC_s, T1.2.1.1, mA_t hT.1.2.1 (by omega) (by omega), show 7 + 64 * 0 + 16 * p + r = 7 + 16 * p + r by omega, R1.2.2.2.1 p r c2.1 c2.2 c0.1 (by omega)]
  by_cases c5 : aLin (gNow A) 0 p r = -1
  rotate_left
  · rw [mEq_f c5, if_pos c5]
  rw [mEq_t c5, if_neg (fun x => x c5), mF_t hw, E_M_lined (by omega) (Or.inr rfl) c2 (by omega) (by omega), mC_s, mA_t hT.1.2.1 (by omega) (by omega), show 7 + 64 * 1 + 16 * p + c = 71 + 16 * p + c by omega, R1.2.2.2.2.1 p c c2.1 c2.2 c0.2 (by omega)]
  by_cases c6 : aLin (gNow A) 1 p c = -1
  · rw [mEq_t c6, if_neg (fun x => x c6)]
  · rw [mEq_f c6, if_pos c6]
theorem E_M_under (hd : 30 ≤ d) (hT : QT w h A) {n : Int} (hn : n < 2147483648) (p q : Int) : mm_P d 289 [(2, 483), (0, n), (0, p), (0, q)] w h = some ((0, fUnder A n p q), w, h) := by
  obtain ⟨d, rfl, hd2⟩ := mm_dS (show 29 + 1 ≤ d by omega)
  have hw : (w.1 483).1 = 13 := by rw [hT.1.1]
  have hI := QT_I hT
  have R1 := hT.2.2.2.1
  have h16 := hI.1; have w16 := hI.2.1; have n6 := hI.2.2.1
  unfold fUnder
  rw [P_M_under, mF_t hw, T_cell (by omega) hT hn, mC_s]
  by_cases c1 : isCell (aHi (gNow A)) (aWi (gNow A)) n
  rotate_left
  · rw [bI_f c1, mEq_t rfl, iC_f (fun x => c1 x.1)]
  rw [bI_t c1, mEq_f (by decide), E_M_isProperty (by omega), mC_s]
  by_cases c2 : 0 ≤ p ∧ p < 4
  rotate_left
  · rw [bI_f c2, mEq_t rfl, iC_f (fun x => c2 x.2.1)]
  rw [bI_t c2, mEq_f (by decide), E_M_in (by omega), mC_s]
  by_cases c3 : 0 ≤ q ∧ q ≤ 4
  rotate_left
  · rw [bI_f c3, mEq_t rfl, iC_f (fun x => c3 x.2.2)]
  rw [bI_t c3, mEq_f (by decide), mD_t (by decide), mD_t (by decide), (n100 c1.1 hn).1, (n100 c1.1 hn).2, iC_t ⟨c1, c2, c3⟩]
  try dsimp only
  unfold isCell at c1
  generalize hr : n / 100 = r at c1
  generalize hcc : n % 100 = c at c1
  have c0 : 0 ≤ r ∧ 0 ≤ c := by omega
  unfold undA num
  by_cases q0 : q = 0
  · rw [mEq_t q0, if_pos q0, if_neg (by decide), mF_t hw, E_M_own (by omega) hT.1 hT.2.1 c2 (by omega) (by omega), mC_s, R1.2.2.1 p r c c2.1 c2.2 c0.1 (by omega) c0.2 (by omega)]
    by_cases c4 : aCel (gNow A) p r c = -1
    · rw [mEq_t c4, if_neg (fun x => x c4), mF_t hw, E_M_beneath (by omega) hT.1 hT.2.1 hI R1 c2 (by omega) (by omega), mC_s]
    · rw [mEq_f c4, if_pos c4, mF_t hw, E_M_own (by omega) hT.1 hT.2.1 c2 (by omega) (by omega), mC_s, R1.2.2.1 p r c c2.1 c2.2 c0.1 (by omega) c0.2 (by omega)]
  rw [mEq_f q0, if_neg q0]
  by_cases q1 : q = 1
  · rw [mEq_t q1, if_pos q1, mF_t hw, E_M_own (by omega) hT.1 hT.2.1 c2 (by omega) (by omega), mC_s, R1.2.2.1 p r c c2.1 c2.2 c0.1 (by omega) c0.2 (by omega)]
  rw [mEq_f q1, if_neg q1]
  by_cases q2 : q = 2
  · rw [mEq_t q2, if_pos q2, mF_t hw, E_M_lined (by omega) (Or.inl rfl) c2 (by omega) (by omega), mC_s, hT.2.1.1, mA_t hT.1.2.1 (by omega) (by omega), show 7 + 64 * 0 + 16 * p + r = 7 + 16 * p + r by omega, R1.2.2.2.1 p r c2.1 c2.2 c0.1 (by omega)]
  rw [mEq_f q2, if_neg q2]
  by_cases q3 : q = 3
  · rw [mEq_t q3, if_pos q3, mF_t hw, E_M_lined (by omega) (Or.inr rfl) c2 (by omega) (by omega), mC_s, hT.2.1.1, mA_t hT.1.2.1 (by omega) (by omega), show 7 + 64 * 1 + 16 * p + c = 71 + 16 * p + c by omega, R1.2.2.2.2.1 p c c2.1 c2.2 c0.2 (by omega)]
  rw [mEq_f q3, if_neg q3, mF_t hw, E_M_beneath (by omega) hT.1 hT.2.1 hI R1 c2 (by omega) (by omega), mC_s]
theorem E_M_valueAt (hd : 30 ≤ d) (hT : QT w h A) {n : Int} (hn : n < 2147483648) : mm_P d 291 [(2, 483), (0, n)] w h = some ((0, fValueAt A n), w, h) := by
  obtain ⟨d, rfl, hd2⟩ := mm_dS (show 29 + 1 ≤ d by omega)
  have hw : (w.1 483).1 = 13 := by rw [hT.1.1]
  have hI := QT_I hT
  unfold fValueAt
  rw [P_M_valueAt, mF_t hw, T_cell (by omega) hT hn, mC_s]
  by_cases c1 : isCell (aHi (gNow A)) (aWi (gNow A)) n
  rotate_left
  · rw [bI_f c1, mEq_t rfl, iC_f c1]
  rw [bI_t c1, mEq_f (by decide), mD_t (by decide), mD_t (by decide), mF_t hw, (n100 c1.1 hn).1, (n100 c1.1 hn).2, iC_t c1]
  unfold isCell at c1
  rw [E_M_val (by omega) hT.1 hT.2.1 hI hT.2.2.2.1 (by omega) (by omega), mC_s]
theorem E_M_holds (hd : 30 ≤ d) (hT : QT w h A) {n : Int} (hn : n < 2147483648) (k : Int) : ∃ h', mm_P d 292 [(2, 483), (0, k), (0, n)] w h = some ((0, fHolds A k n), w, h') ∧ QT w h' A ∧ MN h h' := by
  obtain ⟨d, rfl, hd2⟩ := mm_dS (show 29 + 1 ≤ d by omega)
  have hw : (w.1 483).1 = 13 := by rw [hT.1.1]
  have hI := QT_I hT
  have h16 := hI.1; have w16 := hI.2.1; have n6 := hI.2.2.1
  unfold fHolds
  rw [P_M_holds, mF_t hw, E_M_isRule (by omega) hT.1 hT.2.1 k (by rw [hT.2.2.2.1.1.2.2]; omega), mC_s, hT.2.2.2.1.1.2.2]
  by_cases c0 : 0 ≤ k ∧ k < aN (gNow A)
  rotate_left
  · rw [bI_f c0, mEq_t rfl, iC_f (fun x => c0 x.1)]
    exact ⟨h, rfl, hT, MN_rf h⟩
  rw [bI_t c0, mEq_f (by decide), mF_t hw, T_cell (by omega) hT hn, mC_s]
  by_cases c1 : isCell (aHi (gNow A)) (aWi (gNow A)) n
  rotate_left
  · rw [bI_f c1, mEq_t rfl, iC_f (fun x => c1 x.2)]
    exact ⟨h, rfl, hT, MN_rf h⟩
  rw [bI_t c1, mEq_f (by decide), mF_t hw]
  obtain ⟨h1, x1, x2, x3⟩ := E_M_freshen (d := d) (by omega) hT.1 hI hT.2.1 hT.2.2.2.1 hT.2.2.2.2
  have T1 := QT_FQ hT x2 x3
  have c1' := c1
  unfold isCell at c1'
  have e := x3.2 k (n / 100) (n % 100) c0.1 c0.2 (by omega) (by omega) (by omega) (by omega)
  unfold HC at e
  rw [x1, mC_s, mF_t hw, mD_t (by decide), mD_t (by decide), (n100 c1.1 hn).1, (n100 c1.1 hn).2, E_M_grid (by omega) (by omega) (by omega) (by omega) (by omega), mC_s, MH_26 T1.2.1, mI_id (x := 256 * k) (by omega) (by omega), mI_id (x := 256 * k + (16 * (n / 100) + n % 100)) (by omega) (by omega), mAb_t (MW_494 hT.1) (Or.inl rfl) (by omega) (by omega), ← Int.add_assoc, e, iC_t ⟨c0, c1⟩]
  refine ⟨h1, ?_, T1, MN_FQ x2⟩
  by_cases c2 : hldA (gNow A) k (n / 100) (n % 100)
  · rw [bI_t c2, mEq_f (by decide)]
  · rw [bI_f c2, mEq_t rfl]
end PU
