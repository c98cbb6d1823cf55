/-! PURE: the reference is asked of its cover. -/
section CV
variable {f : Int → Int → Int} {wi hi : Int}
theorem kSt_ok {k : Int} (h0 : 0 ≤ k) (h1 : k < cvN f wi hi) : ((kSt f wi k : Nat) : Int) < 16 * hi ∧ stG f wi ((kSt f wi k : Nat) : Int) = 1 ∧ cnQ f wi (kSt f wi k) = k := by
  obtain ⟨n, n1, n2, n3⟩ := cnQ_ex h0 (16 * hi).toNat h1
  rw [kSt_eq n2 n3]
  exact ⟨by omega, n2, n3⟩
/-- a rectangle has the cells that lie in it -/
theorem cv_has (hs : wi ≤ 16) {k r c : Int} (h0 : 0 ≤ k) (h1 : k < cvN f wi hi) (hr : 0 ≤ r ∧ r < hi) (hc : 0 ≤ c ∧ c < wi) : ((cvD f wi hi (kSt f wi k) 0 ≤ r ∧ r ≤ cvD f wi hi (kSt f wi k) 2) ∧ cvD f wi hi (kSt f wi k) 1 ≤ c ∧ c ≤ cvD f wi hi (kSt f wi k) 3) ↔ own f wi r c = k := by
  obtain ⟨n0, n1, n2⟩ := kSt_ok h0 h1
  obtain ⟨s1, s2⟩ := stG_1.mp n1
  generalize hn : kSt f wi k = n at *
  have ha : 0 ≤ (n : Int) % 16 ∧ (n : Int) % 16 < wi := by omega
  have hi0 : 0 ≤ (n : Int) / 16 ∧ (n : Int) / 16 < hi := by omega
  show (((n : Int) / 16 ≤ r ∧ r ≤ dwn f wi hi ((n : Int) / 16) ((n : Int) % 16)) ∧ (n : Int) % 16 ≤ c ∧ c ≤ re f wi ((n : Int) / 16) ((n : Int) % 16)) ↔ _
  constructor
  · rintro ⟨x, y⟩
    obtain ⟨u1, u2, u3, u4⟩ := St_in ha s2 hi0 x
    rw [own_eq u1 y, if_neg (by rw [u2]; exact s2.1), u4, show (16 * ((n : Int) / 16) + (n : Int) % 16).toNat = n by omega, n2]
  · intro e
    obtain ⟨r1, r2, r3, r4⟩ := rs_ok (f := f) (wi := wi) (i := r) hc
    have r0 := r1.1
    by_cases q : f r c = -1
    · unfold own at e
      rw [if_pos q] at e
      omega
    · obtain ⟨t1, t2, t3, t4, t5⟩ := tp_St (hi := hi) hr r1 (by rw [r4]; exact q)
      unfold own at e
      rw [if_neg q] at e
      obtain ⟨T, hT⟩ : ∃ T : Nat, (T : Int) = 16 * tp f wi r (rs f r c) + rs f r c := ⟨(16 * tp f wi r (rs f r c) + rs f r c).toNat, by omega⟩
      rw [show (16 * tp f wi r (rs f r c) + rs f r c).toNat = T by omega] at e
      have hTs : stG f wi (T : Int) = 1 := by rw [hT, stG_at (by omega)]; exact bI_t ⟨by omega, t1⟩
      have eT := cnQ_inj hTs n1 (by rw [e, n2])
      have e1 : (n : Int) / 16 = tp f wi r (rs f r c) := by omega
      have e2 : (n : Int) % 16 = rs f r c := by omega
      rw [e1, e2, t5]
      exact ⟨⟨t2.2, t3⟩, r2, r3⟩
theorem own_in (hs : wi ≤ 16) {r c : Int} (hr : 0 ≤ r ∧ r < hi) (hc : 0 ≤ c ∧ c < wi) : own f wi r c = -1 ∨ (0 ≤ own f wi r c ∧ own f wi r c < cvN f wi hi) := by
  by_cases q : f r c = -1
  · unfold own; rw [if_pos q]; exact Or.inl rfl
  · obtain ⟨r1, r2, r3, r4⟩ := rs_ok (f := f) (wi := wi) (i := r) hc
    have r0 := r1.1
    obtain ⟨t1, t2, t3, t4, t5⟩ := tp_St (hi := hi) hr r1 (by rw [r4]; exact q)
    obtain ⟨T, hT⟩ : ∃ T : Nat, (T : Int) = 16 * tp f wi r (rs f r c) + rs f r c := ⟨(16 * tp f wi r (rs f r c) + rs f r c).toNat, by omega⟩
    have hTs : stG f wi (T : Int) = 1 := by rw [hT, stG_at (by omega)]; exact bI_t ⟨by omega, t1⟩
    have lt := cnQ_lt (f := f) (wi := wi) (show T < (16 * hi).toNat by omega) hTs
    have b := cnQ_in (f := f) (wi := wi) T
    unfold own cvN
    rw [if_neg q, show (16 * tp f wi r (rs f r c) + rs f r c).toNat = T by omega]
    exact Or.inr ⟨b.1, lt⟩
/-- what a rectangle's numbers may be -/
theorem cvD_in (hs : 0 ≤ hi ∧ hi ≤ 16) (hw : wi ≤ 16) {k : Int} (h0 : 0 ≤ k) (h1 : k < cvN f wi hi) : (0 ≤ cvD f wi hi (kSt f wi k) 0 ∧ cvD f wi hi (kSt f wi k) 0 ≤ cvD f wi hi (kSt f wi k) 2 ∧ cvD f wi hi (kSt f wi k) 2 < hi) ∧ (0 ≤ cvD f wi hi (kSt f wi k) 1 ∧ cvD f wi hi (kSt f wi k) 1 ≤ cvD f wi hi (kSt f wi k) 3 ∧ cvD f wi hi (kSt f wi k) 3 < wi) ∧ cvD f wi hi (kSt f wi k) 4 = f (cvD f wi hi (kSt f wi k) 0) (cvD f wi hi (kSt f wi k) 1) ∧ cvD f wi hi (kSt f wi k) 4 ≠ -1 := by
  obtain ⟨n0, n1, n2⟩ := kSt_ok h0 h1
  obtain ⟨s1, s2⟩ := stG_1.mp n1
  generalize hn : kSt f wi k = n at *
  have ha : 0 ≤ (n : Int) % 16 ∧ (n : Int) % 16 < wi := by omega
  have hi0 : 0 ≤ (n : Int) / 16 ∧ (n : Int) / 16 < hi := by omega
  have hR := St_R ha s2
  have dd := (dwn_ok (f := f) (wi := wi) (hi := hi) (a := (n : Int) % 16) (hi - 1 - (n : Int) / 16).toNat ((n : Int) / 16) _ (by omega) hR).1
  show (0 ≤ (n : Int) / 16 ∧ (n : Int) / 16 ≤ dwn f wi hi ((n : Int) / 16) ((n : Int) % 16) ∧ dwn f wi hi ((n : Int) / 16) ((n : Int) % 16) < hi) ∧ (0 ≤ (n : Int) % 16 ∧ (n : Int) % 16 ≤ re f wi ((n : Int) / 16) ((n : Int) % 16) ∧ re f wi ((n : Int) / 16) ((n : Int) % 16) < wi) ∧ f ((n : Int) / 16) ((n : Int) % 16) = f ((n : Int) / 16) ((n : Int) % 16) ∧ f ((n : Int) / 16) ((n : Int) % 16) ≠ -1
  have h3 := hR.1
  exact ⟨by omega, by omega, rfl, s2.1⟩
end CV
section PU
variable {d : Nat} {w : mm_W} {h : mm_H} {s : aS} {A : aG}
theorem QT_CQ {h' : mm_H} (hT : QT w h A) (o : CQ h h') : QT w h' A := QT_QM hT (CQ_QM o) (by
  have h3 := hT.2.2.2.2
  unfold mFr HCs HC at h3 ⊢
  rw [o.2 4 (by decide), o.1 494 (by decide) (by decide)]
  exact h3)
theorem E_M_rects (hd : 30 ≤ d) (hT : QT w h A) (p : Int) : ∃ h', mm_P d 297 [(2, 483), (0, p)] w h = some ((0, fRects A p), w, h') ∧ QT w h' A ∧ MN h h' := by
  obtain ⟨d, rfl, hd2⟩ := mm_dS (show 29 + 1 ≤ d by omega)
  have hw : (w.1 483).1 = 13 := by rw [hT.1.1]
  unfold fRects
  rw [P_M_rects, E_M_isProperty (by omega), mC_s]
  by_cases c1 : 0 ≤ p ∧ p < 4
  rotate_left
  · rw [bI_f c1, mEq_t rfl, iC_f c1]
    exact ⟨h, rfl, hT, MN_rf h⟩
  obtain ⟨h1, x1, x2, x3⟩ := E_M_coversOf (d := d) (by omega) hT.1 (QT_I hT) c1 hT.2.1 hT.2.2.2.1
  rw [bI_t c1, mEq_f (by decide), mF_t hw, x1, mC_s, mF_t hw, x3.1, iC_t c1]
  exact ⟨h1, rfl, QT_CQ hT x2, MN_QM (CQ_QM x2)⟩
theorem E_M_rect (hd : 30 ≤ d) (hT : QT w h A) (p k q : Int) : ∃ h', mm_P d 298 [(2, 483), (0, p), (0, k), (0, q)] w h = some ((0, fRect A p k q), w, h') ∧ QT w h' A ∧ MN h h' := by
  obtain ⟨d, rfl, hd2⟩ := mm_dS (show 29 + 1 ≤ d by omega)
  have hw : (w.1 483).1 = 13 := by rw [hT.1.1]
  have hI := QT_I hT
  have i1 := hI.1; have i2 := hI.2.1
  unfold fRect
  rw [P_M_rect, E_M_isProperty (by omega), mC_s]
  by_cases c1 : 0 ≤ p ∧ p < 4
  rotate_left
  · rw [bI_f c1, mEq_t rfl, iC_f (fun x => c1 x.1)]
    exact ⟨h, rfl, hT, MN_rf h⟩
  rw [bI_t c1, mEq_f (by decide)]
  by_cases c2 : 0 ≤ k
  rotate_left
  · rw [mLt_t (by omega), iC_f (fun x => c2 x.2.1)]
    exact ⟨h, rfl, hT, MN_rf h⟩
  rw [mLt_f c2, E_M_in (by omega), mC_s]
  by_cases c3 : q = 0 ∨ q = 1
  rotate_left
  · rw [bI_f (by omega), mEq_t rfl, iC_f (fun x => c3 x.2.2)]
    exact ⟨h, rfl, hT, MN_rf h⟩
  obtain ⟨h1, x1, x2, x3, x4⟩ := E_M_coversOf (d := d) (by omega) hT.1 hI c1 hT.2.1 hT.2.2.2.1
  have T1 := QT_CQ hT x2
  have o1 := MN_QM (CQ_QM x2)
  have nb := cvN_in (f := aCel (gNow A) p) (wi := aWi (gNow A)) (hi := aHi (gNow A)) ⟨by omega, i1.2⟩
  rw [bI_t (by omega), mEq_f (by decide), mF_t hw, x1, mC_s, mF_t hw, x3, iC_t ⟨c1, c2, c3⟩]
  unfold rcA cvP
  by_cases c4 : k < cvN (aCel (gNow A) p) (aWi (gNow A)) (aHi (gNow A))
  rotate_left
  · rw [mLt_f (by omega), iC_f c4]
    exact ⟨h1, rfl, T1, o1⟩
  have y0 := x4 k c2 c4 0 (by decide) (by decide)
  have y1 := x4 k c2 c4 1 (by decide) (by decide)
  have y2 := x4 k c2 c4 2 (by decide) (by decide)
  have y3 := x4 k c2 c4 3 (by decide) (by decide)
  have y4 := x4 k c2 c4 4 (by decide) (by decide)
  rw [Int.add_zero] at y0
  have di := cvD_in (f := aCel (gNow A) p) (wi := aWi (gNow A)) (hi := aHi (gNow A)) ⟨by omega, i1.2⟩ i2.2 c2 c4
  rw [mLt_t c4, iC_t c4]
  by_cases q1 : q = 1
  · rw [mEq_t q1, if_neg (by omega), mF_t hw, MH_31 T1.2.1, mI_id (x := 5 * k) (by omega) (by omega), mI_id (x := 5 * k + 4) (by omega) (by omega), mA_t (MW_496 hT.1) (by omega) (by omega), y4]
    exact ⟨h1, rfl, T1, o1⟩
  · rw [mEq_f q1, if_pos (by omega)]
    simp only [mF_t hw]
    rw [MH_31 T1.2.1, mI_id (x := 5 * k) (by omega) (by omega), mI_id (x := 5 * k + 1) (by omega) (by omega), mI_id (x := 5 * k + 2) (by omega) (by omega), mI_id (x := 5 * k + 3) (by omega) (by omega), mA_t (MW_496 hT.1) (by omega) (by omega), mA_t (MW_496 hT.1) (by omega) (by omega), mA_t (MW_496 hT.1) (by omega) (by omega), mA_t (MW_496 hT.1) (by omega) (by omega), y0, y1, y2, y3]
    generalize cvD (aCel (gNow A) p) (aWi (gNow A)) (aHi (gNow A)) (kSt (aCel (gNow A) p) (aWi (gNow A)) k) 0 = z0 at di ⊢
    generalize cvD (aCel (gNow A) p) (aWi (gNow A)) (aHi (gNow A)) (kSt (aCel (gNow A) p) (aWi (gNow A)) k) 1 = z1 at di ⊢
    generalize cvD (aCel (gNow A) p) (aWi (gNow A)) (aHi (gNow A)) (kSt (aCel (gNow A) p) (aWi (gNow A)) k) 2 = z2 at di ⊢
    generalize cvD (aCel (gNow A) p) (aWi (gNow A)) (aHi (gNow A)) (kSt (aCel (gNow A) p) (aWi (gNow A)) k) 3 = z3 at di ⊢
    obtain ⟨d1, d2, -⟩ := di
    unfold rectC
    rw [mI_id (x := 1000000 * z0) (by omega) (by omega), mI_id (x := 10000 * z1) (by omega) (by omega), mI_id (x := 1000000 * z0 + 10000 * z1) (by omega) (by omega), mI_id (x := 100 * z2) (by omega) (by omega), mI_id (x := 1000000 * z0 + 10000 * z1 + 100 * z2) (by omega) (by omega), mI_id (by omega) (by omega), if_pos (by omega)]
    exact ⟨h1, rfl, T1, o1⟩
theorem L_mlies (hd : 1 ≤ d) (hW : MW w) (hI : aI s) (hH : MH h) {p n : Int} (hC : CMd h s p) (hn : isCell (aHi s) (aWi s) n) (hm : n < 2147483648) : ∀ (m : Nat) (k : Int), 0 ≤ k → k + m = cvP s p → (own (aCel s p) (aWi s) (n / 100) (n % 100) = -1 → ∃ L, l_M_lies_0 (mm_P d) 483 n p k w h = some (.inr (105, L, w, h))) ∧ (k ≤ own (aCel s p) (aWi s) (n / 100) (n % 100) → l_M_lies_0 (mm_P d) 483 n p k w h = some (.inl ((0, own (aCel s p) (aWi s) (n / 100) (n % 100)), w, h))) := by
  have hw : (w.1 483).1 = 13 := by rw [hW.1]
  have i1 := hI.1; have i2 := hI.2.1
  have hn' := hn
  unfold isCell at hn'
  have nb := cvN_in (f := aCel s p) (wi := aWi s) (hi := aHi s) ⟨by omega, i1.2⟩
  have oi := own_in (f := aCel s p) (hi := aHi s) i2.2 (r := n / 100) (c := n % 100) (by omega) (by omega)
  unfold cvP
  intro m
  induction m with
  | zero =>
    intro k k0 hk
    rw [l_M_lies_0_eq, mF_t hw, hC.1, mLe_t (by omega)]
    exact ⟨fun _ => ⟨_, rfl⟩, fun x => by omega⟩
  | succ m ih =>
    intro k k0 hk
    obtain ⟨g1, g2⟩ := ih (k + 1) (by omega) (by omega)
    have kl : k < cvN (aCel s p) (aWi s) (aHi s) := by omega
    have y0 := hC.2 k k0 kl 0 (by decide) (by decide)
    have y1 := hC.2 k k0 kl 1 (by decide) (by decide)
    have y2 := hC.2 k k0 kl 2 (by decide) (by decide)
    have y3 := hC.2 k k0 kl 3 (by decide) (by decide)
    rw [Int.add_zero] at y0
    have has := cv_has (f := aCel s p) (hi := aHi s) i2.2 k0 kl (r := n / 100) (c := n % 100) (by omega) (by omega)
    rw [l_M_lies_0_eq, mF_t hw, hC.1, mLe_f kl, mD_t (by decide), mF_t hw, MH_31 hH, mI_id (x := 5 * k) (by omega) (by omega), mA_t (MW_496 hW) (by omega) (by omega), mF_t hw, mI_id (x := 5 * k + 2) (by omega) (by omega), mA_t (MW_496 hW) (by omega) (by omega), y0, y2, (n100 hn.1 hm).1, E_M_in hd, mC_s, mI_id (x := k + 1) (by omega) (by omega)]
    by_cases c1 : cvD (aCel s p) (aWi s) (aHi s) (kSt (aCel s p) (aWi s) k) 0 ≤ n / 100 ∧ n / 100 ≤ cvD (aCel s p) (aWi s) (aHi s) (kSt (aCel s p) (aWi s) k) 2
    rotate_left
    · have ne : own (aCel s p) (aWi s) (n / 100) (n % 100) ≠ k := fun x => c1 (has.mpr x).1
      rw [bI_f c1, mEq_t rfl]
      exact ⟨g1, fun x => g2 (by omega)⟩
    rw [bI_t c1, mEq_f (by decide), mD_t (by decide), mF_t hw, MH_31 hH, mI_id (x := 5 * k + 1) (by omega) (by omega), mA_t (MW_496 hW) (by omega) (by omega), mF_t hw, mI_id (x := 5 * k + 3) (by omega) (by omega), mA_t (MW_496 hW) (by omega) (by omega), y1, y3, (n100 hn.1 hm).2, E_M_in hd, mC_s]
    by_cases c2 : cvD (aCel s p) (aWi s) (aHi s) (kSt (aCel s p) (aWi s) k) 1 ≤ n % 100 ∧ n % 100 ≤ cvD (aCel s p) (aWi s) (aHi s) (kSt (aCel s p) (aWi s) k) 3
    · have e := has.mp ⟨c1, c2⟩
      rw [bI_t c2, mEq_f (by decide), e]
      exact ⟨fun x => by omega, fun _ => rfl⟩
    · have ne : own (aCel s p) (aWi s) (n / 100) (n % 100) ≠ k := fun x => c2 (has.mpr x).2
      rw [bI_f c2, mEq_t rfl]
      exact ⟨g1, fun x => g2 (by omega)⟩
theorem E_M_lies (hd : 30 ≤ d) (hT : QT w h A) {n : Int} (hn : n < 2147483648) (p : Int) : ∃ h', mm_P d 299 [(2, 483), (0, n), (0, p)] w h = some ((0, fLies A n p), w, h') ∧ QT w h' A ∧ MN h h' := by
  obtain ⟨d, rfl, hd2⟩ := mm_dS (show 29 + 1 ≤ d by omega)
  have hw : (w.1 483).1 = 13 := by rw [hT.1.1]
  have hI := QT_I hT
  have i1 := hI.1; have i2 := hI.2.1
  unfold fLies
  rw [P_M_lies, mF_t hw, T_cell (by omega) hT hn, mC_s]
  by_cases c0 : isCell (aHi (gNow A)) (aWi (gNow A)) n
  rotate_left
  · rw [bI_f c0, mEq_t rfl, iC_f (fun x => c0 x.1)]
    exact ⟨h, rfl, hT, MN_rf h⟩
  rw [bI_t c0, mEq_f (by decide), E_M_isProperty (by omega), mC_s]
  by_cases c1 : 0 ≤ p ∧ p < 4
  rotate_left
  · rw [bI_f c1, mEq_t rfl, iC_f (fun x => c1 x.2)]
    exact ⟨h, rfl, hT, MN_rf h⟩
  obtain ⟨h1, x1, x2, x3⟩ := E_M_coversOf (d := d) (by omega) hT.1 hI c1 hT.2.1 hT.2.2.2.1
  have T1 := QT_CQ hT x2
  have o1 := MN_QM (CQ_QM x2)
  have c0' := c0
  unfold isCell at c0'
  have nb := cvN_in (f := aCel (gNow A) p) (wi := aWi (gNow A)) (hi := aHi (gNow A)) ⟨by omega, i1.2⟩
  obtain ⟨g1, g2⟩ := L_mlies (d := d) (by omega) hT.1 hI T1.2.1 x3 c0 hn (cvP (gNow A) p).toNat 0 (Int.le_refl _) (by unfold cvP; omega)
  rw [bI_t c1, mEq_f (by decide), mF_t hw, x1, mC_s, iC_t ⟨c0, c1⟩]
  refine ⟨h1, ?_, T1, o1⟩
  rcases own_in (f := aCel (gNow A) p) (hi := aHi (gNow A)) i2.2 (r := n / 100) (c := n % 100) (by omega) (by omega) with e | e
  · obtain ⟨L, g⟩ := g1 e
    rw [g, mK_r, if_pos rfl, e]
  · rw [g2 e.1, mK_l]
end PU
