/-! PURE: the reference is asked of other sheets than the one as it is. -/
theorem sumN_app {f : Int → Int} : ∀ (a b : Nat) (i : Int), sumN f (a + b) i = sumN f a i + sumN f b (i + a) := by
  intro a
  induction a with
  | zero =>
    intro b i
    have e : sumN f 0 i = 0 := rfl
    rw [Nat.zero_add, e, show i + ((0 : Nat) : Int) = i by omega]; omega
  | succ a ih =>
    intro b i
    have e : sumN f (a + 1) i = f i + sumN f a (i + 1) := rfl
    have e2 : sumN f (a + 1 + b) i = f i + sumN f (a + b) (i + 1) := by
      rw [show a + 1 + b = a + b + 1 by omega]; rfl
    rw [e, e2, ih, show i + 1 + (a : Int) = i + ((a + 1 : Nat) : Int) by omega]; omega
theorem sumN_shift {f g : Int → Int} {a : Int} : ∀ (m : Nat) (i : Int), (∀ j : Int, i ≤ j → j < i + m → f (a + j) = g j) → sumN f m (a + i) = sumN g m i := by
  intro m
  induction m with
  | zero => intro i _; rfl
  | succ m ih =>
    intro i h
    have e1 : sumN f (m + 1) (a + i) = f (a + i) + sumN f m (a + i + 1) := rfl
    have e2 : sumN g (m + 1) i = g i + sumN g m (i + 1) := rfl
    rw [e1, e2, h i (Int.le_refl _) (by omega), show a + i + 1 = a + (i + 1) by omega, ih (i + 1) (fun j j0 j1 => h j (by omega) (by omega))]
theorem sumZ {f : Int → Int} (m : Nat) (i : Int) (h : ∀ j : Int, i ≤ j → j < i + m → f j = 0) : sumN f m i = 0 := by
  have := sumN_le (f := f) (a := 0) (b := 0) m i (fun j j0 j1 => by rw [h j j0 j1]; omega)
  omega
/-- a sum over a flat row of places -/
theorem sum_flat {f : Int → Int} {g : Int → Int → Int} {hi wi : Nat} (h1 : hi ≤ 16) (h2 : wi ≤ 16) (hf : ∀ r c : Int, 0 ≤ r → r < hi → 0 ≤ c → c < wi → f (16 * r + c) = g r c) (hz : ∀ r c : Int, 0 ≤ r → r < 16 → 0 ≤ c → c < 16 → (hi ≤ r ∨ wi ≤ c) → f (16 * r + c) = 0) : sumN f 256 0 = sum2 g hi wi 0 0 := by
  have row : ∀ r : Int, 0 ≤ r → r < 16 → sumN f 16 (16 * r) = sumN (fun c => if r < hi ∧ c < wi then g r c else 0) 16 0 := fun r r0 r1 => by
    have := sumN_shift (f := f) (g := fun c => if r < hi ∧ c < wi then g r c else 0) (a := 16 * r) 16 0 (fun j j0 j1 => by
      by_cases c : r < hi ∧ j < wi
      · show f (16 * r + j) = if r < hi ∧ j < wi then g r j else 0
        rw [if_pos c, hf r j r0 c.1 j0 c.2]
      · show f (16 * r + j) = if r < hi ∧ j < wi then g r j else 0
        rw [if_neg c, hz r j r0 r1 j0 (by omega) (by omega)])
    rw [Int.add_zero] at this
    exact this
  have rows : ∀ (m : Nat) (r : Int), 0 ≤ r → r + m ≤ 16 → sumN f (16 * m) (16 * r) = sumN (fun r => sumN (fun c => if r < hi ∧ c < wi then g r c else 0) 16 0) m r := by
    intro m
    induction m with
    | zero => intro r _ _; rfl
    | succ m ih =>
      intro r r0 r1
      have e : sumN (fun r => sumN (fun c => if r < hi ∧ c < wi then g r c else 0) 16 0) (m + 1) r = sumN (fun c => if r < hi ∧ c < wi then g r c else 0) 16 0 + sumN (fun r => sumN (fun c => if r < hi ∧ c < wi then g r c else 0) 16 0) m (r + 1) := rfl
      rw [show 16 * (m + 1) = 16 + 16 * m by omega, sumN_app, row r r0 (by omega), e, ← ih (r + 1) (by omega) (by omega), show 16 * r + ((16 : Nat) : Int) = 16 * (r + 1) by omega]
  have z := rows 16 0 (by decide) (by decide)
  have z : sumN f 256 0 = _ := z
  rw [z]
  have e16 : 16 = hi + (16 - hi) := by omega
  have w16 : 16 = wi + (16 - wi) := by omega
  have cols : ∀ r : Int, 0 ≤ r → r < hi → sumN (fun c => if r < hi ∧ c < wi then g r c else 0) 16 0 = sumN (fun c => g r c) wi 0 := fun r r0 r1 => by
    rw [w16, sumN_app, sumZ (16 - wi) _ (fun j j0 j1 => if_neg (by omega)), Int.add_zero]
    exact sumN_congr wi 0 (fun j j0 j1 => if_pos ⟨r1, by omega⟩)
  have step : sumN (fun r => sumN (fun c => if r < hi ∧ c < wi then g r c else 0) 16 0) 16 0 = sumN (fun r => sumN (fun c => if r < hi ∧ c < wi then g r c else 0) 16 0) hi 0 := by
    have a := sumN_app (f := fun r => sumN (fun c => if r < hi ∧ c < wi then g r c else 0) 16 0) hi (16 - hi) 0
    have b := sumZ (f := fun r => sumN (fun c => if r < hi ∧ c < wi then g r c else 0) 16 0) (16 - hi) (0 + hi) (fun j j0 j1 => sumZ 16 0 (fun c _ _ => if_neg (by omega)))
    rw [show hi + (16 - hi) = 16 by omega, b] at a
    omega
  rw [step]
  exact sumN_congr hi 0 (fun r r0 r1 => cols r r0 (by omega))
section PU
variable {d : Nat} {w : mm_W} {h : mm_H} {s : aS} {A : aG}
theorem MH_38 (hH : MH h) : h 483 38 = 501 := hH.2.2.2.2.2.2.2.2.2.2.2.2.2.2.2.2.2.1
theorem MW_501 (hW : MW w) : w.1 501 = (50, 256) := hW.2.2.2.2.2.2.2.2.2.2.2.2.2.2.2.2.2.2.1
theorem d16 {i : Int} (h0 : 0 ≤ i) (h1 : i < 256) : mI (Int.tdiv i 16) = i / 16 ∧ Int.tmod i 16 = i % 16 := by
  rw [Int.tdiv_eq_ediv_of_nonneg h0, Int.tmod_eq_emod_of_nonneg h0, mI_id (by omega) (by omega)]
  exact ⟨rfl, rfl⟩
theorem L_mdf0 (hd : 15 ≤ d) (hW : MW w) (hI : aI s) : ∀ (m : Nat) (i : Int) (h : mm_H), KQ h s → 0 ≤ i → i + m = 256 → ∃ h', l_M_differs_0 (mm_P d) 483 i w h = some (.inr (105, [(2, 483), (0, 256), (9, 0)], w, h')) ∧ QM h h' ∧ KQ h' s ∧ (∀ j : Int, j < i → h' 501 j = h 501 j) ∧ ∀ j : Int, i ≤ j → j < 256 → j / 16 < aHi s → j % 16 < aWi s → h' 501 j = lookA s (j / 16) (j % 16) := by
  have hw : (w.1 483).1 = 13 := by rw [hW.1]
  have i1 := hI.1; have i2 := hI.2.1
  intro m
  induction m with
  | zero =>
    intro i h hK a1 a2
    rw [l_M_differs_0_eq, mLe_t (by omega), show i = 256 by omega]
    exact ⟨h, rfl, QM_rf h, hK, fun _ _ => rfl, fun j j0 j1 => by omega⟩
  | succ m ih =>
    intro i h hK a1 a2
    have fin : ∀ (h1 : mm_H) (z : Int), QM h h1 → KQ h1 s → h1 501 = h 501 → (i / 16 < aHi s → i % 16 < aWi s → z = lookA s (i / 16) (i % 16)) → ∃ h', l_M_differs_0 (mm_P d) 483 (i + 1) w (mUp h1 501 i z) = some (.inr (105, [(2, 483), (0, 256), (9, 0)], w, h')) ∧ QM h h' ∧ KQ h' s ∧ (∀ j : Int, j < i → h' 501 j = h 501 j) ∧ ∀ j : Int, i ≤ j → j < 256 → j / 16 < aHi s → j % 16 < aWi s → h' 501 j = lookA s (j / 16) (j % 16) := by
      intro h1 z o1 k1 e1 hz
      obtain ⟨h', g1, g2, g3, g4, g5⟩ := ih (i + 1) (mUp h1 501 i z) (KQ_up k1 (by decide)) (by omega) (by omega)
      refine ⟨h', g1, QM_tr (QM_tr o1 (QM_row (by unfold qRow; omega) (by decide))) g2, g3, fun j hj => by rw [g4 j (by omega), mUp_n (Or.inr (by omega)), e1], fun j j0 j1 j2 j3 => ?_⟩
      by_cases e : j = i
      · rw [e] at j2 j3 ⊢
        rw [g4 i (by omega), mUp_s, hz j2 j3]
      · exact g5 j (by omega) j1 j2 j3
    have e1 : mI (i + 1) = i + 1 := mI_id (by omega) (by omega)
    have dd := d16 a1 (by omega)
    rw [l_M_differs_0_eq, mLe_f (by omega), mF_t hw, mD_t (by decide), mF_t hw, hK.1.1, mA_t hW.2.1 (by omega) (by omega), hK.2.1.1.1, dd.1, e1, MH_38 hK.1]
    by_cases c1 : i / 16 < aHi s
    rotate_left
    · rw [mLe_t (by omega), mAw_t (MW_501 hW) (by omega) (by omega) (by decide)]
      exact fin h 0 (QM_rf h) hK rfl (fun x _ => absurd x c1)
    rw [mLe_f (by omega), mD_t (by decide), mF_t hw, mA_t hW.2.1 (by omega) (by omega), hK.2.1.1.2.1, dd.2]
    by_cases c2 : i % 16 < aWi s
    rotate_left
    · rw [mLe_t (by omega), mAw_t (MW_501 hW) (by omega) (by omega) (by decide)]
      exact fin h 0 (QM_rf h) hK rfl (fun _ x => absurd x c2)
    obtain ⟨h1, x1, x2, x3⟩ := E_M_look hd hW hI hK.1 hK.2.1 hK.2.2 (r := i / 16) (c := i % 16) (by omega) (by omega)
    rw [mLe_f (by omega), mD_t (by decide), mD_t (by decide), mF_t hw, x1, mC_s, mAw_t (MW_501 hW) (by omega) (by omega) (by decide)]
    exact fin h1 _ (FQ_QM x2) (KQ_FQ hK x2 x3) (x2.1 501 (by decide) (by decide) (by decide)) (fun _ _ => rfl)
noncomputable def dfF (s : aS) (L : Int → Int) (i : Int) : Int := iC (i / 16 < aHi s ∧ i % 16 < aWi s) (bI (L i ≠ lookA s (i / 16) (i % 16))) 0
theorem L_mdf1 (hd : 15 ≤ d) (hW : MW w) (hI : aI s) {L : Int → Int} : ∀ (m : Nat) (i acc : Int) (h : mm_H), KQ h s → (∀ j : Int, 0 ≤ j → j < 256 → j / 16 < aHi s → j % 16 < aWi s → h 501 j = L j) → 0 ≤ i → i + m = 256 → 0 ≤ acc → acc + m < 1000 → ∃ h', l_M_differs_1 (mm_P d) 483 acc i w h = some (.inr (190, [(2, 483), (0, acc + sumN (dfF s L) m i), (0, 256)], w, h')) ∧ FQ h h' ∧ KQ h' s := by
  have hw : (w.1 483).1 = 13 := by rw [hW.1]
  have i1 := hI.1; have i2 := hI.2.1
  intro m
  induction m with
  | zero =>
    intro i acc h hK hL a1 a2 a3 a4
    rw [l_M_differs_1_eq, mLe_t (by omega), show i = 256 by omega]
    have e : sumN (dfF s L) 0 256 = 0 := rfl
    rw [e, Int.add_zero]
    exact ⟨h, rfl, FQ_rf h, hK⟩
  | succ m ih =>
    intro i acc h hK hL a1 a2 a3 a4
    have e : sumN (dfF s L) (m + 1) i = dfF s L i + sumN (dfF s L) m (i + 1) := rfl
    have e1 : mI (i + 1) = i + 1 := mI_id (by omega) (by omega)
    have e2 : mI (acc + 1) = acc + 1 := mI_id (by omega) (by omega)
    have e3 : mI (acc + 0) = acc := by rw [Int.add_zero]; exact mI_id (by omega) (by omega)
    have dd := d16 a1 (by omega)
    have same : dfF s L i = 0 → ∃ h', l_M_differs_1 (mm_P d) 483 acc (i + 1) w h = some (.inr (190, [(2, 483), (0, acc + sumN (dfF s L) (m + 1) i), (0, 256)], w, h')) ∧ FQ h h' ∧ KQ h' s := fun z => by
      rw [e, z, Int.zero_add]
      exact ih (i + 1) acc h hK hL (by omega) (by omega) a3 (by omega)
    rw [l_M_differs_1_eq, mLe_f (by omega), mD_t (by decide), mF_t hw, hK.1.1, mA_t hW.2.1 (by omega) (by omega), hK.2.1.1.1, dd.1, e1, e2, e3]
    by_cases c1 : i / 16 < aHi s
    rotate_left
    · rw [mLe_t (by omega)]
      exact same (iC_f (fun x => c1 x.1))
    rw [mLe_f (by omega), mD_t (by decide), mF_t hw, mA_t hW.2.1 (by omega) (by omega), hK.2.1.1.2.1, dd.2]
    by_cases c2 : i % 16 < aWi s
    rotate_left
    · rw [mLe_t (by omega)]
      exact same (iC_f (fun x => c2 x.2))
    obtain ⟨h1, x1, x2, x3⟩ := E_M_look hd hW hI hK.1 hK.2.1 hK.2.2 (r := i / 16) (c := i % 16) (by omega) (by omega)
    have K1 := KQ_FQ hK x2 x3
    have e501 : h1 501 = h 501 := x2.1 501 (by decide) (by decide) (by decide)
    have L1 : ∀ j : Int, 0 ≤ j → j < 256 → j / 16 < aHi s → j % 16 < aWi s → h1 501 j = L j := fun j j0 j1 j2 j3 => by rw [e501]; exact hL j j0 j1 j2 j3
    have ed : dfF s L i = bI (L i ≠ lookA s (i / 16) (i % 16)) := iC_t ⟨c1, c2⟩
    rw [mLe_f (by omega), mD_t (by decide), mD_t (by decide), mF_t hw, x1, mC_s, mF_t hw, MH_38 K1.1, mA_t (MW_501 hW) (by omega) (by omega), L1 i a1 (by omega) c1 c2, e, ed]
    by_cases q : lookA s (i / 16) (i % 16) = L i
    · obtain ⟨h2, y1, y2, y3⟩ := ih (i + 1) acc h1 K1 L1 (by omega) (by omega) a3 (by omega)
      rw [mEq_t q, bI_f (fun x => x q.symm), y1, Int.zero_add]
      exact ⟨h2, rfl, FQ_tr x2 y2, y3⟩
    · obtain ⟨h2, y1, y2, y3⟩ := ih (i + 1) (acc + 1) h1 K1 L1 (by omega) (by omega) (by omega) (by omega)
      rw [mEq_f q, bI_t (fun x => q x.symm), y1, Int.add_assoc]
      exact ⟨h2, rfl, FQ_tr x2 y2, y3⟩
theorem E_M_differs (hd : 30 ≤ d) (hT : QT w h A) (hi : mImg h A) : ∃ h', mm_P d 313 [(2, 483)] w h = some ((0, fDiffers A), w, h') ∧ QT w h' A ∧ MN h h' := by
  obtain ⟨d, rfl, hd2⟩ := mm_dS (show 29 + 1 ≤ d by omega)
  have hw : (w.1 483).1 = 13 := by rw [hT.1.1]
  have hI := QT_I hT
  have i1 := hI.1; have i2 := hI.2.1
  have h5 : h 483 5 = 486 := hT.2.1.2.2.1
  have W486 : w.1 486 = (50, 3863) := hT.1.2.2.2.1
  unfold fDiffers
  rw [P_M_differs, mF_t hw, hi.1]
  by_cases c0 : gIk A = 0
  · rw [mEq_t c0, iC_t c0]
    exact ⟨h, rfl, hT, MN_rf h⟩
  obtain ⟨rI, aII⟩ := hi.2.2 (by have := hi.2.1; omega)
  rw [mEq_f c0, iC_f c0, mF_t hw, h5, mA_t W486 (by omega) (by omega), mF_t hw, hT.2.1.1, mA_t hT.1.2.1 (by omega) (by omega), rI.1.1, hT.2.2.2.1.1.1]
  by_cases c1 : aHi (gI A) = aHi (gNow A)
  rotate_left
  · rw [mEq_f c1, iC_f (fun x => c1 x.1.symm)]
    exact ⟨h, rfl, hT, MN_rf h⟩
  rw [mEq_t c1, mF_t hw, mA_t W486 (by omega) (by omega), mF_t hw, mA_t hT.1.2.1 (by omega) (by omega), rI.1.2.1, hT.2.2.2.1.1.2.1]
  by_cases c2 : aWi (gI A) = aWi (gNow A)
  rotate_left
  · rw [mEq_f c2, iC_f (fun x => c2 x.2.symm)]
    exact ⟨h, rfl, hT, MN_rf h⟩
  obtain ⟨h1, x1, x2, x3, x4, x5⟩ := L_mdf0 (d := d) (by omega) hT.1 hI 256 0 h (QT_KQ hT) (Int.le_refl _) (by decide)
  rw [mEq_t c2, iC_t ⟨c1.symm, c2.symm⟩, x1, mK_r, if_pos rfl]
  simp only [mP_0, mF_t hw]
  obtain ⟨h2, y1, y2, y3⟩ := E_M_aside (d := d) (by omega) hT.1 x3.1
  have H2 : MH h2 := MH_fr x3.1 (fun i _ => by rw [y2 483 (by decide)])
  have e5 : h2 483 5 = 486 := H2.2.2.1
  obtain ⟨h3, u1, u2, u3, u4, u5⟩ := E_M_becomes (d := d) (by omega) hT.1 H2 W486 (by decide) (p := 0) (by decide)
  have H3 : MH h3 := MH_fr H2 (fun i hi => u3 i (by unfold mRef at hi; omega))
  have R3 : RM (h3 484) (gI A) := RM_ext aII rI (fun j j0 j1 => by rw [u5 j j0 j1, y2 486 (by decide), x2.1 486 (by unfold qRow; omega), Int.zero_add])
  have K3 : KQ h3 (gI A) := ⟨H3, R3, fun x => absurd u4 x⟩
  obtain ⟨h4, z1, z2, z3⟩ := L_mdf1 (d := d) (by omega) hT.1 aII (L := fun j => lookA (gNow A) (j / 16) (j % 16)) 256 0 0 h3 K3 (fun j j0 j1 j2 j3 => by rw [u2 501 (by decide) (by decide), y2 501 (by decide)]; exact x5 j j0 j1 (by omega) (by omega)) (Int.le_refl _) (by decide) (Int.le_refl _) (by decide)
  rw [y1, mC_s, e5, u1, mC_s, z1, mK_r, if_pos rfl]
  simp only [mP_0, mP_1, mF_t hw]
  have e7 : h4 483 7 = 487 := z3.1.2.2.2.1
  obtain ⟨h6, v1, v2, v3, v4, v5⟩ := E_M_becomes (d := d) (by omega) hT.1 z3.1 hT.1.2.2.2.2.1 (by decide) (p := 0) (by decide)
  have ag : mm_P d 224 [(2, 483)] w h4 = some ((9, 0), w, h6) := by
    obtain ⟨d, rfl, hd3⟩ := mm_dS (show 28 + 1 ≤ d by omega)
    obtain ⟨h6', v1', v2', v3', v4', v5'⟩ := E_M_becomes (d := d) (h := h4) (by omega) hT.1 z3.1 hT.1.2.2.2.2.1 (by decide) (p := 0) (by decide)
    have b1 : mm_P (d + 1) 218 [(2, 483), (2, 487), (0, 0)] w h4 = mm_P d 218 [(2, 483), (2, 487), (0, 0)] w h4 := by
      obtain ⟨d, rfl, hd4⟩ := mm_dS (show 27 + 1 ≤ d by omega)
      rw [P_M_becomes, P_M_becomes]
    rw [P_M_again, mF_t hw, mF_t hw, e7, ← b1, v1, mC_s]
  rw [ag, mC_s]
  have o : MN h h6 := ⟨fun b hb b4 b7 => by
    rw [v2 b (by unfold qRow at hb; omega) b4, z2.1 b (by unfold qRow at hb; omega) (by unfold qRow at hb; omega) (by unfold qRow at hb; omega), u2 b (by unfold qRow at hb; omega) b4, y2 b (by unfold qRow at hb; omega), x2.1 b hb], fun i hi => by
    rw [v3 i (by unfold qFd at hi; omega), z2.2 i (by unfold qFd at hi; omega) (by unfold qFd at hi; omega) (by unfold qFd at hi; omega) (by unfold qFd at hi; omega), u3 i (by unfold qFd at hi; omega), y2 483 (by decide), x2.2 i hi]⟩
  have e497 : h6 497 = h 497 := by rw [v2 497 (by decide) (by decide), z2.1 497 (by decide) (by decide) (by decide), u2 497 (by decide) (by decide), y2 497 (by decide), x2.1 497 (by unfold qRow; omega)]
  have R6 : RM (h6 484) (gNow A) := RM_ext hI hT.2.2.2.1 (fun j j0 j1 => by rw [v5 j j0 j1, z2.1 487 (by decide) (by decide) (by decide), u2 487 (by decide) (by decide), Int.zero_add, y3 j j0 j1, x2.1 484 (by unfold qRow; omega)])
  refine ⟨h6, ?_, ⟨hT.1, MN_MH o hT.2.1, ⟨MN_His o hT.2.2.1.1, fun j j0 j1 => by rw [e497]; exact hT.2.2.1.2 j j0 j1⟩, R6, fun x => absurd v4 x⟩, o⟩
  rw [Int.zero_add, sum_flat (f := dfF (gI A) (fun j => lookA (gNow A) (j / 16) (j % 16))) (g := fun r c => bI (lookA (gNow A) r c ≠ lookA (gI A) r c)) (hi := (aHi (gNow A)).toNat) (wi := (aWi (gNow A)).toNat) (by omega) (by omega) (fun r c r0 r1 c0 c1 => by
    have e1 : (16 * r + c) / 16 = r := by omega
    have e2 : (16 * r + c) % 16 = c := by omega
    unfold dfF
    rw [e1, e2, iC_t (by omega)]
    show bI (lookA (gNow A) ((16 * r + c) / 16) ((16 * r + c) % 16) ≠ lookA (gI A) r c) = _
    rw [e1, e2]) (fun r c r0 r1 c0 c1 hh => by
    have e1 : (16 * r + c) / 16 = r := by omega
    have e2 : (16 * r + c) % 16 = c := by omega
    unfold dfF
    rw [e1, e2, iC_f (by omega)])]
theorem E_M_shownK (hd : 16 ≤ d) (hW : MW w) (hI : aI s) (hK : KQ h s) {n p : Int} (c1 : isCell (aHi s) (aWi s) n) (hn : n < 2147483648) (hp : 0 ≤ p ∧ p < 4) : ∃ h', mm_P d 287 [(2, 483), (0, n), (0, p)] w h = some ((0, numA s p (n / 100) (n % 100)), w, h') ∧ FQ h h' ∧ KQ h' s := by
  obtain ⟨d, rfl, hd2⟩ := mm_dS (show 15 + 1 ≤ d by omega)
  have hw : (w.1 483).1 = 13 := by rw [hW.1]
  have c1' := c1
  unfold isCell at c1'
  obtain ⟨h1, x1, x2, x3⟩ := E_M_shows (d := d) (by omega) hW hI hK.1 hK.2.1 hK.2.2 hp (r := n / 100) (c := n % 100) (by omega) (by omega)
  rw [P_M_shown, mF_t hw, E_M_isCell (by omega) hW hK.1 hn, hK.2.1.1.1, hK.2.1.1.2.1, mC_s, bI_t c1, mEq_f (by decide), E_M_isProperty (by omega), mC_s, bI_t hp, mEq_f (by decide), mD_t (by decide), mD_t (by decide), mF_t hw, (n100 c1.1 hn).1, (n100 c1.1 hn).2, x1, mC_s]
  exact ⟨h1, rfl, x2, KQ_FQ hK x2 x3⟩
theorem E_M_before (hd : 30 ≤ d) (hT : QT w h A) {n : Int} (hn : n < 2147483648) (k p : Int) : ∃ h', mm_P d 288 [(2, 483), (0, k), (0, n), (0, p)] w h = some ((0, fBefore A k n p), w, h') ∧ QT w h' A ∧ MN h h' := by
  obtain ⟨d, rfl, hd2⟩ := mm_dS (show 29 + 1 ≤ d by omega)
  have hw : (w.1 483).1 = 13 := by rw [hT.1.1]
  have hI := QT_I hT
  obtain ⟨q1, q2, q3, q4⟩ := hT.2.2.1.1
  have W485 : w.1 485 = (50, 119753) := hT.1.2.2.1
  unfold fBefore
  rw [P_M_before, mF_t hw, q1, E_M_in (by omega), mC_s]
  by_cases c1 : 0 ≤ k ∧ k ≤ gD A
  rotate_left
  · rw [bI_f c1, mEq_t rfl, iC_f (fun x => c1 x.1)]
    exact ⟨h, rfl, hT, MN_rf h⟩
  rw [bI_t c1, mEq_f (by decide)]
  by_cases c3 : n < 0
  · rw [mLt_t c3, iC_f (by omega)]
    exact ⟨h, rfl, hT, MN_rf h⟩
  have dd := n100 (show 0 ≤ n by omega) hn
  rw [mLt_f (by omega), mD_t (by decide), dd.1]
  by_cases c4 : n / 100 < 16
  rotate_left
  · rw [mLe_t (by omega), iC_f (by omega)]
    exact ⟨h, rfl, hT, MN_rf h⟩
  rw [mLe_f (by omega), mD_t (by decide), dd.2]
  by_cases c5 : n % 100 < 16
  rotate_left
  · rw [mLe_t (by omega), iC_f (by omega)]
    exact ⟨h, rfl, hT, MN_rf h⟩
  rw [mLe_f (by omega), E_M_isProperty (by omega), mC_s]
  by_cases c2 : 0 ≤ p ∧ p < 4
  rotate_left
  · rw [bI_f c2, mEq_t rfl, iC_f (fun x => c2 x.2.1)]
    exact ⟨h, rfl, hT, MN_rf h⟩
  have h1' : h 483 1 = 485 := hT.2.1.2.1
  rw [bI_t c2, mEq_f (by decide), iC_t ⟨c1, c2, by omega, c4, c5⟩]
  simp only [mF_t hw]
  obtain ⟨h1, x1, x2, x3, x4, x5⟩ := E_M_becomes (d := d) (by omega) hT.1 hT.2.1 W485 (by decide) (p := k * 3863) (by omega)
  obtain ⟨rk, ak⟩ := q4 k c1.1 (by omega)
  have H1 : MH h1 := MH_fr hT.2.1 (fun i hi => x3 i (by unfold mRef at hi; omega))
  have K1 : KQ h1 (gH A k) := ⟨H1, RM_ext ak rk (fun j j0 j1 => x5 j j0 j1), fun x => absurd x4 x⟩
  rw [h1', mI_id (x := k * 3863) (by omega) (by omega), x1, mC_s, E_M_isCell (by omega) hT.1 H1 hn, K1.2.1.1.1, K1.2.1.1.2.1, mC_s]
  have fin : ∀ h2 : mm_H, FQ h1 h2 → KQ h2 (gH A k) → ∃ h3, mm_P d 218 [(2, 483), (2, h2 483 1), (0, mI (h2 483 2 * 3863))] w h2 = some ((9, 0), w, h3) ∧ QT w h3 A ∧ MN h h3 := by
    intro h2 o2 k2
    have e1 : h2 483 1 = 485 := k2.1.2.1
    have e2 : h2 483 2 = gD A := by rw [o2.2 2 (by decide) (by decide) (by decide) (by decide), x3 2 (by decide), q1]
    obtain ⟨h3, y1, y2, y3, y4, y5⟩ := E_M_becomes (d := d) (by omega) hT.1 k2.1 W485 (by decide) (p := gD A * 3863) (by omega)
    rw [e1, e2, mI_id (x := gD A * 3863) (by omega) (by omega)]
    obtain ⟨rg, ag⟩ := q4 (gD A) q3.1 (by omega)
    have o : MN h h3 := ⟨fun b hb b4 b7 => by
      rw [y2 b (by unfold qRow at hb; omega) b4, o2.1 b (by unfold qRow at hb; omega) (by unfold qRow at hb; omega) (by unfold qRow at hb; omega), x2 b (by unfold qRow at hb; omega) b4], fun i hi => by
      rw [y3 i (by unfold qFd at hi; omega), o2.2 i (by unfold qFd at hi; omega) (by unfold qFd at hi; omega) (by unfold qFd at hi; omega) (by unfold qFd at hi; omega), x3 i (by unfold qFd at hi; omega)]⟩
    have e497 : h3 497 = h 497 := by rw [y2 497 (by decide) (by decide), o2.1 497 (by decide) (by decide) (by decide), x2 497 (by decide) (by decide)]
    have R3 : RM (h3 484) (gNow A) := RM_ext ag rg (fun j j0 j1 => by rw [y5 j j0 j1, o2.1 485 (by decide) (by decide) (by decide), x2 485 (by decide) (by decide)])
    exact ⟨h3, y1, ⟨hT.1, MN_MH o hT.2.1, ⟨MN_His o hT.2.2.1.1, fun j j0 j1 => by rw [e497]; exact hT.2.2.1.2 j j0 j1⟩, R3, fun x => absurd y4 x⟩, o⟩
  by_cases c6 : isCell (aHi (gH A k)) (aWi (gH A k)) n
  · obtain ⟨h2, z1, z2, z3⟩ := E_M_shownK (d := d) (by omega) hT.1 ak K1 c6 hn c2
    obtain ⟨h3, f1, f2, f3⟩ := fin h2 z2 z3
    rw [bI_t c6, mEq_f (by decide), iC_t c6, z1, mC_s]
    simp only [mF_t hw]
    rw [f1, mC_s]
    exact ⟨h3, rfl, f2, f3⟩
  · obtain ⟨h3, f1, f2, f3⟩ := fin h1 (FQ_rf h1) K1
    rw [bI_f c6, mEq_t rfl, iC_f c6]
    simp only [mF_t hw]
    rw [f1, mC_s]
    exact ⟨h3, rfl, f2, f3⟩
end PU
