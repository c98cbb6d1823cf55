/-! PURE: run and tests of the reference. -/
def mPr (h : mm_H) (A : aG) : Prop := h 483 43 = gPn A ∧ (0 ≤ gPn A ∧ gPn A ≤ 4) ∧ ∀ k : Int, 0 ≤ k → k < gPn A → PM (fun j => h 504 (400 * k + j)) (h 505 k) (gP A k) ∧ prO (gP A k)
/-- a request was told, a run's counts aside -/
def mDn (h h' : mm_H) (A : aG) (s' : aS) : Prop := mHis h' (gAcc A s') ∧ RM (h' 484) s' ∧ (∀ b : Int, b ≠ 483 → b ≠ 484 → b ≠ 485 → b ≠ 487 → b ≠ 488 → b ≠ 489 → b ≠ 493 → h' b = h b) ∧ (∀ i : Int, i ≠ 2 → i ≠ 3 → i ≠ 4 → ¬ (8 ≤ i ∧ i < 12) → ¬ (46 ≤ i ∧ i < 51) → h' 483 i = h 483 i) ∧ h' 483 4 = 0
theorem mDn_of {h h' : mm_H} {A : aG} {s' : aS} (x : mDone h h' A s') : mDn h h' A s' := ⟨x.1, x.2.1, x.2.2.1, fun i a b c e _ => x.2.2.2.1 i a b c e, x.2.2.2.2⟩
/-- what a run leaves -/
def rNo (h h' : mm_H) : Prop := (∀ b : Int, b ≠ 483 → b ≠ 484 → b ≠ 487 → b ≠ 489 → h' b = h b) ∧ ∀ i : Int, i ≠ 4 → ¬ (46 ≤ i ∧ i < 51) → h' 483 i = h 483 i
/-- what a look at another sheet leaves -/
def LQ (h h' : mm_H) : Prop := (∀ b : Int, b ≠ 483 → b ≠ 494 → b ≠ 495 → b ≠ 498 → h' b = h b) ∧ ∀ i : Int, i ≠ 4 → i ≠ 28 → i ≠ 29 → i ≠ 30 → h' 483 i = h 483 i
theorem LQ_rf (h : mm_H) : LQ h h := ⟨fun _ _ _ _ _ => rfl, fun _ _ _ _ _ => rfl⟩
theorem LQ_tr {a b c : mm_H} (x : LQ a b) (y : LQ b c) : LQ a c := ⟨fun q h1 h2 h3 h4 => (y.1 q h1 h2 h3 h4).trans (x.1 q h1 h2 h3 h4), fun i h1 h2 h3 h4 => (y.2 i h1 h2 h3 h4).trans (x.2 i h1 h2 h3 h4)⟩
theorem LQ_FQ {h h' : mm_H} (o : FQ h h') : LQ h h' := ⟨fun b h1 h2 h3 _ => o.1 b h1 h2 h3, o.2⟩
section PU
variable {d : Nat} {w : mm_W} {h : mm_H} {A : aG} {s : aS} {k : Int}
theorem E_M_ran (hd : 45 ≤ d) (hT : QT w h A) (hp : mPr h A) (c : 0 ≤ k ∧ k < gPn A) : ∃ h', mm_P d 336 [(2, 483), (0, k)] w h = some ((0, ruAn (gP A k) (gNow A)), w, h') ∧ RM (h' 484) (ruS (gP A k) (gNow A)) ∧ (∀ j : Int, 0 ≤ j → j < 3863 → h' 487 j = h 484 j) ∧ h' 483 4 = 0 ∧ rNo h h' ∧ MH h' ∧ rOK (ruN (gP A k) (gNow A)) := by
  obtain ⟨d, rfl, hd2⟩ := mm_dS hd; clear hd; have hd := hd2; clear hd2
  have hT0 := hT
  obtain ⟨hW, hH, _, hR, _⟩ := hT
  have hw : (w.1 483).1 = 13 := by rw [hW.1]
  obtain ⟨p1, p2⟩ := hp.2.2 k c.1 c.2
  have p3 := hp.2.1
  obtain ⟨h1, a1, a2, a3⟩ := E_M_aside (d := d) (by omega) hW hH
  rw [P_M_ran, mF_t hw, a1, mC_s]
  simp only [mF_t hw, mZ_0]
  generalize hg : mUp (mUp (mUp (mUp (mUp h1 483 50 k) 483 46 0) 483 47 0) 483 48 0) 483 49 0 = h2
  have e : ∀ b : Int, b ≠ 483 → h2 b = h1 b := fun b hb => by rw [← hg, mUp_row hb, mUp_row hb, mUp_row hb, mUp_row hb, mUp_row hb]
  have ei : ∀ i : Int, ¬ (46 ≤ i ∧ i < 51) → h2 483 i = h1 483 i := fun i hi => by rw [← hg, mUp_n (Or.inr (by omega)), mUp_n (Or.inr (by omega)), mUp_n (Or.inr (by omega)), mUp_n (Or.inr (by omega)), mUp_n (Or.inr (by omega))]
  have f46 : h2 483 46 = 0 := by rw [← hg]; simp [mUp]
  have f47 : h2 483 47 = 0 := by rw [← hg]; simp [mUp]
  have f48 : h2 483 48 = 0 := by rw [← hg]; simp [mUp]
  have f49 : h2 483 49 = 0 := by rw [← hg]; simp [mUp]
  have f50 : h2 483 50 = k := by rw [← hg]; simp [mUp]
  have o1 : rNo h h2 := ⟨fun b x1 x2 x3 _ => by rw [e b x1, a2 b x3], fun i _ hi => by rw [ei i hi, a2 483 (by decide)]⟩
  have M2 : MH h2 := MH_fr hH (fun i hi => o1.2 i (by unfold mRef at hi; omega) (by unfold mRef at hi; omega))
  have hI : aI (gNow A) := QT_I hT0
  have X2 : YSt h2 (gNow A, 0, 0, 0, 0) k := ⟨⟨M2, by rw [e 484 (by decide), a2 484 (by decide)]; exact hR, hI, f48, f49, f50⟩, f46, f47, hI, (by decide : (0 : Int) ≤ 0 ∧ (0 : Int) ≤ 60), (by decide : -99 * (0 : Int) ≤ 0 ∧ (0 : Int) ≤ 99 * 0), (by decide : -99 * (0 : Int) ≤ 0 ∧ (0 : Int) ≤ 99 * 0), Or.inl rfl⟩
  have run : ∃ h', mm_P d 335 [(2, 483), (0, 0), (0, ((rfW (gP A k) : Nat) : Int))] w h2 = some ((9, 0), w, h') ∧ YSt h' (ruN (gP A k) (gNow A)) k ∧ YO h2 h' := by
    obtain ⟨d, rfl, hd2⟩ := mm_dS (show 43 + 1 ≤ d by omega)
    obtain ⟨h', y1, y2, y3⟩ := Y_run hW (k := k) (by omega) (fun j => h 504 (400 * k + j)) 201 4 (gP A k) 0 0 d (gNow A, 0, 0, 0, 0) h2 p2.1 p1.2 (fun j => by rw [o1.1 504 (by decide) (by decide) (by decide) (by decide)]) (by have := p2.2.1; omega) (by omega) X2
    rw [Nat.zero_add, show ((0 : Nat) : Int) = 0 from rfl] at y1
    rw [P_M_runs]
    rcases y1 with ⟨l, y1⟩ | y1
    · rw [y1, mK_r, if_pos rfl]
      exact ⟨h', rfl, y2, y3⟩
    · rw [y1, mK_l]
      exact ⟨h', rfl, y2, y3⟩
  obtain ⟨h3, y1, y2, y3⟩ := run
  have e5 : h2 505 k = ((rfW (gP A k) : Nat) : Int) := by rw [o1.1 505 (by decide) (by decide) (by decide) (by decide)]; exact p1.1
  have o3 : rNo h (mUp h3 483 4 0) := ⟨fun b x1 x2 x3 x4 => by rw [mUp_row x1, y3.1 b x1 x2 x4, o1.1 b x1 x2 x3 x4], fun i x1 x2 => by rw [mUp_n (Or.inr x1), y3.2 i (by omega), o1.2 i x1 x2]⟩
  have M3 : MH (mUp h3 483 4 0) := MH_fr hH (fun i hi => o3.2 i (by unfold mRef at hi; omega) (by unfold mRef at hi; omega))
  have e7 : ∀ j : Int, 0 ≤ j → j < 3863 → mUp h3 483 4 0 487 j = h 484 j := fun j j0 j1 => by rw [mUp_row (by decide), y3.1 487 (by decide) (by decide) (by decide), e 487 (by decide)]; exact a3 j j0 j1
  have tb := y2.2.2.2.2.1
  rw [MH_42 M2, mA_t (MW_505 hW) (by omega) (by omega), e5, y1, mC_s]
  simp only [mF_t hw]
  rw [mUp_n (Or.inr (by decide)), y2.2.2.1, mUp_n (Or.inr (by decide)), y2.2.1]
  unfold ruAn ruS
  by_cases br : rsB (ruN (gP A k) (gNow A)) = 0
  · rw [mEq_t br, if_pos br, if_pos br]
    exact ⟨_, rfl, by rw [mUp_row (by decide)]; exact y2.1.2.1, e7, mUp_s, o3, M3, y2.2.2.2⟩
  · obtain ⟨h4, z1, z2, z3, z4, z5⟩ := E_M_again (d := d) (by omega) hW M3
    rw [mEq_f br, if_neg br, if_neg br, z1, mC_s, mF_t hw, z3 46 (by decide), mUp_n (Or.inr (by decide)), y2.2.1, mI_id (x := -100 - rsT (ruN (gP A k) (gNow A))) (by omega) (by omega)]
    refine ⟨h4, rfl, RM_ext hI hR (fun j j0 j1 => by rw [z5 j j0 j1, e7 j j0 j1]), fun j j0 j1 => by rw [z2 487 (by decide) (by decide)]; exact e7 j j0 j1, z4, ⟨fun b x1 x2 x3 x4 => by rw [z2 b x1 x2, o3.1 b x1 x2 x3 x4], fun i x1 x2 => by rw [z3 i x1, o3.2 i x1 x2]⟩, MH_fr M3 (fun i hi => z3 i (by unfold mRef at hi; omega)), y2.2.2.2⟩
theorem E_M_run (hd : 60 ≤ d) (hT : QT w h A) (hp : mPr h A) (k : Int) : (¬ ruG A k ∧ ∃ h', mm_P d 337 [(2, 483), (0, k)] w h = some ((0, fRun A k), w, h') ∧ QT w h' A ∧ MN h h') ∨ (ruG A k ∧ ∃ h', mm_P d 337 [(2, 483), (0, k)] w h = some ((0, fRun A k), w, h') ∧ mDn h h' A (ruS (gP A k) (gNow A))) := by
  obtain ⟨d, rfl, hd2⟩ := mm_dS hd; clear hd; have hd := hd2; clear hd2
  have hT0 := hT
  obtain ⟨hW, hH, hHi, hR, _⟩ := hT
  have hw : (w.1 483).1 = 13 := by rw [hW.1]
  have p3 := hp.2.1
  unfold fRun
  rw [P_M_run, mF_t hw, hp.1, mI_id (x := gPn A - 1) (by omega) (by omega), E_M_in (by omega), mC_s]
  by_cases c : 0 ≤ k ∧ k < gPn A
  rotate_left
  · rw [bI_f (by omega), mEq_t rfl, iC_f c]
    exact Or.inl ⟨fun x => c x.1, h, rfl, hT0, MN_rf h⟩
  obtain ⟨h1, a1, a2, a3, a4, a5, a6, a7⟩ := E_M_ran (d := d) (by omega) hT0 hp c
  rw [bI_t (by omega), mEq_f (by decide), mF_t hw, a1, mC_s, mF_t hw, iC_t c]
  have tb := a7.2.1
  have Hi1 : mHis h1 A := mHis_fr hHi.1 (fun i hi => a5.2 i (by omega) (by omega)) (a5.1 485 (by decide) (by decide) (by decide) (by decide))
  by_cases br : rsB (ruN (gP A k) (gNow A)) = 0
  · have ea : ruAn (gP A k) (gNow A) = rsT (ruN (gP A k) (gNow A)) := if_pos br
    have es : ruS (gP A k) (gNow A) = rsS (ruN (gP A k) (gNow A)) := if_pos br
    rw [es] at a2 ⊢
    rw [ea]
    obtain ⟨h', g1, g2, g3, g4, g5⟩ := E_M_told (d := d) (by omega) hW a6 Hi1 a2 a7.1 (a := rsT (ruN (gP A k) (gNow A))) tb.1
    rw [g1, mC_s]
    exact Or.inr ⟨⟨c, br⟩, h', rfl, g2, by rw [g3 484 (by decide) (by decide)]; exact a2, fun b q3 q4 q5 q7 _ q9 _ => by rw [g3 b q3 q5, a5.1 b q3 q4 q7 q9], fun i i2 i3 i4 _ i46 => by rw [g4 i i2 i3 i4, a5.2 i i4 i46], g5⟩
  · have ea : ruAn (gP A k) (gNow A) = -100 - rsT (ruN (gP A k) (gNow A)) := if_neg br
    have es : ruS (gP A k) (gNow A) = gNow A := if_neg br
    rw [es] at a2
    rw [ea, E_M_told0 (by omega) (by omega), mC_s]
    have o : MN h h1 := ⟨fun b x1 x2 _ => a5.1 b x1.1 x2 x1.2.1 x1.2.2.1, fun i hi => a5.2 i hi.1 (by unfold qFd at hi; omega)⟩
    exact Or.inl ⟨fun x => br x.2, h1, rfl, ⟨hW, a6, ⟨Hi1, fun j j0 j1 => by rw [a5.1 497 (by decide) (by decide) (by decide) (by decide)]; exact hHi.2 j j0 j1⟩, a2, fun x => absurd a4 x⟩, o⟩
theorem L_mlkL (hd : 15 ≤ d) (hW : MW w) (hI : aI s) {r : Int} (hr : 0 ≤ r ∧ r < aHi s) : ∀ (m : Nat) (c acc : Int) (h : mm_H), KQ h s → metM h s r c → 0 ≤ c → c + m = aWi s → 0 ≤ acc → acc + m < 1000 → ∃ h', l_M_looks_2 (mm_P d) 483 acc r c w h = some (.inr (88, [(2, 483), (0, acc + sumN (fun c => bI (¬ seenA s r c (lookA s r c))) m c), (0, r), (0, aWi s), (9, 0)], w, h')) ∧ LQ h h' ∧ KQ h' s ∧ metM h' s r (aWi s) := by
  have hw : (w.1 483).1 = 13 := by rw [hW.1]
  have i1 := hI.1; have i2 := hI.2.1
  intro m
  induction m with
  | zero =>
    intro c acc h hK hM a1 a2 a3 a4
    rw [l_M_looks_2_eq, mF_t hw, hK.1.1, mA_t hW.2.1 (by omega) (by omega), hK.2.1.1.2.1, mLe_t (by omega)]
    have e : sumN (fun c => bI (¬ seenA s r c (lookA s r c))) 0 c = 0 := rfl
    have ec : c = aWi s := by omega
    rw [ec] at hM
    rw [e, ec, show acc + 0 = acc by omega]
    exact ⟨h, rfl, LQ_rf h, hK, hM⟩
  | succ m ih =>
    intro c acc h hK hM a1 a2 a3 a4
    have e : sumN (fun c => bI (¬ seenA s r c (lookA s r c))) (m + 1) c = bI (¬ seenA s r c (lookA s r c)) + sumN (fun c => bI (¬ seenA s r c (lookA s r c))) m (c + 1) := rfl
    have hl := lookA_in hI hr (c := c) (by omega)
    obtain ⟨h1, x1, x2, x3⟩ := E_M_look hd hW hI hK.1 hK.2.1 hK.2.2 hr (c := c) (by omega)
    have K1 := KQ_FQ hK x2 x3
    have M1 : metM h1 s r c := fun v v0 v1 => by rw [x2.1 498 (by decide) (by decide) (by decide)]; exact hM v v0 v1
    have K2 : KQ (mUp h1 498 (lookA s r c) 1) s := KQ_up K1 (by decide)
    have M2 : metM (mUp h1 498 (lookA s r c) 1) s r (c + 1) := fun v v0 v1 => by
      rw [bI_eq (seen_next (v := v) hr.1 (c := c) (by omega))]
      by_cases ev : v = lookA s r c
      · rw [ev, mUp_s, bI_t (Or.inr rfl)]
      · rw [mUp_n (Or.inr ev), M1 v v0 v1]
        exact bI_eq ⟨fun x => Or.inl x, fun x => x.resolve_right (fun y => ev y.symm)⟩
    have Q2 : LQ h (mUp h1 498 (lookA s r c) 1) := LQ_tr (LQ_FQ x2) ⟨fun b _ _ _ hb => mUp_row hb, fun i _ _ _ _ => mUp_n (Or.inl (by decide))⟩
    rw [l_M_looks_2_eq, mF_t hw, hK.1.1, mA_t hW.2.1 (by omega) (by omega), hK.2.1.1.2.1, mLe_f (by omega), mF_t hw, x1, mC_s, mF_t hw, MH_35 K1.1, mAb_t (MW_498 hW) (Or.inl rfl) (by omega) (by omega), M1 _ hl.1 (by omega), e]
    simp only [mF_t hw]
    rw [mZ_1, mZ_1, mA_t (MW_498 hW) (by omega) (by omega), mA_t (MW_498 hW) (by omega) (by omega), mI_id (x := c + 1) (by omega) (by omega), mI_id (x := acc + 1) (by omega) (by omega), mI_id (x := acc + 0) (by omega) (by omega), Int.add_zero]
    by_cases q : seenA s r c (lookA s r c)
    · obtain ⟨h2, y1, y2, y3, y4⟩ := ih (c + 1) acc _ K2 M2 (by omega) (by omega) (by omega) (by omega)
      rw [bI_t q, bI_f (fun x => x q), mEq_f (by decide), y1, Int.zero_add]
      exact ⟨h2, rfl, LQ_tr Q2 y2, y3, y4⟩
    · obtain ⟨h2, y1, y2, y3, y4⟩ := ih (c + 1) (acc + 1) _ K2 M2 (by omega) (by omega) (by omega) (by omega)
      rw [bI_f q, bI_t q, mEq_t rfl, y1, Int.add_assoc]
      exact ⟨h2, rfl, LQ_tr Q2 y2, y3, y4⟩
theorem L_mlkR (hd : 15 ≤ d) (hW : MW w) (hI : aI s) : ∀ (m : Nat) (r acc : Int) (h : mm_H), KQ h s → metM h s r 0 → 0 ≤ r → r + m = aHi s → 0 ≤ acc → acc + 16 * m < 900 → ∃ h', l_M_looks_1 (mm_P d) 483 acc r w h = some (.inr (94, [(2, 483), (0, acc + sumN (fun r => sumN (fun c => bI (¬ seenA s r c (lookA s r c))) (aWi s).toNat 0) m r), (0, aHi s), (9, 0), (9, 0)], w, h')) ∧ LQ h h' ∧ KQ h' s := by
  have hw : (w.1 483).1 = 13 := by rw [hW.1]
  have i1 := hI.1; have i2 := hI.2.1
  intro m
  induction m with
  | zero =>
    intro r acc h hK hM a1 a2 a3 a4
    rw [l_M_looks_1_eq, mF_t hw, hK.1.1, mA_t hW.2.1 (by omega) (by omega), hK.2.1.1.1, mLe_t (by omega)]
    have e : sumN (fun r => sumN (fun c => bI (¬ seenA s r c (lookA s r c))) (aWi s).toNat 0) 0 r = 0 := rfl
    rw [e, show r = aHi s by omega, show acc + 0 = acc by omega]
    exact ⟨h, rfl, LQ_rf h, hK⟩
  | succ m ih =>
    intro r acc h hK hM a1 a2 a3 a4
    have e : sumN (fun r => sumN (fun c => bI (¬ seenA s r c (lookA s r c))) (aWi s).toNat 0) (m + 1) r = sumN (fun c => bI (¬ seenA s r c (lookA s r c))) (aWi s).toNat 0 + sumN (fun r => sumN (fun c => bI (¬ seenA s r c (lookA s r c))) (aWi s).toNat 0) m (r + 1) := rfl
    have b := sumN_le (f := fun c => bI (¬ seenA s r c (lookA s r c))) (a := 0) (b := 1) (aWi s).toNat 0 (fun c _ _ => bI_le _)
    obtain ⟨h1, x1, x2, x3, x4⟩ := L_mlkL hd hW hI (r := r) (by omega) (aWi s).toNat 0 acc h hK hM (Int.le_refl _) (by omega) a3 (by omega)
    rw [l_M_looks_1_eq, mF_t hw, hK.1.1, mA_t hW.2.1 (by omega) (by omega), hK.2.1.1.1, mLe_f (by omega), x1, mK_r, if_pos rfl]
    simp only [mP_0, mP_1, mP_2, mP_3, mP_4, mP_5]
    rw [mI_id (x := r + 1) (by omega) (by omega)]
    have M1 : metM h1 s (r + 1) 0 := fun v v0 v1 => by rw [x4 v v0 v1]; exact bI_eq seen_row
    obtain ⟨h2, y1, y2, y3⟩ := ih (r + 1) (acc + sumN (fun c => bI (¬ seenA s r c (lookA s r c))) (aWi s).toNat 0) h1 x3 M1 (by omega) (by omega) (by omega) (by omega)
    rw [y1, e, Int.add_assoc]
    exact ⟨h2, rfl, LQ_tr x2 y2, y3⟩
theorem E_M_looksK (hd : 30 ≤ d) (hW : MW w) (hI : aI s) (hK : KQ h s) : ∃ h', mm_P d 310 [(2, 483)] w h = some ((0, looksN s), w, h') ∧ LQ h h' ∧ KQ h' s := by
  obtain ⟨d, rfl, hd2⟩ := mm_dS (show 29 + 1 ≤ d by omega)
  have i1 := hI.1; have i2 := hI.2.1
  obtain ⟨h1, x1, x2, x3, x4⟩ := L_mlk0 (d := d) hW 10000 0 h hK.1 (Int.le_refl _) (by decide)
  have K1 : KQ h1 s := by
    refine ⟨MH_fr hK.1 (fun j _ => by rw [x2 483 (by decide)]), by rw [x2 484 (by decide)]; exact hK.2.1, ?_⟩
    have h3 := hK.2.2
    unfold mFr HCs HC at h3 ⊢
    rw [x2 483 (by decide), x2 494 (by decide)]
    exact h3
  have M1 : metM h1 s 0 0 := fun v v0 v1 => by rw [x4 v v0 v1, bI_f seen_0]
  have Q1 : LQ h h1 := ⟨fun b _ _ _ hb => x2 b hb, fun i _ _ _ _ => by rw [x2 483 (by decide)]⟩
  obtain ⟨h2, y1, y2, y3⟩ := L_mlkR (d := d) (by omega) hW hI (aHi s).toNat 0 0 h1 K1 M1 (Int.le_refl _) (by omega) (Int.le_refl _) (by omega)
  rw [P_M_looks, x1, mK_r, if_pos rfl]
  simp only [mP_0]
  rw [y1, mK_r, if_pos rfl]
  simp only [mP_1]
  rw [Int.zero_add]
  exact ⟨h2, rfl, LQ_tr Q1 y2, y3⟩
theorem E_M_rectsK (hd : 10 ≤ d) (hW : MW w) (hI : aI s) {p : Int} (hp : 0 ≤ p ∧ p < 4) (hH : MH h) (hR : RM (h 484) s) : ∃ h', mm_P d 297 [(2, 483), (0, p)] w h = some ((0, cvP s p), w, h') ∧ CQ h h' := by
  obtain ⟨d, rfl, hd2⟩ := mm_dS hd; clear hd; have hd := hd2; clear hd2
  have hw : (w.1 483).1 = 13 := by rw [hW.1]
  obtain ⟨h1, x1, x2, x3⟩ := E_M_coversOf (d := d) (by omega) hW hI hp hH hR
  rw [P_M_rects, E_M_isProperty (by omega), mC_s, bI_t hp, mEq_f (by decide), mF_t hw, x1, mC_s, mF_t hw, x3.1]
  exact ⟨h1, rfl, x2⟩
theorem L_mtst (hd : 10 ≤ d) (hW : MW w) (hI : aI s) {a1 a2 : Int} : ∀ (m : Nat) (p acc : Int) (h : mm_H), MH h → RM (h 484) s → 0 ≤ p → p + m = 4 → 0 ≤ acc → acc + 256 * m < 2000 → ∃ h', l_M_tests_0 (mm_P d) 483 a1 a2 acc p w h = some (.inr (68, [(2, 483), (0, a1), (0, a2), (0, acc + sumN (fun p => cvP s p) m p), (0, 4)], w, h')) ∧ CQ h h' := by
  have hw : (w.1 483).1 = 13 := by rw [hW.1]
  intro m
  induction m with
  | zero =>
    intro p acc h hH hR p0 hm c0 c1
    have e : sumN (fun p => cvP s p) 0 p = 0 := rfl
    rw [l_M_tests_0_eq, mLe_t (by omega), e, Int.add_zero, show p = 4 by omega]
    exact ⟨h, rfl, CQ_rf h⟩
  | succ m ih =>
    intro p acc h hH hR p0 hm c0 c1
    have e : sumN (fun p => cvP s p) (m + 1) p = cvP s p + sumN (fun p => cvP s p) m (p + 1) := rfl
    have nb : 0 ≤ cvP s p ∧ cvP s p ≤ 256 := cvN_in (f := aCel s p) (wi := aWi s) (hi := aHi s) ⟨by have := hI.1; omega, hI.1.2⟩
    obtain ⟨h1, x1, x2⟩ := E_M_rectsK hd hW hI (p := p) (by omega) hH hR
    obtain ⟨h2, y1, y2⟩ := ih (p + 1) (acc + cvP s p) h1 (MH_fr hH (fun i hi => x2.2 i (by unfold mRef at hi; omega))) (by rw [x2.1 484 (by decide) (by decide)]; exact hR) (by omega) (by omega) (by omega) (by omega)
    rw [l_M_tests_0_eq, mLe_f (by omega), mF_t hw, x1, mC_s]
    try dsimp only
    rw [mI_id (x := acc + cvP s p) (by omega) (by omega), mI_id (x := p + 1) (by omega) (by omega), y1, e, Int.add_assoc]
    exact ⟨h2, rfl, CQ_tr x2 y2⟩
theorem E_M_tests (hd : 60 ≤ d) (hT : QT w h A) (hp : mPr h A) (k q : Int) : ∃ h', mm_P d 338 [(2, 483), (0, k), (0, q)] w h = some ((0, fTests A k q), w, h') ∧ QT w h' A ∧ MN h h' := by
  obtain ⟨d, rfl, hd2⟩ := mm_dS hd; clear hd; have hd := hd2; clear hd2
  have hT0 := hT
  obtain ⟨hW, hH, hHi, hR, _⟩ := hT
  have hw : (w.1 483).1 = 13 := by rw [hW.1]
  have p3 := hp.2.1
  unfold fTests
  rw [P_M_tests, mF_t hw, hp.1, mI_id (x := gPn A - 1) (by omega) (by omega), E_M_in (by omega), mC_s]
  by_cases c : 0 ≤ k ∧ k < gPn A
  rotate_left
  · rw [bI_f (by omega), mEq_t rfl, iC_f (fun x => c x.1)]
    exact ⟨h, rfl, hT0, MN_rf h⟩
  rw [bI_t (by omega), mEq_f (by decide), E_M_in (by omega), mC_s]
  by_cases cq : 0 ≤ q ∧ q ≤ 3
  rotate_left
  · rw [bI_f cq, mEq_t rfl, iC_f (fun x => cq x.2)]
    exact ⟨h, rfl, hT0, MN_rf h⟩
  rw [bI_t cq, mEq_f (by decide), iC_t ⟨c, cq⟩]
  obtain ⟨h1, a1, a2, a3, a4, a5, a6, a7⟩ := E_M_ran (d := d) (by omega) hT0 hp c
  rw [mF_t hw, a1, mC_s]
  have o1 : MN h h1 := ⟨fun b x1 x2 _ => a5.1 b x1.1 x2 x1.2.1 x1.2.2.1, fun i hi => a5.2 i hi.1 (by unfold qFd at hi; omega)⟩
  have I1 : aI (ruS (gP A k) (gNow A)) := by
    unfold ruS
    split
    · exact a7.1
    · exact QT_I hT0
  have i1 := I1.1; have i2 := I1.2.1
  have x97 := a5.1 497 (by decide) (by decide) (by decide) (by decide)
  by_cases q1 : q = 1
  · obtain ⟨h2, t1, t2⟩ := L_mtst (d := d) (by omega) hW I1 (a1 := k) (a2 := q) 4 0 0 h1 a6 a2 (by decide) (by decide) (by decide) (by decide)
    have es : sumN (fun p => cvP (ruS (gP A k) (gNow A)) p) 4 0 = cvP (ruS (gP A k) (gNow A)) 0 + cvP (ruS (gP A k) (gNow A)) 1 + cvP (ruS (gP A k) (gNow A)) 2 + cvP (ruS (gP A k) (gNow A)) 3 := by
      generalize ruS (gP A k) (gNow A) = s'
      show cvP s' 0 + (cvP s' (0 + 1) + (cvP s' (0 + 1 + 1) + (cvP s' (0 + 1 + 1 + 1) + 0))) = _
      rw [show (0 : Int) + 1 = 1 by decide, show (1 : Int) + 1 = 2 by decide, show (2 : Int) + 1 = 3 by decide]
      omega
    have o2 : MN h h2 := MN_tr o1 ⟨fun b x1 _ _ => t2.1 b x1.1 (by unfold qRow at x1; omega), fun i hi => t2.2 i (by unfold qFd at hi; omega)⟩
    obtain ⟨h3, z1, z2, z3, _, _⟩ := T_again (d := d) (by omega) hT0 o2 (fun j j0 j1 => by rw [t2.1 487 (by decide) (by decide)]; exact a3 j j0 j1) (by rw [t2.1 497 (by decide) (by decide)]; exact x97)
    rw [mEq_t q1, t1, mK_r, if_pos rfl]
    simp only [mP_0, mP_3, mF_t hw]
    rw [z1, mC_s, if_neg (by omega), Int.zero_add, es]
    refine ⟨h3, ?_, z2, z3⟩
    unfold tsS
    rw [if_neg (by omega), if_neg (by omega)]
  rw [mEq_f q1]
  by_cases q2 : q = 2
  · obtain ⟨h3, z1, z2, z3, _, _⟩ := T_again (d := d) (by omega) hT0 o1 a3 x97
    rw [mEq_t q2]
    simp only [mF_t hw]
    rw [a6.1, mA_t hW.2.1 (by decide) (by decide), mA_t hW.2.1 (by decide) (by decide), a2.1.1, a2.1.2.1, z1, mC_s, if_neg (by omega), mI_id (x := 100 * aHi (ruS (gP A k) (gNow A))) (by omega) (by omega), mI_id (by omega) (by omega)]
    refine ⟨h3, ?_, z2, z3⟩
    unfold tsS
    rw [if_pos q2]
  rw [mEq_f q2]
  by_cases q3 : q = 3
  · obtain ⟨h2, t1, t2, t3⟩ := E_M_looksK (d := d) (by omega) hW I1 ⟨a6, a2, fun x => absurd a4 x⟩
    have o2 : MN h h2 := MN_tr o1 ⟨fun b x1 _ _ => t2.1 b x1.1 (by unfold qRow at x1; omega) (by unfold qRow at x1; omega) (by unfold qRow at x1; omega), fun i hi => t2.2 i (by unfold qFd at hi; omega) (by unfold qFd at hi; omega) (by unfold qFd at hi; omega) (by unfold qFd at hi; omega)⟩
    obtain ⟨h3, z1, z2, z3, _, _⟩ := T_again (d := d) (by omega) hT0 o2 (fun j j0 j1 => by rw [t2.1 487 (by decide) (by decide) (by decide) (by decide)]; exact a3 j j0 j1) (by rw [t2.1 497 (by decide) (by decide) (by decide) (by decide)]; exact x97)
    rw [mEq_t q3]
    simp only [mF_t hw]
    rw [t1, mC_s]
    simp only [mF_t hw]
    rw [z1, mC_s, if_neg (by omega)]
    refine ⟨h3, ?_, z2, z3⟩
    unfold tsS
    rw [if_neg (by omega), if_pos q3]
  · obtain ⟨h3, z1, z2, z3, _, _⟩ := T_again (d := d) (by omega) hT0 o1 a3 x97
    rw [mEq_f q3, mF_t hw, z1, mC_s, if_pos (by omega)]
    exact ⟨h3, rfl, z2, z3⟩
end PU
