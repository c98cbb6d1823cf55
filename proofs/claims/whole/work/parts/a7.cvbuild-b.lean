/-! PURE: the class builds its cover, whole. -/
section PU
variable {d : Nat} {w : mm_W} {h : mm_H} {f : Int → Int → Int} {wi hi : Int}
theorem E_addRun (hd : 3 ≤ d) (hW : VcW w) (hc : VcH h) (hl : LY h f wi hi) (hs : hi ≤ 16 ∧ wi ≤ 16) {I a b : Int} (hI : 0 ≤ I ∧ I < hi) (hR : isR f wi I a b) (hv : f I a ≠ -1) (hC : CVc h f wi hi I a) : ∃ h', mm_P d 22 [(2, 452), (0, I), (0, a), (0, b)] w h = some ((9, 0), w, h') ∧ CVf h h' ∧ CVc h' f wi hi I (b + 1) := by
  obtain ⟨d, rfl, hd2⟩ := mm_dS hd; clear hd; have hd := hd2; clear hd2
  have w4 := VcW_4 hW
  have h0 := hR.1
  have kb := cnQ_in (f := f) (wi := wi) (16 * I + a).toNat
  have k0 : 0 ≤ cnQ f wi (16 * I + a).toNat ∧ cnQ f wi (16 * I + a).toNat < 256 := by omega
  rw [P_Cv_addRun]
  by_cases c0 : I ≤ 0
  · have hg : ¬ (0 < I ∧ irn f wi (I - 1) a b (f I a)) := fun x => by omega
    obtain ⟨h', g1, g2, g3, g4, g5, g6, g7⟩ := LF_0 (d := d) (by omega) hW hc (A := -1) (v := f I a) (r := I) (a := a) (b := b) (by omega) (by omega) hC.1 k0
    rw [mLe_t c0, mF_t w4, E_fAt (by omega) hW hc hl hs hI (c := a) (by omega), mC_s, mLt_t (by decide), g1]
    exact ⟨h', rfl, g2, CV_new hI hs.2 hR hv hg hC rfl g3 g4 g5 g6 g7⟩
  have ho : h 458 (16 * (I - 1) + a) = own f wi (I - 1) a := hC.2.2.1 (I - 1) a (by omega) (by omega) (by omega) (by omega) (Or.inl (by omega))
  have go := go_iff (f := f) (wi := wi) (I := I) (a := a) (b := b) (by omega) hR hv
  rw [mLe_f (by omega), mF_t w4, mI_id (x := I - 1) (by omega) (by omega), E_placeOf (by omega) (by omega) (by omega) (by omega) (by omega), mC_s, hc 5 (by decide) (by decide), E_peek_t (by omega) (VcW_r hW (o := 453 + 5) (by decide)) (by omega) (by omega), mC_s, show (453 : Int) + 5 = 458 by decide, ho, mF_t w4, E_fAt (by omega) hW hc hl hs hI (c := a) (by omega), mC_s]
  -- the leaf of a new one
  have leaf := fun (hg : ¬ irn f wi (I - 1) a b (f I a)) => LF_0 (d := d) (by omega) hW hc (A := own f wi (I - 1) a) (v := f I a) (r := I) (a := a) (b := b) (by omega) (by omega) hC.1 k0
  by_cases c1 : f (I - 1) a = -1
  · have hg : ¬ irn f wi (I - 1) a b (f I a) := fun x => (go.mp x).1 c1
    obtain ⟨h', g1, g2, g3, g4, g5, g6, g7⟩ := leaf hg
    have oe : own f wi (I - 1) a < 0 := by unfold own; rw [if_pos c1]; decide
    rw [mLt_t oe, g1]
    exact ⟨h', rfl, g2, CV_new hI hs.2 hR hv (fun x => hg x.2) hC rfl g3 g4 g5 g6 g7⟩
  obtain ⟨r1, r2, r3, r4⟩ := rs_ok (f := f) (wi := wi) (i := I - 1) (c := a) (by omega)
  obtain ⟨t1, t2, t3, t4, t5⟩ := tp_St (hi := hi) (f := f) (wi := wi) (i := I - 1) (by omega) r1 (by rw [r4]; exact c1)
  have r0 := r1.1
  obtain ⟨T, hT⟩ : ∃ T : Nat, (T : Int) = 16 * tp f wi (I - 1) (rs f (I - 1) a) + rs f (I - 1) a := ⟨(16 * tp f wi (I - 1) (rs f (I - 1) a) + rs f (I - 1) a).toNat, by omega⟩
  have hTs : stG f wi (T : Int) = 1 := by rw [hT, stG_at (by omega)]; exact bI_t ⟨by omega, t1⟩
  have oe : own f wi (I - 1) a = cnQ f wi T := by unfold own; rw [if_neg c1, show (16 * tp f wi (I - 1) (rs f (I - 1) a) + rs f (I - 1) a).toNat = T by omega]
  have kt := cnQ_in (f := f) (wi := wi) T
  have k1 : 0 ≤ cnQ f wi T ∧ cnQ f wi T < 256 := by omega
  obtain ⟨y1, y2, y3, y4, y5⟩ := hC.2.1 T (by omega) hTs
  have n1 : (T : Int) / 16 = tp f wi (I - 1) (rs f (I - 1) a) := by omega
  have n2 : (T : Int) % 16 = rs f (I - 1) a := by omega
  rw [n2] at y2
  rw [n1, n2, t5] at y3
  rw [n1, n2, t4, r4] at y4
  rw [mLt_f (by rw [oe]; exact k1.1), mF_t w4, hc 1 (by decide) (by decide), E_peek_t (by omega) (VcW_r hW (o := 453 + 1) (by decide)) (by rw [oe]; exact k1.1) (by rw [oe]; exact k1.2), mC_s, show (453 : Int) + 1 = 454 by decide, oe, y2]
  rw [← oe]
  by_cases c2 : rs f (I - 1) a = a
  rotate_left
  · have hg : ¬ irn f wi (I - 1) a b (f I a) := fun x => c2 (go.mp x).2.1
    obtain ⟨h', g1, g2, g3, g4, g5, g6, g7⟩ := leaf hg
    rw [mEq_f c2, g1]
    exact ⟨h', rfl, g2, CV_new hI hs.2 hR hv (fun x => hg x.2) hC rfl g3 g4 g5 g6 g7⟩
  rw [mEq_t c2, mF_t w4, hc 3 (by decide) (by decide), E_peek_t (by omega) (VcW_r hW (o := 453 + 3) (by decide)) (by rw [oe]; exact k1.1) (by rw [oe]; exact k1.2), mC_s, show (453 : Int) + 3 = 456 by decide, oe, y3]
  rw [← oe]
  by_cases c3 : re f wi (I - 1) (rs f (I - 1) a) = b
  rotate_left
  · have hg : ¬ irn f wi (I - 1) a b (f I a) := fun x => c3 (go.mp x).2.2.1
    obtain ⟨h', g1, g2, g3, g4, g5, g6, g7⟩ := leaf hg
    rw [mEq_f c3, g1]
    exact ⟨h', rfl, g2, CV_new hI hs.2 hR hv (fun x => hg x.2) hC rfl g3 g4 g5 g6 g7⟩
  rw [mEq_t c3, mF_t w4, hc 4 (by decide) (by decide), E_peek_t (by omega) (VcW_r hW (o := 453 + 4) (by decide)) (by rw [oe]; exact k1.1) (by rw [oe]; exact k1.2), mC_s, show (453 : Int) + 4 = 457 by decide, oe, y4]
  rw [← oe]
  by_cases c4 : f (I - 1) a = f I a
  rotate_left
  · have hg : ¬ irn f wi (I - 1) a b (f I a) := fun x => c4 (go.mp x).2.2.2
    obtain ⟨h', g1, g2, g3, g4, g5, g6, g7⟩ := leaf hg
    rw [mEq_f c4, g1]
    exact ⟨h', rfl, g2, CV_new hI hs.2 hR hv (fun x => hg x.2) hC rfl g3 g4 g5 g6 g7⟩
  have hg : irn f wi (I - 1) a b (f I a) := go.mpr ⟨c1, c2, c3, c4⟩
  obtain ⟨h', g1, g2, g3, g4, g5, g6, g7⟩ := LF_1 (d := d) (by omega) hW hc (A := own f wi (I - 1) a) (v := f I a) (r := I) (a := a) (b := b) (by omega) (by omega) (by rw [oe]; exact k1)
  rw [mEq_t c4, g1]
  exact ⟨h', rfl, g2, CV_on ⟨by omega, hI.2⟩ hs.2 hR hv hg hC rfl g3 g4 g5 g6 g7⟩
theorem L_bld1 (hd : 4 ≤ d) (hW : VcW w) (hs : hi ≤ 16 ∧ wi ≤ 16) {I : Int} (hI : 0 ≤ I ∧ I < hi) : ∀ (m : Nat) (a c : Int) (h : mm_H), VcH h → LY h f wi hi → CVc h f wi hi I a → 0 ≤ a → a ≤ c → c + m = wi → (c < wi → bg f I a ∧ ∀ x : Int, a ≤ x → x ≤ c → f I x = f I a) → (c = wi → a = wi) → ∃ h', l_Cv_build_1 (mm_P d) 452 I a c w h = some (.inr (101, [(2, 452), (0, I), (0, wi), (0, wi), (9, 0)], w, h')) ∧ CVf h h' ∧ CVc h' f wi hi I wi := by
  have w4 := VcW_4 hW
  intro m
  induction m with
  | zero =>
    intro a c h hc hl hC a0 ac hm hr he
    have e1 : c = wi := by omega
    rw [l_Cv_build_1_eq, mF_t w4, hl.1.2, mLe_t (by omega), he e1, e1]
    rw [he e1] at hC
    exact ⟨h, rfl, CVf_rf h, hC⟩
  | succ m ih =>
    intro a c h hc hl hC a0 ac hm hr he
    obtain ⟨hb, hall⟩ := hr (by omega)
    have hfc := hall c ac (Int.le_refl _)
    -- the run ends here
    have ends : (c + 1 = wi ∨ f I (c + 1) ≠ f I c) → ∃ h', (mF w 452 2 none (mC (mm_P d 23 [(2, 452), (0, I), (0, c)] w h) 0 none (fun v2 w3 h4 => mEq v2 (-1) (let x5 := mI (c + 1); let x6 := mI (c + 1); l_Cv_build_1 (mm_P d) 452 I x5 x6 w3 h4) (mF w3 452 2 none (mC (mm_P d 22 [(2, 452), (0, I), (0, a), (0, c)] w3 h4) 9 none (fun v7 w8 h9 => let x10 := mI (c + 1); let x11 := mI (c + 1); l_Cv_build_1 (mm_P d) 452 I x10 x11 w8 h9)))))) = some (.inr (101, [(2, 452), (0, I), (0, wi), (0, wi), (9, 0)], w, h')) ∧ CVf h h' ∧ CVc h' f wi hi I wi := by
      intro hend
      have hR : isR f wi I a c := ⟨by omega, fun x x0 x1 => hall x x0 x1, hb, by rw [← hfc]; exact hend.imp (fun x => by omega) id⟩
      have hnb : c + 1 < wi → bg f I (c + 1) ∧ ∀ x : Int, c + 1 ≤ x → x ≤ c + 1 → f I x = f I (c + 1) := fun hlt => ⟨Or.inr (hend.elim (fun e => absurd hlt (by omega)) (fun e => by rw [show c + 1 - 1 = c by omega]; exact fun x => e x.symm)), fun x x0 x1 => by rw [show x = c + 1 by omega]⟩
      rw [mF_t w4, E_fAt (by omega) hW hc hl hs hI (c := c) (by omega), mC_s, hfc]
      try dsimp only
      rw [mI_id (x := c + 1) (by omega) (by omega)]
      by_cases hv : f I a = -1
      · rw [mEq_t hv]
        obtain ⟨h2, y1, y2, y3⟩ := ih (c + 1) (c + 1) h hc hl (CV_none hI hs.2 hR hv hC) (by omega) (Int.le_refl _) (by omega) hnb (fun x => x)
        exact ⟨h2, y1, y2, y3⟩
      · obtain ⟨h1, x1, x2, x3⟩ := E_addRun (d := d) (by omega) hW hc hl hs hI hR hv hC
        obtain ⟨h2, y1, y2, y3⟩ := ih (c + 1) (c + 1) h1 (CVf_H x2 hc) (CVf_LY x2 hl) x3 (by omega) (Int.le_refl _) (by omega) hnb (fun x => x)
        rw [mEq_f hv, mF_t w4, x1, mC_s]
        exact ⟨h2, y1, CVf_tr x2 y2, y3⟩
    rw [l_Cv_build_1_eq, mF_t w4, hl.1.2, mLe_f (by omega), mF_t w4]
    by_cases q : c + 1 = wi
    · have qm : mI (c + 1) = wi := by rw [mI_id (x := c + 1) (by omega) (by omega)]; exact q
      rw [mEq_t qm, mEq_f (by decide)]
      exact ends (Or.inl q)
    · have qq : mI (c + 1) ≠ wi := by rw [mI_id (x := c + 1) (by omega) (by omega)]; exact q
      rw [mEq_f qq, mF_t w4, show mm_P d 23 [(2, 452), (0, I), (0, mI (c + 1))] w h = some ((0, f I (c + 1)), w, h) by rw [mI_id (x := c + 1) (by omega) (by omega)]; exact E_fAt (by omega) hW hc hl hs hI (c := c + 1) (by omega), mC_s, mF_t w4, E_fAt (by omega) hW hc hl hs hI (c := c) (by omega), mC_s]
      by_cases q2 : f I (c + 1) = f I c
      · rw [mEq_t q2, mEq_t rfl, mI_id (x := c + 1) (by omega) (by omega)]
        exact ih a (c + 1) h hc hl hC a0 (by omega) (by omega) (fun _ => ⟨hb, fun x x0 x1 => by
          by_cases e : x = c + 1
          · rw [e, q2, hfc]
          · exact hall x x0 (by omega)⟩) (fun x => absurd x q)
      · rw [mEq_f q2, mEq_f (by decide)]
        exact ends (Or.inr q2)
theorem L_bld0 (hd : 4 ≤ d) (hW : VcW w) (hs : (1 ≤ hi ∧ hi ≤ 16) ∧ 1 ≤ wi ∧ wi ≤ 16) : ∀ (m : Nat) (I : Int) (h : mm_H), VcH h → LY h f wi hi → CVc h f wi hi I 0 → 0 ≤ I → I + m = hi → ∃ h', l_Cv_build_0 (mm_P d) 452 I w h = some (.inr (107, [(2, 452), (0, hi), (9, 0), (9, 0), (9, 0)], w, h')) ∧ CVf h h' ∧ CVc h' f wi hi hi 0 := by
  have w4 := VcW_4 hW
  intro m
  induction m with
  | zero =>
    intro I h hc hl hC I0 hm
    have e : I = hi := by omega
    rw [l_Cv_build_0_eq, mF_t w4, hl.1.1, mLe_t (by omega), e]
    rw [e] at hC
    exact ⟨h, rfl, CVf_rf h, hC⟩
  | succ m ih =>
    intro I h hc hl hC I0 hm
    obtain ⟨h1, x1, x2, x3⟩ := L_bld1 hd hW ⟨hs.1.2, hs.2.2⟩ (I := I) (by omega) wi.toNat 0 0 h hc hl hC (Int.le_refl _) (Int.le_refl _) (by omega) (fun _ => ⟨Or.inl rfl, fun x a b => by rw [show x = 0 by omega]⟩) (by omega)
    rw [l_Cv_build_0_eq, mF_t w4, hl.1.1, mLe_f (by omega), x1, mK_r, if_pos rfl]
    simp only [mP_0, mP_1]
    rw [mI_id (x := I + 1) (by omega) (by omega)]
    obtain ⟨h2, y1, y2, y3⟩ := ih (I + 1) h1 (CVf_H x2 hc) (CVf_LY x2 hl) (CV_row I0 hs.2 x3) (by omega) (by omega)
    exact ⟨h2, y1, CVf_tr x2 y2, y3⟩
/-- the class's cover is there -/
def CCd (h : mm_H) (f : Int → Int → Int) (wi hi : Int) : Prop := h 452 8 = cvN f wi hi ∧ (∀ k : Int, 0 ≤ k → k < cvN f wi hi → h 453 k = cvD f wi hi (kSt f wi k) 0 ∧ h 454 k = cvD f wi hi (kSt f wi k) 1 ∧ h 455 k = cvD f wi hi (kSt f wi k) 2 ∧ h 456 k = cvD f wi hi (kSt f wi k) 3 ∧ h 457 k = cvD f wi hi (kSt f wi k) 4) ∧ ∀ r c : Int, 0 ≤ r → r < hi → 0 ≤ c → c < wi → h 458 (16 * r + c) = own f wi r c
theorem cvN_in (hs : 0 ≤ hi ∧ hi ≤ 16) : 0 ≤ cvN f wi hi ∧ cvN f wi hi ≤ 256 := by
  have := cnQ_in (f := f) (wi := wi) (16 * hi).toNat
  unfold cvN
  omega
theorem E_build (hd : 5 ≤ d) (hW : VcW w) (hs : (1 ≤ hi ∧ hi ≤ 16) ∧ 1 ≤ wi ∧ wi ≤ 16) (hc : VcH h) (hl : LY h f wi hi) : ∃ h', mm_P d 21 [(2, 452)] w h = some ((0, cvN f wi hi), w, h') ∧ CVf h h' ∧ CCd h' f wi hi := by
  obtain ⟨d, rfl, hd2⟩ := mm_dS hd; clear hd; have hd := hd2; clear hd2
  have w4 := VcW_4 hW
  have o0 : CVf h (mUp h 452 8 0) := ⟨fun o ho => mUp_row (by omega), fun i hi => mUp_n (Or.inr hi)⟩
  have c0 := CVf_H o0 hc
  obtain ⟨h1, x1, x2, x3⟩ := E_fill (d := d) (h := mUp h 452 8 0) (by omega) (VcW_r hW (o := 458) (by decide)) (by decide) (-1) (by decide)
  have o1 : CVf (mUp h 452 8 0) h1 := ⟨fun o ho => x2 o (by omega), fun i _ => by rw [x2 452 (by decide)]⟩
  have hC : CVc h1 f wi hi 0 0 := by
    refine ⟨?_, fun q hq hs => by omega, fun r c r0 r1 a b hp => by omega, fun r c r0 r1 a b hp => x3 _ (by omega) (by omega)⟩
    rw [x2 452 (by decide), mUp_s]
    rfl
  obtain ⟨h2, y1, y2, y3⟩ := L_bld0 hd hW hs hi.toNat 0 h1 (CVf_H o1 c0) (CVf_LY o1 (CVf_LY o0 hl)) hC (Int.le_refl _) (by omega)
  rw [P_Cv_build, mF_t w4]
  try dsimp only
  rw [mF_t w4, c0 5 (by decide) (by decide), show (453 : Int) + 5 = 458 by decide, x1, mC_s, y1, mK_r, if_pos rfl]
  simp only [mP_0]
  have e8 : h2 452 8 = cvN f wi hi := by rw [y3.1, Int.add_zero]; rfl
  rw [mF_t w4, e8]
  refine ⟨h2, rfl, CVf_tr (CVf_tr o0 o1) y2, e8, fun k k0 k1 => ?_, fun r c r0 r1 a b => y3.2.2.1 r c r0 r1 a b (Or.inl r1)⟩
  obtain ⟨n, n1, n2, n3⟩ := cnQ_ex k0 (16 * hi).toNat k1
  rw [kSt_eq n2 n3]
  obtain ⟨z1, z2, z3, z4, z5⟩ := y3.2.1 n (by omega) n2
  rw [n3] at z1 z2 z3 z4 z5
  obtain ⟨s1, s2⟩ := stG_1.mp n2
  have dd := (dwn_ok (f := f) (wi := wi) (hi := hi) (a := (n : Int) % 16) (hi - 1 - (n : Int) / 16).toNat ((n : Int) / 16) _ (by omega) (St_R (by omega) s2)).1
  refine ⟨z1, z2, ?_, z3, z4⟩
  rw [z5, if_neg (by omega), mMin_l dd.2]
  rfl
end PU
