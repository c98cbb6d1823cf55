/-! PURE: pastes of the reference. -/
section PU
variable {d : Nat} {w : mm_W} {h : mm_H} {A : aG} {s : aS}
theorem L_mps1a (hd : 2 ≤ d) (hW : MW w) (hI : aI (gNow A)) (hH : MH h) (hR : RM (h 484) (gNow A)) (hs : shl h 503 502 A) {q i n p c : Int} (hq : 0 ≤ q ∧ q < 4) (hn : n ≤ 12) (hi : 0 ≤ i ∧ i ≤ gSz A q - 5 * n) : ∀ (m : Nat) (k : Int), 0 ≤ k → k + m = n → ((∀ j : Int, k ≤ j → j < n → psO A q i c j) → l_M_paste_1 (mm_P d) 483 q i n p c (c / 100) (c % 100) 0 k w h = some (.inr (252, [(2, 483), (0, q), (0, i), (0, n), (0, p), (0, c), (0, c / 100), (0, c % 100), (0, 0), (0, n), (9, 0), (9, 0), (9, 0), (9, 0), (9, 0)], w, h))) ∧ (¬ (∀ j : Int, k ≤ j → j < n → psO A q i c j) → l_M_paste_1 (mm_P d) 483 q i n p c (c / 100) (c % 100) 0 k w h = some (.inl ((0, -2), w, h))) := by
  have hw : (w.1 483).1 = 13 := by rw [hW.1]
  obtain ⟨u1, u2, u3⟩ := hs q hq.1 hq.2
  have W2 := MW_502 hW
  have h39 := MH_39 hH
  intro m
  induction m with
  | zero =>
    intro k k0 hm
    rw [l_M_paste_1_eq, mLe_t (by omega), show k = n by omega]
    exact ⟨fun _ => rfl, fun x => absurd (fun j j0 j1 => by omega) x⟩
  | succ m ih =>
    intro k k0 hm
    obtain ⟨g1, g2⟩ := ih (k + 1) (by omega) (by omega)
    have r0 := u3 (i + 5 * k) (by omega) (by omega)
    have r1 := u3 (i + 5 * k + 1) (by omega) (by omega)
    have r2 := u3 (i + 5 * k + 2) (by omega) (by omega)
    have r3 := u3 (i + 5 * k + 3) (by omega) (by omega)
    have r4 := u3 (i + 5 * k + 4) (by omega) (by omega)
    rw [← Int.add_assoc] at r0
    rw [show 60 * q + (i + 5 * k + 1) = 60 * q + i + 5 * k + 1 by omega] at r1
    rw [show 60 * q + (i + 5 * k + 2) = 60 * q + i + 5 * k + 2 by omega] at r2
    rw [show 60 * q + (i + 5 * k + 3) = 60 * q + i + 5 * k + 3 by omega] at r3
    rw [show 60 * q + (i + 5 * k + 4) = 60 * q + i + 5 * k + 4 by omega] at r4
    rw [l_M_paste_1_eq, mLe_f (by omega), mI_id (x := 60 * q) (by omega) (by omega), mI_id (x := 60 * q + i) (by omega) (by omega), mI_id (x := 5 * k) (by omega) (by omega), mI_id (x := 60 * q + i + 5 * k) (by omega) (by omega)]
    try dsimp only
    rw [mI_id (x := 60 * q + i + 5 * k + 1) (by omega) (by omega), mI_id (x := 60 * q + i + 5 * k + 2) (by omega) (by omega), mI_id (x := 60 * q + i + 5 * k + 3) (by omega) (by omega), mI_id (x := 60 * q + i + 5 * k + 4) (by omega) (by omega), h39]
    rw [mF_t hw, mA_t W2 (by omega) (by omega), mF_t hw, mA_t W2 (by omega) (by omega), mF_t hw, mA_t W2 (by omega) (by omega), mF_t hw, mA_t W2 (by omega) (by omega), mEq_f (by decide), mF_t hw, r0, r1, r2, r3, E_M_isRect (by omega) hW hH, mC_s, hR.1.1, hR.1.2.1]
    by_cases c1 : 0 ≤ psT A q i c k ∧ 0 ≤ psL A q i c k ∧ psT A q i c k ≤ psB A q i c k ∧ psL A q i c k ≤ psR A q i c k ∧ psB A q i c k < aHi (gNow A) ∧ psR A q i c k < aWi (gNow A)
    rotate_left
    · have e : bI (0 ≤ mI (c / 100 + gSh A q (i + 5 * k)) ∧ 0 ≤ mI (c % 100 + gSh A q (i + 5 * k + 1)) ∧ mI (c / 100 + gSh A q (i + 5 * k)) ≤ mI (c / 100 + gSh A q (i + 5 * k + 2)) ∧ mI (c % 100 + gSh A q (i + 5 * k + 1)) ≤ mI (c % 100 + gSh A q (i + 5 * k + 3)) ∧ mI (c / 100 + gSh A q (i + 5 * k + 2)) < aHi (gNow A) ∧ mI (c % 100 + gSh A q (i + 5 * k + 3)) < aWi (gNow A)) = 0 := bI_f c1
      rw [e, mEq_t rfl]
      exact ⟨fun x => absurd (x k (Int.le_refl _) (by omega)).1 c1, fun _ => rfl⟩
    have e : bI (0 ≤ mI (c / 100 + gSh A q (i + 5 * k)) ∧ 0 ≤ mI (c % 100 + gSh A q (i + 5 * k + 1)) ∧ mI (c / 100 + gSh A q (i + 5 * k)) ≤ mI (c / 100 + gSh A q (i + 5 * k + 2)) ∧ mI (c % 100 + gSh A q (i + 5 * k + 1)) ≤ mI (c % 100 + gSh A q (i + 5 * k + 3)) ∧ mI (c / 100 + gSh A q (i + 5 * k + 2)) < aHi (gNow A) ∧ mI (c % 100 + gSh A q (i + 5 * k + 3)) < aWi (gNow A)) = 1 := bI_t c1
    rw [e, mEq_f (by decide), mF_t hw, h39, mA_t W2 (by omega) (by omega), r4, E_M_in (by omega), mC_s]
    have eV : gSh A q (i + 5 * k + 4) = psV A q i k := rfl
    rw [eV]
    by_cases c2 : 0 ≤ psV A q i k ∧ psV A q i k ≤ 9
    rotate_left
    · rw [bI_f c2, mEq_t rfl]
      exact ⟨fun x => absurd (x k (Int.le_refl _) (by omega)).2 c2, fun _ => rfl⟩
    rw [bI_t c2, mEq_f (by decide)]
    try dsimp only
    rw [mI_id (x := k + 1) (by omega) (by omega)]
    refine ⟨fun x => g1 (fun j j0 j1 => x j (by omega) j1), fun x => g2 (fun y => x (fun j j0 j1 => ?_))⟩
    by_cases e : j = k
    · rw [e]; exact ⟨c1, c2⟩
    · exact y j (by omega) j1
theorem L_mps1b (hd : 3 ≤ d) (hW : MW w) {q i n p c : Int} (hq : 0 ≤ q ∧ q < 4) (hp : 0 ≤ p ∧ p < 4) (hn : n ≤ 12) (hi : 0 ≤ i ∧ i ≤ gSz A q - 5 * n) (ho : psA A q i n c) : ∀ (m : Nat) (k : Int) (s : aS) (h : mm_H), MH h → shl h 503 502 A → RM (h 484) s → aI s → aHi s = aHi (gNow A) → aWi s = aWi (gNow A) → 0 ≤ k → k + m = n → ∃ h', l_M_paste_1 (mm_P d) 483 q i n p c (c / 100) (c % 100) 1 k w h = some (.inr (252, [(2, 483), (0, q), (0, i), (0, n), (0, p), (0, c), (0, c / 100), (0, c % 100), (0, 1), (0, n), (9, 0), (9, 0), (9, 0), (9, 0), (9, 0)], w, h')) ∧ RM (h' 484) (F_pst A p q i c m k s) ∧ ∀ b : Int, b ≠ 484 → h' b = h b := by
  have hw : (w.1 483).1 = 13 := by rw [hW.1]
  have W2 := MW_502 hW
  intro m
  induction m with
  | zero =>
    intro k s h hH hs hR hI e1 e2 k0 hm
    rw [l_M_paste_1_eq, mLe_t (by omega), show k = n by omega]
    exact ⟨h, rfl, hR, fun _ _ => rfl⟩
  | succ m ih =>
    intro k s h hH hs hR hI e1 e2 k0 hm
    have h39 := MH_39 hH
    obtain ⟨u1, u2, u3⟩ := hs q hq.1 hq.2
    have r0 := u3 (i + 5 * k) (by omega) (by omega)
    have r1 := u3 (i + 5 * k + 1) (by omega) (by omega)
    have r2 := u3 (i + 5 * k + 2) (by omega) (by omega)
    have r3 := u3 (i + 5 * k + 3) (by omega) (by omega)
    have r4 := u3 (i + 5 * k + 4) (by omega) (by omega)
    rw [← Int.add_assoc] at r0
    rw [show 60 * q + (i + 5 * k + 1) = 60 * q + i + 5 * k + 1 by omega] at r1
    rw [show 60 * q + (i + 5 * k + 2) = 60 * q + i + 5 * k + 2 by omega] at r2
    rw [show 60 * q + (i + 5 * k + 3) = 60 * q + i + 5 * k + 3 by omega] at r3
    rw [show 60 * q + (i + 5 * k + 4) = 60 * q + i + 5 * k + 4 by omega] at r4
    have o := ho k k0 (by omega)
    have o1 := o.1
    have o2 := o.2
    have i1 := hI.1; have i2 := hI.2.1
    rw [← e1, ← e2] at o1
    obtain ⟨h2, b1, b2, b3⟩ := E_M_paints (d := d) (by omega) hW hH hI hR (v := psV A q i k) (t := psT A q i c k) (l := psL A q i c k) (b := psB A q i c k) (r := psR A q i c k) hp (by omega) (by omega) (by omega) (by omega)
    obtain ⟨h', y1, y2, y3⟩ := ih (k + 1) _ h2 (MH_fr hH (fun j _ => by rw [b3 483 (by decide)])) (fun a a0 a1 => by rw [b3 503 (by decide), b3 502 (by decide)]; exact hs a a0 a1) b2 (aI_paint hI (by omega)) e1 e2 (by omega) (by omega)
    have f0 : mI (c / 100 + gSh A q (i + 5 * k)) = psT A q i c k := rfl
    have f1 : mI (c % 100 + gSh A q (i + 5 * k + 1)) = psL A q i c k := rfl
    have f2 : mI (c / 100 + gSh A q (i + 5 * k + 2)) = psB A q i c k := rfl
    have f3 : mI (c % 100 + gSh A q (i + 5 * k + 3)) = psR A q i c k := rfl
    have f4 : gSh A q (i + 5 * k + 4) = psV A q i k := rfl
    rw [l_M_paste_1_eq, mLe_f (by omega), mI_id (x := 60 * q) (by omega) (by omega), mI_id (x := 60 * q + i) (by omega) (by omega), mI_id (x := 5 * k) (by omega) (by omega), mI_id (x := 60 * q + i + 5 * k) (by omega) (by omega)]
    try dsimp only
    rw [mI_id (x := 60 * q + i + 5 * k + 1) (by omega) (by omega), mI_id (x := 60 * q + i + 5 * k + 2) (by omega) (by omega), mI_id (x := 60 * q + i + 5 * k + 3) (by omega) (by omega), mI_id (x := 60 * q + i + 5 * k + 4) (by omega) (by omega), h39]
    rw [mF_t hw, mA_t W2 (by omega) (by omega), mF_t hw, mA_t W2 (by omega) (by omega), mF_t hw, mA_t W2 (by omega) (by omega), mF_t hw, mA_t W2 (by omega) (by omega), mEq_t rfl, mF_t hw, mA_t W2 (by omega) (by omega), mF_t hw, r0, r1, r2, r3, r4, f0, f1, f2, f3, f4, b1, mC_s]
    try dsimp only
    rw [mI_id (x := k + 1) (by omega) (by omega), y1]
    exact ⟨h', rfl, y2, fun b hb => by rw [y3 b hb, b3 b hb]⟩
theorem E_M_paste (hd : 30 ≤ d) (hT : QT w h A) (hs : shl h 503 502 A) (q i n p : Int) {c : Int} (hcc : c < 2147483648) : (¬ psG A q i n p c ∧ mm_P d 321 [(2, 483), (0, q), (0, i), (0, n), (0, p), (0, c)] w h = some ((0, fPaste A q i n p c), w, h)) ∨ (psG A q i n p c ∧ ∃ h', mm_P d 321 [(2, 483), (0, q), (0, i), (0, n), (0, p), (0, c)] w h = some ((0, fPaste A q i n p c), w, h') ∧ mDone h h' A (F_pst A p q i c n.toNat 0 (gNow A))) := by
  obtain ⟨d, rfl, hd2⟩ := mm_dS (show 29 + 1 ≤ d by omega)
  have hw : (w.1 483).1 = 13 := by rw [hT.1.1]
  have hI := QT_I hT
  unfold fPaste
  rw [P_M_paste, E_M_isShelf (by omega), mC_s]
  by_cases c0 : 0 ≤ q ∧ q < 4
  rotate_left
  · rw [bI_f c0, mEq_t rfl, iC_f (fun x => c0 x.1)]
    exact Or.inl ⟨fun x => c0 x.1.1, rfl⟩
  rw [bI_t c0, mEq_f (by decide), E_M_in (by omega), mC_s]
  by_cases c1 : 1 ≤ n ∧ n ≤ 12
  rotate_left
  · rw [bI_f c1, mEq_t rfl, iC_f (fun x => c1 x.2.1)]
    exact Or.inl ⟨fun x => c1 x.1.2.1, rfl⟩
  rw [bI_t c1, mEq_f (by decide), E_M_isProperty (by omega), mC_s]
  by_cases c3 : 0 ≤ p ∧ p < 4
  rotate_left
  · rw [bI_f c3, mEq_t rfl, iC_f (fun x => c3 x.2.2.1)]
    exact Or.inl ⟨fun x => c3 x.1.2.2.1, rfl⟩
  rw [bI_t c3, mEq_f (by decide), mF_t hw, T_cell (by omega) hT hcc, mC_s]
  by_cases c4 : isCell (aHi (gNow A)) (aWi (gNow A)) c
  rotate_left
  · rw [bI_f c4, mEq_t rfl, iC_f (fun x => c4 x.2.2.2)]
    exact Or.inl ⟨fun x => c4 x.1.2.2.2, rfl⟩
  obtain ⟨t1, t2, t3⟩ := hs q c0.1 c0.2
  rw [bI_t c4, mEq_f (by decide), mF_t hw, MH_40 hT.2.1, mA_t (MW_503 hT.1) c0.1 c0.2, t1, iC_t ⟨c0, c1, c3, c4⟩]
  by_cases c5 : gSz A q = -1
  · rw [mEq_t c5, iC_t (by omega)]
    exact Or.inl ⟨fun x => by have := x.2.1; unfold psI at this; omega, rfl⟩
  rw [mEq_f c5, iC_f (show ¬ gSz A q < 0 by omega)]
  by_cases c6 : 0 ≤ i
  rotate_left
  · rw [mLt_t (by omega), iC_f (fun x => c6 x.1)]
    exact Or.inl ⟨fun x => c6 x.2.1.1, rfl⟩
  rw [mLt_f c6, mF_t hw, mA_t (MW_503 hT.1) c0.1 c0.2, mI_id (x := 5 * n) (by omega) (by omega), mI_id (x := gSz A q - 5 * n) (by omega) (by omega)]
  by_cases c7 : i ≤ gSz A q - 5 * n
  rotate_left
  · rw [mLe_f (by omega), iC_f (fun x => c7 x.2)]
    exact Or.inl ⟨fun x => c7 x.2.1.2, rfl⟩
  obtain ⟨g1, g2⟩ := L_mps1a (d := d) (p := p) (c := c) (by omega) hT.1 hI hT.2.1 hT.2.2.2.1 hs c0 c1.2 ⟨c6, c7⟩ n.toNat 0 (Int.le_refl _) (by omega)
  rw [mLe_t c7, mD_t (by decide), mD_t (by decide), (n100 c4.1 hcc).1, (n100 c4.1 hcc).2, iC_t ⟨c6, c7⟩]
  try dsimp only
  rw [l_M_paste_0_eq, mLe_f (by decide)]
  by_cases c8 : psA A q i n c
  · obtain ⟨h2, b1, b2, b3⟩ := L_mps1b (d := d) (by omega) hT.1 c0 c3 c1.2 ⟨c6, c7⟩ c8 n.toNat 0 (gNow A) h hT.2.1 hs hT.2.2.2.1 hI rfl rfl (Int.le_refl _) (by omega)
    have I2 := F_pst_I (A := A) (p := p) (q := q) (i := i) (c := c) n.toNat 0 (gNow A) (fun j j0 j1 => c8 j j0 (by omega)) hI
    obtain ⟨h', z1, z2⟩ := mDone_told (d := d) (by omega) hT.1 hT.2.2.1.1 (MH_fr hT.2.1 (fun j _ => by rw [b3 483 (by decide)])) (fun j _ => by rw [b3 483 (by decide)]) (fun b _ b4 _ _ _ _ => b3 b b4) b2 I2 (a := n) (by omega)
    rw [g1 c8, mK_r, if_pos rfl]
    simp only [mP_0, mP_1, mP_2, mP_3, mP_4, mP_5, mP_6, mP_7, mP_8]
    rw [mI_id (x := 0 + 1) (by decide) (by decide), show (0 : Int) + 1 = 1 by decide, l_M_paste_0_eq, mLe_f (by decide), b1, mK_r, if_pos rfl]
    simp only [mP_0, mP_1, mP_2, mP_3, mP_4, mP_5, mP_6, mP_7, mP_8]
    rw [mI_id (x := 1 + 1) (by decide) (by decide), show (1 : Int) + 1 = 2 by decide, l_M_paste_0_eq, mLe_t (by decide), mK_r, if_pos rfl]
    simp only [mP_0, mP_1, mP_2, mP_3]
    rw [mF_t hw, z1, mC_s, iC_t c8]
    exact Or.inr ⟨⟨⟨c0, c1, c3, c4⟩, ⟨c6, c7⟩, c8⟩, h', rfl, z2⟩
  · rw [g2 c8, mK_l, mK_l, iC_f c8]
    exact Or.inl ⟨fun x => c8 x.2.2, rfl⟩
end PU
