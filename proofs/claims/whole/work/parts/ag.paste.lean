/-! PURE: pastes of the class. -/
def psT (A : aG) (q i c k : Int) : Int := mI (c / 100 + gSh A q (i + 5 * k))
def psL (A : aG) (q i c k : Int) : Int := mI (c % 100 + gSh A q (i + 5 * k + 1))
def psB (A : aG) (q i c k : Int) : Int := mI (c / 100 + gSh A q (i + 5 * k + 2))
def psR (A : aG) (q i c k : Int) : Int := mI (c % 100 + gSh A q (i + 5 * k + 3))
def psV (A : aG) (q i k : Int) : Int := gSh A q (i + 5 * k + 4)
/-- the five k can be pasted -/
def psO (A : aG) (q i c k : Int) : Prop := (0 ≤ psT A q i c k ∧ 0 ≤ psL A q i c k ∧ psT A q i c k ≤ psB A q i c k ∧ psL A q i c k ≤ psR A q i c k ∧ psB A q i c k < aHi (gNow A) ∧ psR A q i c k < aWi (gNow A)) ∧ 0 ≤ psV A q i k ∧ psV A q i k ≤ 9
def F_pst (A : aG) (p q i c : Int) : Nat → Int → aS → aS
  | 0, _, s => s
  | m + 1, k, s => F_pst A p q i c m (k + 1) (F_paint s p (psV A q i k) (psT A q i c k) (psL A q i c k) (psB A q i c k) (psR A q i c k))
theorem F_pst_I {A : aG} {p q i c : Int} : ∀ (m : Nat) (k : Int) (s : aS), (∀ j : Int, k ≤ j → j < k + m → psO A q i c j) → aI s → aI (F_pst A p q i c m k s) := by
  intro m
  induction m with
  | zero => intro k s _ h; exact h
  | succ m ih =>
    intro k s ho h
    have o := ho k (Int.le_refl _) (by omega)
    unfold psO at o
    exact ih (k + 1) _ (fun j j0 j1 => ho j (by omega) (by omega)) (aI_paint h (by omega))
theorem rectC_dg {t l b r : Int} (h : 0 ≤ t ∧ t ≤ 99 ∧ 0 ≤ l ∧ l ≤ 99 ∧ 0 ≤ b ∧ b ≤ 99 ∧ 0 ≤ r ∧ r ≤ 99) : rectC t l b r / 1000000 = t ∧ rectC t l b r / 10000 % 100 = l ∧ rectC t l b r / 100 % 100 = b ∧ rectC t l b r % 100 = r := by
  unfold rectC
  rw [if_pos h]
  omega
theorem rectC_ok {hi wi t l b r : Int} (hs : hi ≤ 16 ∧ wi ≤ 16) : (isRect hi wi (rectC t l b r) ↔ 0 ≤ t ∧ 0 ≤ l ∧ t ≤ b ∧ l ≤ r ∧ b < hi ∧ r < wi) ∧ rectC t l b r < 2147483648 := by
  by_cases hh : 0 ≤ t ∧ t ≤ 99 ∧ 0 ≤ l ∧ l ≤ 99 ∧ 0 ≤ b ∧ b ≤ 99 ∧ 0 ≤ r ∧ r ≤ 99
  · have dg := rectC_dg hh
    have e : rectC t l b r = 1000000 * t + 10000 * l + 100 * b + r := if_pos hh
    have e0 : 0 ≤ rectC t l b r ∧ rectC t l b r < 2147483648 := by rw [e]; omega
    unfold isRect
    rw [dg.1, dg.2.1, dg.2.2.1, dg.2.2.2]
    refine ⟨⟨fun x => ?_, fun x => ?_⟩, e0.2⟩
    · exact ⟨hh.1, hh.2.2.1, x.2.1, x.2.2.2.1, x.2.2.1, x.2.2.2.2⟩
    · exact ⟨e0.1, x.2.2.1, x.2.2.2.2.1, x.2.2.2.1, x.2.2.2.2.2⟩
  · have e : rectC t l b r = -1 := if_neg hh
    rw [e]
    refine ⟨⟨fun x => absurd x.1 (by decide), fun x => absurd ?_ hh⟩, by decide⟩
    omega
def psK (A : aG) (q i n p c : Int) : Prop := (0 ≤ q ∧ q < 4) ∧ (1 ≤ n ∧ n ≤ 12) ∧ (0 ≤ p ∧ p < 4) ∧ isCell (aHi (gNow A)) (aWi (gNow A)) c
def psI (A : aG) (q i n : Int) : Prop := 0 ≤ i ∧ i ≤ gSz A q - 5 * n
def psA (A : aG) (q i n c : Int) : Prop := ∀ j : Int, 0 ≤ j → j < n → psO A q i c j
noncomputable def fPaste (A : aG) (q i n p c : Int) : Int := iC (psK A q i n p c) (iC (gSz A q < 0) (-11) (iC (psI A q i n) (iC (psA A q i n c) n (-2)) (-13))) (-2)
/-- a paste is told -/
def psG (A : aG) (q i n p c : Int) : Prop := psK A q i n p c ∧ psI A q i n ∧ psA A q i n c
section PU
variable {d : Nat} {w : mm_W} {h : mm_H} {A : aG} {s : aS}
theorem E_pastedRect (hd : 3 ≤ d) (hW : WK w) (hK : HK h) (hs : shl h 469 468 A) {q i c k : Int} (hq : 0 ≤ q ∧ q < 4) (hc : 0 ≤ c ∧ c < 2147483648) (ha : 0 ≤ i + 5 * k ∧ i + 5 * k + 5 ≤ gSz A q) : mm_P d 197 [(2, 1), (0, q), (0, i + 5 * k), (0, c)] w h = some ((0, rectC (psT A q i c k) (psL A q i c k) (psB A q i c k) (psR A q i c k)), w, h) := by
  obtain ⟨d, rfl, hd2⟩ := mm_dS hd; clear hd; have hd := hd2; clear hd2
  have w1 : (w.1 1).1 = 12 := by rw [hW.1.1]
  obtain ⟨s1, s2, s3⟩ := hs q hq.1 hq.2
  have sh : ∀ j : Int, 0 ≤ j → j < gSz A q → mm_P d 195 [(2, 1), (0, q), (0, j)] w h = some ((0, gSh A q j), w, h) := fun j j0 j1 => by
    rw [E_shortOf (by omega) hW hK hq (by omega), show q * 60 + j = 60 * q + j by omega, s3 j j0 j1]
  rw [P_F_pastedRect, mD_t (by decide), mD_t (by decide), (n100 hc.1 hc.2).1, (n100 hc.1 hc.2).2]
  try dsimp only
  rw [mI_id (x := i + 5 * k + 1) (by omega) (by omega), mI_id (x := i + 5 * k + 2) (by omega) (by omega), mI_id (x := i + 5 * k + 3) (by omega) (by omega), mF_t w1, sh _ (by omega) (by omega), mC_s, mF_t w1, sh _ (by omega) (by omega), mC_s, mF_t w1, sh _ (by omega) (by omega), mC_s, mF_t w1, sh _ (by omega) (by omega), mC_s, E_rectCode (by omega), mC_s]
  rfl
theorem L_pst (hd : 4 ≤ d) (hW : WK w) (hK : HK h) (hs : shl h 469 468 A) {q i n p c : Int} (hq : 0 ≤ q ∧ q < 4) (hp : 0 ≤ p ∧ p < 4) (hc : 0 ≤ c ∧ c < 2147483648) (hn : n ≤ 12) (hi : 0 ≤ i ∧ i ≤ gSz A q - 5 * n) : ∀ (m : Nat) (k : Int) (s : aS) (h1 : mm_H), (∀ b : Int, ¬ (4 ≤ b ∧ b < 17) → h1 b = h b) → RC w h1 4 s → aI s → aHi s = aHi (gNow A) → aWi s = aWi (gNow A) → 0 ≤ k → k + m = n → ((∀ j : Int, k ≤ j → j < n → psO A q i c j) → ∃ h', l_F_paste_0 (mm_P d) 1 q i n p c 4 k w h1 = some (.inr (152, [(2, 1), (0, q), (0, i), (0, n), (0, p), (0, c), (2, 4), (0, n), (9, 0), (9, 0)], w, h')) ∧ RC w h' 4 (F_pst A p q i c m k s) ∧ ∀ b : Int, ¬ (4 ≤ b ∧ b < 17) → h' b = h b) ∧ (¬ (∀ j : Int, k ≤ j → j < n → psO A q i c j) → ∃ h', l_F_paste_0 (mm_P d) 1 q i n p c 4 k w h1 = some (.inl ((0, -2), w, h')) ∧ ShH h' 4 ∧ ∀ b : Int, ¬ (4 ≤ b ∧ b < 17) → h' b = h b) := by
  have w1 : (w.1 1).1 = 12 := by rw [hW.1.1]
  have w420 : (w.1 420).1 = 3 := by rw [hW.1.2.2.2.1]
  intro m
  induction m with
  | zero =>
    intro k s h1 fr hR hI e1 e2 k0 hm
    rw [l_F_paste_0_eq, mLe_t (by omega), show k = n by omega]
    exact ⟨fun _ => ⟨h1, rfl, hR, fr⟩, fun x => absurd (fun j j0 j1 => by omega) x⟩
  | succ m ih =>
    intro k s h1 fr hR hI e1 e2 k0 hm
    have fr2 : ∀ b : Int, ¬ (4 ≤ b ∧ b < 17) → ¬ (421 ≤ b ∧ b < 435) → h1 b = h b := fun b x _ => fr b x
    have K1 : HK h1 := HK_ed hK fr2 hR.1 (ShH_fr hK.2.2.2.2.2.2.1 (fun j _ _ => by rw [fr 421 (by omega)]) (fr _ (by omega)))
    have s1 : shl h1 469 468 A := fun a a0 a1 => by rw [fr 469 (by omega), fr 468 (by omega)]; exact hs a a0 a1
    obtain ⟨u1, u2, u3⟩ := s1 q hq.1 hq.2
    have h11 : h1 1 1 = 420 := K1.1.2.1
    have g4 := E_shortOf (d := d) (h := h1) (by omega) hW K1 hq (i := i + 5 * k + 4) (by omega)
    rw [show q * 60 + (i + 5 * k + 4) = 60 * q + (i + 5 * k + 4) by omega, u3 (i + 5 * k + 4) (by omega) (by omega)] at g4
    have eV : gSh A q (i + 5 * k + 4) = psV A q i k := rfl
    rw [eV] at g4
    rw [l_F_paste_0_eq, mLe_f (by omega), mI_id (x := 5 * k) (by omega) (by omega), mI_id (x := i + 5 * k) (by omega) (by omega)]
    try dsimp only
    rw [mI_id (x := i + 5 * k + 4) (by omega) (by omega), mF_t w1, g4, mC_s, E_isNumber (by omega), mC_s]
    by_cases c1 : 0 ≤ psV A q i k ∧ psV A q i k ≤ 9
    rotate_left
    · rw [bI_f c1, mEq_t rfl]
      exact ⟨fun x => absurd (x k (Int.le_refl _) (by omega)).2 c1, fun _ => ⟨h1, rfl, hR.1, fr⟩⟩
    rw [bI_t c1, mEq_f (by decide), mF_t w1, mF_t w1, E_pastedRect (by omega) hW K1 s1 hq hc (by omega), mC_s, h11, mF_t w420]
    have i1 := hI.1; have i2 := hI.2.1
    have rc := rectC_ok (hi := aHi s) (wi := aWi s) (t := psT A q i c k) (l := psL A q i c k) (b := psB A q i c k) (r := psR A q i c k) ⟨i1.2, i2.2⟩
    rcases E_paintRect (d := d) (by omega) 420 (W4 hW) (by decide) hI hR p (psV A q i k) rc.2 with ⟨z, h2, b1, b2, b3⟩ | ⟨z, b1⟩
    · have z2 := rc.1.mp z.2.2
      have dg := rectC_dg (t := psT A q i c k) (l := psL A q i c k) (b := psB A q i c k) (r := psR A q i c k) (by omega)
      rw [dg.1, dg.2.1, dg.2.2.1, dg.2.2.2] at b2
      have ok : psO A q i c k := ⟨by rw [← e1, ← e2]; exact z2, c1⟩
      obtain ⟨g1, g2⟩ := ih (k + 1) _ h2 (fun b hb => by rw [b3 b (by omega), fr b hb]) b2 (aI_paint hI (by omega)) e1 e2 (by omega) (by omega)
      rw [b1, mC_s, mLe_t (by decide), mI_id (x := k + 1) (by omega) (by omega)]
      refine ⟨fun x => g1 (fun j j0 j1 => x j (by omega) j1), fun x => g2 (fun y => x (fun j j0 j1 => ?_))⟩
      by_cases e : j = k
      · rw [e]; exact ok
      · exact y j (by omega) j1
    · rw [b1, mC_s, mLe_f (by decide)]
      refine ⟨fun x => absurd ?_ z, fun _ => ⟨h1, rfl, hR.1, fr⟩⟩
      have o := x k (Int.le_refl _) (by omega)
      have o1 := o.1
      rw [← e1, ← e2] at o1
      exact ⟨hp, by omega, rc.1.mpr o1⟩
theorem E_F_paste (hd : 30 ≤ d) (hW : WK w) (hK : HK h) (hc : cHist w h A) (hs : shl h 469 468 A) (q i n p : Int) (hnn : n < 2147483648) {c : Int} (hcc : c < 2147483648) : (¬ psG A q i n p c ∧ ∃ h', mm_P d 153 [(2, 1), (0, q), (0, i), (0, n), (0, p), (0, c)] w h = some ((0, fPaste A q i n p c), w, h') ∧ cSame w h h' A) ∨ (psG A q i n p c ∧ ∃ h', mm_P d 153 [(2, 1), (0, q), (0, i), (0, n), (0, p), (0, c)] w h = some ((0, fPaste A q i n p c), w, h') ∧ cDone w h h' A (F_pst A p q i c n.toNat 0 (gNow A))) := by
  obtain ⟨d, rfl, hd2⟩ := mm_dS (show 29 + 1 ≤ d by omega)
  have w1 : (w.1 1).1 = 12 := by rw [hW.1.1]
  have w2 : (w.1 2).1 = 4 := by rw [hW.1.2.1]
  have w9 : (w.1 4).1 = 9 := by rw [(W4 hW).2.1]
  obtain ⟨h1, a1, a2, a3, a4, a5, a6⟩ := E_draft (d := d) (by omega) hW hK hc
  have s1 : shl h1 469 468 A := fun a a0 a1 => by rw [a6 469 (by omega), a6 468 (by omega)]; exact hs a a0 a1
  have sm := cSame_ed hK hc a6 a2.1 (h2 := h1) rfl
  unfold fPaste
  rw [P_F_paste, mF_t w1, hK.1.1, mF_t w2, a1, mC_s, E_isShelf (by omega), mC_s]
  by_cases c0 : 0 ≤ q ∧ q < 4
  rotate_left
  · rw [bI_f c0, mEq_t rfl, iC_f (fun x => c0 x.1)]
    exact Or.inl ⟨fun x => c0 x.1.1, h1, rfl, sm⟩
  rw [bI_t c0, mEq_f (by decide)]
  by_cases c1 : 1 ≤ n
  rotate_left
  · rw [mLt_t (by omega), iC_f (fun x => c1 x.2.1.1)]
    exact Or.inl ⟨fun x => c1 x.1.2.1.1, h1, rfl, sm⟩
  rw [mLt_f c1]
  by_cases c2 : n ≤ 12
  rotate_left
  · rw [mLt_t (by omega), iC_f (fun x => c2 x.2.1.2)]
    exact Or.inl ⟨fun x => c2 x.1.2.1.2, h1, rfl, sm⟩
  rw [mLt_f c2, E_isProperty (by omega), mC_s]
  by_cases c3 : 0 ≤ p ∧ p < 4
  rotate_left
  · rw [bI_f c3, mEq_t rfl, iC_f (fun x => c3 x.2.2.1)]
    exact Or.inl ⟨fun x => c3 x.1.2.2.1, h1, rfl, sm⟩
  rw [bI_t c3, mEq_f (by decide), mF_t w9, E_hasCell (by omega) (W4 hW) hcc, mC_s, a2.2.1.1, a2.2.1.2.1]
  by_cases c4 : isCell (aHi (gNow A)) (aWi (gNow A)) c
  rotate_left
  · rw [bI_f c4, mEq_t rfl, iC_f (fun x => c4 x.2.2.2)]
    exact Or.inl ⟨fun x => c4 x.1.2.2.2, h1, rfl, sm⟩
  obtain ⟨t1, t2, t3⟩ := hs q c0.1 c0.2
  rw [bI_t c4, mEq_f (by decide), mF_t w1, E_sizeOf (by omega) hW a4 s1 c0, mC_s, iC_t ⟨c0, ⟨c1, c2⟩, c3, c4⟩]
  by_cases c5 : gSz A q < 0
  · rw [mLe_f c5, iC_t c5]
    exact Or.inl ⟨fun x => by have := x.2.1; unfold psI at this; omega, h1, rfl, sm⟩
  rw [mLe_t (by omega), iC_f c5]
  by_cases c6 : 0 ≤ i
  rotate_left
  · rw [mLt_t (by omega), iC_f (fun x => c6 x.1)]
    exact Or.inl ⟨fun x => c6 x.2.1.1, h1, rfl, sm⟩
  rw [mLt_f c6, mF_t w1, E_sizeOf (by omega) hW a4 s1 c0, mC_s, mI_id (x := 5 * n) (by omega) (by omega), mI_id (x := gSz A q - 5 * n) (by omega) (by omega)]
  by_cases c7 : i ≤ gSz A q - 5 * n
  rotate_left
  · rw [mLe_f (by omega), iC_f (fun x => c7 x.2)]
    exact Or.inl ⟨fun x => c7 x.2.1.2, h1, rfl, sm⟩
  obtain ⟨g1, g2⟩ := L_pst (d := d) (by omega) hW a4 s1 c0 c3 ⟨c4.1, hcc⟩ c2 ⟨c6, c7⟩ n.toNat 0 (gNow A) h1 (fun _ _ => rfl) a2 a3 rfl rfl (Int.le_refl _) (by omega)
  rw [mLe_t c7, iC_t ⟨c6, c7⟩]
  by_cases c8 : psA A q i n c
  · obtain ⟨h2, b1, b2, b3⟩ := g1 c8
    have S421 : ShH h2 421 := ShH_fr a4.2.2.2.2.2.2.1 (fun j _ _ => by rw [b3 421 (by omega)]) (b3 _ (by omega))
    have I2 := F_pst_I (A := A) (p := p) (q := q) (i := i) (c := c) n.toNat 0 (gNow A) (fun j j0 j1 => c8 j j0 (by omega)) a3
    obtain ⟨h', z1, z2⟩ := E_settle (d := d) (by omega) hW hK hc (fun b x y => by rw [b3 b x, a6 b x]) b2 S421 I2 (a := n) (by omega)
    rw [b1, mK_r, if_pos rfl]
    simp only [mP_0, mP_3]
    rw [mF_t w1, z1, mC_s, iC_t c8]
    exact Or.inr ⟨⟨⟨c0, ⟨c1, c2⟩, c3, c4⟩, ⟨c6, c7⟩, c8⟩, h', rfl, z2⟩
  · obtain ⟨h2, b1, b2, b3⟩ := g2 c8
    rw [b1, mK_l, iC_f c8]
    exact Or.inl ⟨fun x => c8 x.2.2, h2, rfl, cSame_ed hK hc (fun b hb => by rw [b3 b hb, a6 b hb]) b2 rfl⟩
end PU
