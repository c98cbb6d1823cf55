/-! PURE: the class's tokens, more: a number that is wanted, one of some words. -/
section PU
variable {d : Nat} {w : mm_W} {h : mm_H} {a : Int} {cs : List Int} {B : Int → Int} {n p : Int}
theorem L_needNumber (hd : 1 ≤ d) (hW : TW w) (hA : TA h B n p) (hk : tK B n p = 2) (g : Int) : ∀ (m : Nat) (j v : Int), tS B n p ≤ j → j + m = tE B n p → m ≤ 4 → 0 ≤ v → v < 10 ^ (4 - m) → l_Ta_needNumber_0 (mm_P d) 461 g v j w h = some (.inr (65, [(2, 461), (0, g), (0, tVal B m j v), (0, tE B n p)], w, h)) := by
  have hw : (w.1 461).1 = 10 := by rw [hW.1]
  obtain ⟨a1, a2, a3, a4, a5, a6, a7⟩ := hA
  have hn := a1.2.2.1
  have l1 := tS_le (B := B) a7
  have l2 := tE_le (B := B) a7
  intro m
  induction m with
  | zero =>
    intro j v h1 h2 h3 h4 h5
    rw [l_Ta_needNumber_0_eq, mF_t hw, a5, mLe_t (by omega)]
    rw [show j = tE B n p by omega]
    rfl
  | succ m ih =>
    intro j v h1 h2 h3 h4 h5
    have hb := tSort_2 (tK_srt hk (Or.inr rfl) (j := j) h1 (by omega))
    have hv : v < 1000 ∧ 10 * v + B j - 48 < 10 ^ (4 - m) := by
      have : m = 0 ∨ m = 1 ∨ m = 2 ∨ m = 3 := by omega
      rcases this with rfl | rfl | rfl | rfl <;> (simp at h5 ⊢; omega)
    rw [l_Ta_needNumber_0_eq, mF_t hw, a5, mLe_f (by omega), mF_t hw, a1.1, E_peek_t hd hW.2 (by omega) (by omega), mC_s, a1.2.2.2.1 j (by omega) (by omega)]
    try dsimp only
    rw [mI_id (x := 10 * v) (by omega) (by omega), mI_id (x := 10 * v + B j) (by omega) (by omega), mI_id (x := 10 * v + B j - 48) (by omega) (by omega), mI_id (x := j + 1) (by omega) (by omega)]
    exact ih (j + 1) (10 * v + B j - 48) (by omega) (by omega) (by omega) (by omega) hv.2
theorem E_needNumber (hd : 6 ≤ d) (hW : TW w) (hS : StrAt w h (-10) sgs) (hA : TA h B n p) {g : Int} (hg : g ≤ 4) : ((tK B n p = 2 ∧ tE B n p - tS B n p ≤ g) ∧ ∃ h', mm_P d 119 [(2, 461), (0, g)] w h = some ((0, tNum B n p), w, h') ∧ TO h h' ∧ TA h' B n (tE B n p)) ∨ (¬ (tK B n p = 2 ∧ tE B n p - tS B n p ≤ g) ∧ ∃ h', mm_P d 119 [(2, 461), (0, g)] w h = some ((0, 0), w, h') ∧ TO h h' ∧ TF h' B n (tS B n p)) := by
  obtain ⟨d, rfl, hd2⟩ := mm_dS hd; clear hd; have hd := hd2; clear hd2
  have hw : (w.1 461).1 = 10 := by rw [hW.1]
  have hA' := hA
  obtain ⟨a1, a2, a3, a4, a5, a6, a7⟩ := hA
  have hn := a1.2.2.1
  have l1 := tS_le (B := B) a7
  have l2 := tE_le (B := B) a7
  obtain ⟨hr, r1, r2, r3⟩ := E_refuse (d := d) (by omega) hW hA'
  rw [P_Ta_needNumber, mF_t hw, a3]
  by_cases c : tK B n p = 2
  rotate_left
  · rw [mEq_f c, mF_t hw, r1, mC_s]
    exact Or.inr ⟨fun x => c x.1, hr, rfl, r2, r3⟩
  rw [mEq_t c, mF_t hw, mF_t hw, a4, a5, mI_id (by omega) (by omega)]
  by_cases c2 : tE B n p - tS B n p ≤ g
  rotate_left
  · rw [mLe_f (by omega), mF_t hw, r1, mC_s]
    exact Or.inr ⟨fun x => c2 x.2, hr, rfl, r2, r3⟩
  obtain ⟨h', g1, g2, g3⟩ := E_adv (d := d) (by omega) hW hS hA'
  rw [mLe_t c2, mF_t hw]
  try dsimp only
  rw [L_needNumber (d := d) (by omega) hW hA' c g (tE B n p - tS B n p).toNat (tS B n p) 0 (by omega) (by omega) (by omega) (by decide) (Int.pow_pos (by decide)), mK_r, if_pos rfl]
  simp only [mP_0, mP_2]
  rw [mF_t hw, g1, mC_s]
  exact Or.inl ⟨⟨c, c2⟩, h', rfl, g2, g3⟩
theorem E_needNumber_f (hd : 6 ≤ d) (hW : TW w) {f : Int} (hA : TF h B n f) (g : Int) : ∃ h', mm_P d 119 [(2, 461), (0, g)] w h = some ((0, 0), w, h') ∧ TO h h' ∧ TF h' B n f := by
  obtain ⟨d, rfl, hd2⟩ := mm_dS hd; clear hd; have hd := hd2; clear hd2
  have hw : (w.1 461).1 = 10 := by rw [hW.1]
  obtain ⟨hr, r1, r2, r3⟩ := E_refuse_f (d := d) (by omega) hW hA
  rw [P_Ta_needNumber, mF_t hw, hA.2.2.2, mEq_f (by decide), mF_t hw, r1, mC_s]
  exact ⟨hr, rfl, r2, r3⟩
theorem L_needOneOf (hd : 6 ≤ d) (hW : TW w) (hS : StrAt w h (-10) sgs) (hs : StrAt w h a cs) (hA : TA h B n p) : ∀ (m k f j : Nat), j + m = cs.length → f ≤ j → k ≤ j → (∀ i, pick (tWd B n p) cs m k f j = some i → ∃ h', l_Ta_needOneOf_0 (mm_P d) 461 a (k : Int) (f : Int) (j : Int) w h = some (.inl ((0, (i : Int)), w, h')) ∧ TO h h' ∧ TA h' B n (tE B n p)) ∧ (pick (tWd B n p) cs m k f j = none → ∃ k' f' j' : Int, l_Ta_needOneOf_0 (mm_P d) 461 a (k : Int) (f : Int) (j : Int) w h = some (.inr (67, [(2, 461), (2, a), (0, k'), (0, f'), (0, j')], w, h))) := by
  have hw : (w.1 461).1 = 10 := by rw [hW.1]
  have hsw : (w.1 a).1 = 14 := by rw [hs.1]
  have h6 := hs.2.2.2.2.2.2
  obtain ⟨hx, x1, x2, x3⟩ := E_adv (d := d) (by omega) hW hS hA
  intro m
  induction m with
  | zero =>
    intro k f j h1 h2 h3
    have e := E_spells (d := d) (by omega) hW hs hA (f := f) (t := j) h2 (by omega)
    rw [l_Ta_needOneOf_0_eq, mF_t hsw, E_length (by omega) hs, mC_s, mLt_f (by omega), mF_t hsw, E_length (by omega) hs, mC_s, mEq_t (by omega), mF_t hw, e, mC_s]
    unfold pick
    by_cases c : f < j ∧ tWd B n p = (cs.take j).drop f
    · rw [bI_t c, mEq_f (by decide), mF_t hw, x1, mC_s, if_pos c.1, if_pos c.2]
      exact ⟨fun i hi => ⟨hx, by rw [Option.some.inj hi], x2, x3⟩, fun hi => by cases hi⟩
    · rw [bI_f c, mEq_t rfl]
      try dsimp only
      rw [mI_id (by omega) (by omega), mI_id (by omega) (by omega)]
      have : (if f < j then (if tWd B n p = (cs.take j).drop f then some k else none) else none) = none := by
        by_cases c1 : f < j
        · rw [if_pos c1, if_neg (fun q => c ⟨c1, q⟩)]
        · rw [if_neg c1]
      rw [this]
      refine ⟨fun i hi => (by cases hi), fun _ => ⟨(k : Int) + 1, (j : Int) + 1, (j : Int) + 1, ?_⟩⟩
      rw [l_Ta_needOneOf_0_eq, mF_t hsw, E_length (by omega) hs, mC_s, mLt_t (by omega)]
  | succ m ih =>
    intro k f j h1 h2 h3
    have e := E_spells (d := d) (by omega) hW hs hA (f := f) (t := j) h2 (by omega)
    rw [l_Ta_needOneOf_0_eq, mF_t hsw, E_length (by omega) hs, mC_s, mLt_f (by omega), mF_t hsw, E_length (by omega) hs, mC_s, mEq_f (by omega), mF_t hsw, E_charAt (by omega) hs (by omega), mC_s]
    unfold pick
    by_cases c0 : cs.getD j 0 = 32
    · rw [mEq_t c0, mF_t hw, e, mC_s, if_pos c0]
      by_cases c : f < j ∧ tWd B n p = (cs.take j).drop f
      · rw [bI_t c, mEq_f (by decide), mF_t hw, x1, mC_s, if_pos c.1, if_pos c.2]
        exact ⟨fun i hi => ⟨hx, by rw [Option.some.inj hi], x2, x3⟩, fun hi => by cases hi⟩
      · rw [bI_f c, mEq_t rfl]
        try dsimp only
        rw [mI_id (by omega) (by omega), mI_id (by omega) (by omega), show (k : Int) + 1 = ((k + 1 : Nat) : Int) by omega, show (j : Int) + 1 = ((j + 1 : Nat) : Int) by omega]
        have : (if f < j then (if tWd B n p = (cs.take j).drop f then some k else pick (tWd B n p) cs m (k + 1) (j + 1) (j + 1)) else pick (tWd B n p) cs m (k + 1) (j + 1) (j + 1)) = pick (tWd B n p) cs m (k + 1) (j + 1) (j + 1) := by
          by_cases c1 : f < j
          · rw [if_pos c1, if_neg (fun q => c ⟨c1, q⟩)]
          · rw [if_neg c1]
        rw [this]
        exact ih (k + 1) (j + 1) (j + 1) (by omega) (by omega) (by omega)
    · rw [mEq_f c0, if_neg c0]
      try dsimp only
      rw [mI_id (by omega) (by omega), show (j : Int) + 1 = ((j + 1 : Nat) : Int) by omega]
      exact ih k f (j + 1) (by omega) (by omega) (by omega)
theorem E_needOneOf (hd : 7 ≤ d) (hW : TW w) (hS : StrAt w h (-10) sgs) (hs : StrAt w h a cs) (hA : TA h B n p) : (∃ i : Nat, pick (tWd B n p) cs cs.length 0 0 0 = some i ∧ ∃ h', mm_P d 120 [(2, 461), (2, a)] w h = some ((0, (i : Int)), w, h') ∧ TO h h' ∧ TA h' B n (tE B n p)) ∨ (pick (tWd B n p) cs cs.length 0 0 0 = none ∧ ∃ h', mm_P d 120 [(2, 461), (2, a)] w h = some ((0, -1), w, h') ∧ TO h h' ∧ TF h' B n (tS B n p)) := by
  obtain ⟨d, rfl, hd2⟩ := mm_dS hd; clear hd; have hd := hd2; clear hd2
  have hw : (w.1 461).1 = 10 := by rw [hW.1]
  obtain ⟨g1, g2⟩ := L_needOneOf (d := d) (by omega) hW hS hs hA cs.length 0 0 0 (by omega) (by omega) (by omega)
  rw [show ((0 : Nat) : Int) = 0 from rfl] at g1 g2
  rw [P_Ta_needOneOf]
  cases hp : pick (tWd B n p) cs cs.length 0 0 0 with
  | some i =>
    obtain ⟨h', k1, k2, k3⟩ := g1 i hp
    rw [k1, mK_l]
    exact Or.inl ⟨i, rfl, h', rfl, k2, k3⟩
  | none =>
    obtain ⟨k', f', j', k1⟩ := g2 hp
    obtain ⟨hr, r1, r2, r3⟩ := E_refuse (d := d) (by omega) hW hA
    rw [k1, mK_r, if_pos rfl]
    simp only [mP_0]
    rw [mF_t hw, r1, mC_s]
    exact Or.inr ⟨trivial, hr, rfl, r2, r3⟩
theorem L_needOneOf_f (hd : 6 ≤ d) (hW : TW w) (hs : StrAt w h a cs) {g : Int} (hA : TF h B n g) : ∀ (m : Nat) (k f j : Int), j + m = cs.length → 0 ≤ j → 0 ≤ k → k ≤ j → ∃ k' f' j' : Int, l_Ta_needOneOf_0 (mm_P d) 461 a k f j w h = some (.inr (67, [(2, 461), (2, a), (0, k'), (0, f'), (0, j')], w, h)) := by
  have hw : (w.1 461).1 = 10 := by rw [hW.1]
  have hsw : (w.1 a).1 = 14 := by rw [hs.1]
  have h6 := hs.2.2.2.2.2.2
  intro m
  induction m with
  | zero =>
    intro k f j h1 h2 h3 h4
    rw [l_Ta_needOneOf_0_eq, mF_t hsw, E_length (by omega) hs, mC_s, mLt_f (by omega), mF_t hsw, E_length (by omega) hs, mC_s, mEq_t (by omega), mF_t hw, E_spells_f (by omega) hW hA, mC_s, mEq_t rfl]
    try dsimp only
    rw [mI_id (by omega) (by omega), mI_id (by omega) (by omega), l_Ta_needOneOf_0_eq, mF_t hsw, E_length (by omega) hs, mC_s, mLt_t (by omega)]
    exact ⟨_, _, _, rfl⟩
  | succ m ih =>
    intro k f j h1 h2 h3 h4
    obtain ⟨j, rfl⟩ : ∃ q : Nat, j = q := ⟨j.toNat, by omega⟩
    rw [l_Ta_needOneOf_0_eq, mF_t hsw, E_length (by omega) hs, mC_s, mLt_f (by omega), mF_t hsw, E_length (by omega) hs, mC_s, mEq_f (by omega), mF_t hsw, E_charAt (by omega) hs (by omega), mC_s]
    by_cases c0 : cs.getD j 0 = 32
    · rw [mEq_t c0, mF_t hw, E_spells_f (by omega) hW hA, mC_s, mEq_t rfl]
      try dsimp only
      rw [mI_id (by omega) (by omega), mI_id (by omega) (by omega)]
      exact ih _ _ _ (by omega) (by omega) (by omega) (by omega)
    · rw [mEq_f c0]
      try dsimp only
      rw [mI_id (by omega) (by omega)]
      exact ih _ _ _ (by omega) (by omega) (by omega) (by omega)
theorem E_needOneOf_f (hd : 7 ≤ d) (hW : TW w) (hs : StrAt w h a cs) {g : Int} (hA : TF h B n g) : ∃ h', mm_P d 120 [(2, 461), (2, a)] w h = some ((0, -1), w, h') ∧ TO h h' ∧ TF h' B n g := by
  obtain ⟨d, rfl, hd2⟩ := mm_dS hd; clear hd; have hd := hd2; clear hd2
  have hw : (w.1 461).1 = 10 := by rw [hW.1]
  obtain ⟨k', f', j', k1⟩ := L_needOneOf_f (d := d) (by omega) hW hs hA cs.length 0 0 0 (by omega) (by decide) (by decide) (by decide)
  obtain ⟨hr, r1, r2, r3⟩ := E_refuse_f (d := d) (by omega) hW hA
  rw [P_Ta_needOneOf, k1, mK_r, if_pos rfl]
  simp only [mP_0]
  rw [mF_t hw, r1, mC_s]
  exact ⟨hr, rfl, r2, r3⟩
theorem E_rewind (hd : 6 ≤ d) (hW : TW w) (hS : StrAt w h (-10) sgs) (hT : TB h B n) : ∃ h', mm_P d 111 [(2, 461)] w h = some ((9, 0), w, h') ∧ TO h h' ∧ TA h' B n 0 := by
  obtain ⟨d, rfl, hd2⟩ := mm_dS hd; clear hd; have hd := hd2; clear hd2
  have hw : (w.1 461).1 = 10 := by rw [hW.1]
  have hn := hT.2.2.1
  have o1 : TO h (mUp (mUp h 461 3 (-1)) 461 5 0) := TO_tr (TO_up (by decide)) (TO_up (by decide))
  obtain ⟨h', g1, g2, g3⟩ := E_advance (d := d) (p := 0) (by omega) hW (TO_SA o1 hS (by decide)) (TB_to hT o1) (by rw [mUp_n (Or.inr (by decide)), mUp_s]) mUp_s (by decide) hn.1
  rw [P_Ta_rewind, mF_t hw]
  try dsimp only
  rw [mF_t hw, mF_t hw, g1, mC_s]
  exact ⟨h', rfl, TO_tr o1 g2, g3⟩
end PU
/-! the words that the class asks for -/
theorem pick_C (W : List Int) : pick W [118, 97, 108, 117, 101, 32, 114, 111, 119, 32, 99, 111, 108, 117, 109, 110, 32, 108, 101, 102, 116, 32, 97, 98, 111, 118, 101, 32, 115, 117, 109, 32, 109, 111, 115, 116, 32, 108, 101, 97, 115, 116, 32, 108, 105, 107, 101, 32, 103, 114, 101, 97, 116, 101, 114] 55 0 0 0 = if W = [118, 97, 108, 117, 101] then some 0 else if W = [114, 111, 119] then some 1 else if W = [99, 111, 108, 117, 109, 110] then some 2 else if W = [108, 101, 102, 116] then some 3 else if W = [97, 98, 111, 118, 101] then some 4 else if W = [115, 117, 109] then some 5 else if W = [109, 111, 115, 116] then some 6 else if W = [108, 101, 97, 115, 116] then some 7 else if W = [108, 105, 107, 101] then some 8 else if W = [103, 114, 101, 97, 116, 101, 114] then some 9 else none := by rfl
theorem pick_L (W : List Int) : pick W [112, 97, 105, 110, 116, 32, 114, 111, 119, 115, 32, 99, 111, 108, 117, 109, 110, 115, 32, 105, 110, 115, 101, 114, 116, 32, 114, 101, 109, 111, 118, 101, 32, 99, 111, 112, 121, 32, 116, 117, 114, 110, 32, 116, 105, 100, 121, 32, 115, 104, 105, 102, 116, 32, 114, 101, 112, 101, 97, 116] 60 0 0 0 = if W = [112, 97, 105, 110, 116] then some 0 else if W = [114, 111, 119, 115] then some 1 else if W = [99, 111, 108, 117, 109, 110, 115] then some 2 else if W = [105, 110, 115, 101, 114, 116] then some 3 else if W = [114, 101, 109, 111, 118, 101] then some 4 else if W = [99, 111, 112, 121] then some 5 else if W = [116, 117, 114, 110] then some 6 else if W = [116, 105, 100, 121] then some 7 else if W = [115, 104, 105, 102, 116] then some 8 else if W = [114, 101, 112, 101, 97, 116] then some 9 else none := by rfl
theorem pick_N (W : List Int) : pick W [102, 97, 99, 101, 32, 115, 105, 122, 101, 32, 105, 110, 107, 32, 102, 105, 108, 108] 18 0 0 0 = if W = [102, 97, 99, 101] then some 0 else if W = [115, 105, 122, 101] then some 1 else if W = [105, 110, 107] then some 2 else if W = [102, 105, 108, 108] then some 3 else none := by rfl
theorem pick_W (W : List Int) : pick W [114, 111, 119, 115, 32, 99, 111, 108, 117, 109, 110, 115] 12 0 0 0 = if W = [114, 111, 119, 115] then some 0 else if W = [99, 111, 108, 117, 109, 110, 115] then some 1 else none := by rfl
