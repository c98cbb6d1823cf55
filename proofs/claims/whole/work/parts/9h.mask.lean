/-! PURE: which rules hold, where a number is from: the class. -/
def inR (s : aS) (k r c : Int) : Prop := (aRul s k 0 ≤ r ∧ r ≤ aRul s k 2) ∧ aRul s k 1 ≤ c ∧ c ≤ aRul s k 3
def hldA (s : aS) (k r c : Int) : Prop := inR s k r c ∧ isSoA s k r c
/-- the bits of the first n rules -/
noncomputable def msk (s : aS) (r c : Int) : Nat → Int
  | 0 => 0
  | n + 1 => msk s r c n + bI (hldA s (n : Int) r c) * 2 ^ n
theorem msk_in (s : aS) (r c : Int) : ∀ n : Nat, 0 ≤ msk s r c n ∧ msk s r c n < 2 ^ n := by
  intro n
  induction n with
  | zero => exact ⟨Int.le_refl _, (by decide : (0 : Int) < 2 ^ 0)⟩
  | succ n ih =>
    have hp : (0 : Int) < 2 ^ n := Int.pow_pos (by decide)
    unfold msk
    rw [Int.pow_succ]
    rcases bI_01 (hldA s (n : Int) r c) with e | e <;> rw [e] <;> omega
theorem or_bit : ∀ k : Nat, k < 6 → ∀ m : Nat, m < 2 ^ k → mOr (m : Int) (mShl 1 (k : Int)) = (m : Int) + 2 ^ k := by decide +kernel
theorem and_bit : ∀ k : Nat, k < 6 → ∀ m : Nat, m < 64 → mAnd (mShr (m : Int) (k : Int)) 1 = (m : Int) / 2 ^ k % 2 := by decide +kernel
theorem msk_or {s : aS} {r c : Int} {n : Nat} (hn : n < 6) (h : hldA s (n : Int) r c) : mOr (msk s r c n) (mShl 1 (n : Int)) = msk s r c (n + 1) := by
  have h1 := msk_in s r c n
  obtain ⟨q, hq⟩ : ∃ q : Nat, msk s r c n = q := ⟨(msk s r c n).toNat, by omega⟩
  have h2 : q < 2 ^ n := by
    have h3 := h1.2
    rw [hq] at h3
    have e : ((2 ^ n : Nat) : Int) = (2 : Int) ^ n := Int.natCast_pow 2 n
    omega
  have e3 : msk s r c (n + 1) = msk s r c n + bI (hldA s (n : Int) r c) * 2 ^ n := rfl
  rw [e3, bI_t h, hq, or_bit n hn q h2, Int.one_mul]
theorem msk_skip {s : aS} {r c : Int} {n : Nat} (h : ¬ hldA s (n : Int) r c) : msk s r c (n + 1) = msk s r c n := by
  have e3 : msk s r c (n + 1) = msk s r c n + bI (hldA s (n : Int) r c) * 2 ^ n := rfl
  rw [e3, bI_f h, Int.zero_mul, Int.add_zero]
theorem msk_split {s : aS} {r c : Int} (k : Nat) : ∀ m : Nat, ∃ t : Int, msk s r c (k + 1 + m) = msk s r c k + 2 ^ k * (bI (hldA s (k : Int) r c) + 2 * t) := by
  intro m
  induction m with
  | zero =>
    refine ⟨0, ?_⟩
    show msk s r c k + bI (hldA s (k : Int) r c) * 2 ^ k = _
    rw [Int.mul_zero, Int.add_zero, Int.mul_comm]
  | succ m ih =>
    obtain ⟨t, ht⟩ := ih
    refine ⟨t + bI (hldA s ((k + 1 + m : Nat) : Int) r c) * 2 ^ m, ?_⟩
    show msk s r c (k + 1 + m) + bI (hldA s ((k + 1 + m : Nat) : Int) r c) * 2 ^ (k + 1 + m) = _
    rw [ht, Int.pow_add, Int.pow_succ, Int.mul_add, Int.mul_add, Int.mul_add, Int.mul_add]
    generalize bI (hldA s ((k + 1 + m : Nat) : Int) r c) = x
    generalize (2 : Int) ^ k = P
    generalize (2 : Int) ^ m = Q
    have e : x * (P * 2 * Q) = P * (2 * (x * Q)) := by
      rw [Int.mul_comm P 2, Int.mul_assoc 2 P Q, Int.mul_left_comm x 2, Int.mul_left_comm x P, Int.mul_left_comm P 2]
    omega
theorem msk_bit {s : aS} {r c : Int} {n k : Nat} (hn : n ≤ 6) (hk : k < n) : mAnd (mShr (msk s r c n) (k : Int)) 1 = bI (hldA s (k : Int) r c) := by
  have h1 := msk_in s r c n
  have hk1 := msk_in s r c k
  have h64 : (2 : Int) ^ n ≤ 64 := by
    have := Nat.pow_le_pow_right (n := 2) (by decide) hn
    have e : ((2 ^ n : Nat) : Int) = (2 : Int) ^ n := Int.natCast_pow 2 n
    omega
  obtain ⟨q, hq⟩ : ∃ q : Nat, msk s r c n = q := ⟨(msk s r c n).toNat, by omega⟩
  rw [hq, and_bit k (by omega) q (by omega), ← hq]
  obtain ⟨t, ht⟩ := msk_split (s := s) (r := r) (c := c) k (n - (k + 1))
  rw [show k + 1 + (n - (k + 1)) = n by omega] at ht
  have hp : (2 : Int) ^ k ≠ 0 := Int.ne_of_gt (Int.pow_pos (by decide))
  rw [ht, Int.add_mul_ediv_left _ _ hp, Int.ediv_eq_zero_of_lt hk1.1 hk1.2]
  have := bI_01 (hldA s (k : Int) r c)
  omega
/-- the first of the rules from k on that tells the property's number; -1: none -/
noncomputable def srcR (H : Int → Prop) (s : aS) (p : Int) : Nat → Int → Int
  | 0, _ => -1
  | m + 1, k => @ite _ (H k) (Classical.propDecidable _) (if aRul s k 4 = p then k else if aRul s k 6 = 1 then -1 else srcR H s p m (k + 1)) (srcR H s p m (k + 1))
theorem srcR_in {H : Int → Prop} {s : aS} {p : Int} : ∀ (m : Nat) (k : Int), 0 ≤ k → -1 ≤ srcR H s p m k ∧ srcR H s p m k < k + m ∧ (srcR H s p m k ≠ -1 → k ≤ srcR H s p m k ∧ aRul s (srcR H s p m k) 4 = p ∧ H (srcR H s p m k)) := by
  intro m
  induction m with
  | zero => intro k hk; exact ⟨Int.le_refl _, by show (-1 : Int) < k + (0 : Nat); omega, fun h => absurd rfl h⟩
  | succ m ih =>
    intro k hk
    have := ih (k + 1) (by omega)
    unfold srcR
    by_cases c : H k
    · rw [if_pos c]
      split
      · exact ⟨by omega, by omega, fun _ => ⟨Int.le_refl _, by assumption, c⟩⟩
      · split
        · exact ⟨by omega, by omega, fun h => absurd rfl h⟩
        · exact ⟨this.1, by omega, fun h => ⟨by have := this.2.2 h; omega, (this.2.2 h).2⟩⟩
    · rw [if_neg c]
      exact ⟨this.1, by omega, fun h => ⟨by have := this.2.2 h; omega, (this.2.2 h).2⟩⟩
theorem srcR_no {s : aS} {p : Int} : ∀ (m : Nat) (k : Int), srcR (fun _ => False) s p m k = -1 := by
  intro m
  induction m with
  | zero => intro k; rfl
  | succ m ih => intro k; unfold srcR; rw [if_neg (fun h => h)]; exact ih (k + 1)
/-- what a rule, or what lies beneath, makes of it -/
def frm (s : aS) (p r c k : Int) : Int := if 0 ≤ k then 4 + k else if aCel s p r c ≠ -1 then 3 else if aLin s 0 p r ≠ -1 then 2 else if aLin s 1 p c ≠ -1 then 1 else 0
def num (s : aS) (p r c k : Int) : Int := if 0 ≤ k then aRul s k 5 else if aCel s p r c ≠ -1 then aCel s p r c else aBen s p r c
/-- which rule shows, where SHOWN is from, what is SHOWN -/
noncomputable def srcA (s : aS) (p r c : Int) : Int := srcR (fun k => hldA s k r c) s p (aN s).toNat 0
noncomputable def fromA (s : aS) (p r c : Int) : Int := frm s p r c (srcA s p r c)
noncomputable def numA (s : aS) (p r c : Int) : Int := num s p r c (srcA s p r c)
section PU
variable {d : Nat} {w : mm_W} {h : mm_H} {s : aS} {S : Int}
theorem E_covers (hd : 1 ≤ d) {o k : Int} (ho : (w.1 o).1 = 7) (hv : h o 0 = aRul s k 0 ∧ h o 1 = aRul s k 1 ∧ h o 2 = aRul s k 2 ∧ h o 3 = aRul s k 3) (r c : Int) : mm_P d 73 [(2, o), (0, r), (0, c)] w h = some ((0, bI (inR s k r c)), w, h) := by
  obtain ⟨d, rfl, hd2⟩ := mm_dS hd; clear hd; have hd := hd2; clear hd2
  obtain ⟨v0, v1, v2, v3⟩ := hv
  unfold inR
  rw [P_Ru_covers, mF_t ho, v0, mF_t ho, v2, mF_t ho, v1, mF_t ho, v3]
  simp only [mLt, mZ_0, mZ_1]
  repeat' split
  all_goals first | (rw [bI_t (by omega)]) | (rw [bI_f (by omega)])
theorem L_maskAt (hd : 14 ≤ d) (hP : PW w) (hS : sOk S) (hW : ShW w S) (hI : aI s) {r c : Int} (hr : 0 ≤ r ∧ r < aHi s) (hc : 0 ≤ c ∧ c < aWi s) : ∀ (m k : Nat) (h : mm_H), h 436 0 = 437 → RC w h S s → (k : Int) + m = aN s → ∃ h', l_Pr_maskAt_0 (mm_P d) 436 S r c (msk s r c k) (k : Int) w h = some (.inr (67, [(2, 436), (2, S), (0, r), (0, c), (0, msk s r c (aN s).toNat), (0, aN s), (9, 0)], w, h')) ∧ PO h h' := by
  have wS : (w.1 S).1 = 9 := by rw [hW.2.1]
  have w436 : (w.1 436).1 = 5 := by rw [hP.1]
  have hn := hI.2.2.1
  intro m
  induction m with
  | zero =>
    intro k h h0 hR hk
    rw [l_Pr_maskAt_0_eq, mF_t wS, hR.2.1.2.2, mLe_t (by omega)]
    exact ⟨h, by rw [show (k : Int) = aN s by omega, show k = (aN s).toNat by omega], PO_rf h⟩
  | succ m ih =>
    intro k h h0 hR hk
    have hk' : 0 ≤ (k : Int) ∧ (k : Int) < aN s := by omega
    obtain ⟨o1, o2, o3, v⟩ := rul_f hS hW hI hR hk' rfl
    rw [l_Pr_maskAt_0_eq, mF_t wS, hR.2.1.2.2, mLe_f (by omega), mF_t wS, E_ruleAt (by omega) hW hR.1 (by omega) (by omega), mC_s, mF_t o1, E_covers (by omega) o1 v, mC_s]
    have e1 : (k : Int) + 1 = ((k + 1 : Nat) : Int) := by omega
    by_cases c1 : inR s (k : Int) r c
    rotate_left
    · rw [bI_f c1, mEq_t rfl]
      try dsimp only
      rw [mI_id (by omega) (by omega), e1, ← msk_skip (n := k) (fun x => c1 x.1)]
      exact ih (k + 1) h h0 hR (by omega)
    obtain ⟨h1, a1, a2, a3⟩ := E_aim (d := d) (by omega) hP hS hW hI hR hk'
    have R1 := RC_PO hS hI hR a2
    have ho : h1 (S + 5) (k : Int) = h (S + 5) (k : Int) := by rw [a2.1 _ (by unfold sOk at hS; omega) (by unfold sOk at hS; omega)]
    obtain ⟨h2, b1, b2, b3⟩ := E_isSo (d := d) (by omega) hP hS hW hI (by rw [a2.2]; exact h0) R1 hk' hr hc a3
    rw [ho] at b1
    have o12 := PO_tr a2 b2
    rw [bI_t c1, mEq_f (by decide), mF_t w436, a1, mC_s, mF_t w436, b1, mC_s]
    try dsimp only
    rw [mI_id (by omega) (by omega), e1]
    by_cases c2 : isSoA s (k : Int) r c
    · rw [bI_t c2, mEq_f (by decide), msk_or (by omega) ⟨c1, c2⟩]
      obtain ⟨h', g1, g2⟩ := ih (k + 1) h2 (by rw [o12.2]; exact h0) (RC_PO hS hI hR o12) (by omega)
      exact ⟨h', g1, PO_tr o12 g2⟩
    · rw [bI_f c2, mEq_t rfl, ← msk_skip (n := k) (fun x => c2 x.2)]
      obtain ⟨h', g1, g2⟩ := ih (k + 1) h2 (by rw [o12.2]; exact h0) (RC_PO hS hI hR o12) (by omega)
      exact ⟨h', g1, PO_tr o12 g2⟩
theorem E_maskAt (hd : 15 ≤ d) (hP : PW w) (hS : sOk S) (hW : ShW w S) (hI : aI s) {r c : Int} (hr : 0 ≤ r ∧ r < aHi s) (hc : 0 ≤ c ∧ c < aWi s) (h0 : h 436 0 = 437) (hR : RC w h S s) : ∃ h', mm_P d 52 [(2, 436), (2, S), (0, r), (0, c)] w h = some ((0, msk s r c (aN s).toNat), w, h') ∧ PO h h' := by
  obtain ⟨d, rfl, hd2⟩ := mm_dS (show 14 + 1 ≤ d by omega)
  have hn := hI.2.2.1
  obtain ⟨h', g1, g2⟩ := L_maskAt (d := d) (by omega) hP hS hW hI hr hc (aN s).toNat 0 h h0 hR (by omega)
  have g1 : l_Pr_maskAt_0 (mm_P d) 436 S r c 0 0 w h = _ := g1
  rw [P_Pr_maskAt, g1, mK_r, if_pos rfl]
  simp only [mP_4]
  exact ⟨h', rfl, g2⟩
theorem L_source (hd : 2 ≤ d) (hW : ShW w S) (hI : aI s) (hR : RC w h S s) {H : Int → Prop} {M p r c : Int} (hb : ∀ k : Int, 0 ≤ k → k < aN s → mAnd (mShr M k) 1 = bI (H k)) : ∀ (m : Nat) (k : Int), 0 ≤ k → k + m = aN s → (srcR H s p m k = -1 → ∃ k' : Int, l_Sh_sourceOf_0 (mm_P d) S M p r c k w h = some (.inr (61, [(2, S), (0, M), (0, p), (0, r), (0, c), (0, k'), (9, 0)], w, h))) ∧ (srcR H s p m k ≠ -1 → l_Sh_sourceOf_0 (mm_P d) S M p r c k w h = some (.inl ((0, 4 + srcR H s p m k), w, h))) := by
  have wS : (w.1 S).1 = 9 := by rw [hW.2.1]
  have hn := hI.2.2.1
  intro m
  induction m with
  | zero =>
    intro k k0 hk
    rw [l_Sh_sourceOf_0_eq, mF_t wS, hR.2.1.2.2, mLe_t (by omega)]
    exact ⟨fun _ => ⟨k, rfl⟩, fun h => absurd rfl h⟩
  | succ m ih =>
    intro k k0 hk
    have hv := (hR.2.2.2.2.2.2.2 k k0 (by omega)).1
    have o1 : (w.1 (h (S + 5) k)).1 = 7 := by rw [(Sh_rul hW hR.1 k0 (show k < 6 by omega)).1]
    rw [l_Sh_sourceOf_0_eq, mF_t wS, hR.2.1.2.2, mLe_f (by omega), hb k k0 (by omega)]
    unfold srcR
    by_cases c1 : H k
    · rw [if_pos c1, bI_t c1, mEq_f (by decide), mF_t wS, E_ruleAt (by omega) hW hR.1 k0 (by omega), mC_s, mF_t o1, hv 4 (by decide) (by decide)]
      by_cases c2 : aRul s k 4 = p
      · rw [if_pos c2, mEq_t c2, mI_id (by omega) (by omega)]
        exact ⟨fun h => by omega, fun _ => rfl⟩
      · rw [if_neg c2, mEq_f c2, mF_t o1, hv 6 (by decide) (by decide)]
        by_cases c3 : aRul s k 6 = 1
        · rw [if_pos c3, mEq_t c3]
          exact ⟨fun _ => ⟨k, rfl⟩, fun h => absurd rfl h⟩
        · rw [if_neg c3, mEq_f c3]
          try dsimp only
          rw [mI_id (by omega) (by omega)]
          exact ih (k + 1) (by omega) (by omega)
    · rw [if_neg c1, bI_f c1, mEq_t rfl]
      try dsimp only
      rw [mI_id (by omega) (by omega)]
      exact ih (k + 1) (by omega) (by omega)
theorem E_sourceOf (hd : 3 ≤ d) (hW : ShW w S) (hI : aI s) (hR : RC w h S s) {H : Int → Prop} {M p r c : Int} (hb : ∀ k : Int, 0 ≤ k → k < aN s → mAnd (mShr M k) 1 = bI (H k)) (hp : 0 ≤ p ∧ p < 4) (hr : 0 ≤ r ∧ r < aHi s) (hc : 0 ≤ c ∧ c < aWi s) : mm_P d 102 [(2, S), (0, M), (0, p), (0, r), (0, c)] w h = some ((0, frm s p r c (srcR H s p (aN s).toNat 0)), w, h) := by
  obtain ⟨d, rfl, hd2⟩ := mm_dS hd; clear hd; have hd := hd2; clear hd2
  have wS : (w.1 S).1 = 9 := by rw [hW.2.1]
  have hn := hI.2.2.1
  have i1 := hI.1; have i2 := hI.2.1
  obtain ⟨g1, g2⟩ := L_source (d := d) hd hW hI hR (p := p) (r := r) (c := c) hb (aN s).toNat 0 (Int.le_refl _) (by omega)
  have hin := srcR_in (H := H) (s := s) (p := p) (aN s).toNat 0 (Int.le_refl _)
  unfold frm
  rw [P_Sh_sourceOf]
  by_cases c0 : srcR H s p (aN s).toNat 0 = -1
  · obtain ⟨k', g⟩ := g1 c0
    rw [g, mK_r, if_pos rfl, if_neg (by omega)]
    simp only [mP_0, mP_2, mP_3, mP_4]
    rw [mF_t wS, E_cellFormat (by omega) hW hR.1.2.1 hp.1 hp.2 hr.1 (by omega) hc.1 (by omega), mC_s, hR.2.2.2.1 p r c hp.1 hp.2 hr.1 hr.2 hc.1 hc.2]
    by_cases c1 : aCel s p r c = -1
    rotate_left
    · rw [mEq_f c1, if_pos c1]
    rw [mEq_t c1, if_neg (fun x => x c1), mF_t wS, E_lineFormat (by omega) hW hR.1.2.2.1 (Or.inl rfl) hp.1 hp.2 hr.1 (by omega), mC_s, show 64 * 0 + 16 * p + r = 16 * p + r by omega, hR.2.2.2.2.1 p r hp.1 hp.2 hr.1 hr.2]
    by_cases c2 : aLin s 0 p r = -1
    rotate_left
    · rw [mEq_f c2, if_pos c2]
    rw [mEq_t c2, if_neg (fun x => x c2), mF_t wS, E_lineFormat (by omega) hW hR.1.2.2.1 (Or.inr rfl) hp.1 hp.2 hc.1 (by omega), mC_s, show (64 : Int) * 1 + 16 * p + c = 64 + 16 * p + c by omega, hR.2.2.2.2.2.1 p c hp.1 hp.2 hc.1 hc.2]
    by_cases c3 : aLin s 1 p c = -1
    · rw [mEq_t c3, if_neg (fun x => x c3)]
    · rw [mEq_f c3, if_pos c3]
  · rw [g2 c0, mK_l, if_pos (by omega)]
theorem E_numberFrom (hd : 4 ≤ d) (hW : ShW w S) (hI : aI s) (hR : RC w h S s) {p r c k : Int} (hp : 0 ≤ p ∧ p < 4) (hr : 0 ≤ r ∧ r < aHi s) (hc : 0 ≤ c ∧ c < aWi s) (hk : -1 ≤ k ∧ k < aN s) : mm_P d 103 [(2, S), (0, frm s p r c k), (0, p), (0, r), (0, c)] w h = some ((0, num s p r c k), w, h) := by
  obtain ⟨d, rfl, hd2⟩ := mm_dS hd; clear hd; have hd := hd2; clear hd2
  have wS : (w.1 S).1 = 9 := by rw [hW.2.1]
  have hn := hI.2.2.1
  have i1 := hI.1; have i2 := hI.2.1
  rw [P_Sh_numberFrom]
  unfold frm num
  by_cases c0 : 0 ≤ k
  · have o1 : (w.1 (h (S + 5) k)).1 = 7 := by rw [(Sh_rul hW hR.1 c0 (show k < 6 by omega)).1]
    rw [if_pos c0, if_pos c0, mLt_f (by omega), mF_t wS, mI_id (by omega) (by omega), show 4 + k - 4 = k by omega, E_ruleAt (by omega) hW hR.1 c0 (by omega), mC_s, mF_t o1, (hR.2.2.2.2.2.2.2 k c0 hk.2).1 5 (by decide) (by decide)]
  · rw [if_neg c0, if_neg c0]
    by_cases c1 : aCel s p r c ≠ -1
    · rw [if_pos c1, if_pos c1, mLt_t (by decide), mEq_t rfl, mF_t wS, E_cellFormat (by omega) hW hR.1.2.1 hp.1 hp.2 hr.1 (by omega) hc.1 (by omega), mC_s, hR.2.2.2.1 p r c hp.1 hp.2 hr.1 hr.2 hc.1 hc.2]
    · rw [if_neg c1, if_neg c1]
      have e : (if aLin s 0 p r ≠ -1 then (2 : Int) else if aLin s 1 p c ≠ -1 then 1 else 0) < 3 := by
        repeat' split
        all_goals decide
      rw [mLt_t (by omega), mEq_f (by omega), mF_t wS, E_beneath (by omega) hW hR.1 hp.1 hp.2 hr.1 (by omega) hc.1 (by omega), mC_s, benA_S hR hp hr hc]
theorem bits_A {r c : Int} (hI : aI s) : ∀ k : Int, 0 ≤ k → k < aN s → mAnd (mShr (msk s r c (aN s).toNat) k) 1 = bI (hldA s k r c) := fun k k0 k1 => by
  have hn := hI.2.2.1
  have := msk_bit (s := s) (r := r) (c := c) (n := (aN s).toNat) (k := k.toNat) (by omega) (by omega)
  rw [show (k.toNat : Int) = k by omega] at this
  exact this
theorem bits_0 : ∀ k : Int, 0 ≤ k → k < aN s → aN s ≤ 6 → mAnd (mShr 0 k) 1 = bI False := fun k k0 k1 h6 => by
  rw [bI_f (fun h => h)]
  have := (by decide +kernel : ∀ q : Nat, q < 6 → mAnd (mShr 0 (q : Int)) 1 = 0)
  have := this k.toNat (by omega)
  rw [show (k.toNat : Int) = k by omega] at this
  exact this
end PU
