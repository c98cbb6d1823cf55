/-! PURE: the class's tokens: words, signs, numbers. -/
theorem tRun_all {B : Int → Int} {n q : Int} : ∀ (k : Nat) (p j : Int), p ≤ j → j < tRun B n q k p → tSort (B j) = q := by
  intro k
  induction k with
  | zero => intro p j h1 h2; unfold tRun at h2; omega
  | succ k ih =>
    intro p j h1 h2
    unfold tRun at h2
    split at h2
    · rename_i hc
      by_cases e : j = p
      · rw [e]; exact hc.2
      · exact ih (p + 1) j (by omega) h2
    · omega
theorem tK_srt {B : Int → Int} {n p q : Int} (hk : tK B n p = q) (hq : q = 1 ∨ q = 2) {j : Int} (h1 : tS B n p ≤ j) (h2 : j < tE B n p) : tSort (B j) = q := by
  unfold tK at hk
  split at hk
  · omega
  · rename_i c0
    split at hk
    · rename_i c1
      unfold tE at h2
      rw [if_neg c0, if_neg c1] at h2
      by_cases e : j = tS B n p
      · rw [e]; exact hk
      · rw [← hk]; exact tRun_all _ _ j (by omega) h2
    · rename_i c1
      split at hk
      · rename_i c2
        have h3 : tSort (B (tS B n p)) = 3 := by omega
        have : B (tS B n p) ∈ sgs := c2
        simp [sgs] at this
        omega
      · omega
theorem tSort_1 {b : Int} (h : tSort b = 1) : 97 ≤ b ∧ b ≤ 122 := by
  unfold tSort at h
  repeat' split at h
  all_goals first | assumption | omega
theorem tSort_2 {b : Int} (h : tSort b = 2) : 48 ≤ b ∧ b ≤ 57 := by
  unfold tSort at h
  repeat' split at h
  all_goals first | assumption | omega
theorem tWd_len {B : Int → Int} {n p : Int} (hk : tK B n p = 1) : (tWd B n p).length = (tE B n p - tS B n p).toNat := by unfold tWd; rw [if_pos hk]; simp
theorem tWd_get {B : Int → Int} {n p : Int} (hk : tK B n p = 1) {i : Nat} (hi : i < (tWd B n p).length) : (tWd B n p)[i] = B (tS B n p + i) := by
  unfold tWd
  simp [hk]
theorem tWd_in {B : Int → Int} {n p : Int} {c : Int} (h : c ∈ tWd B n p) : 97 ≤ c ∧ c ≤ 122 := by
  unfold tWd at h
  split at h
  · rename_i hk
    simp only [List.mem_map, List.mem_range] at h
    obtain ⟨i, i1, i2⟩ := h
    have := tSort_1 (tK_srt hk (Or.inl rfl) (j := tS B n p + i) (by omega) (by omega))
    omega
  · cases h
theorem tWd_0 {B : Int → Int} {n p : Int} (hk : tK B n p ≠ 1) : tWd B n p = [] := if_neg hk
theorem tWd_n {B : Int → Int} {n p : Int} (hp : p ≤ n) (hk : tK B n p = 1) : tWd B n p ≠ [] := fun h => by
  have h1 := tWd_len hk
  rw [h] at h1
  have := tE_lt hp (show tK B n p ≠ 0 by omega)
  have := tE_le (B := B) hp
  simp at h1
  omega
/-- a number's digits -/
def tVal (B : Int → Int) : Nat → Int → Int → Int
  | 0, _, v => v
  | k + 1, s, v => tVal B k (s + 1) (10 * v + B s - 48)
theorem tVal_le {B : Int → Int} : ∀ (k : Nat) (s v M : Int), (∀ j : Int, s ≤ j → j < s + k → 48 ≤ B j ∧ B j ≤ 57) → 0 ≤ v → v < M → 0 ≤ tVal B k s v ∧ tVal B k s v < 10 ^ k * M := by
  intro k
  induction k with
  | zero => intro s v M _ h1 h2; simp [tVal]; omega
  | succ k ih =>
    intro s v M h h1 h2
    have h0 := h s (by omega) (by omega)
    have := ih (s + 1) (10 * v + B s - 48) (10 * M) (fun j a b => h j (by omega) (by omega)) (by omega) (by omega)
    unfold tVal
    rw [Int.pow_succ, Int.mul_assoc]
    exact this
/-- the number that the token behind p is -/
def tNum (B : Int → Int) (n p : Int) : Int := tVal B (tE B n p - tS B n p).toNat (tS B n p) 0
theorem tNum_4 {B : Int → Int} {n p : Int} (hp : p ≤ n) (hk : tK B n p = 2) (hl : tE B n p - tS B n p ≤ 4) : 0 ≤ tNum B n p ∧ tNum B n p ≤ 9999 := by
  have := tVal_le (tE B n p - tS B n p).toNat (tS B n p) 0 1 (fun j a b => tSort_2 (tK_srt hk (Or.inr rfl) (j := j) a (by omega))) (by decide) (by decide)
  have l := tE_le (B := B) hp
  have e : (tE B n p - tS B n p).toNat ≤ 4 := by omega
  have : (10 : Int) ^ (tE B n p - tS B n p).toNat ≤ 10 ^ 4 := by
    have := Nat.pow_le_pow_right (n := 10) (by decide) e
    exact_mod_cast this
  unfold tNum
  omega
theorem tNum_2 {B : Int → Int} {n p : Int} (hp : p ≤ n) (hk : tK B n p = 2) (hl : tE B n p - tS B n p ≤ 2) : 0 ≤ tNum B n p ∧ tNum B n p ≤ 99 := by
  have := tVal_le (tE B n p - tS B n p).toNat (tS B n p) 0 1 (fun j a b => tSort_2 (tK_srt hk (Or.inr rfl) (j := j) a (by omega))) (by decide) (by decide)
  have l := tE_le (B := B) hp
  have e : (tE B n p - tS B n p).toNat ≤ 2 := by omega
  have : (10 : Int) ^ (tE B n p - tS B n p).toNat ≤ 10 ^ 2 := by
    have := Nat.pow_le_pow_right (n := 10) (by decide) e
    exact_mod_cast this
  unfold tNum
  omega
/-- which word of a row of words, with blanks between -/
def pick (W cs : List Int) : Nat → Nat → Nat → Nat → Option Nat
  | 0, k, f, j => if f < j then (if W = (cs.take j).drop f then some k else none) else none
  | m + 1, k, f, j => if cs.getD j 0 = 32 then (if f < j then (if W = (cs.take j).drop f then some k else pick W cs m (k + 1) (j + 1) (j + 1)) else pick W cs m (k + 1) (j + 1) (j + 1)) else pick W cs m k f (j + 1)
section PU
variable {d : Nat} {w : mm_W} {h : mm_H} {a : Int} {cs : List Int} {B : Int → Int} {n p : Int}
theorem TO_SA {h' : mm_H} (ho : TO h h') {cs : List Int} (hs : StrAt w h a cs) (ha : a < 0) : StrAt w h' a cs := StrAt_fr hs ha (fun b hb => ho.1 b (by omega))
theorem E_adv (hd : 5 ≤ d) (hW : TW w) (hS : StrAt w h (-10) sgs) (hA : TA h B n p) : ∃ h', mm_P d 112 [(2, 461)] w h = some ((9, 0), w, h') ∧ TO h h' ∧ TA h' B n (tE B n p) := by
  obtain ⟨a1, a2, a3, a4, a5, a6, a7⟩ := hA
  have l1 := tS_le (B := B) a7
  have l2 := tE_le (B := B) a7
  exact E_advance hd hW hS a1 a2 a5 (by omega) (by omega)
theorem E_refuse (hd : 1 ≤ d) (hW : TW w) (hA : TA h B n p) : ∃ h', mm_P d 114 [(2, 461)] w h = some ((9, 0), w, h') ∧ TO h h' ∧ TF h' B n (tS B n p) := by
  obtain ⟨d, rfl, hd2⟩ := mm_dS hd; clear hd; have hd := hd2; clear hd2
  have hw : (w.1 461).1 = 10 := by rw [hW.1]
  obtain ⟨a1, a2, a3, a4, a5, a6, a7⟩ := hA
  have l1 := tS_le (B := B) a7
  rw [P_Ta_refuse]
  simp only [mF_t hw]
  rw [mEq_t a2, a4]
  have o1 : TO h (mUp (mUp h 461 3 (tS B n p)) 461 2 0) := TO_tr (TO_up (by decide)) (TO_up (by decide))
  exact ⟨_, rfl, o1, TB_to a1 o1, by rw [mUp_n (Or.inr (by decide)), mUp_s], by omega, mUp_s⟩
theorem E_refuse_f (hd : 1 ≤ d) (hW : TW w) {f : Int} (hA : TF h B n f) : ∃ h', mm_P d 114 [(2, 461)] w h = some ((9, 0), w, h') ∧ TO h h' ∧ TF h' B n f := by
  obtain ⟨d, rfl, hd2⟩ := mm_dS hd; clear hd; have hd := hd2; clear hd2
  have hw : (w.1 461).1 = 10 := by rw [hW.1]
  obtain ⟨a1, a2, a3, a4⟩ := hA
  rw [P_Ta_refuse]
  simp only [mF_t hw]
  rw [mEq_f (by rw [a2]; exact a3)]
  have o1 : TO h (mUp h 461 2 0) := TO_up (by decide)
  exact ⟨_, rfl, o1, TB_to a1 o1, by rw [mUp_n (Or.inr (by decide))]; exact a2, a3, mUp_s⟩
theorem E_adv_f (hd : 1 ≤ d) (hW : TW w) {f : Int} (hA : TF h B n f) : mm_P d 112 [(2, 461)] w h = some ((9, 0), w, h) := E_advance_f hd hW (by rw [hA.2.1]; exact hA.2.2.1)
theorem L_spells (hd : 4 ≤ d) (hW : TW w) (hs : StrAt w h a cs) (hA : TA h B n p) (hk : tK B n p = 1) {f t : Nat} (ht : t ≤ cs.length) (hl : (tWd B n p).length + f = t) : ∀ (m j : Nat), j + m = t → f ≤ j → ((tWd B n p).drop (j - f) = (cs.take t).drop j → l_Ta_spells_0 (mm_P d) 461 a (f : Int) (t : Int) (j : Int) w h = some (.inr (96, [(2, 461), (2, a), (0, (f : Int)), (0, (t : Int)), (0, (t : Int)), (9, 0)], w, h))) ∧ ((tWd B n p).drop (j - f) ≠ (cs.take t).drop j → l_Ta_spells_0 (mm_P d) 461 a (f : Int) (t : Int) (j : Int) w h = some (.inl ((0, 0), w, h))) := by
  have hw : (w.1 461).1 = 10 := by rw [hW.1]
  have h6 := hs.2.2.2.2.2.2
  obtain ⟨a1, a2, a3, a4, a5, a6, a7⟩ := hA
  have hn := a1.2.2.1
  have l1 := tS_le (B := B) a7
  have l2 := tE_le (B := B) a7
  have hlen := tWd_len hk
  intro m
  induction m with
  | zero =>
    intro j h1 h2
    rw [l_Ta_spells_0_eq, mLe_t (by omega)]
    refine ⟨fun _ => by rw [show j = t by omega], fun hx => absurd ?_ hx⟩
    rw [List.drop_eq_nil_of_le (by omega), List.drop_eq_nil_of_le (by rw [List.length_take]; omega)]
  | succ m ih =>
    intro j h1 h2
    rw [l_Ta_spells_0_eq, mLe_f (by omega), mF_t hw]
    have hm : mI (mI (h 461 4 + (j : Int)) - (f : Int)) = tS B n p + ((j - f : Nat) : Int) := by
      rw [a4, mI_id (x := tS B n p + (j : Int)) (by omega) (by omega), mI_id (by omega) (by omega)]
      omega
    simp only [hm]
    have hj : j - f < (tWd B n p).length := by omega
    have hj2 : j < (cs.take t).length := by rw [List.length_take]; omega
    rw [mLt_f (by omega), mF_t hw, a1.1, mN_t hW.2 (by decide), hW.2, mLe_f (show tS B n p + ((j - f : Nat) : Int) < 200 by omega), mF_t (by rw [hs.1]), E_charAt hd hs (by omega), mC_s, mF_t hw, a1.1, mA_t hW.2 (by omega) (by omega), a1.2.2.2.1 _ (by omega) (by omega)]
    rw [List.drop_eq_getElem_cons hj, List.drop_eq_getElem_cons hj2, tWd_get hk hj, List.getElem_take, getD_lt (show j < cs.length by omega)]
    obtain ⟨g1, g2⟩ := ih (j + 1) (by omega) (by omega)
    rw [show j + 1 - f = j - f + 1 by omega] at g1 g2
    by_cases c : cs[j] = B (tS B n p + ((j - f : Nat) : Int))
    · rw [mEq_t c]
      try dsimp only
      rw [mI_id (by omega) (by omega), show (j : Int) + 1 = ((j + 1 : Nat) : Int) by omega]
      exact ⟨fun hx => g1 (List.cons.inj hx).2, fun hx => g2 (fun hy => hx (by rw [hy, c]))⟩
    · rw [mEq_f c, mZ_0]
      exact ⟨fun hx => absurd (List.cons.inj hx).1.symm c, fun _ => rfl⟩
theorem E_spells (hd : 5 ≤ d) (hW : TW w) (hs : StrAt w h a cs) (hA : TA h B n p) {f t : Nat} (hf : f ≤ t) (ht : t ≤ cs.length) : mm_P d 121 [(2, 461), (2, a), (0, (f : Int)), (0, (t : Int))] w h = some ((0, bI (f < t ∧ tWd B n p = (cs.take t).drop f)), w, h) := by
  obtain ⟨d, rfl, hd2⟩ := mm_dS hd; clear hd; have hd := hd2; clear hd2
  have hw : (w.1 461).1 = 10 := by rw [hW.1]
  have h6 := hs.2.2.2.2.2.2
  have hA' := hA
  obtain ⟨a1, a2, a3, a4, a5, a6, a7⟩ := hA
  have hn := a1.2.2.1
  have l1 := tS_le (B := B) a7
  have l2 := tE_le (B := B) a7
  rw [P_Ta_spells, mF_t hw, a3]
  by_cases hk : tK B n p = 1
  rotate_left
  · rw [mEq_f hk, mZ_0, bI_f (fun hx => by
      have := congrArg List.length hx.2
      rw [tWd_0 hk, List.length_drop, List.length_take] at this
      simp at this
      omega)]
  rw [mEq_t hk, mF_t hw, mF_t hw, a4, a5, mI_id (by omega) (by omega), mI_id (by omega) (by omega)]
  have hlen := tWd_len hk
  have l3 := tE_lt a7 (by omega : tK B n p ≠ 0)
  by_cases hl : tE B n p - tS B n p = (t : Int) - (f : Int)
  rotate_left
  · rw [mEq_f hl, mZ_0, bI_f (fun hx => by
      have := congrArg List.length hx.2
      rw [hlen, List.length_drop, List.length_take] at this
      omega)]
  rw [mEq_t hl, mLt_f (by omega), mF_t (by rw [hs.1]), E_length (by omega) hs, mC_s, mLe_t (by omega)]
  obtain ⟨g1, g2⟩ := L_spells (d := d) (by omega) hW hs hA' hk ht (f := f) (by omega) (t - f) f (by omega) (Nat.le_refl _)
  rw [Nat.sub_self, List.drop_zero] at g1 g2
  by_cases c : tWd B n p = (cs.take t).drop f
  · rw [g1 c, mK_r, if_pos rfl, mZ_1, bI_t ⟨by omega, c⟩]
  · rw [g2 c, mK_l, bI_f (fun hx => c hx.2)]
theorem E_spells_f (hd : 1 ≤ d) (hW : TW w) {f : Int} (hA : TF h B n f) (x y : Int) : mm_P d 121 [(2, 461), (2, a), (0, x), (0, y)] w h = some ((0, 0), w, h) := by
  obtain ⟨d, rfl, hd2⟩ := mm_dS hd; clear hd; have hd := hd2; clear hd2
  rw [P_Ta_spells, mF_t (by rw [hW.1]), hA.2.2.2, mEq_f (by decide), mZ_0]
theorem E_isWord (hd : 6 ≤ d) (hW : TW w) (hs : StrAt w h a cs) (hl : 0 < cs.length) (hA : TA h B n p) : mm_P d 115 [(2, 461), (2, a)] w h = some ((0, bI (tWd B n p = cs)), w, h) := by
  obtain ⟨d, rfl, hd2⟩ := mm_dS hd; clear hd; have hd := hd2; clear hd2
  have e := E_spells (d := d) (by omega) hW hs hA (f := 0) (t := cs.length) (by omega) (Nat.le_refl _)
  rw [List.take_length, List.drop_zero, bI_eq (Q := tWd B n p = cs) ⟨fun x => x.2, fun x => ⟨hl, x⟩⟩] at e
  rw [P_Ta_isWord, mF_t (by rw [hs.1]), E_length (by omega) hs, mC_s, mF_t (by rw [hW.1])]
  rw [show ((0 : Nat) : Int) = 0 from rfl] at e
  rw [e, mC_s, mZ_b]
theorem E_isWord_f (hd : 6 ≤ d) (hW : TW w) (hs : StrAt w h a cs) {f : Int} (hA : TF h B n f) : mm_P d 115 [(2, 461), (2, a)] w h = some ((0, 0), w, h) := by
  obtain ⟨d, rfl, hd2⟩ := mm_dS hd; clear hd; have hd := hd2; clear hd2
  rw [P_Ta_isWord, mF_t (by rw [hs.1]), E_length (by omega) hs, mC_s, mF_t (by rw [hW.1]), E_spells_f (by omega) hW hA, mC_s, mZ_0]
theorem E_takesWord (hd : 6 ≤ d) (hW : TW w) (hS : StrAt w h (-10) sgs) (hs : StrAt w h a cs) (hl : 0 < cs.length) (hA : TA h B n p) : (tWd B n p = cs ∧ ∃ h', mm_P d 116 [(2, 461), (2, a)] w h = some ((0, 1), w, h') ∧ TO h h' ∧ TA h' B n (tE B n p)) ∨ (tWd B n p ≠ cs ∧ mm_P d 116 [(2, 461), (2, a)] w h = some ((0, 0), w, h)) := by
  obtain ⟨d, rfl, hd2⟩ := mm_dS hd; clear hd; have hd := hd2; clear hd2
  have e := E_spells (d := d) (by omega) hW hs hA (f := 0) (t := cs.length) (by omega) (Nat.le_refl _)
  rw [List.take_length, List.drop_zero, bI_eq (Q := tWd B n p = cs) ⟨fun x => x.2, fun x => ⟨hl, x⟩⟩] at e
  rw [P_Ta_takesWord, mF_t (by rw [hs.1]), E_length (by omega) hs, mC_s, mF_t (by rw [hW.1])]
  rw [show ((0 : Nat) : Int) = 0 from rfl] at e
  rw [e, mC_s]
  by_cases c : tWd B n p = cs
  · obtain ⟨h', g1, g2, g3⟩ := E_adv (d := d) (by omega) hW hS hA
    rw [bI_t c, mEq_f (by decide), mF_t (by rw [hW.1]), g1, mC_s, mZ_1]
    exact Or.inl ⟨c, h', rfl, g2, g3⟩
  · rw [bI_f c, mEq_t rfl, mZ_0]
    exact Or.inr ⟨c, rfl⟩
theorem E_takesWord_f (hd : 6 ≤ d) (hW : TW w) (hs : StrAt w h a cs) {f : Int} (hA : TF h B n f) : mm_P d 116 [(2, 461), (2, a)] w h = some ((0, 0), w, h) := by
  obtain ⟨d, rfl, hd2⟩ := mm_dS hd; clear hd; have hd := hd2; clear hd2
  rw [P_Ta_takesWord, mF_t (by rw [hs.1]), E_length (by omega) hs, mC_s, mF_t (by rw [hW.1]), E_spells_f (by omega) hW hA, mC_s, mEq_t rfl, mZ_0]
theorem E_takesSign (hd : 6 ≤ d) (hW : TW w) (hS : StrAt w h (-10) sgs) (hA : TA h B n p) (c : Int) : (tK B n p = c ∧ ∃ h', mm_P d 117 [(2, 461), (0, c)] w h = some ((0, 1), w, h') ∧ TO h h' ∧ TA h' B n (tE B n p)) ∨ (tK B n p ≠ c ∧ mm_P d 117 [(2, 461), (0, c)] w h = some ((0, 0), w, h)) := by
  obtain ⟨d, rfl, hd2⟩ := mm_dS hd; clear hd; have hd := hd2; clear hd2
  have hw : (w.1 461).1 = 10 := by rw [hW.1]
  rw [P_Ta_takesSign, mF_t hw, hA.2.2.1]
  by_cases c : tK B n p = c
  · obtain ⟨h', g1, g2, g3⟩ := E_adv (d := d) (by omega) hW hS hA
    rw [mEq_t c, mEq_f (by decide), mF_t hw, g1, mC_s, mZ_1]
    exact Or.inl ⟨c, h', rfl, g2, g3⟩
  · rw [mEq_f c, mEq_t rfl, mZ_0]
    exact Or.inr ⟨c, rfl⟩
theorem E_takesSign_f (hd : 6 ≤ d) (hW : TW w) {f c : Int} (hA : TF h B n f) (hc : c ≠ 0) : mm_P d 117 [(2, 461), (0, c)] w h = some ((0, 0), w, h) := by
  obtain ⟨d, rfl, hd2⟩ := mm_dS hd; clear hd; have hd := hd2; clear hd2
  rw [P_Ta_takesSign, mF_t (by rw [hW.1]), hA.2.2.2, mEq_f (by omega), mEq_t rfl, mZ_0]
theorem E_needSign (hd : 7 ≤ d) (hW : TW w) (hS : StrAt w h (-10) sgs) (hA : TA h B n p) (c : Int) : ∃ h', mm_P d 118 [(2, 461), (0, c)] w h = some ((9, 0), w, h') ∧ TO h h' ∧ ((tK B n p = c ∧ TA h' B n (tE B n p)) ∨ (tK B n p ≠ c ∧ TF h' B n (tS B n p))) := by
  obtain ⟨d, rfl, hd2⟩ := mm_dS hd; clear hd; have hd := hd2; clear hd2
  have hw : (w.1 461).1 = 10 := by rw [hW.1]
  rw [P_Ta_needSign, mF_t hw]
  rcases E_takesSign (d := d) (by omega) hW hS hA c with ⟨c1, h', g1, g2, g3⟩ | ⟨c1, g1⟩
  · rw [g1, mC_s, mEq_f (by decide)]
    exact ⟨h', rfl, g2, Or.inl ⟨c1, g3⟩⟩
  · obtain ⟨h', k1, k2, k3⟩ := E_refuse (d := d) (by omega) hW hA
    rw [g1, mC_s, mEq_t rfl, mF_t hw, k1, mC_s]
    exact ⟨h', rfl, k2, Or.inr ⟨c1, k3⟩⟩
theorem E_needSign_f (hd : 7 ≤ d) (hW : TW w) (hS : StrAt w h (-10) sgs) {f : Int} (hA : TF h B n f) (c : Int) : ∃ h', mm_P d 118 [(2, 461), (0, c)] w h = some ((9, 0), w, h') ∧ TO h h' ∧ TF h' B n f := by
  obtain ⟨d, rfl, hd2⟩ := mm_dS hd; clear hd; have hd := hd2; clear hd2
  have hw : (w.1 461).1 = 10 := by rw [hW.1]
  rw [P_Ta_needSign, mF_t hw]
  by_cases c0 : c = 0
  · obtain ⟨d, rfl, hd2⟩ := mm_dS hd; clear hd; have hd := hd2; clear hd2
    rw [P_Ta_takesSign, mF_t hw, hA.2.2.2, mEq_t c0.symm, mEq_f (by decide), mF_t hw, E_adv_f (by omega) hW hA, mC_s, mZ_1, mC_s, mEq_f (by decide)]
    exact ⟨h, rfl, TO_rf h, hA⟩
  · obtain ⟨h', k1, k2, k3⟩ := E_refuse_f (d := d) (by omega) hW hA
    rw [E_takesSign_f (by omega) hW hA c0, mC_s, mEq_t rfl, mF_t hw, k1, mC_s]
    exact ⟨h', rfl, k2, k3⟩
end PU
