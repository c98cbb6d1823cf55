/-! PURE: the tape's tokens, and the class's way through them. -/
/-- letters 1, digits 2, all else 3 -/
def tSort (b : Int) : Int := if 97 ≤ b ∧ b ≤ 122 then 1 else if 48 ≤ b ∧ b ≤ 57 then 2 else 3
def tSkip (B : Int → Int) (n : Int) : Nat → Int → Int
  | 0, p => p
  | k + 1, p => if p < n ∧ B p = 32 then tSkip B n k (p + 1) else p
def tRun (B : Int → Int) (n q : Int) : Nat → Int → Int
  | 0, p => p
  | k + 1, p => if p < n ∧ tSort (B p) = q then tRun B n q k (p + 1) else p
/-- where the token behind p starts, ends, its kind (0 end, 1 word, 2 number, a sign's byte, 3 none of these) -/
def tS (B : Int → Int) (n p : Int) : Int := tSkip B n (n - p).toNat p
def sgs : List Int := [91, 93, 40, 41, 60, 61, 62, 43, 45, 42, 59, 58, 123, 125]
def tE (B : Int → Int) (n p : Int) : Int := if n ≤ tS B n p then n else if tSort (B (tS B n p)) = 3 then tS B n p + 1 else tRun B n (tSort (B (tS B n p))) (n - (tS B n p + 1)).toNat (tS B n p + 1)
def tK (B : Int → Int) (n p : Int) : Int := if n ≤ tS B n p then 0 else if tSort (B (tS B n p)) ≠ 3 then tSort (B (tS B n p)) else if B (tS B n p) ∈ sgs then B (tS B n p) else 3
/-- a word's letters; none if it is no word -/
def tWd (B : Int → Int) (n p : Int) : List Int := if tK B n p = 1 then (List.range (tE B n p - tS B n p).toNat).map (fun (i : Nat) => B (tS B n p + i)) else []
theorem tSort_3 (b : Int) : tSort b = 1 ∨ tSort b = 2 ∨ tSort b = 3 := by
  unfold tSort
  split
  · exact Or.inl rfl
  · split
    · exact Or.inr (Or.inl rfl)
    · exact Or.inr (Or.inr rfl)
theorem tSkip_le {B : Int → Int} {n : Int} : ∀ (k : Nat) (p : Int), p + k ≤ n → p ≤ tSkip B n k p ∧ tSkip B n k p ≤ n := by
  intro k
  induction k with
  | zero => intro p h; exact ⟨Int.le_refl _, by simpa [tSkip] using h⟩
  | succ k ih =>
    intro p h
    unfold tSkip
    split
    · have := ih (p + 1) (by omega); omega
    · omega
theorem tRun_le {B : Int → Int} {n q : Int} : ∀ (k : Nat) (p : Int), p + k ≤ n → p ≤ tRun B n q k p ∧ tRun B n q k p ≤ n := by
  intro k
  induction k with
  | zero => intro p h; exact ⟨Int.le_refl _, by simpa [tRun] using h⟩
  | succ k ih =>
    intro p h
    unfold tRun
    split
    · have := ih (p + 1) (by omega); omega
    · omega
theorem tS_le {B : Int → Int} {n p : Int} (h : p ≤ n) : p ≤ tS B n p ∧ tS B n p ≤ n := tSkip_le _ _ (by omega)
theorem tE_le {B : Int → Int} {n p : Int} (h : p ≤ n) : tS B n p ≤ tE B n p ∧ tE B n p ≤ n ∧ (tS B n p < n → tS B n p < tE B n p) := by
  have := tS_le (B := B) h
  unfold tE
  split
  · omega
  · split
    · omega
    · have := tRun_le (B := B) (n := n) (q := tSort (B (tS B n p))) (n - (tS B n p + 1)).toNat (tS B n p + 1) (by omega)
      omega
theorem tK_0 {B : Int → Int} {n p : Int} (h : p ≤ n) (h0 : ∀ j : Int, 0 ≤ j → j < n → 0 ≤ B j ∧ B j < 256) (hp : 0 ≤ p) : tK B n p = 0 ↔ tS B n p = n := by
  have := tS_le (B := B) h
  unfold tK
  split
  · omega
  · have h3 := tSort_3 (B (tS B n p))
    split
    · omega
    · split
      · rename_i h4
        simp [sgs] at h4
        omega
      · omega
theorem tE_lt {B : Int → Int} {n p : Int} (h : p ≤ n) (hk : tK B n p ≠ 0) : p < tE B n p ∧ tS B n p < n := by
  have h1 := tS_le (B := B) h
  have h2 := tE_le (B := B) h
  have : tS B n p < n := by
    rcases Int.lt_or_le (tS B n p) n with h3 | h3
    · exact h3
    · exact absurd (show tK B n p = 0 by unfold tK; rw [if_pos h3]) hk
  omega
/-- the class's tape, in the world -/
def TW (w : mm_W) : Prop := w.1 461 = (10, 6) ∧ w.1 462 = (50, 200)
/-- it holds the bytes B, n of them -/
def TB (h : mm_H) (B : Int → Int) (n : Int) : Prop := h 461 0 = 462 ∧ h 461 1 = n ∧ (0 ≤ n ∧ n ≤ 200) ∧ (∀ j : Int, 0 ≤ j → j < n → h 462 j = B j) ∧ (∀ j : Int, 0 ≤ j → j < n → 0 ≤ B j ∧ B j < 256) ∧ ∀ j : Int, 0 ≤ h 462 j ∧ h 462 j < 256
/-- the reader has the token behind p before it -/
def TA (h : mm_H) (B : Int → Int) (n p : Int) : Prop := TB h B n ∧ h 461 3 = -1 ∧ h 461 2 = tK B n p ∧ h 461 4 = tS B n p ∧ h 461 5 = tE B n p ∧ 0 ≤ p ∧ p ≤ n
/-- it has found the fault f -/
def TF (h : mm_H) (B : Int → Int) (n f : Int) : Prop := TB h B n ∧ h 461 3 = f ∧ f ≠ -1 ∧ h 461 2 = 0
/-- only the reader's own fields have changed -/
def TO (h h' : mm_H) : Prop := (∀ b : Int, b ≠ 461 → h' b = h b) ∧ h' 461 0 = h 461 0 ∧ h' 461 1 = h 461 1
theorem TO_rf (h : mm_H) : TO h h := ⟨fun _ _ => rfl, rfl, rfl⟩
theorem TO_tr {a b c : mm_H} (x : TO a b) (y : TO b c) : TO a c := ⟨fun q hq => (y.1 q hq).trans (x.1 q hq), y.2.1.trans x.2.1, y.2.2.trans x.2.2⟩
theorem TO_up {h : mm_H} {i z : Int} (hi : 2 ≤ i) : TO h (mUp h 461 i z) := ⟨fun b hb => mUp_row hb, mUp_n (Or.inr (by omega)), mUp_n (Or.inr (by omega))⟩
theorem TB_to {h h' : mm_H} {B : Int → Int} {n : Int} (hT : TB h B n) (ho : TO h h') : TB h' B n := by
  obtain ⟨t1, t2, t3, t4, t5, t6⟩ := hT
  have e := ho.1 462 (by decide)
  exact ⟨ho.2.1.trans t1, ho.2.2.trans t2, t3, by rw [e]; exact t4, t5, by rw [e]; exact t6⟩
section PU
variable {d : Nat} {w : mm_W} {h : mm_H} {B : Int → Int} {n p : Int}
theorem E_sortOf (hd : 1 ≤ d) (b : Int) : mm_P d 113 [(0, b)] w h = some ((0, tSort b), w, h) := by
  obtain ⟨d, rfl, hd2⟩ := mm_dS hd; have hd := hd2
  rw [P_Ta_sortOf]
  simp only [mLt, tSort]
  repeat' split
  all_goals first | rfl | omega
theorem L_skip (hd : 1 ≤ d) (hW : TW w) : ∀ (k : Nat) (q : Int) (h : mm_H), TB h B n → h 461 4 = q → 0 ≤ q → q + k = n → ∃ h', l_Ta_advance_0 (mm_P d) 461 w h = some (.inr (57, [(2, 461), (9, 0), (9, 0)], w, h')) ∧ TO h h' ∧ h' 461 4 = tSkip B n k q ∧ (∀ i : Int, i ≠ 4 → h' 461 i = h 461 i) := by
  have hw : (w.1 461).1 = 10 := by rw [hW.1]
  intro k
  induction k with
  | zero =>
    intro q h hT h4 h0 hq
    rw [l_Ta_advance_0_eq, mF_t hw, mF_t hw, hT.2.1, h4, mLe_t (by omega)]
    exact ⟨h, rfl, TO_rf h, h4, fun _ _ => rfl⟩
  | succ k ih =>
    intro q h hT h4 h0 hq
    have hn := hT.2.2.1
    rw [l_Ta_advance_0_eq, mF_t hw, mF_t hw, hT.2.1, h4, mLe_f (by omega), mF_t hw, mF_t hw, hT.1, E_peek_t hd hW.2 h0 (by omega), mC_s, hT.2.2.2.1 q h0 (by omega)]
    unfold tSkip
    by_cases hb : B q = 32
    · rw [mEq_t hb, mF_t hw, mF_t hw, if_pos ⟨by omega, hb⟩]
      dsimp only
      rw [h4, mI_id (by omega) (by omega)]
      obtain ⟨h', g1, g2, g3, g4⟩ := ih (q + 1) (mUp h 461 4 (q + 1)) (TB_to hT (TO_up (by decide))) mUp_s (by omega) (by omega)
      exact ⟨h', g1, TO_tr (TO_up (by decide)) g2, g3, fun i hi => by rw [g4 i hi, mUp_n (Or.inr hi)]⟩
    · rw [mEq_f hb, if_neg (fun h => hb h.2)]
      exact ⟨h, rfl, TO_rf h, h4, fun _ _ => rfl⟩
theorem L_run (hd : 1 ≤ d) (hW : TW w) (f : Int) {s : Int} (hs : s ≠ 3) : ∀ (k : Nat) (q : Int) (h : mm_H), TB h B n → h 461 5 = q → 0 ≤ q → q + k = n → ∃ h', l_Ta_advance_1 (mm_P d) 461 f s w h = some (.inr (138, [(2, 461), (0, f), (0, s)], w, h')) ∧ TO h h' ∧ h' 461 5 = tRun B n s k q ∧ (∀ i : Int, i ≠ 5 → h' 461 i = h 461 i) := by
  have hw : (w.1 461).1 = 10 := by rw [hW.1]
  intro k
  induction k with
  | zero =>
    intro q h hT h4 h0 hq
    rw [l_Ta_advance_1_eq, mF_t hw, mF_t hw, hT.2.1, h4, mLe_t (by omega)]
    exact ⟨h, rfl, TO_rf h, h4, fun _ _ => rfl⟩
  | succ k ih =>
    intro q h hT h4 h0 hq
    have hn := hT.2.2.1
    rw [l_Ta_advance_1_eq, mF_t hw, mF_t hw, hT.2.1, h4, mLe_f (by omega), mEq_f hs, mF_t hw, mF_t hw, hT.1, E_peek_t hd hW.2 h0 (by omega), mC_s, hT.2.2.2.1 q h0 (by omega), E_sortOf hd, mC_s]
    unfold tRun
    by_cases hb : tSort (B q) = s
    · rw [mEq_t hb, mF_t hw, mF_t hw, if_pos ⟨by omega, hb⟩]
      dsimp only
      rw [h4, mI_id (by omega) (by omega)]
      obtain ⟨h', g1, g2, g3, g4⟩ := ih (q + 1) (mUp h 461 5 (q + 1)) (TB_to hT (TO_up (by decide))) mUp_s (by omega) (by omega)
      exact ⟨h', g1, TO_tr (TO_up (by decide)) g2, g3, fun i hi => by rw [g4 i hi, mUp_n (Or.inr hi)]⟩
    · rw [mEq_f hb, if_neg (fun h => hb h.2)]
      exact ⟨h, rfl, TO_rf h, h4, fun _ _ => rfl⟩
theorem L_run3 (hW : TW w) (f : Int) (hT : TB h B n) : l_Ta_advance_1 (mm_P d) 461 f 3 w h = some (.inr (138, [(2, 461), (0, f), (0, 3)], w, h)) := by
  have hw : (w.1 461).1 = 10 := by rw [hW.1]
  rw [l_Ta_advance_1_eq, mF_t hw, mF_t hw]
  by_cases c : h 461 1 ≤ h 461 5
  · rw [mLe_t c]
  · rw [mLe_f (by omega), mEq_t rfl]
theorem L_run0 (hW : TW w) (f s : Int) (hc : h 461 1 ≤ h 461 5) : l_Ta_advance_1 (mm_P d) 461 f s w h = some (.inr (138, [(2, 461), (0, f), (0, s)], w, h)) := by
  have hw : (w.1 461).1 = 10 := by rw [hW.1]
  rw [l_Ta_advance_1_eq, mF_t hw, mF_t hw, mLe_t hc]
end PU
