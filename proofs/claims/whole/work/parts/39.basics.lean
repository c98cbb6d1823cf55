/-! PURE: the ground of the mini runs. -/
theorem mI_id {x : Int} (h1 : -2147483648 ≤ x) (h2 : x < 2147483648) : mI x = x := (Int.bmod_eq_iff (by decide)).mpr (by omega)
theorem mJ_id {x : Int} (h1 : -9223372036854775808 ≤ x) (h2 : x < 9223372036854775808) : mJ x = x := (Int.bmod_eq_iff (by decide)).mpr (by omega)
theorem mS_id {x : Int} (h1 : -32768 ≤ x) (h2 : x < 32768) : mS x = x := (Int.bmod_eq_iff (by decide)).mpr (by omega)
theorem mC_s {α : Type} {t : Nat} {x : Int} {w : mm_W} {h : mm_H} {bot : α} {K : Int → mm_W → mm_H → α} : mC (some ((t, x), w, h)) t bot K = K x w h := by
  show (if t = t then K x w h else bot) = _
  exact if_pos rfl
theorem mK_r {α : Type} {t : Nat} {L : List mm_V} {w : mm_W} {h : mm_H} {bot : α} {ρ : mm_R → α} {K : Nat → List mm_V → mm_W → mm_H → α} : mK (some (.inr (t, L, w, h))) bot ρ K = K t L w h := rfl
theorem mK_l {α : Type} {r : mm_R} {bot : α} {ρ : mm_R → α} {K : Nat → List mm_V → mm_W → mm_H → α} : mK (some (.inl r)) bot ρ K = ρ r := rfl
theorem mF_t {α : Type} {w : mm_W} {a : Int} {c : Nat} {bot k : α} (h : (w.1 a).1 = c) : mF w a c bot k = k := if_pos h
theorem mA_t {α : Type} {w : mm_W} {a i n : Int} {c : Nat} {bot k : α} (h : w.1 a = (c, n)) (h1 : 0 ≤ i) (h2 : i < n) : mA w a i c bot k = k := if_pos ⟨by rw [h], h1, by rw [h]; exact h2⟩
theorem mAb_t {α : Type} {w : mm_W} {a i n : Int} {c : Nat} {bot k : α} (h : w.1 a = (c, n)) (hc : c = 52 ∨ c = 54) (h1 : 0 ≤ i) (h2 : i < n) : mAb w a i bot k = k := if_pos ⟨by rw [h]; exact hc, h1, by rw [h]; exact h2⟩
theorem mAw_t {α : Type} {w : mm_W} {a i n : Int} {bot k : α} (h : w.1 a = (50, n)) (h1 : 0 ≤ i) (h2 : i < n) (h3 : 0 < a) : mAw w a i bot k = k := if_pos ⟨by rw [h], h1, by rw [h]; exact h2, h3⟩
theorem mAr_t {α : Type} {w : mm_W} {a i n : Int} {c : Nat} {bot k : α} (h : w.1 a = (c, n)) (hc : 100 ≤ c) (h1 : 0 ≤ i) (h2 : i < n) : mAr w a i bot k = k := if_pos ⟨by rw [h]; exact hc, h1, by rw [h]; exact h2⟩
theorem mN_t {α : Type} {w : mm_W} {a n : Int} {c : Nat} {bot k : α} (h : w.1 a = (c, n)) (hc : 50 ≤ c) : mN w a bot k = k := if_pos (by rw [h]; exact hc)
theorem mZ_0 {α : Type} {bot k : α} : mZ 0 bot k = k := if_pos (Or.inl rfl)
theorem mZ_1 {α : Type} {bot k : α} : mZ 1 bot k = k := if_pos (Or.inr rfl)
theorem mLt_t {α : Type} {x y : Int} {a b : α} (h : x < y) : mLt x y a b = a := if_pos h
theorem mLt_f {α : Type} {x y : Int} {a b : α} (h : y ≤ x) : mLt x y a b = b := if_neg (by omega)
theorem mLe_t {α : Type} {x y : Int} {a b : α} (h : x ≤ y) : mLe x y a b = a := if_pos h
theorem mLe_f {α : Type} {x y : Int} {a b : α} (h : y < x) : mLe x y a b = b := if_neg (by omega)
theorem mEq_t {α : Type} {x y : Int} {a b : α} (h : x = y) : mEq x y a b = a := if_pos h
theorem mEq_f {α : Type} {x y : Int} {a b : α} (h : x ≠ y) : mEq x y a b = b := if_neg h
theorem mD_t {α : Type} {y : Int} {bot k : α} (h : y ≠ 0) : mD y bot k = k := if_neg h
theorem mm_dS {K d : Nat} (h : K + 1 ≤ d) : ∃ e, d = e + 1 ∧ K ≤ e := ⟨d - 1, by omega, by omega⟩
theorem mUp_s {h : mm_H} {a i z : Int} : mUp h a i z a i = z := if_pos ⟨rfl, rfl⟩
theorem mUp_n {h : mm_H} {a i z b j : Int} (hn : b ≠ a ∨ j ≠ i) : mUp h a i z b j = h b j := if_neg (by rintro ⟨rfl, rfl⟩; rcases hn with h | h <;> exact h rfl)
theorem mUp_row {h : mm_H} {a i z b : Int} (hn : b ≠ a) : mUp h a i z b = h b := funext fun j => if_neg (fun h => hn h.1)
/-- a truth value -/
noncomputable def bI (P : Prop) : Int := @ite _ P (Classical.propDecidable P) 1 0
theorem bI_t {P : Prop} (h : P) : bI P = 1 := by unfold bI; rw [if_pos h]
theorem bI_f {P : Prop} (h : ¬ P) : bI P = 0 := by unfold bI; rw [if_neg h]
theorem bI_01 (P : Prop) : bI P = 0 ∨ bI P = 1 := by
  by_cases h : P
  · exact Or.inr (bI_t h)
  · exact Or.inl (bI_f h)
theorem bI_0 {P : Prop} : bI P = 0 ↔ ¬ P := by
  by_cases h : P
  · rw [bI_t h]; simp [h]
  · rw [bI_f h]; simp [h]
theorem bI_1 {P : Prop} : bI P = 1 ↔ P := by
  by_cases h : P
  · rw [bI_t h]; simp [h]
  · rw [bI_f h]; simp [h]
theorem bI_eq {P Q : Prop} (h : P ↔ Q) : bI P = bI Q := congrArg bI (propext h)
theorem mEq_b {α : Type} {P : Prop} {a b : α} : mEq (bI P) 0 a b = @ite _ P (Classical.propDecidable P) b a := by
  by_cases h : P
  · rw [bI_t h, if_pos h]; rfl
  · rw [bI_f h, if_neg h]; rfl
theorem mP_0 {v : mm_V} {L : List mm_V} : mP 0 (v :: L) = v.2 := rfl
theorem mP_1 {x0 v : mm_V} {L : List mm_V} : mP 1 (x0 :: v :: L) = v.2 := rfl
theorem mP_2 {x0 x1 v : mm_V} {L : List mm_V} : mP 2 (x0 :: x1 :: v :: L) = v.2 := rfl
theorem mP_3 {x0 x1 x2 v : mm_V} {L : List mm_V} : mP 3 (x0 :: x1 :: x2 :: v :: L) = v.2 := rfl
theorem mP_4 {x0 x1 x2 x3 v : mm_V} {L : List mm_V} : mP 4 (x0 :: x1 :: x2 :: x3 :: v :: L) = v.2 := rfl
theorem mP_5 {x0 x1 x2 x3 x4 v : mm_V} {L : List mm_V} : mP 5 (x0 :: x1 :: x2 :: x3 :: x4 :: v :: L) = v.2 := rfl
theorem mP_6 {x0 x1 x2 x3 x4 x5 v : mm_V} {L : List mm_V} : mP 6 (x0 :: x1 :: x2 :: x3 :: x4 :: x5 :: v :: L) = v.2 := rfl
theorem mP_7 {x0 x1 x2 x3 x4 x5 x6 v : mm_V} {L : List mm_V} : mP 7 (x0 :: x1 :: x2 :: x3 :: x4 :: x5 :: x6 :: v :: L) = v.2 := rfl
theorem mP_8 {x0 x1 x2 x3 x4 x5 x6 x7 v : mm_V} {L : List mm_V} : mP 8 (x0 :: x1 :: x2 :: x3 :: x4 :: x5 :: x6 :: x7 :: v :: L) = v.2 := rfl
theorem mP_9 {x0 x1 x2 x3 x4 x5 x6 x7 x8 v : mm_V} {L : List mm_V} : mP 9 (x0 :: x1 :: x2 :: x3 :: x4 :: x5 :: x6 :: x7 :: x8 :: v :: L) = v.2 := rfl
theorem mP_10 {x0 x1 x2 x3 x4 x5 x6 x7 x8 x9 v : mm_V} {L : List mm_V} : mP 10 (x0 :: x1 :: x2 :: x3 :: x4 :: x5 :: x6 :: x7 :: x8 :: x9 :: v :: L) = v.2 := rfl
theorem mP_11 {x0 x1 x2 x3 x4 x5 x6 x7 x8 x9 x10 v : mm_V} {L : List mm_V} : mP 11 (x0 :: x1 :: x2 :: x3 :: x4 :: x5 :: x6 :: x7 :: x8 :: x9 :: x10 :: v :: L) = v.2 := rfl
theorem mP_12 {x0 x1 x2 x3 x4 x5 x6 x7 x8 x9 x10 x11 v : mm_V} {L : List mm_V} : mP 12 (x0 :: x1 :: x2 :: x3 :: x4 :: x5 :: x6 :: x7 :: x8 :: x9 :: x10 :: x11 :: v :: L) = v.2 := rfl
theorem mP_13 {x0 x1 x2 x3 x4 x5 x6 x7 x8 x9 x10 x11 x12 v : mm_V} {L : List mm_V} : mP 13 (x0 :: x1 :: x2 :: x3 :: x4 :: x5 :: x6 :: x7 :: x8 :: x9 :: x10 :: x11 :: x12 :: v :: L) = v.2 := rfl
theorem mP_14 {x0 x1 x2 x3 x4 x5 x6 x7 x8 x9 x10 x11 x12 x13 v : mm_V} {L : List mm_V} : mP 14 (x0 :: x1 :: x2 :: x3 :: x4 :: x5 :: x6 :: x7 :: x8 :: x9 :: x10 :: x11 :: x12 :: x13 :: v :: L) = v.2 := rfl
theorem mP_15 {x0 x1 x2 x3 x4 x5 x6 x7 x8 x9 x10 x11 x12 x13 x14 v : mm_V} {L : List mm_V} : mP 15 (x0 :: x1 :: x2 :: x3 :: x4 :: x5 :: x6 :: x7 :: x8 :: x9 :: x10 :: x11 :: x12 :: x13 :: x14 :: v :: L) = v.2 := rfl
