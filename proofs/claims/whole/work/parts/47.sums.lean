/-! PURE: sums over places. -/
def sumN (f : Int → Int) : Nat → Int → Int
  | 0, _ => 0
  | m + 1, i => f i + sumN f m (i + 1)
theorem sumN_congr {f g : Int → Int} : ∀ (m : Nat) (i : Int), (∀ j : Int, i ≤ j → j < i + m → f j = g j) → sumN f m i = sumN g m i := by
  intro m
  induction m with
  | zero => intro i h; rfl
  | succ m ih =>
    intro i h
    unfold sumN
    rw [h i (Int.le_refl _) (by omega), ih (i + 1) (fun j j0 j1 => h j (by omega) (by omega))]
theorem sumN_le {f : Int → Int} {a b : Int} : ∀ (m : Nat) (i : Int), (∀ j : Int, i ≤ j → j < i + m → a ≤ f j ∧ f j ≤ b) → a * m ≤ sumN f m i ∧ sumN f m i ≤ b * m := by
  intro m
  induction m with
  | zero => intro i h; simp [sumN]
  | succ m ih =>
    intro i h
    have h0 := h i (Int.le_refl _) (by omega)
    have h1 := ih (i + 1) (fun j j0 j1 => h j (by omega) (by omega))
    unfold sumN
    have e1 : a * ((m + 1 : Nat) : Int) = a * m + a := by rw [show ((m + 1 : Nat) : Int) = (m : Int) + 1 by omega, Int.mul_add, Int.mul_one]
    have e2 : b * ((m + 1 : Nat) : Int) = b * m + b := by rw [show ((m + 1 : Nat) : Int) = (m : Int) + 1 by omega, Int.mul_add, Int.mul_one]
    omega
theorem sumN_last (f : Int → Int) : ∀ (m : Nat) (i : Int), sumN f (m + 1) i = sumN f m i + f (i + m) := by
  intro m
  induction m with
  | zero => intro i; simp [sumN]
  | succ m ih =>
    intro i
    have e := ih (i + 1)
    rw [show sumN f (m + 1 + 1) i = f i + sumN f (m + 1) (i + 1) from rfl, e, show sumN f (m + 1) i = f i + sumN f m (i + 1) from rfl, show i + 1 + (m : Int) = i + ((m + 1 : Nat) : Int) by omega]
    omega
/-- over the rectangle of rows t .. t + a - 1, columns l .. l + b - 1 -/
def sum2 (f : Int → Int → Int) (a b : Nat) (t l : Int) : Int := sumN (fun r => sumN (fun c => f r c) b l) a t
theorem sum2_congr {f g : Int → Int → Int} {a b : Nat} {t l : Int} (h : ∀ r c : Int, t ≤ r → r < t + a → l ≤ c → c < l + b → f r c = g r c) : sum2 f a b t l = sum2 g a b t l :=
  sumN_congr a t (fun r r0 r1 => sumN_congr b l (fun c c0 c1 => h r c r0 r1 c0 c1))
theorem sum2_le {f : Int → Int → Int} {a b : Nat} {t l : Int} (ha : a ≤ 16) (hb : b ≤ 16) (h : ∀ r c : Int, t ≤ r → r < t + a → l ≤ c → c < l + b → 0 ≤ f r c ∧ f r c ≤ 1) : 0 ≤ sum2 f a b t l ∧ sum2 f a b t l ≤ 256 := by
  have h1 := sumN_le (f := fun r => sumN (fun c => f r c) b l) (a := 0) (b := 16) a t (fun r r0 r1 => by
    have := sumN_le (f := fun c => f r c) (a := 0) (b := 1) b l (fun c c0 c1 => h r c r0 r1 c0 c1)
    omega)
  unfold sum2
  omega
theorem bI_le (P : Prop) : 0 ≤ bI P ∧ bI P ≤ 1 := by
  rcases bI_01 P with h | h <;> omega
