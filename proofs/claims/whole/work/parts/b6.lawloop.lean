/-! PURE: the law's loop; printed by wip/whole/gen/genb6.py. -/
/-- what the loop rests on -/
def LW (w : mm_W) (h : mm_H) (A : aG) (n : Int) (f : Int → Int) : Prop := GJ w h A ∧ w.1 (-1) = (50, n) ∧ h (-1) = f
section PU
variable {d n1 n2 : Nat} {w : mm_W} {h : mm_H} {A : aG} {n i : Int} {f : Int → Int}
theorem K_0 (g : LW w h A n f) (hn : n ≤ 3072) (i0 : 0 ≤ i) (i1 : i + 6 ≤ n) (js : JS d n1 n2 [] w h A) : ∃ (w' : mm_W) (h' : mm_H) (A' : aG), (mF w 1 12 none (mC (mm_P d n1 [(2, 1)] w h) 0 none (fun v1 w2 h3 => mF w2 483 13 none (mC (mm_P d n2 [(2, 483)] w2 h3) 0 none (fun v4 w5 h6 => mEq v1 v4 (l_Law_0 (mm_P d) (-1) 1 483 (mI (i + 6)) w5 h6) (mZ 0 none (some (Sum.inl ((0, 0), w5, h6))))))))) = l_Law_0 (mm_P d) (-1) 1 483 (i + 6) w' h' ∧ LW w' h' A' n f ∧ w'.2.1 ≤ w.2.1 + 1 ∧ w'.2.2 ≤ w.2.2 + 1800 := by
  obtain ⟨gj, g2, g3⟩ := g
  obtain ⟨a, w', h1, h2, A', c1, c2, c3, c4, c5, c6, c7, c8, c9⟩ := js
  have w1 : (w.1 1).1 = 12 := by rw [gj.1.1.1.1]
  have w2 : (w'.1 483).1 = 13 := by rw [c3.2.1.1]
  have e1 : w'.1 (-1) = (50, n) := by rw [c6 (-1) (by decide)]; exact g2
  refine ⟨w', h2, A', ?_, ⟨c3, e1, by rw [c5]; exact g3⟩, c8, c9⟩
  rw [mF_t w1, c1, mC_s, mF_t w2, c2, mC_s, mEq_t rfl, mI_id (x := i + 6) (by omega) (by omega)]
theorem K_1 (g : LW w h A n f) (hn : n ≤ 3072) (i0 : 0 ≤ i) (i1 : i + 6 ≤ n) (js : JS d n1 n2 [(0, f (i + 1))] w h A) : ∃ (w' : mm_W) (h' : mm_H) (A' : aG), (mA w (-1) (mI (i + 1)) 50 none (mF w 1 12 none (mC (mm_P d n1 [(2, 1), (0, h (-1) (mI (i + 1)))] w h) 0 none (fun v1 w2 h3 => mA w2 (-1) (mI (i + 1)) 50 none (mF w2 483 13 none (mC (mm_P d n2 [(2, 483), (0, h3 (-1) (mI (i + 1)))] w2 h3) 0 none (fun v4 w5 h6 => mEq v1 v4 (l_Law_0 (mm_P d) (-1) 1 483 (mI (i + 6)) w5 h6) (mZ 0 none (some (Sum.inl ((0, 0), w5, h6))))))))))) = l_Law_0 (mm_P d) (-1) 1 483 (i + 6) w' h' ∧ LW w' h' A' n f ∧ w'.2.1 ≤ w.2.1 + 1 ∧ w'.2.2 ≤ w.2.2 + 1800 := by
  obtain ⟨gj, g2, g3⟩ := g
  obtain ⟨a, w', h1, h2, A', c1, c2, c3, c4, c5, c6, c7, c8, c9⟩ := js
  have w1 : (w.1 1).1 = 12 := by rw [gj.1.1.1.1]
  have w2 : (w'.1 483).1 = 13 := by rw [c3.2.1.1]
  have e1 : w'.1 (-1) = (50, n) := by rw [c6 (-1) (by decide)]; exact g2
  have m1 : mI (i + 1) = i + 1 := mI_id (by omega) (by omega)
  refine ⟨w', h2, A', ?_, ⟨c3, e1, by rw [c5]; exact g3⟩, c8, c9⟩
  rw [m1]
  clear m1
  rw [mA_t g2 (by omega) (by omega), mF_t w1, g3, c1, mC_s, mA_t e1 (by omega) (by omega), mF_t w2, c4, g3, c2, mC_s, mEq_t rfl, mI_id (x := i + 6) (by omega) (by omega)]
theorem K_2 (g : LW w h A n f) (hn : n ≤ 3072) (i0 : 0 ≤ i) (i1 : i + 6 ≤ n) (js : JS d n1 n2 [(0, f (i + 1)), (0, f (i + 2))] w h A) : ∃ (w' : mm_W) (h' : mm_H) (A' : aG), (mA w (-1) (mI (i + 1)) 50 none (mA w (-1) (mI (i + 2)) 50 none (mF w 1 12 none (mC (mm_P d n1 [(2, 1), (0, h (-1) (mI (i + 1))), (0, h (-1) (mI (i + 2)))] w h) 0 none (fun v1 w2 h3 => mA w2 (-1) (mI (i + 1)) 50 none (mA w2 (-1) (mI (i + 2)) 50 none (mF w2 483 13 none (mC (mm_P d n2 [(2, 483), (0, h3 (-1) (mI (i + 1))), (0, h3 (-1) (mI (i + 2)))] w2 h3) 0 none (fun v4 w5 h6 => mEq v1 v4 (l_Law_0 (mm_P d) (-1) 1 483 (mI (i + 6)) w5 h6) (mZ 0 none (some (Sum.inl ((0, 0), w5, h6))))))))))))) = l_Law_0 (mm_P d) (-1) 1 483 (i + 6) w' h' ∧ LW w' h' A' n f ∧ w'.2.1 ≤ w.2.1 + 1 ∧ w'.2.2 ≤ w.2.2 + 1800 := by
  obtain ⟨gj, g2, g3⟩ := g
  obtain ⟨a, w', h1, h2, A', c1, c2, c3, c4, c5, c6, c7, c8, c9⟩ := js
  have w1 : (w.1 1).1 = 12 := by rw [gj.1.1.1.1]
  have w2 : (w'.1 483).1 = 13 := by rw [c3.2.1.1]
  have e1 : w'.1 (-1) = (50, n) := by rw [c6 (-1) (by decide)]; exact g2
  have m1 : mI (i + 1) = i + 1 := mI_id (by omega) (by omega)
  have m2 : mI (i + 2) = i + 2 := mI_id (by omega) (by omega)
  refine ⟨w', h2, A', ?_, ⟨c3, e1, by rw [c5]; exact g3⟩, c8, c9⟩
  rw [m1, m2]
  clear m1 m2
  rw [mA_t g2 (by omega) (by omega), mA_t g2 (by omega) (by omega), mF_t w1, g3, c1, mC_s, mA_t e1 (by omega) (by omega), mA_t e1 (by omega) (by omega), mF_t w2, c4, g3, c2, mC_s, mEq_t rfl, mI_id (x := i + 6) (by omega) (by omega)]
theorem K_3 (g : LW w h A n f) (hn : n ≤ 3072) (i0 : 0 ≤ i) (i1 : i + 6 ≤ n) (js : JS d n1 n2 [(0, f (i + 1)), (0, f (i + 2)), (0, f (i + 3))] w h A) : ∃ (w' : mm_W) (h' : mm_H) (A' : aG), (mA w (-1) (mI (i + 1)) 50 none (mA w (-1) (mI (i + 2)) 50 none (mA w (-1) (mI (i + 3)) 50 none (mF w 1 12 none (mC (mm_P d n1 [(2, 1), (0, h (-1) (mI (i + 1))), (0, h (-1) (mI (i + 2))), (0, h (-1) (mI (i + 3)))] w h) 0 none (fun v1 w2 h3 => mA w2 (-1) (mI (i + 1)) 50 none (mA w2 (-1) (mI (i + 2)) 50 none (mA w2 (-1) (mI (i + 3)) 50 none (mF w2 483 13 none (mC (mm_P d n2 [(2, 483), (0, h3 (-1) (mI (i + 1))), (0, h3 (-1) (mI (i + 2))), (0, h3 (-1) (mI (i + 3)))] w2 h3) 0 none (fun v4 w5 h6 => mEq v1 v4 (l_Law_0 (mm_P d) (-1) 1 483 (mI (i + 6)) w5 h6) (mZ 0 none (some (Sum.inl ((0, 0), w5, h6))))))))))))))) = l_Law_0 (mm_P d) (-1) 1 483 (i + 6) w' h' ∧ LW w' h' A' n f ∧ w'.2.1 ≤ w.2.1 + 1 ∧ w'.2.2 ≤ w.2.2 + 1800 := by
  obtain ⟨gj, g2, g3⟩ := g
  obtain ⟨a, w', h1, h2, A', c1, c2, c3, c4, c5, c6, c7, c8, c9⟩ := js
  have w1 : (w.1 1).1 = 12 := by rw [gj.1.1.1.1]
  have w2 : (w'.1 483).1 = 13 := by rw [c3.2.1.1]
  have e1 : w'.1 (-1) = (50, n) := by rw [c6 (-1) (by decide)]; exact g2
  have m1 : mI (i + 1) = i + 1 := mI_id (by omega) (by omega)
  have m2 : mI (i + 2) = i + 2 := mI_id (by omega) (by omega)
  have m3 : mI (i + 3) = i + 3 := mI_id (by omega) (by omega)
  refine ⟨w', h2, A', ?_, ⟨c3, e1, by rw [c5]; exact g3⟩, c8, c9⟩
  rw [m1, m2, m3]
  clear m1 m2 m3
  rw [mA_t g2 (by omega) (by omega), mA_t g2 (by omega) (by omega), mA_t g2 (by omega) (by omega), mF_t w1, g3, c1, mC_s, mA_t e1 (by omega) (by omega), mA_t e1 (by omega) (by omega), mA_t e1 (by omega) (by omega), mF_t w2, c4, g3, c2, mC_s, mEq_t rfl, mI_id (x := i + 6) (by omega) (by omega)]
theorem K_4 (g : LW w h A n f) (hn : n ≤ 3072) (i0 : 0 ≤ i) (i1 : i + 6 ≤ n) (js : JS d n1 n2 [(0, f (i + 1)), (0, f (i + 2)), (0, f (i + 3)), (0, f (i + 4))] w h A) : ∃ (w' : mm_W) (h' : mm_H) (A' : aG), (mA w (-1) (mI (i + 1)) 50 none (mA w (-1) (mI (i + 2)) 50 none (mA w (-1) (mI (i + 3)) 50 none (mA w (-1) (mI (i + 4)) 50 none (mF w 1 12 none (mC (mm_P d n1 [(2, 1), (0, h (-1) (mI (i + 1))), (0, h (-1) (mI (i + 2))), (0, h (-1) (mI (i + 3))), (0, h (-1) (mI (i + 4)))] w h) 0 none (fun v1 w2 h3 => mA w2 (-1) (mI (i + 1)) 50 none (mA w2 (-1) (mI (i + 2)) 50 none (mA w2 (-1) (mI (i + 3)) 50 none (mA w2 (-1) (mI (i + 4)) 50 none (mF w2 483 13 none (mC (mm_P d n2 [(2, 483), (0, h3 (-1) (mI (i + 1))), (0, h3 (-1) (mI (i + 2))), (0, h3 (-1) (mI (i + 3))), (0, h3 (-1) (mI (i + 4)))] w2 h3) 0 none (fun v4 w5 h6 => mEq v1 v4 (l_Law_0 (mm_P d) (-1) 1 483 (mI (i + 6)) w5 h6) (mZ 0 none (some (Sum.inl ((0, 0), w5, h6))))))))))))))))) = l_Law_0 (mm_P d) (-1) 1 483 (i + 6) w' h' ∧ LW w' h' A' n f ∧ w'.2.1 ≤ w.2.1 + 1 ∧ w'.2.2 ≤ w.2.2 + 1800 := by
  obtain ⟨gj, g2, g3⟩ := g
  obtain ⟨a, w', h1, h2, A', c1, c2, c3, c4, c5, c6, c7, c8, c9⟩ := js
  have w1 : (w.1 1).1 = 12 := by rw [gj.1.1.1.1]
  have w2 : (w'.1 483).1 = 13 := by rw [c3.2.1.1]
  have e1 : w'.1 (-1) = (50, n) := by rw [c6 (-1) (by decide)]; exact g2
  have m1 : mI (i + 1) = i + 1 := mI_id (by omega) (by omega)
  have m2 : mI (i + 2) = i + 2 := mI_id (by omega) (by omega)
  have m3 : mI (i + 3) = i + 3 := mI_id (by omega) (by omega)
  have m4 : mI (i + 4) = i + 4 := mI_id (by omega) (by omega)
  refine ⟨w', h2, A', ?_, ⟨c3, e1, by rw [c5]; exact g3⟩, c8, c9⟩
  rw [m1, m2, m3, m4]
  clear m1 m2 m3 m4
  rw [mA_t g2 (by omega) (by omega), mA_t g2 (by omega) (by omega), mA_t g2 (by omega) (by omega), mA_t g2 (by omega) (by omega), mF_t w1, g3, c1, mC_s, mA_t e1 (by omega) (by omega), mA_t e1 (by omega) (by omega), mA_t e1 (by omega) (by omega), mA_t e1 (by omega) (by omega), mF_t w2, c4, g3, c2, mC_s, mEq_t rfl, mI_id (x := i + 6) (by omega) (by omega)]
theorem K_5 (g : LW w h A n f) (hn : n ≤ 3072) (i0 : 0 ≤ i) (i1 : i + 6 ≤ n) (js : JS d n1 n2 [(0, f (i + 1)), (0, f (i + 2)), (0, f (i + 3)), (0, f (i + 4)), (0, f (i + 5))] w h A) : ∃ (w' : mm_W) (h' : mm_H) (A' : aG), (mA w (-1) (mI (i + 1)) 50 none (mA w (-1) (mI (i + 2)) 50 none (mA w (-1) (mI (i + 3)) 50 none (mA w (-1) (mI (i + 4)) 50 none (mA w (-1) (mI (i + 5)) 50 none (mF w 1 12 none (mC (mm_P d n1 [(2, 1), (0, h (-1) (mI (i + 1))), (0, h (-1) (mI (i + 2))), (0, h (-1) (mI (i + 3))), (0, h (-1) (mI (i + 4))), (0, h (-1) (mI (i + 5)))] w h) 0 none (fun v1 w2 h3 => mA w2 (-1) (mI (i + 1)) 50 none (mA w2 (-1) (mI (i + 2)) 50 none (mA w2 (-1) (mI (i + 3)) 50 none (mA w2 (-1) (mI (i + 4)) 50 none (mA w2 (-1) (mI (i + 5)) 50 none (mF w2 483 13 none (mC (mm_P d n2 [(2, 483), (0, h3 (-1) (mI (i + 1))), (0, h3 (-1) (mI (i + 2))), (0, h3 (-1) (mI (i + 3))), (0, h3 (-1) (mI (i + 4))), (0, h3 (-1) (mI (i + 5)))] w2 h3) 0 none (fun v4 w5 h6 => mEq v1 v4 (l_Law_0 (mm_P d) (-1) 1 483 (mI (i + 6)) w5 h6) (mZ 0 none (some (Sum.inl ((0, 0), w5, h6))))))))))))))))))) = l_Law_0 (mm_P d) (-1) 1 483 (i + 6) w' h' ∧ LW w' h' A' n f ∧ w'.2.1 ≤ w.2.1 + 1 ∧ w'.2.2 ≤ w.2.2 + 1800 := by
  obtain ⟨gj, g2, g3⟩ := g
  obtain ⟨a, w', h1, h2, A', c1, c2, c3, c4, c5, c6, c7, c8, c9⟩ := js
  have w1 : (w.1 1).1 = 12 := by rw [gj.1.1.1.1]
  have w2 : (w'.1 483).1 = 13 := by rw [c3.2.1.1]
  have e1 : w'.1 (-1) = (50, n) := by rw [c6 (-1) (by decide)]; exact g2
  have m1 : mI (i + 1) = i + 1 := mI_id (by omega) (by omega)
  have m2 : mI (i + 2) = i + 2 := mI_id (by omega) (by omega)
  have m3 : mI (i + 3) = i + 3 := mI_id (by omega) (by omega)
  have m4 : mI (i + 4) = i + 4 := mI_id (by omega) (by omega)
  have m5 : mI (i + 5) = i + 5 := mI_id (by omega) (by omega)
  refine ⟨w', h2, A', ?_, ⟨c3, e1, by rw [c5]; exact g3⟩, c8, c9⟩
  rw [m1, m2, m3, m4, m5]
  clear m1 m2 m3 m4 m5
  rw [mA_t g2 (by omega) (by omega), mA_t g2 (by omega) (by omega), mA_t g2 (by omega) (by omega), mA_t g2 (by omega) (by omega), mA_t g2 (by omega) (by omega), mF_t w1, g3, c1, mC_s, mA_t e1 (by omega) (by omega), mA_t e1 (by omega) (by omega), mA_t e1 (by omega) (by omega), mA_t e1 (by omega) (by omega), mA_t e1 (by omega) (by omega), mF_t w2, c4, g3, c2, mC_s, mEq_t rfl, mI_id (x := i + 6) (by omega) (by omega)]
theorem L_law (J_10 : ∀ {x1 x2 x3 x4 : Int} {w : mm_W} {h : mm_H} {A : aG}, 700 ≤ d → GJ w h A → i32 x2 → JS d 150 275 [(0, x1), (0, x2), (0, x3), (0, x4)] w h A) (hd : 700 ≤ d) (hn : n ≤ 3072) (hf : ∀ j : Int, i32 (f j)) : ∀ (m : Nat) (i : Int) (w : mm_W) (h : mm_H) (A : aG), LW w h A n f → 0 ≤ i → i ≤ n + 6 → n - 6 - i < 6 * m → ∃ (w' : mm_W) (h' : mm_H) (i' : Int), l_Law_0 (mm_P d) (-1) 1 483 i w h = some (.inr (1847, [(2, -1), (2, 1), (2, 483), (0, i')], w', h')) ∧ w'.2.1 ≤ w.2.1 + m ∧ w'.2.2 ≤ w.2.2 + 1800 * m := by
  intro m
  induction m with
  | zero =>
    intro i w h A g i0 i1 hm
    rw [l_Law_0_eq, mN_t g.2.1 (by decide), g.2.1, mI_id (x := n - 6) (by omega) (by omega), mLt_t (by omega)]
    exact ⟨w, h, i, rfl, by omega, by omega⟩
  | succ m ih =>
    intro i w h A g i0 i1 hm
    by_cases c : n - 6 < i
    · rw [l_Law_0_eq, mN_t g.2.1 (by decide), g.2.1, mI_id (x := n - 6) (by omega) (by omega), mLt_t c]
      exact ⟨w, h, i, rfl, by omega, by omega⟩
    have fin : ∀ X : Option (mm_R ⊕ mm_X), (∃ (w' : mm_W) (h' : mm_H) (A' : aG), X = l_Law_0 (mm_P d) (-1) 1 483 (i + 6) w' h' ∧ LW w' h' A' n f ∧ w'.2.1 ≤ w.2.1 + 1 ∧ w'.2.2 ≤ w.2.2 + 1800) → ∃ (w' : mm_W) (h' : mm_H) (i' : Int), X = some (.inr (1847, [(2, -1), (2, 1), (2, 483), (0, i')], w', h')) ∧ w'.2.1 ≤ w.2.1 + ((m + 1 : Nat) : Int) ∧ w'.2.2 ≤ w.2.2 + 1800 * ((m + 1 : Nat) : Int) := by
      rintro X ⟨w1, h1, A1, e, g1, u1, u2⟩
      obtain ⟨w2, h2, i2, z1, z2, z3⟩ := ih (i + 6) w1 h1 A1 g1 (by omega) (by omega) (by omega)
      exact ⟨w2, h2, i2, by rw [e]; exact z1, by omega, by omega⟩
    have i6 : i + 6 ≤ n := by omega
    have gj := g.1
    rw [l_Law_0_eq, mN_t g.2.1 (by decide), g.2.1, mI_id (x := n - 6) (by omega) (by omega), mLt_f (show i ≤ n - 6 by omega), mA_t g.2.1 (by omega) (by omega)]
    try dsimp only
    generalize mAnd (h (-1) i) 63 = x
    by_cases k0 : x = 0
    · rw [mEq_t k0]
      exact fin _ (K_3 g hn i0 i6 (J_0 hd gj (hf _)))
    rw [mEq_f k0]
    by_cases k1 : x = 1
    · rw [mEq_t k1]
      exact fin _ (K_4 g hn i0 i6 (J_1 hd gj (hf _)))
    rw [mEq_f k1]
    by_cases k2 : x = 2
    · rw [mEq_t k2]
      exact fin _ (K_2 g hn i0 i6 (J_2 hd gj))
    rw [mEq_f k2]
    by_cases k3 : x = 3
    · rw [mEq_t k3]
      exact fin _ (K_2 g hn i0 i6 (J_3 hd gj (hf _)))
    rw [mEq_f k3]
    by_cases k4 : x = 4
    · rw [mEq_t k4]
      exact fin _ (K_3 g hn i0 i6 (J_4 hd gj (hf _)))
    rw [mEq_f k4]
    by_cases k5 : x = 5
    · rw [mEq_t k5]
      exact fin _ (K_2 g hn i0 i6 (J_5 hd gj (hf _)))
    rw [mEq_f k5]
    by_cases k6 : x = 6
    · rw [mEq_t k6]
      exact fin _ (K_3 g hn i0 i6 (J_6 hd gj (hf _) (hf _)))
    rw [mEq_f k6]
    by_cases k7 : x = 7
    · rw [mEq_t k7]
      exact fin _ (K_3 g hn i0 i6 (J_7 hd gj (hf _)))
    rw [mEq_f k7]
    by_cases k8 : x = 8
    · rw [mEq_t k8]
      exact fin _ (K_3 g hn i0 i6 (J_8 hd gj (hf _)))
    rw [mEq_f k8]
    by_cases k9 : x = 9
    · rw [mEq_t k9]
      exact fin _ (K_1 g hn i0 i6 (J_9 hd gj))
    rw [mEq_f k9]
    by_cases k10 : x = 10
    · rw [mEq_t k10]
      exact fin _ (K_4 g hn i0 i6 (J_10 hd gj (hf _)))
    rw [mEq_f k10]
    by_cases k11 : x = 11
    · rw [mEq_t k11]
      exact fin _ (K_1 g hn i0 i6 (J_11 hd gj))
    rw [mEq_f k11]
    by_cases k12 : x = 12
    · rw [mEq_t k12]
      exact fin _ (K_2 g hn i0 i6 (J_12 hd gj))
    rw [mEq_f k12]
    by_cases k13 : x = 13
    · rw [mEq_t k13]
      exact fin _ (K_5 g hn i0 i6 (J_13 hd gj (hf _) (hf _)))
    rw [mEq_f k13]
    by_cases k14 : x = 14
    · rw [mEq_t k14]
      exact fin _ (K_1 g hn i0 i6 (J_14 hd gj))
    rw [mEq_f k14]
    by_cases k15 : x = 15
    · rw [mEq_t k15]
      exact fin _ (K_0 g hn i0 i6 (J_15 hd gj))
    rw [mEq_f k15]
    by_cases k16 : x = 16
    · rw [mEq_t k16]
      exact fin _ (K_0 g hn i0 i6 (J_16 hd gj))
    rw [mEq_f k16]
    by_cases k17 : x = 17
    · rw [mEq_t k17]
      exact fin _ (K_3 g hn i0 i6 (J_17 hd gj (hf _)))
    rw [mEq_f k17]
    by_cases k18 : x = 18
    · rw [mEq_t k18]
      exact fin _ (K_2 g hn i0 i6 (J_18 hd gj (hf _)))
    rw [mEq_f k18]
    by_cases k19 : x = 19
    · rw [mEq_t k19]
      exact fin _ (K_3 g hn i0 i6 (J_19 hd gj (hf _)))
    rw [mEq_f k19]
    by_cases k20 : x = 20
    · rw [mEq_t k20]
      exact fin _ (K_2 g hn i0 i6 (J_20 hd gj (hf _)))
    rw [mEq_f k20]
    by_cases k21 : x = 21
    · rw [mEq_t k21]
      exact fin _ (K_1 g hn i0 i6 (J_21 hd gj (hf _)))
    rw [mEq_f k21]
    by_cases k22 : x = 22
    · rw [mEq_t k22]
      exact fin _ (K_2 g hn i0 i6 (J_22 hd gj (hf _)))
    rw [mEq_f k22]
    by_cases k23 : x = 23
    · rw [mEq_t k23]
      exact fin _ (K_2 g hn i0 i6 (J_23 hd gj))
    rw [mEq_f k23]
    by_cases k24 : x = 24
    · rw [mEq_t k24]
      exact fin _ (K_0 g hn i0 i6 (J_24 hd gj))
    rw [mEq_f k24]
    by_cases k25 : x = 25
    · rw [mEq_t k25]
      exact fin _ (K_1 g hn i0 i6 (J_25 hd gj))
    rw [mEq_f k25]
    by_cases k26 : x = 26
    · rw [mEq_t k26]
      exact fin _ (K_3 g hn i0 i6 (J_26 hd gj))
    rw [mEq_f k26]
    by_cases k27 : x = 27
    · rw [mEq_t k27]
      exact fin _ (K_2 g hn i0 i6 (J_27 hd gj (hf _)))
    rw [mEq_f k27]
    by_cases k28 : x = 28
    · rw [mEq_t k28]
      exact fin _ (K_3 g hn i0 i6 (J_28 hd gj (hf _)))
    rw [mEq_f k28]
    by_cases k29 : x = 29
    · rw [mEq_t k29]
      exact fin _ (K_4 g hn i0 i6 (J_29 hd gj))
    rw [mEq_f k29]
    by_cases k30 : x = 30
    · rw [mEq_t k30]
      exact fin _ (K_2 g hn i0 i6 (J_30 hd gj (hf _)))
    rw [mEq_f k30]
    by_cases k31 : x = 31
    · rw [mEq_t k31]
      exact fin _ (K_3 g hn i0 i6 (J_31 hd gj (hf _)))
    rw [mEq_f k31]
    by_cases k32 : x = 32
    · rw [mEq_t k32]
      exact fin _ (K_3 g hn i0 i6 (J_32 hd gj))
    rw [mEq_f k32]
    by_cases k33 : x = 33
    · rw [mEq_t k33]
      exact fin _ (K_1 g hn i0 i6 (J_33 hd gj (hf _)))
    rw [mEq_f k33]
    by_cases k34 : x = 34
    · rw [mEq_t k34]
      exact fin _ (K_0 g hn i0 i6 (J_34 hd gj))
    rw [mEq_f k34]
    by_cases k35 : x = 35
    · rw [mEq_t k35]
      exact fin _ (K_1 g hn i0 i6 (J_35 hd gj))
    rw [mEq_f k35]
    by_cases k36 : x = 36
    · rw [mEq_t k36]
      exact fin _ (K_2 g hn i0 i6 (J_36 hd gj))
    rw [mEq_f k36]
    by_cases k37 : x = 37
    · rw [mEq_t k37]
      exact fin _ (K_1 g hn i0 i6 (J_37 hd gj))
    rw [mEq_f k37]
    by_cases k38 : x = 38
    · rw [mEq_t k38]
      exact fin _ (K_2 g hn i0 i6 (J_38 hd gj))
    rw [mEq_f k38]
    by_cases k39 : x = 39
    · rw [mEq_t k39]
      exact fin _ (K_3 g hn i0 i6 (J_39 hd gj))
    rw [mEq_f k39]
    by_cases k40 : x = 40
    · rw [mEq_t k40]
      exact fin _ (K_2 g hn i0 i6 (J_40 hd gj))
    rw [mEq_f k40]
    by_cases k41 : x = 41
    · rw [mEq_t k41]
      exact fin _ (K_4 g hn i0 i6 (J_41 hd gj (hf _)))
    rw [mEq_f k41]
    by_cases k42 : x = 42
    · rw [mEq_t k42]
      exact fin _ (K_2 g hn i0 i6 (J_42 hd gj))
    rw [mEq_f k42]
    by_cases k43 : x = 43
    · rw [mEq_t k43]
      exact fin _ (K_0 g hn i0 i6 (J_43 hd gj))
    rw [mEq_f k43]
    by_cases k44 : x = 44
    · rw [mEq_t k44]
      exact fin _ (K_2 g hn i0 i6 (J_44 hd gj))
    rw [mEq_f k44]
    by_cases k45 : x = 45
    · rw [mEq_t k45]
      exact fin _ (K_0 g hn i0 i6 (J_45 hd gj))
    rw [mEq_f k45]
    by_cases k46 : x = 46
    · rw [mEq_t k46]
      exact fin _ (K_0 g hn i0 i6 (J_46 hd gj))
    rw [mEq_f k46]
    by_cases k47 : x = 47
    · rw [mEq_t k47]
      exact fin _ (K_0 g hn i0 i6 (J_47 hd gj))
    rw [mEq_f k47]
    by_cases k48 : x = 48
    · rw [mEq_t k48]
      exact fin _ (K_1 g hn i0 i6 (J_48 hd gj))
    rw [mEq_f k48]
    exact fin _ ⟨w, h, A, by rw [mI_id (x := i + 6) (by omega) (by omega)], g, by omega, by omega⟩
end PU
