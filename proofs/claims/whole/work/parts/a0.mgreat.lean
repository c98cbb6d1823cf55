/-! PURE: the reference's greatest alike rectangle. -/
def pr1 (g : Int → Int) : Nat → Int
  | 0 => 0
  | n + 1 => pr1 g n + g (n : Int)
def pre (f : Int → Int → Int) : Nat → Nat → Int
  | 0, _ => 0
  | i + 1, j => pre f i j + pr1 (f (i : Int)) j
theorem pr1_in {g : Int → Int} (hg : ∀ c, 0 ≤ g c ∧ g c ≤ 1) : ∀ n : Nat, 0 ≤ pr1 g n ∧ pr1 g n ≤ n := by
  intro n
  induction n with
  | zero => exact ⟨Int.le_refl _, Int.le_refl _⟩
  | succ n ih =>
    have := hg (n : Int)
    have e : pr1 g (n + 1) = pr1 g n + g (n : Int) := rfl
    omega
theorem pre_in {f : Int → Int → Int} (hf : ∀ r c, 0 ≤ f r c ∧ f r c ≤ 1) {j : Nat} (hj : j ≤ 16) : ∀ i : Nat, 0 ≤ pre f i j ∧ pre f i j ≤ 16 * i := by
  intro i
  induction i with
  | zero => exact ⟨Int.le_refl _, Int.le_refl _⟩
  | succ i ih =>
    have := pr1_in (hf (i : Int)) j
    have e : pre f (i + 1) j = pre f i j + pr1 (f (i : Int)) j := rfl
    omega
theorem pre_0 (f : Int → Int → Int) : ∀ i : Nat, pre f i 0 = 0 := by
  intro i
  induction i with
  | zero => rfl
  | succ i ih =>
    have e : pre f (i + 1) 0 = pre f i 0 + pr1 (f (i : Int)) 0 := rfl
    rw [e, ih]; rfl
theorem G_1 {g : Int → Int} (hg : ∀ c, 0 ≤ g c ∧ g c ≤ 1) (l : Nat) : ∀ n : Nat, (0 ≤ pr1 g (l + n) - pr1 g l ∧ pr1 g (l + n) - pr1 g l ≤ n) ∧ (pr1 g (l + n) - pr1 g l = n ↔ ∀ j : Nat, j < n → g ((l + j : Nat) : Int) = 1) := by
  intro n
  induction n with
  | zero => exact ⟨⟨by show 0 ≤ pr1 g l - pr1 g l; omega, by show pr1 g l - pr1 g l ≤ ((0 : Nat) : Int); omega⟩, ⟨fun _ j hj => absurd hj (Nat.not_lt_zero j), fun _ => by show pr1 g l - pr1 g l = ((0 : Nat) : Int); omega⟩⟩
  | succ n ih =>
    have h1 := hg ((l + n : Nat) : Int)
    have e : pr1 g (l + (n + 1)) = pr1 g (l + n) + g ((l + n : Nat) : Int) := rfl
    refine ⟨by omega, fun h => ?_, fun h => ?_⟩
    · have a : pr1 g (l + n) - pr1 g l = n := by omega
      intro j hj
      by_cases c : j = n
      · rw [c]; omega
      · exact ih.2.mp a j (by omega)
    · have a := ih.2.mpr (fun j hj => h j (by omega))
      have b := h n (by omega)
      omega
theorem G_2 {f : Int → Int → Int} (hf : ∀ r c, 0 ≤ f r c ∧ f r c ≤ 1) (t l n : Nat) : ∀ m : Nat, (0 ≤ pre f (t + m) (l + n) - pre f t (l + n) - pre f (t + m) l + pre f t l ∧ pre f (t + m) (l + n) - pre f t (l + n) - pre f (t + m) l + pre f t l ≤ (m : Int) * n) ∧ (pre f (t + m) (l + n) - pre f t (l + n) - pre f (t + m) l + pre f t l = (m : Int) * n ↔ ∀ i : Nat, i < m → ∀ j : Nat, j < n → f ((t + i : Nat) : Int) ((l + j : Nat) : Int) = 1) := by
  intro m
  induction m with
  | zero =>
    have z : ((0 : Nat) : Int) * (n : Int) = 0 := Int.zero_mul _
    rw [z, Nat.add_zero]
    exact ⟨by omega, ⟨fun _ i hi => absurd hi (Nat.not_lt_zero i), fun _ => by omega⟩⟩
  | succ m ih =>
    have g := G_1 (hf ((t + m : Nat) : Int)) l n
    have e1 : pre f (t + (m + 1)) (l + n) = pre f (t + m) (l + n) + pr1 (f ((t + m : Nat) : Int)) (l + n) := rfl
    have e2 : pre f (t + (m + 1)) l = pre f (t + m) l + pr1 (f ((t + m : Nat) : Int)) l := rfl
    have z : ((m + 1 : Nat) : Int) * (n : Int) = (m : Int) * n + n := by
      rw [show ((m + 1 : Nat) : Int) = (m : Int) + 1 by omega, Int.add_mul, Int.one_mul]
    rw [z, e1, e2]
    generalize (m : Int) * (n : Int) = P at ih ⊢
    refine ⟨by omega, fun h => ?_, fun h => ?_⟩
    · have a := ih.2.mp (by omega)
      have b := g.2.mp (by omega)
      intro i hi
      by_cases c : i = m
      · rw [c]; exact b
      · exact a i (by omega)
    · have a := ih.2.mpr (fun i hi => h i (by omega))
      have b := g.2.mpr (h m (by omega))
      omega
theorem G_3 {s : aS} {p v r : Int} : ∀ (m : Nat) (c : Int) (n : Nat), ((n : Int) ≤ rnA s p v r m c ↔ n ≤ m ∧ ∀ j : Nat, j < n → numA s p r (c + (j : Int)) = v) := by
  intro m
  induction m with
  | zero =>
    intro c n
    have e : rnA s p v r 0 c = 0 := rfl
    rw [e]
    exact ⟨fun h => ⟨by omega, fun j hj => by omega⟩, fun h => by omega⟩
  | succ m ih =>
    intro c n
    have e : rnA s p v r (m + 1) c = if numA s p r c = v then rnA s p v r m (c + 1) + 1 else 0 := rfl
    rw [e]
    cases n with
    | zero =>
      refine ⟨fun _ => ⟨Nat.zero_le _, fun j hj => absurd hj (Nat.not_lt_zero j)⟩, fun _ => ?_⟩
      have := rnA_in (s := s) (p := p) (v := v) (r := r) m (c + 1)
      split <;> omega
    | succ n =>
      by_cases q : numA s p r c = v
      · rw [if_pos q]
        have := ih (c + 1) n
        constructor
        · intro h
          obtain ⟨a, b⟩ := this.mp (by omega)
          refine ⟨by omega, fun j hj => ?_⟩
          cases j with
          | zero => rw [show c + ((0 : Nat) : Int) = c by omega]; exact q
          | succ j => rw [show c + ((j + 1 : Nat) : Int) = c + 1 + (j : Int) by omega]; exact b j (by omega)
        · rintro ⟨a, b⟩
          have := this.mpr ⟨by omega, fun j hj => by rw [show c + 1 + (j : Int) = c + ((j + 1 : Nat) : Int) by omega]; exact b (j + 1) (by omega)⟩
          omega
      · rw [if_neg q]
        exact ⟨fun h => by omega, fun h => absurd (by have := h.2 0 (by omega); rw [show c + ((0 : Nat) : Int) = c by omega] at this; exact this) q⟩
theorem G_4 {s : aS} {p v : Int} {t l n : Nat} (hn : n ≤ 16) (hl : (l : Int) + n ≤ aWi s) : ∀ m : Nat, ((n : Int) ≤ wdA s p v (t : Int) (l : Int) m ↔ ∀ i : Nat, i < m → ∀ j : Nat, j < n → numA s p ((t + i : Nat) : Int) ((l + j : Nat) : Int) = v) := by
  intro m
  induction m with
  | zero =>
    have e : wdA s p v (t : Int) (l : Int) 0 = 16 := rfl
    rw [e]
    exact ⟨fun _ i hi => absurd hi (Nat.not_lt_zero i), fun _ => by omega⟩
  | succ m ih =>
    have e : wdA s p v (t : Int) (l : Int) (m + 1) = mMin (wdA s p v (t : Int) (l : Int) m) (runA s p v ((t : Int) + (m : Int)) (l : Int)) := rfl
    have g := G_3 (s := s) (p := p) (v := v) (r := (t : Int) + (m : Int)) (aWi s - (l : Int)).toNat (l : Int) n
    have mm : ∀ a b : Int, ((n : Int) ≤ mMin a b ↔ (n : Int) ≤ a ∧ (n : Int) ≤ b) := fun a b => by unfold mMin; split <;> omega
    rw [e, mm, ih]
    unfold runA
    rw [g]
    constructor
    · rintro ⟨a, b, c⟩ i hi
      by_cases q : i = m
      · intro j hj
        rw [q, show ((t + m : Nat) : Int) = (t : Int) + (m : Int) by omega, show ((l + j : Nat) : Int) = (l : Int) + (j : Int) by omega]
        exact c j hj
      · exact a i (by omega)
    · intro h
      refine ⟨fun i hi => h i (by omega), by omega, fun j hj => ?_⟩
      have := h m (by omega) j hj
      rw [show ((t + m : Nat) : Int) = (t : Int) + (m : Int) by omega, show ((l + j : Nat) : Int) = (l : Int) + (j : Int) by omega] at this
      exact this
noncomputable def fP (s : aS) (p v r c : Int) : Int := bI (numA s p r c = v)
theorem fP_in (s : aS) (p v : Int) : ∀ r c, 0 ≤ fP s p v r c ∧ fP s p v r c ≤ 1 := fun r c => bI_le _
theorem fP_1 {s : aS} {p v r c : Int} : fP s p v r c = 1 ↔ numA s p r c = v := by
  unfold fP
  by_cases q : numA s p r c = v
  · rw [bI_t q]; exact ⟨fun _ => q, fun _ => rfl⟩
  · rw [bI_f q]; exact ⟨fun x => absurd x (by decide), fun x => absurd x q⟩
/-- how many within: all of them, where it is no wider than that -/
theorem G_all {s : aS} {p v : Int} {t l n m : Nat} (hn : n ≤ 16) (hl : (l : Int) + n ≤ aWi s) : (pre (fP s p v) (t + m) (l + n) - pre (fP s p v) t (l + n) - pre (fP s p v) (t + m) l + pre (fP s p v) t l = (m : Int) * n) ↔ (n : Int) ≤ wdA s p v (t : Int) (l : Int) m := by
  rw [(G_2 (fP_in s p v) t l n m).2, G_4 hn hl m]
  exact ⟨fun h i hi j hj => fP_1.mp (h i hi j hj), fun h i hi j hj => fP_1.mpr (h i hi j hj)⟩
/-- the sums are there, up to the row i -/
def sumK (h : mm_H) (s : aS) (p v : Int) (i : Nat) : Prop := ∀ a b : Nat, a ≤ i → (b : Int) ≤ aWi s → h 497 (17 * (a : Int) + (b : Int)) = pre (fP s p v) a b
section PU
variable {d : Nat} {w : mm_W} {h : mm_H} {s : aS} {A : aG}
theorem MH_34 (hH : MH h) : h 483 34 = 497 := hH.2.2.2.2.2.2.2.2.2.2.2.2.2.1
theorem MW_497 (hW : MW w) : w.1 497 = (50, 289) := hW.2.2.2.2.2.2.2.2.2.2.2.2.2.2.1
/-- the frame of the sums -/
def GQ (h h' : mm_H) : Prop := (∀ b : Int, b ≠ 483 → b ≠ 494 → b ≠ 495 → b ≠ 497 → h' b = h b) ∧ (∀ i : Int, i ≠ 4 → i ≠ 28 → i ≠ 29 → i ≠ 30 → h' 483 i = h 483 i) ∧ ∀ j : Int, (j ≤ 16 ∨ j % 17 = 0) → h' 497 j = h 497 j
theorem GQ_rf (h : mm_H) : GQ h h := ⟨fun _ _ _ _ _ => rfl, fun _ _ _ _ _ => rfl, fun _ _ => rfl⟩
theorem GQ_tr {a b c : mm_H} (x : GQ a b) (y : GQ b c) : GQ a c := ⟨fun q h1 h2 h3 h4 => (y.1 q h1 h2 h3 h4).trans (x.1 q h1 h2 h3 h4), fun i a b c d => (y.2.1 i a b c d).trans (x.2.1 i a b c d), fun j hj => (y.2.2 j hj).trans (x.2.2 j hj)⟩
theorem GQ_FQ {a b : mm_H} (o : FQ a b) : GQ a b := ⟨fun q h1 h2 h3 _ => o.1 q h1 h2 h3, o.2, fun j _ => by rw [o.1 497 (by decide) (by decide) (by decide)]⟩
theorem GQ_up {a : mm_H} {i z : Int} (hi : 16 < i ∧ i % 17 ≠ 0) : GQ a (mUp a 497 i z) := ⟨fun q _ _ _ h4 => mUp_row h4, fun j _ _ _ _ => by rw [mUp_row (by decide)], fun j hj => mUp_n (Or.inr (by omega))⟩
theorem L_mg1 (hd : 14 ≤ d) (hW : MW w) (hI : aI s) {p v q0 : Int} (hp : 0 ≤ p ∧ p < 4) {r : Nat} (hr : (r : Int) < aHi s) : ∀ (m c : Nat) (h : mm_H), KQ h s → brd h → sumK h s p v r → (∀ b : Nat, b ≤ c → h 497 (17 * ((r + 1 : Nat) : Int) + (b : Int)) = pre (fP s p v) (r + 1) b) → (c : Int) + m = aWi s → ∃ h', l_M_greatest_1 (mm_P d) 483 p v q0 17 (r : Int) (c : Int) w h = some (.inr (151, [(2, 483), (0, p), (0, v), (0, q0), (0, 17), (0, (r : Int)), (0, aWi s), (9, 0), (9, 0), (9, 0), (9, 0), (9, 0)], w, h')) ∧ GQ h h' ∧ KQ h' s ∧ sumK h' s p v (r + 1) := by
  have hw : (w.1 483).1 = 13 := by rw [hW.1]
  have i1 := hI.1; have i2 := hI.2.1
  intro m
  induction m with
  | zero =>
    intro c h hK hB hS hc hm
    rw [l_M_greatest_1_eq, mF_t hw, hK.1.1, mA_t hW.2.1 (by omega) (by omega), hK.2.1.1.2.1, mLe_t (by omega), show (c : Int) = aWi s by omega]
    refine ⟨h, rfl, GQ_rf h, hK, fun a b ha hb => ?_⟩
    by_cases e : a = r + 1
    · rw [e]; exact hc b (by omega)
    · exact hS a b (by omega) hb
  | succ m ih =>
    intro c h hK hB hS hc hm
    obtain ⟨h1, x1, x2, x3⟩ := E_M_shows hd hW hI hK.1 hK.2.1 hK.2.2 hp (r := (r : Int)) (c := (c : Int)) (by omega) (by omega)
    have K1 := KQ_FQ hK x2 x3
    have e497 : h1 497 = h 497 := x2.1 497 (by decide) (by decide) (by decide)
    have v1 := hS r (c + 1) (Nat.le_refl _) (by omega)
    have v2 := hc c (Nat.le_refl _)
    have v3 := hS r c (Nat.le_refl _) (by omega)
    have b1 := pre_in (fP_in s p v) (j := c + 1) (by omega) r
    have b2 := pre_in (fP_in s p v) (j := c) (by omega) (r + 1)
    have b3 := pre_in (fP_in s p v) (j := c) (by omega) r
    have b4 := fP_in s p v (r : Int) (c : Int)
    have ep : pre (fP s p v) (r + 1) (c + 1) = pre (fP s p v) r (c + 1) + pre (fP s p v) (r + 1) c - pre (fP s p v) r c + fP s p v (r : Int) (c : Int) := by
      have e1 : pre (fP s p v) (r + 1) (c + 1) = pre (fP s p v) r (c + 1) + (pr1 (fP s p v (r : Int)) c + fP s p v (r : Int) (c : Int)) := rfl
      have e2 : pre (fP s p v) (r + 1) c = pre (fP s p v) r c + pr1 (fP s p v (r : Int)) c := rfl
      omega
    have w1 : 17 * (r : Int) + (c : Int) + 1 = 17 * (r : Int) + ((c + 1 : Nat) : Int) := by omega
    have w2 : 17 * ((r : Int) + 1) + (c : Int) = 17 * ((r + 1 : Nat) : Int) + (c : Int) := by omega
    have w3 : 17 * ((r : Int) + 1) + (c : Int) + 1 = 17 * ((r + 1 : Nat) : Int) + ((c + 1 : Nat) : Int) := by omega
    rw [l_M_greatest_1_eq, mF_t hw, hK.1.1, mA_t hW.2.1 (by omega) (by omega), hK.2.1.1.2.1, mLe_f (by omega)]
    simp only [mF_t hw]
    rw [MH_34 hK.1, mI_id (x := 17 * (r : Int)) (by omega) (by omega), mI_id (x := (r : Int) + 1) (by omega) (by omega), mI_id (x := 17 * ((r : Int) + 1)) (by omega) (by omega), mI_id (x := 17 * (r : Int) + (c : Int)) (by omega) (by omega), mI_id (x := 17 * (r : Int) + (c : Int) + 1) (by omega) (by omega), mI_id (x := 17 * ((r : Int) + 1) + (c : Int)) (by omega) (by omega), mI_id (x := 17 * ((r : Int) + 1) + (c : Int) + 1) (by omega) (by omega), mA_t (MW_497 hW) (by omega) (by omega), mA_t (MW_497 hW) (by omega) (by omega), mA_t (MW_497 hW) (by omega) (by omega), x1, mC_s, w1, w3, w2, v1, v2, v3, mI_id (x := pre (fP s p v) r (c + 1) + pre (fP s p v) (r + 1) c) (by omega) (by omega), mI_id (x := pre (fP s p v) r (c + 1) + pre (fP s p v) (r + 1) c - pre (fP s p v) r c) (by omega) (by omega), mI_id (x := (c : Int) + 1) (by omega) (by omega), mI_id (x := pre (fP s p v) r (c + 1) + pre (fP s p v) (r + 1) c - pre (fP s p v) r c + 1) (by omega) (by omega), mI_id (x := pre (fP s p v) r (c + 1) + pre (fP s p v) (r + 1) c - pre (fP s p v) r c + 0) (by omega) (by omega)]
    have fin : ∃ h', l_M_greatest_1 (mm_P d) 483 p v q0 17 (r : Int) ((c + 1 : Nat) : Int) w (mUp h1 497 (17 * ((r + 1 : Nat) : Int) + ((c + 1 : Nat) : Int)) (pre (fP s p v) (r + 1) (c + 1))) = some (.inr (151, [(2, 483), (0, p), (0, v), (0, q0), (0, 17), (0, (r : Int)), (0, aWi s), (9, 0), (9, 0), (9, 0), (9, 0), (9, 0)], w, h')) ∧ GQ h h' ∧ KQ h' s ∧ sumK h' s p v (r + 1) := by
      have o : GQ h (mUp h1 497 (17 * ((r + 1 : Nat) : Int) + ((c + 1 : Nat) : Int)) (pre (fP s p v) (r + 1) (c + 1))) := GQ_tr (GQ_FQ x2) (GQ_up (by omega))
      obtain ⟨h', g1, g2, g3, g4⟩ := ih (c + 1) _ (KQ_up (b := 497) K1 (by decide)) (fun j j0 j1 => by rw [o.2.2 j (Or.inl j1), o.2.2 (17 * j) (by omega)]; exact hB j j0 j1) (fun a b ha hb => by rw [mUp_n (Or.inr (by omega)), e497]; exact hS a b ha hb) (fun b hb => by
        by_cases e : b = c + 1
        · rw [e, mUp_s]
        · rw [mUp_n (Or.inr (by omega)), e497]; exact hc b (by omega)) (by omega)
      exact ⟨h', g1, GQ_tr o g2, g3, g4⟩
    rw [show ((c + 1 : Nat) : Int) = (c : Int) + 1 by omega] at fin ⊢
    by_cases q : numA s p (r : Int) (c : Int) = v
    · have ef : fP s p v (r : Int) (c : Int) = 1 := fP_1.mpr q
      rw [mEq_t q, mAw_t (MW_497 hW) (by omega) (by omega) (by decide)]
      rw [ep, ef] at fin
      exact fin
    · have ef : fP s p v (r : Int) (c : Int) = 0 := by unfold fP; exact bI_f q
      rw [mEq_f q, mAw_t (MW_497 hW) (by omega) (by omega) (by decide)]
      rw [ep, ef] at fin
      exact fin
theorem L_mg0 (hd : 14 ≤ d) (hW : MW w) (hI : aI s) {p v q0 : Int} (hp : 0 ≤ p ∧ p < 4) : ∀ (m r : Nat) (h : mm_H), KQ h s → brd h → sumK h s p v r → (r : Int) + m = aHi s → ∃ h', l_M_greatest_0 (mm_P d) 483 p v q0 17 (r : Int) w h = some (.inr (157, [(2, 483), (0, p), (0, v), (0, q0), (0, 17), (0, aHi s), (9, 0), (9, 0), (9, 0), (9, 0), (9, 0), (9, 0)], w, h')) ∧ GQ h h' ∧ KQ h' s ∧ sumK h' s p v (aHi s).toNat := by
  have hw : (w.1 483).1 = 13 := by rw [hW.1]
  have i1 := hI.1; have i2 := hI.2.1
  intro m
  induction m with
  | zero =>
    intro r h hK hB hS hm
    rw [l_M_greatest_0_eq, mF_t hw, hK.1.1, mA_t hW.2.1 (by omega) (by omega), hK.2.1.1.1, mLe_t (by omega), show (r : Int) = aHi s by omega, show (aHi s).toNat = r by omega]
    exact ⟨h, rfl, GQ_rf h, hK, hS⟩
  | succ m ih =>
    intro r h hK hB hS hm
    obtain ⟨h1, x1, x2, x3, x4⟩ := L_mg1 (q0 := q0) hd hW hI (v := v) hp (r := r) (by omega) (aWi s).toNat 0 h hK hB hS (fun b hb => by
      have : b = 0 := by omega
      subst this
      rw [pre_0, show 17 * ((r + 1 : Nat) : Int) + ((0 : Nat) : Int) = 17 * ((r + 1 : Nat) : Int) by omega]
      exact (hB ((r + 1 : Nat) : Int) (by omega) (by omega)).2) (by omega)
    have x1 : l_M_greatest_1 (mm_P d) 483 p v q0 17 (r : Int) 0 w h = _ := x1
    rw [l_M_greatest_0_eq, mF_t hw, hK.1.1, mA_t hW.2.1 (by omega) (by omega), hK.2.1.1.1, mLe_f (by omega), x1, mK_r, if_pos rfl]
    simp only [mP_0, mP_1, mP_2, mP_3, mP_4, mP_5]
    rw [mI_id (x := (r : Int) + 1) (by omega) (by omega), show (r : Int) + 1 = ((r + 1 : Nat) : Int) by omega]
    obtain ⟨h2, y1, y2, y3, y4⟩ := ih (r + 1) h1 x3 (fun j j0 j1 => by rw [x2.2.2 j (Or.inl j1), x2.2.2 (17 * j) (by omega)]; exact hB j j0 j1) x4 (by omega)
    rw [y1]
    exact ⟨h2, rfl, GQ_tr x2 y2, y3, y4⟩
end PU
