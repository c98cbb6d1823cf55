/-! PURE: insert, whole. -/
section PU
variable {d : Nat} {w : mm_W} {h : mm_H} {s : aS}
theorem L_ins2 (hd : 1 ≤ d) (hW : ShW w 4) {y a n z : Int} (hy : y = 0 ∨ y = 1) (hn : 0 ≤ n ∧ n ≤ 16) : ∀ (m : Nat) (k : Int) (h : mm_H), ShH h 4 → h 4 2 ≤ 6 → (∀ i f : Int, k ≤ i → i < h 4 2 → 0 ≤ f → f < 4 → 0 ≤ h (h 9 i) f ∧ h (h 9 i) f ≤ 16) → 0 ≤ k → k + m = h 4 2 → ∃ h', l_Ed_insertLines_2 (mm_P d) 420 4 y a n z k w h = some (.inr (189, [(2, 420), (2, 4), (0, y), (0, a), (0, n), (0, z), (0, h 4 2)], w, h')) ∧ (∀ b : Int, ¬ (11 ≤ b ∧ b < 17) → h' b = h b) ∧ (∀ i : Int, 0 ≤ i → i < k → h' (h 9 i) = h (h 9 i)) ∧ ∀ i : Int, k ≤ i → i < h 4 2 → ∀ f : Int, h' (h 9 i) f = rIns y a n (h (h 9 i)) f := by
  have w4 : (w.1 4).1 = 9 := by rw [hW.2.1]
  intro m
  induction m with
  | zero =>
    intro k h a1 a2 a3 a4 a5
    rw [l_Ed_insertLines_2_eq, mF_t w4, mLe_t (by omega)]
    exact ⟨h, by rw [show k = h 4 2 by omega], fun _ _ => rfl, fun _ _ _ => rfl, fun i i0 i1 => by omega⟩
  | succ m ih =>
    intro k h a1 a2 a3 a4 a5
    have hq := a1.2.2.2.2.2.2.1 k a4 (by omega)
    have hr := Sh_rul hW a1 a4 (show k < 6 by omega)
    have e9 : (4 : Int) + 5 = 9 := rfl
    rw [e9] at hq hr
    obtain ⟨h1, b1, b2, b3⟩ := E_makeRoom hd (w := w) (h := h) hr.1 (y := y) (a := a) (n := n) hy hn (a3 k · (Int.le_refl _) (by omega))
    have n9 : h1 9 = h 9 := b2 9 (by omega)
    have n4 : h1 4 = h 4 := b2 4 (by omega)
    obtain ⟨h', g1, g2, g3, g4⟩ := ih (k + 1) h1 (ShH_fr a1 (fun i _ _ => by rw [n4]) n9) (by rw [n4]; exact a2) (fun i f i0 i1 f0 f1 => by
      rw [n4] at i1
      have hi := a1.2.2.2.2.2.2.1 i (by omega) (by omega)
      have hne : h 9 i ≠ h 9 k := fun e => by
        have := a1.2.2.2.2.2.2.2 i k (by omega) (by omega) a4 (by omega) e
        omega
      rw [n9, b2 _ hne]
      exact a3 i f (by omega) i1 f0 f1) (by omega) (by rw [n4]; omega)
    rw [n4] at g1 g4
    rw [n9] at g3 g4
    refine ⟨h', ?_, fun b hb => by rw [g2 b hb, b2 b (by omega)], fun i i0 i1 => ?_, fun i i0 i1 f => ?_⟩
    · rw [l_Ed_insertLines_2_eq, mF_t w4, mLe_f (by omega), mF_t w4, E_ruleAt hd hW a1 a4 (by omega), mC_s, e9, mF_t (by rw [hr.1]), b1, mC_s]
      try dsimp only
      rw [mI_id (by omega) (by omega), g1]
    · have hne : h 9 i ≠ h 9 k := fun e => by
        have := a1.2.2.2.2.2.2.2 i k (by omega) (by omega) a4 (by omega) e
        omega
      rw [g3 i i0 (by omega), b2 _ hne]
    · by_cases hik : i = k
      · subst hik
        rw [g3 i a4 (by omega)]
        exact b3 f
      · have hne : h 9 i ≠ h 9 k := fun e => by
          have := a1.2.2.2.2.2.2.2 i k (by omega) (by omega) a4 (by omega) e
          omega
        rw [g4 i (by omega) i1 f, b2 _ hne]
theorem okIns_sz (hI : aI s) {y a n : Int} (h : okIns s y a n) (hz : aSz s y + n ≤ 16) : ∀ l : Int, 0 ≤ l → l < aSz s y + n → -1 ≤ oIns a n l ∧ oIns a n l < aSz s y := by
  intro l l0 l1
  have := aSz_le hI y
  obtain ⟨-, h2, h3⟩ := h
  unfold oIns
  split
  · omega
  · split <;> omega
theorem E_insertLines (hd : 5 ≤ d) (hE : w.1 420 = (3, 2)) (hO : w.1 434 = (50, 16)) (hW : ShW w 4) (hW2 : ShW w 421) (hI : aI s) (hR : RC w h 4 s) (hH2 : ShH h 421) (he : EdH h) (y a n : Int) (i3 : -2147483648 ≤ n ∧ n < 2147483648) : (¬ okIns s y a n ∧ mm_P d 34 [(2, 420), (2, 4), (0, y), (0, a), (0, n)] w h = some ((0, -2), w, h)) ∨ ((okIns s y a n ∧ 16 < aSz s y + n) ∧ mm_P d 34 [(2, 420), (2, 4), (0, y), (0, a), (0, n)] w h = some ((0, -4), w, h)) ∨ ((okIns s y a n ∧ aSz s y + n ≤ 16) ∧ ∃ h', mm_P d 34 [(2, 420), (2, 4), (0, y), (0, a), (0, n)] w h = some ((0, aSz s y + n), w, h') ∧ RC w h' 4 (F_insert s y a n) ∧ ShH h' 421 ∧ ∀ b : Int, ¬ (4 ≤ b ∧ b < 17) → ¬ (421 ≤ b ∧ b < 435) → h' b = h b) := by
  obtain ⟨d, rfl, hd2⟩ := mm_dS hd; clear hd; have hd := hd2; clear hd2
  have hw : (w.1 420).1 = 3 := by rw [hE]
  have w4 : (w.1 4).1 = 9 := by rw [hW.2.1]
  have hs := aSz_le hI y
  have h1 := hI.1; have h2 := hI.2.1; have h3 := hI.2.2.1
  have esz : mm_P d 87 [(2, 4), (0, y)] w h = some ((0, aSz s y), w, h) := by
    rw [E_size (by omega) hW, hR.2.1.1, hR.2.1.2.1]; rfl
  rw [P_Ed_insertLines, E_isFlag (by omega), mC_s]
  by_cases c0 : y = 0 ∨ y = 1
  rotate_left
  · rw [bI_f c0, mEq_t rfl]
    exact Or.inl ⟨fun h => c0 h.1, rfl⟩
  rw [bI_t c0, mEq_f (by decide)]
  by_cases c1 : a < 0
  · rw [mLt_t c1]
    exact Or.inl ⟨fun h => by have := h.2.1; omega, rfl⟩
  rw [mLt_f (by omega), mF_t w4, esz, mC_s]
  by_cases c2 : aSz s y < a
  · rw [mLt_t c2]
    exact Or.inl ⟨fun h => by have := h.2.1; omega, rfl⟩
  rw [mLt_f (by omega)]
  by_cases c3 : n < 1
  · rw [mLt_t c3]
    exact Or.inl ⟨fun h => by have := h.2.2; omega, rfl⟩
  rw [mLt_f (by omega)]
  by_cases c4 : 16 < n
  · rw [mLe_f c4]
    exact Or.inl ⟨fun h => by have := h.2.2; omega, rfl⟩
  have ok : okIns s y a n := ⟨c0, by omega, by omega⟩
  rw [mLe_t (by omega), mF_t w4, esz, mC_s]
  try dsimp only
  rw [mI_id (x := aSz s y + n) (by omega) (by omega)]
  by_cases c5 : 16 < aSz s y + n
  · rw [mLe_f c5]
    exact Or.inr (Or.inl ⟨⟨ok, c5⟩, rfl⟩)
  have c5 : aSz s y + n ≤ 16 := by omega
  refine Or.inr (Or.inr ⟨⟨ok, c5⟩, ?_⟩)
  obtain ⟨ha, a1, a2, a3⟩ := L_ins0 (d := d) (by omega) hE hO (y := y) (a := a) (n := n) (z := aSz s y + n) (by omega) (by omega) c5 (aSz s y + n).toNat 0 h he (by decide) (by omega)
  have CSa : CS w w h ha := ⟨Int.le_refl _, fun x x0 _ => ⟨rfl, a2 x (by omega)⟩⟩
  have Ra : RC w ha 4 s := RC_fr hR hI CSa (fun b p q => a2 b (by omega))
  have H421 : ShH ha 421 := ShH_fr hH2 (fun i _ _ => by rw [a2 421 (by decide)]) (a2 _ (by decide))
  have Ea : EdH ha := by unfold EdH; rw [a2 420 (by decide)]; exact he
  obtain ⟨hb, b1, b2, b3, b4, b5⟩ := E_bringLines hd hE hO hW hW2 hI Ra H421 Ea (z := aSz s y + n) c0 (by omega) (okIns_sz hI ok c5) (fun l l0 l1 => by rw [a3, if_pos ⟨l0, l1⟩])
  have Eb : EdH hb := by unfold EdH; rw [b4 420 (by decide) (by decide)]; exact Ea
  have hac : (if y = 0 then hb 4 1 else hb 4 0) = (if y = 0 then aWi s else aHi s) := by
    have := b2.2.1
    rcases c0 with rfl | rfl
    · rw [if_pos rfl, if_pos rfl]; exact this.2.1
    · rw [if_neg (by decide), if_neg (by decide)]; exact this.1
  -- the new lines' cells
  obtain ⟨hc, f1, f2, f3⟩ : ∃ hc, (mLe a 0 (some hb) (mLe (aSz s y + n) (a + n) (some hb) (some hc)) = some hc) ∧ (∀ b : Int, b ≠ 6 → hc b = hb b) ∧ (∀ q l x : Int, 0 ≤ q → q < 4 → 0 ≤ l → l < 16 → 0 ≤ x → x < (if y = 0 then aWi s else aHi s) → hc 6 (256 * q + ix y l x) = if (0 < a ∧ a < aSz s y) ∧ (a ≤ l ∧ l < a + n) ∧ hb 423 (256 * q + ix y (a - 1) x) = hb 423 (256 * q + ix y a x) then hb 423 (256 * q + ix y (a - 1) x) else hb 6 (256 * q + ix y l x)) ∧ True ∧ (0 < a → a < aSz s y → l_Ed_insertLines_1 (mm_P d) 420 4 y a n (aSz s y + n) a w hb = some (.inr (158, [(2, 420), (2, 4), (0, y), (0, a), (0, n), (0, aSz s y + n), (0, a + n)], w, hc))) := by
    by_cases k1 : a ≤ 0
    · exact ⟨hb, by rw [mLe_t k1], fun _ _ => rfl, fun q l x _ _ _ _ _ _ => by rw [if_neg (by omega)], trivial, fun z => by omega⟩
    · by_cases k2 : aSz s y ≤ a
      · exact ⟨hb, by rw [mLe_f (by omega), mLe_t (by omega)], fun _ _ => rfl, fun q l x _ _ _ _ _ _ => by rw [if_neg (by omega)], trivial, fun _ z => by omega⟩
      · obtain ⟨hc, g1, g2, g3⟩ := L_ins1 (d := d) (by omega) hE hW hW2 (y := y) (a := a) (n := n) (z := aSz s y + n) (ac := if y = 0 then aWi s else aHi s) c0 (by omega) (by omega) (by omega) (by split <;> omega) n.toNat a hb b2.1 b3.1 Eb hac (by omega) (by omega)
        refine ⟨hc, by rw [mLe_f (by omega), mLe_f (by omega)], g2, fun q l x q0 q1 l0 l1 x0 x1 => ?_, trivial, fun _ _ => g1⟩
        rw [g3 q l x q0 q1 l0 l1 x0 (by split at x1 <;> omega)]
        by_cases c : ((a ≤ l ∧ l < a + n ∧ x < (if y = 0 then aWi s else aHi s)) ∧ hb 423 (256 * q + ix y (a - 1) x) = hb 423 (256 * q + ix y a x))
        · rw [if_pos c, if_pos ⟨by omega, ⟨c.1.1, c.1.2.1⟩, c.2⟩]
        · rw [if_neg c, if_neg (fun z => c ⟨⟨z.2.1.1, z.2.1.2, x1⟩, z.2.2⟩)]
  have S4c : ShH hc 4 := ShH_fr b2.1 (fun i _ _ => by rw [f2 4 (by decide)]) (f2 _ (by decide))
  have e42 : hc 4 2 = aN s := by rw [f2 4 (by decide)]; exact b2.2.1.2.2
  have r9 : hc 9 = hb 9 := f2 9 (by decide)
  have rul : ∀ k : Int, 0 ≤ k → k < aN s → (11 ≤ hb 9 k ∧ hb 9 k < 17) ∧ (∀ f : Int, 0 ≤ f → f < 7 → hc (hb 9 k) f = aRul s k f) ∧ CC w hc (hc (hb 9 k) 7) (aCod s k) := by
    intro k k0 k1
    have hq := b2.1.2.2.2.2.2.2.1 k k0 (by omega)
    have hq : 4 + 7 ≤ hb 9 k ∧ hb 9 k < 4 + 13 := hq
    have hr := b2.2.2.2.2.2.2.2 k k0 k1
    rw [f2 (hb 9 k) (by omega)]
    exact ⟨by omega, hr.1, CC_fr hr.2 ⟨Int.le_refl _, fun x x0 _ => ⟨rfl, f2 x (by omega)⟩⟩⟩
  obtain ⟨h', g1, g2, g3, g4⟩ := L_ins2 (d := d) (by omega) hW (y := y) (a := a) (n := n) (z := aSz s y + n) c0 (by omega) (aN s).toNat 0 hc S4c (by omega) (fun i f i0 i1 f0 f1 => by
    rw [e42] at i1
    rw [r9, (rul i i0 i1).2.1 f f0 (by omega)]
    have hv := hI.2.2.2.2.2.2.2.2 i i0 i1
    rcases (show f = 0 ∨ f = 1 ∨ f = 2 ∨ f = 3 by omega) with rfl | rfl | rfl | rfl <;> omega) (by decide) (by omega)
  rw [e42] at g1 g4
  rw [r9] at g4
  have nf : ∀ b : Int, ¬ (11 ≤ b ∧ b < 17) → b ≠ 6 → h' b = hb b := fun b x y => by rw [g2 b x, f2 b y]
  refine ⟨h', ?_, ?_, ?_, ?_⟩
  · rw [mLe_t c5, a1, mK_r, if_pos rfl]
    simp only [mP_0, mP_1, mP_2, mP_3, mP_4, mP_5]
    rw [mF_t hw, b1, mC_s]
    by_cases k1 : a ≤ 0
    · rw [mLe_t k1] at f1
      cases f1
      rw [mLe_t k1, g1, mK_r, if_pos rfl]
      simp only [mP_5]
    · rw [mLe_f (by omega), mI_id (x := a + n) (by omega) (by omega)]
      rw [mLe_f (by omega)] at f1
      by_cases k2 : aSz s y ≤ a
      · rw [mLe_t (by omega)] at f1
        cases f1
        rw [mLe_t (by omega), g1, mK_r, if_pos rfl]
        simp only [mP_5]
      · rw [mLe_f (by omega), f3.2.2 (by omega) (by omega), mK_r, if_pos rfl]
        simp only [mP_0, mP_1, mP_2, mP_3, mP_4, mP_5]
        rw [g1, mK_r, if_pos rfl]
        simp only [mP_5]
  · have k4 : h' 4 = hb 4 := nf 4 (by decide) (by decide)
    have bb := b2.2.1
    refine ⟨ShH_fr b2.1 (fun i _ _ => by rw [k4]) (nf _ (by decide) (by decide)), ?_, ?_, ?_, ?_, ?_, ?_, ?_⟩
    · rw [k4]
      refine ⟨?_, ?_, bb.2.2⟩
      · rw [bb.1]; rcases c0 with rfl | rfl
        · rfl
        · rfl
      · rw [bb.2.1]; rcases c0 with rfl | rfl
        · rfl
        · rfl
    · rw [nf (4 + 1) (by decide) (by decide)]
      intro r c r0 r1 c1 c2
      refine b2.2.2.1 r c r0 ?_ c1 ?_
      · rcases c0 with rfl | rfl <;> exact r1
      · rcases c0 with rfl | rfl <;> exact c2
    · intro p r c p0 p1 r0 r1 q0 q1
      have hx : (r < (if y = 0 then aHi s + n else aHi s)) ∧ c < (if y = 0 then aWi s else aWi s + n) := ⟨r1, q1⟩
      show h' 6 (256 * p + 16 * r + c) = if _ then _ else _
      rw [g2 6 (by decide)]
      have old := b2.2.2.2.1 p r c p0 p1 r0 (by rcases c0 with rfl | rfl <;> exact r1) q0 (by rcases c0 with rfl | rfl <;> exact q1)
      rcases c0 with rfl | rfl
      · have sz : aSz s 0 = aHi s := rfl
        rw [if_pos rfl, if_pos rfl] at hx
        have e := f3.1 p r c p0 p1 r0 (by omega) q0 (by rw [if_pos rfl]; omega)
        rw [show ix 0 r c = 16 * r + c from rfl, show 256 * p + (16 * r + c) = 256 * p + 16 * r + c by omega] at e
        rw [e]
        show _ = if (0 < a ∧ a < aSz s 0) ∧ (a ≤ r ∧ r < a + n) ∧ aCel s p (a - 1) c = aCel s p a c then aCel s p (a - 1) c else aCel (F_bring s 0 (oIns a n) (aSz s 0 + n)) p r c
        by_cases cc : (0 < a ∧ a < aSz s 0) ∧ (a ≤ r ∧ r < a + n)
        · have w1 := b3.2.2.2.1 p (a - 1) c p0 p1 (by omega) (by omega) q0 (by omega)
          have w2 := b3.2.2.2.1 p a c p0 p1 (by omega) (by omega) q0 (by omega)
          rw [show (421 : Int) + 2 = 423 from rfl] at w1 w2
          rw [show 256 * p + ix 0 (a - 1) c = 256 * p + 16 * (a - 1) + c by show 256 * p + (16 * (a - 1) + c) = _; omega, show 256 * p + ix 0 a c = 256 * p + 16 * a + c by show 256 * p + (16 * a + c) = _; omega, w1, w2]
          by_cases ce : aCel s p (a - 1) c = aCel s p a c
          · rw [if_pos ⟨cc.1, cc.2, ce⟩, if_pos ⟨cc.1, cc.2, ce⟩]
          · rw [if_neg (fun z => ce z.2.2), if_neg (fun z => ce z.2.2)]
            exact old
        · rw [if_neg (fun z => cc ⟨z.1, z.2.1⟩), if_neg (fun z => cc ⟨z.1, z.2.1⟩)]
          exact old
      · have sz : aSz s 1 = aWi s := rfl
        rw [if_neg (by decide), if_neg (by decide)] at hx
        have e := f3.1 p c r p0 p1 q0 (by omega) r0 (by rw [if_neg (by decide)]; omega)
        rw [show ix 1 c r = 16 * r + c from rfl, show 256 * p + (16 * r + c) = 256 * p + 16 * r + c by omega] at e
        rw [e]
        show _ = if (0 < a ∧ a < aSz s 1) ∧ (a ≤ c ∧ c < a + n) ∧ aCel s p r (a - 1) = aCel s p r a then aCel s p r (a - 1) else aCel (F_bring s 1 (oIns a n) (aSz s 1 + n)) p r c
        by_cases cc : (0 < a ∧ a < aSz s 1) ∧ (a ≤ c ∧ c < a + n)
        · have w1 := b3.2.2.2.1 p r (a - 1) p0 p1 r0 (by omega) (by omega) (by omega)
          have w2 := b3.2.2.2.1 p r a p0 p1 r0 (by omega) (by omega) (by omega)
          rw [show (421 : Int) + 2 = 423 from rfl] at w1 w2
          rw [show 256 * p + ix 1 (a - 1) r = 256 * p + 16 * r + (a - 1) by show 256 * p + (16 * r + (a - 1)) = _; omega, show 256 * p + ix 1 a r = 256 * p + 16 * r + a by show 256 * p + (16 * r + a) = _; omega, w1, w2]
          by_cases ce : aCel s p r (a - 1) = aCel s p r a
          · rw [if_pos ⟨cc.1, cc.2, ce⟩, if_pos ⟨cc.1, cc.2, ce⟩]
          · rw [if_neg (fun z => ce z.2.2), if_neg (fun z => ce z.2.2)]
            exact old
        · rw [if_neg (fun z => cc ⟨z.1, z.2.1⟩), if_neg (fun z => cc ⟨z.1, z.2.1⟩)]
          exact old
    · rw [nf (4 + 3) (by decide) (by decide)]
      intro p i p0 p1 i0 i1
      exact b2.2.2.2.2.1 p i p0 p1 i0 (by rcases c0 with rfl | rfl <;> exact i1)
    · rw [nf (4 + 3) (by decide) (by decide)]
      intro p i p0 p1 i0 i1
      exact b2.2.2.2.2.2.1 p i p0 p1 i0 (by rcases c0 with rfl | rfl <;> exact i1)
    · rw [nf (4 + 4) (by decide) (by decide)]
      exact b2.2.2.2.2.2.2.1
    · intro k k0 k1
      have k1 : k < aN s := k1
      obtain ⟨u1, u2, u3⟩ := rul k k0 k1
      have ev := g4 k k0 k1
      rw [nf (4 + 5) (by decide) (by decide), show (4 : Int) + 5 = 9 from rfl]
      refine ⟨fun f f0 f1 => ?_, ?_⟩
      · rw [ev f]
        show rIns y a n (hc (hb 9 k)) f = rIns y a n (aRul s k) f
        unfold rIns
        rw [u2 f f0 f1]
      · have e7 : h' (hb 9 k) 7 = hc (hb 9 k) 7 := by
          rw [ev 7]
          unfold rIns
          rw [if_neg]
          rintro ⟨z | z, -⟩ <;> rcases c0 with rfl | rfl <;> omega
        rw [e7]
        exact CC_fr u3 ⟨Int.le_refl _, fun x x0 _ => ⟨rfl, g2 x (by omega)⟩⟩
  · exact ShH_fr b3.1 (fun i _ _ => by rw [nf 421 (by decide) (by decide)]) (nf _ (by decide) (by decide))
  · intro b n1 n2
    rw [nf b (by omega) (by omega), b4 b (by omega) (by omega), a2 b (by omega)]
end PU
