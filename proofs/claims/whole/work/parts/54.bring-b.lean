/-! PURE: lines in an order, whole. -/
section PU
variable {d : Nat} {w : mm_W} {h : mm_H} {s : aS}
theorem L_bring0 (hd : 3 ≤ d) (hE : w.1 420 = (3, 2)) (hO : w.1 434 = (50, 16)) (hW : ShW w 4) (hW2 : ShW w 421) {y z ac : Int} {o : Int → Int} (hy : y = 0 ∨ y = 1) (hz : z ≤ 16) (hac : 0 ≤ ac ∧ ac ≤ 16) (ho : ∀ l : Int, 0 ≤ l → l < z → -1 ≤ o l ∧ o l < 16) : ∀ (m : Nat) (k : Int) (h : mm_H), ShH h 4 → ShH h 421 → EdH h → (if y = 0 then h 4 1 else h 4 0) = ac → (∀ l : Int, 0 ≤ l → l < z → h 434 l = o l) → 0 ≤ k → k + m = z → ∃ h', l_Ed_bringLines_0 (mm_P d) 420 4 y z k w h = some (.inr (150, [(2, 420), (2, 4), (0, y), (0, z), (0, z), (9, 0), (9, 0)], w, h')) ∧ (∀ b : Int, b ≠ 5 → b ≠ 6 → b ≠ 7 → h' b = h b) ∧ (∀ l x : Int, 0 ≤ l → l < 16 → 0 ≤ x → x < 16 → h' 5 (ix y l x) = if k ≤ l ∧ l < z ∧ x < ac then (if o l < 0 then 0 else h 422 (ix y (o l) x)) else h 5 (ix y l x)) ∧ (∀ q l x : Int, 0 ≤ q → q < 4 → 0 ≤ l → l < 16 → 0 ≤ x → x < 16 → h' 6 (256 * q + ix y l x) = if k ≤ l ∧ l < z ∧ x < ac then (if o l < 0 then -1 else h 423 (256 * q + ix y (o l) x)) else h 6 (256 * q + ix y l x)) ∧ ∀ v q i : Int, (v = 0 ∨ v = 1) → 0 ≤ q → q < 4 → 0 ≤ i → i < 16 → h' 7 (64 * v + 16 * q + i) = if v = y ∧ k ≤ i ∧ i < z then (if o i < 0 then -1 else h 424 (64 * y + 16 * q + o i)) else h 7 (64 * v + 16 * q + i) := by
  have hw : (w.1 420).1 = 3 := by rw [hE]
  intro m
  induction m with
  | zero =>
    intro k h a1 a2 a3 a4 a5 a6 a7
    rw [l_Ed_bringLines_0_eq, mLe_t (by omega)]
    exact ⟨h, by rw [show k = z by omega], fun _ _ _ _ => rfl, fun l x _ _ _ _ => by rw [if_neg (by omega)], fun q l x _ _ _ _ _ _ => by rw [if_neg (by omega)], fun v q i _ _ _ _ _ => by rw [if_neg (by omega)]⟩
  | succ m ih =>
    intro k h a1 a2 a3 a4 a5 a6 a7
    have hok := ho k a6 (by omega)
    obtain ⟨h1, b1, b2, b3, b4⟩ := L_bring1 (by omega : 2 ≤ d) hE hW hW2 (z := z) (L := k) (fr := o k) hy (by omega) hok hac.2 ac.toNat 0 h a1 a2 a3 a4 (by decide) (by omega)
    have s4 : ShH h1 4 := ShH_fr a1 (fun i _ _ => by rw [b2 4 (by decide) (by decide)]) (b2 _ (by decide) (by decide))
    have s421 : ShH h1 421 := ShH_fr a2 (fun i _ _ => by rw [b2 421 (by decide) (by decide)]) (b2 _ (by decide) (by decide))
    obtain ⟨h2, c1, c2, c3⟩ := L_bring2 (by omega : 1 ≤ d) hE hW hW2 (y := y) (z := z) (L := k) (fr := o k) hy (by omega) hok 4 0 h1 (by rw [b2 420 (by decide) (by decide)]; exact a3.1) s4.2.2.1 s421.2.2.1 (by decide) (by decide)
    obtain ⟨h', g1, g2, g3, g4, g5⟩ := ih (k + 1) h2 (ShH_fr s4 (fun i _ _ => by rw [c2 4 (by decide)]) (c2 _ (by decide))) (ShH_fr s421 (fun i _ _ => by rw [c2 421 (by decide)]) (c2 _ (by decide))) (by unfold EdH; rw [c2 420 (by decide), b2 420 (by decide) (by decide)]; exact a3) (by rw [c2 4 (by decide), b2 4 (by decide) (by decide)]; exact a4) (by rw [c2 434 (by decide), b2 434 (by decide) (by decide)]; exact a5) (by omega) (by omega)
    refine ⟨h', ?_, fun b b5 b6 b7 => by rw [g2 b b5 b6 b7, c2 b b7, b2 b b5 b6], fun l x l0 l1 x0 x1 => ?_, fun q l x q0 q1 l0 l1 x0 x1 => ?_, fun v q i hv q0 q1 i0 i1 => ?_⟩
    · rw [l_Ed_bringLines_0_eq, mLe_f (by omega), mF_t hw, a3.2, E_peek_t (by omega) hO a6 (by omega), mC_s, a5 k a6 (by omega), b1, mK_r, if_pos rfl]
      simp only [mP_0, mP_1, mP_2, mP_3, mP_4, mP_5]
      rw [c1, mK_r, if_pos rfl]
      simp only [mP_0, mP_1, mP_2, mP_3, mP_4, mP_5]
      rw [mI_id (by omega) (by omega), g1]
    · rw [g3 l x l0 l1 x0 x1, c2 422 (by decide), b2 422 (by decide) (by decide), c2 5 (by decide), b3 l x l0 l1 x0 x1]
      by_cases hl : l = k
      · subst hl
        rw [if_neg (by omega)]
        by_cases hx : x < ac
        · rw [if_pos ⟨rfl, x0, hx⟩, if_pos (show l ≤ l ∧ l < z ∧ x < ac from ⟨Int.le_refl _, by omega, hx⟩)]
        · rw [if_neg (fun q => hx q.2.2), if_neg (fun q => hx q.2.2)]
      · by_cases hh : k ≤ l ∧ l < z ∧ x < ac
        · rw [if_pos hh, if_pos ⟨by omega, hh.2.1, hh.2.2⟩]
        · rw [if_neg hh, if_neg (by omega), if_neg (fun q => hl q.1)]
    · rw [g4 q l x q0 q1 l0 l1 x0 x1, c2 423 (by decide), b2 423 (by decide) (by decide), c2 6 (by decide), b4 q l x q0 q1 l0 l1 x0 x1]
      by_cases hl : l = k
      · subst hl
        rw [if_neg (by omega)]
        by_cases hx : x < ac
        · rw [if_pos ⟨rfl, x0, hx⟩, if_pos (show l ≤ l ∧ l < z ∧ x < ac from ⟨Int.le_refl _, by omega, hx⟩)]
        · rw [if_neg (fun q => hx q.2.2), if_neg (fun q => hx q.2.2)]
      · by_cases hh : k ≤ l ∧ l < z ∧ x < ac
        · rw [if_pos hh, if_pos ⟨by omega, hh.2.1, hh.2.2⟩]
        · rw [if_neg hh, if_neg (by omega), if_neg (fun q => hl q.1)]
    · rw [g5 v q i hv q0 q1 i0 i1, c2 424 (by decide), b2 424 (by decide) (by decide), c3 v q i hv q0 q1 i0 i1, b2 424 (by decide) (by decide), b2 7 (by decide) (by decide)]
      by_cases hl : i = k
      · subst hl
        rw [if_neg (by omega)]
        by_cases hx : v = y
        · rw [if_pos ⟨hx, rfl, q0⟩, if_pos (show v = y ∧ i ≤ i ∧ i < z from ⟨hx, Int.le_refl _, by omega⟩)]
        · rw [if_neg (fun q => hx q.1), if_neg (fun q => hx q.1)]
      · by_cases hh : v = y ∧ k ≤ i ∧ i < z
        · rw [if_pos hh, if_pos ⟨hh.1, by omega, hh.2.2⟩]
        · rw [if_neg hh, if_neg (by omega), if_neg (fun q => hl q.2.1)]
theorem E_bringLines (hd : 4 ≤ d) (hE : w.1 420 = (3, 2)) (hO : w.1 434 = (50, 16)) (hW : ShW w 4) (hW2 : ShW w 421) (hI : aI s) (hR : RC w h 4 s) (hH2 : ShH h 421) (he : EdH h) {y z : Int} {o : Int → Int} (hy : y = 0 ∨ y = 1) (hz : 0 ≤ z ∧ z ≤ 16) (ho : ∀ l : Int, 0 ≤ l → l < z → -1 ≤ o l ∧ o l < aSz s y) (hor : ∀ l : Int, 0 ≤ l → l < z → h 434 l = o l) : ∃ h', mm_P d 41 [(2, 420), (2, 4), (0, y), (0, z)] w h = some ((9, 0), w, h') ∧ RC w h' 4 (F_bring s y o z) ∧ RC w h' 421 s ∧ (∀ b : Int, ¬ (4 ≤ b ∧ b < 8) → ¬ (421 ≤ b ∧ b < 434) → h' b = h b) ∧ ∀ i : Int, 2 ≤ i → h' 4 i = h 4 i := by
  obtain ⟨d, rfl, hd2⟩ := mm_dS hd; clear hd; have hd := hd2; clear hd2
  have hw : (w.1 420).1 = 3 := by rw [hE]
  have w4 : (w.1 4).1 = 9 := by rw [hW.2.1]
  have w5 : (w.1 421).1 = 9 := by rw [hW2.2.1]
  have h1 := hI.1; have h2 := hI.2.1; have h3 := hI.2.2.1
  obtain ⟨ha, b1, b2, b3⟩ := E_become (by omega : 3 ≤ d) hW2 hW (by decide) (by decide) hI hR hH2
  have CSa : CS w w h ha := ⟨Int.le_refl _, fun a a0 _ => ⟨rfl, b3 a (by omega)⟩⟩
  have Ra : RC w ha 4 s := RC_fr hR hI CSa (fun b p q => b3 b (by omega))
  have e4 : ha 4 = h 4 := b3 4 (by decide)
  -- the sheet's new size
  obtain ⟨hb, f1, f2, f3⟩ : ∃ hb, (hb = if y = 0 then mUp ha 4 0 z else mUp ha 4 1 z) ∧ (∀ b : Int, b ≠ 4 → hb b = ha b) ∧ ∀ i : Int, 2 ≤ i → hb 4 i = ha 4 i := by
    refine ⟨_, rfl, fun b hb => ?_, fun i hi => ?_⟩
    · split <;> exact mUp_row hb
    · split <;> exact mUp_n (by omega)
  have S4 : ShH hb 4 := ShH_fr Ra.1 (fun i i0 _ => f3 i (by omega)) (f2 _ (by decide))
  have S421 : ShH hb 421 := ShH_fr b2.1 (fun i _ _ => by rw [f2 421 (by decide)]) (f2 _ (by decide))
  have hac : (if y = 0 then hb 4 1 else hb 4 0) = (if y = 0 then aWi s else aHi s) := by
    rcases hy with rfl | rfl
    · rw [if_pos rfl, if_pos rfl, f1, if_pos rfl, mUp_n (Or.inr (by decide)), e4]; exact hR.2.1.2.1
    · rw [if_neg (by decide), if_neg (by decide), f1, if_neg (by decide), mUp_n (Or.inr (by decide)), e4]; exact hR.2.1.1
  have hsz := aSz_le hI y
  obtain ⟨h', g1, g2, g3, g4, g5⟩ := L_bring0 hd hE hO hW hW2 (y := y) (z := z) (ac := if y = 0 then aWi s else aHi s) (o := o) hy hz.2 (by split <;> omega) (fun l l0 l1 => by have := ho l l0 l1; omega) z.toNat 0 hb S4 S421 (by unfold EdH; rw [f2 420 (by decide), b3 420 (by decide)]; exact he) hac (fun l l0 l1 => by rw [f2 434 (by decide), b3 434 (by decide)]; exact hor l l0 l1) (by decide) (by omega)
  refine ⟨h', ?_, ?_, ?_, fun b n1 n2 => ?_, fun i hi => ?_⟩
  · rw [P_Ed_bringLines, mF_t hw, he.1, mF_t w5, b1, mC_s]
    rcases hy with rfl | rfl
    · rw [mEq_t rfl, mF_t w4]
      rw [if_pos rfl] at f1
      rw [← f1]
      try dsimp only
      rw [g1, mK_r, if_pos rfl]
    · rw [mEq_f (by decide), mF_t w4]
      rw [if_neg (by decide)] at f1
      rw [← f1]
      try dsimp only
      rw [g1, mK_r, if_pos rfl]
  · have k4 : h' 4 = hb 4 := g2 4 (by decide) (by decide) (by decide)
    have k9 : h' (4 + 5) = h (4 + 5) := by rw [g2 _ (by decide) (by decide) (by decide), f2 _ (by decide), b3 _ (by decide)]
    refine ⟨ShH_fr S4 (fun i _ _ => by rw [k4]) (g2 _ (by decide) (by decide) (by decide)), ?_, ?_, ?_, ?_, ?_, ?_, ?_⟩
    · rw [k4, f1]
      rcases hy with rfl | rfl
      · rw [if_pos rfl, mUp_s, mUp_n (Or.inr (by decide)), mUp_n (Or.inr (by decide)), e4]
        exact ⟨rfl, hR.2.1.2.1, hR.2.1.2.2⟩
      · rw [if_neg (by decide), mUp_s, mUp_n (Or.inr (by decide)), mUp_n (Or.inr (by decide)), e4]
        exact ⟨hR.2.1.1, rfl, hR.2.1.2.2⟩
    · intro r c r0 r1 c0 c1
      rcases hy with rfl | rfl
      · have r1 : r < z := r1
        have c1 : c < aWi s := c1
        have hh := ho r r0 r1
        have e := g3 r c r0 (by omega) c0 (by omega)
        rw [if_pos ⟨r0, r1, c1⟩, f2 422 (by decide)] at e
        show h' 5 (16 * r + c) = if o r < 0 then 0 else aVal s (o r) c
        rw [show 16 * r + c = ix 0 r c from rfl, e]
        split
        · rfl
        · exact b2.2.2.1 (o r) c (by omega) hh.2 c0 c1
      · have r1 : r < aHi s := r1
        have c1 : c < z := c1
        have hh := ho c c0 c1
        have e := g3 c r c0 (by omega) r0 (by omega)
        rw [if_pos ⟨c0, c1, r1⟩, f2 422 (by decide)] at e
        show h' 5 (16 * r + c) = if o c < 0 then 0 else aVal s r (o c)
        rw [show 16 * r + c = ix 1 c r from rfl, e]
        split
        · rfl
        · exact b2.2.2.1 r (o c) r0 r1 (by omega) hh.2
    · intro p r c p0 p1 r0 r1 c0 c1
      rcases hy with rfl | rfl
      · have r1 : r < z := r1
        have c1 : c < aWi s := c1
        have hh := ho r r0 r1
        have e := g4 p r c p0 p1 r0 (by omega) c0 (by omega)
        rw [if_pos ⟨r0, r1, c1⟩, f2 423 (by decide)] at e
        show h' 6 (256 * p + 16 * r + c) = if o r < 0 then -1 else aCel s p (o r) c
        rw [show 256 * p + 16 * r + c = 256 * p + ix 0 r c by show _ = 256 * p + (16 * r + c); omega, e]
        split
        · rfl
        · have := b2.2.2.2.1 p (o r) c p0 p1 (by omega) hh.2 c0 c1
          rw [← this]
          show ha 423 (256 * p + (16 * o r + c)) = ha 423 (256 * p + 16 * o r + c)
          congr 1; omega
      · have r1 : r < aHi s := r1
        have c1 : c < z := c1
        have hh := ho c c0 c1
        have e := g4 p c r p0 p1 c0 (by omega) r0 (by omega)
        rw [if_pos ⟨c0, c1, r1⟩, f2 423 (by decide)] at e
        show h' 6 (256 * p + 16 * r + c) = if o c < 0 then -1 else aCel s p r (o c)
        rw [show 256 * p + 16 * r + c = 256 * p + ix 1 c r by show _ = 256 * p + (16 * r + c); omega, e]
        split
        · rfl
        · have := b2.2.2.2.1 p r (o c) p0 p1 r0 r1 (by omega) hh.2
          rw [← this]
          show ha 423 (256 * p + (16 * r + o c)) = ha 423 (256 * p + 16 * r + o c)
          congr 1; omega
    · intro p i p0 p1 i0 i1
      rcases hy with rfl | rfl
      · have i1 : i < z := i1
        have hh := ho i i0 i1
        have e := g5 0 p i (Or.inl rfl) p0 p1 i0 (by omega)
        rw [if_pos ⟨rfl, i0, i1⟩, f2 424 (by decide)] at e
        show h' 7 (16 * p + i) = if (0 : Int) = 0 then (if o i < 0 then -1 else aLin s 0 p (o i)) else aLin s 0 p i
        rw [if_pos rfl, show 16 * p + i = 64 * 0 + 16 * p + i by omega, e]
        split
        · rfl
        · have := b2.2.2.2.2.1 p (o i) p0 p1 (by omega) hh.2
          rw [← this]
          show ha 424 (64 * 0 + 16 * p + o i) = ha 424 (16 * p + o i)
          congr 1; omega
      · have i1 : i < aHi s := i1
        have e := g5 0 p i (Or.inl rfl) p0 p1 i0 (by omega)
        rw [if_neg (by omega), f2 7 (by decide), b3 7 (by decide)] at e
        show h' 7 (16 * p + i) = if (0 : Int) = 1 then (if o i < 0 then -1 else aLin s 1 p (o i)) else aLin s 0 p i
        rw [if_neg (by decide), show 16 * p + i = 64 * 0 + 16 * p + i by omega, e, show 64 * 0 + 16 * p + i = 16 * p + i by omega]
        exact hR.2.2.2.2.1 p i p0 p1 i0 i1
    · intro p i p0 p1 i0 i1
      rcases hy with rfl | rfl
      · have i1 : i < aWi s := i1
        have e := g5 1 p i (Or.inr rfl) p0 p1 i0 (by omega)
        rw [if_neg (by omega), f2 7 (by decide), b3 7 (by decide)] at e
        show h' 7 (64 + 16 * p + i) = if (1 : Int) = 0 then (if o i < 0 then -1 else aLin s 0 p (o i)) else aLin s 1 p i
        rw [if_neg (by decide), show 64 + 16 * p + i = 64 * 1 + 16 * p + i by omega, e, show 64 * 1 + 16 * p + i = 64 + 16 * p + i by omega]
        exact hR.2.2.2.2.2.1 p i p0 p1 i0 i1
      · have i1 : i < z := i1
        have hh := ho i i0 i1
        have e := g5 1 p i (Or.inr rfl) p0 p1 i0 (by omega)
        rw [if_pos ⟨rfl, i0, i1⟩, f2 424 (by decide)] at e
        show h' 7 (64 + 16 * p + i) = if (1 : Int) = 1 then (if o i < 0 then -1 else aLin s 1 p (o i)) else aLin s 1 p i
        rw [if_pos rfl, show 64 + 16 * p + i = 64 * 1 + 16 * p + i by omega, e]
        split
        · rfl
        · have := b2.2.2.2.2.2.1 p (o i) p0 p1 (by omega) hh.2
          rw [← this]
          show ha 424 (64 * 1 + 16 * p + o i) = ha 424 (64 + 16 * p + o i)
          congr 1
    · intro p p0 p1
      rw [g2 (4 + 4) (by decide) (by decide) (by decide), f2 (4 + 4) (by decide)]
      exact Ra.2.2.2.2.2.2.1 p p0 p1
    · intro k k0 k1
      have k1 : k < aN s := k1
      have hq := Ra.1.2.2.2.2.2.2.1 k k0 (by omega)
      have ek : h' (4 + 5) = ha (4 + 5) := by rw [g2 _ (by decide) (by decide) (by decide), f2 _ (by decide)]
      have er : h' (ha (4 + 5) k) = ha (ha (4 + 5) k) := by rw [g2 _ (by omega) (by omega) (by omega), f2 _ (by omega)]
      rw [ek, er]
      exact ⟨(Ra.2.2.2.2.2.2.2 k k0 k1).1, CC_fr (Ra.2.2.2.2.2.2.2 k k0 k1).2 ⟨Int.le_refl _, fun a a0 _ => ⟨rfl, by rw [g2 a (by omega) (by omega) (by omega), f2 a (by omega)]⟩⟩⟩
  · exact RC_fr b2 hI ⟨Int.le_refl _, fun a a0 _ => ⟨rfl, by rw [g2 a (by omega) (by omega) (by omega), f2 a (by omega)]⟩⟩ (fun b p q => by rw [g2 b (by omega) (by omega) (by omega), f2 b (by omega)])
  · rw [g2 b (by omega) (by omega) (by omega), f2 b (by omega), b3 b (by omega)]
  · rw [g2 4 (by decide) (by decide) (by decide), f3 i hi, e4]
end PU
