/-! PURE: insert, on the reference's row. -/
/-- the row R' has at the line l what R has at the line o l -/
def lnm (y ac : Int) (R R' : Int → Int) (o : Int → Int) : Prop := (∀ j : Int, j < 7 ∨ 1415 ≤ j → R' j = R j) ∧ (∀ q i : Int, 0 ≤ q → q < 4 → 0 ≤ i → i < 16 → R' (7 + 64 * y + 16 * q + i) = R (7 + 64 * y + 16 * q + o i)) ∧ (∀ q i : Int, 0 ≤ q → q < 4 → 0 ≤ i → i < 16 → R' (7 + 64 * (1 - y) + 16 * q + i) = R (7 + 64 * (1 - y) + 16 * q + i)) ∧ (∀ l x : Int, 0 ≤ l → l < 16 → 0 ≤ x → x < ac → R' (135 + ix y l x) = R (135 + ix y (o l) x)) ∧ ∀ q l x : Int, 0 ≤ q → q < 4 → 0 ≤ l → l < 16 → 0 ≤ x → x < ac → R' (391 + 256 * q + ix y l x) = R (391 + 256 * q + ix y (o l) x)
theorem lnm_rf {y ac : Int} {R : Int → Int} : lnm y ac R R (fun l => l) := ⟨fun _ _ => rfl, fun _ _ _ _ _ _ => rfl, fun _ _ _ _ _ _ => rfl, fun _ _ _ _ _ _ => rfl, fun _ _ _ _ _ _ _ _ _ => rfl⟩
section PU
variable {d : Nat} {w : mm_W} {h : mm_H} {s : aS}
/-- one line becomes another, of the row itself -/
theorem E_M_movesLine (hd : 3 ≤ d) (hW : MW w) (hH : MH h) {y f t ac : Int} (hy : y = 0 ∨ y = 1) (hf : 0 ≤ f ∧ f < 16) (ht : 0 ≤ t ∧ t < 16) (hac : 0 ≤ ac ∧ ac ≤ 16) (hft : f ≠ t) (ha : h 484 (1 - y) = ac) {R : Int → Int} {o : Int → Int} (hl : lnm y ac R (h 484) o) : ∃ h', mm_P d 240 [(2, 483), (0, y), (0, f), (0, t)] w h = some ((9, 0), w, h') ∧ (∀ b : Int, b ≠ 484 → h' b = h b) ∧ lnm y ac R (h' 484) (fun l => if l = t then o f else o l) := by
  obtain ⟨d, rfl, hd2⟩ := mm_dS hd; clear hd; have hd := hd2; clear hd2
  obtain ⟨h1, b1, b2, b3, b4⟩ := L_M_movesLine_l (d := d) hd hW (S := h 484) hy hf ht hft 4 0 h hH (fun _ _ _ => rfl) (by decide) (by decide)
  have M1 : MH h1 := MH_fr hH (fun i _ => by rw [b2 483 (by decide)])
  have ixb : ∀ l x : Int, 0 ≤ l → l < 16 → 0 ≤ x → x < 16 → 0 ≤ ix y l x ∧ ix y l x < 256 := fun l x _ _ _ _ => by unfold ix; split <;> omega
  obtain ⟨h', g1, g2, g3, g4, g5⟩ := L_M_movesLine_x (d := d) hd hW (S := h 484) hy hf ht hac.2 hft ac.toNat 0 h1 M1 (by rw [b3 (1 - y) (by omega)]; exact ha) (fun x x0 x1 => by
    have := ixb f x hf.1 hf.2 x0 x1
    rw [b3 _ (by omega)]) (fun q x q0 q1 x0 x1 => by
    have := ixb f x hf.1 hf.2 x0 x1
    rw [b3 _ (by omega)]) (by decide) (by omega)
  refine ⟨h', ?_, fun b hb => by rw [g2 b hb, b2 b hb], fun j hj => by rw [g3 j (by omega), b3 j (by omega)]; exact hl.1 j hj, fun q i q0 q1 i0 i1 => ?_, fun q i q0 q1 i0 i1 => ?_, fun l x l0 l1 x0 x1 => ?_, fun q l x q0 q1 l0 l1 x0 x1 => ?_⟩
  · rw [P_M_movesLine, b1, mK_r, if_pos rfl]
    simp only [mP_0, mP_1, mP_2, mP_3]
    rw [g1, mK_r, if_pos rfl]
  · rw [g3 _ (by omega), b4 y q i hy q0 q1 i0 i1]
    by_cases c : i = t
    · rw [if_pos ⟨rfl, q0, c⟩]
      show _ = R (7 + 64 * y + 16 * q + if i = t then o f else o i)
      rw [if_pos c]
      exact hl.2.1 q f q0 q1 hf.1 hf.2
    · rw [if_neg (fun z => c z.2.2)]
      show _ = R (7 + 64 * y + 16 * q + if i = t then o f else o i)
      rw [if_neg c]
      exact hl.2.1 q i q0 q1 i0 i1
  · rw [g3 _ (by omega), b4 (1 - y) q i (by omega) q0 q1 i0 i1, if_neg (by omega)]
    exact hl.2.2.1 q i q0 q1 i0 i1
  · have bl := ixb l x l0 l1 x0 (by omega)
    rw [g4 l x l0 l1 x0 (by omega)]
    by_cases c : l = t
    · rw [if_pos ⟨c, x0, x1⟩]
      show _ = R (135 + ix y (if l = t then o f else o l) x)
      rw [if_pos c]
      exact hl.2.2.2.1 f x hf.1 hf.2 x0 x1
    · rw [if_neg (fun z => c z.1), b3 _ (by omega)]
      show _ = R (135 + ix y (if l = t then o f else o l) x)
      rw [if_neg c]
      exact hl.2.2.2.1 l x l0 l1 x0 x1
  · have bl := ixb l x l0 l1 x0 (by omega)
    rw [g5 q l x q0 q1 l0 l1 x0 (by omega)]
    by_cases c : l = t
    · rw [if_pos ⟨c, x0, x1⟩]
      show _ = R (391 + 256 * q + ix y (if l = t then o f else o l) x)
      rw [if_pos c]
      exact hl.2.2.2.2 q f x q0 q1 hf.1 hf.2 x0 x1
    · rw [if_neg (fun z => c z.1), b3 _ (by omega)]
      show _ = R (391 + 256 * q + ix y (if l = t then o f else o l) x)
      rw [if_neg c]
      exact hl.2.2.2.2 q l x q0 q1 l0 l1 x0 x1
theorem lnm_ext {y ac : Int} {R R' : Int → Int} {o o' : Int → Int} (h : lnm y ac R R' o) (he : ∀ l : Int, 0 ≤ l → l < 16 → o l = o' l) : lnm y ac R R' o' :=
  ⟨h.1, fun q i a b c e => by rw [← he i c e]; exact h.2.1 q i a b c e, h.2.2.1, fun l x a b c e => by rw [← he l a b]; exact h.2.2.2.1 l x a b c e, fun q l x a b c e f g => by rw [← he l c e]; exact h.2.2.2.2 q l x a b c e f g⟩
theorem L_M_ins0 (hd : 3 ≤ d) (hW : MW w) {y a n was ac : Int} {R : Int → Int} (hy : y = 0 ∨ y = 1) (ha : 0 ≤ a) (hn : 1 ≤ n) (hz : was + n ≤ 16) (hac : 0 ≤ ac ∧ ac ≤ 16) : ∀ (m : Nat) (k : Int) (h : mm_H), MH h → h 484 (1 - y) = ac → k + 1 = a + m → k < was → lnm y ac R (h 484) (fun l => if k + 1 + n ≤ l ∧ l < was + n then l - n else l) → ∃ h', l_M_doInsert_0 (mm_P d) 483 y a n was k w h = some (.inr (90, [(2, 483), (0, y), (0, a), (0, n), (0, was), (0, a - 1), (9, 0), (9, 0), (9, 0), (9, 0)], w, h')) ∧ (∀ b : Int, b ≠ 484 → h' b = h b) ∧ lnm y ac R (h' 484) (fun l => if a + n ≤ l ∧ l < was + n then l - n else l) := by
  have hw : (w.1 483).1 = 13 := by rw [hW.1]
  intro m
  induction m with
  | zero =>
    intro k h a1 a2 a3 a4 a5
    rw [l_M_doInsert_0_eq, mLt_t (by omega)]
    have e : k + 1 = a := by omega
    rw [e] at a5
    exact ⟨h, by rw [show k = a - 1 by omega], fun _ _ => rfl, a5⟩
  | succ m ih =>
    intro k h a1 a2 a3 a4 a5
    obtain ⟨h1, b1, b2, b3⟩ := E_M_movesLine hd hW a1 (f := k) (t := k + n) hy (by omega) (by omega) hac (by omega) a2 a5
    rw [l_M_doInsert_0_eq, mLt_f (by omega), mF_t hw, mI_id (x := k + n) (by omega) (by omega), b1, mC_s]
    try dsimp only
    rw [mI_id (by omega) (by omega)]
    obtain ⟨h', g1, g2, g3⟩ := ih (k + -1) h1 (MH_fr a1 (fun i _ => by rw [b2 483 (by decide)])) (by rw [b3.1 (1 - y) (by omega), ← a5.1 (1 - y) (by omega)]; exact a2) (by omega) (by omega) (lnm_ext b3 (fun l l0 l1 => by
      repeat' split
      all_goals omega))
    exact ⟨h', g1, fun b hb => by rw [g2 b hb, b2 b hb], g3⟩
/-- the new lines: nothing on them, but what joins -/
def nwl (y ac a n : Int) (R R' : Int → Int) (u : Int → Int → Int) : Prop := (∀ j : Int, j < 7 ∨ 1415 ≤ j → R' j = R j) ∧ (∀ q i : Int, 0 ≤ q → q < 4 → 0 ≤ i → i < 16 → R' (7 + 64 * y + 16 * q + i) = if a ≤ i ∧ i < n then -1 else R (7 + 64 * y + 16 * q + i)) ∧ (∀ q i : Int, 0 ≤ q → q < 4 → 0 ≤ i → i < 16 → R' (7 + 64 * (1 - y) + 16 * q + i) = R (7 + 64 * (1 - y) + 16 * q + i)) ∧ (∀ l x : Int, 0 ≤ l → l < 16 → 0 ≤ x → x < ac → R' (135 + ix y l x) = if a ≤ l ∧ l < n then 0 else R (135 + ix y l x)) ∧ ∀ q l x : Int, 0 ≤ q → q < 4 → 0 ≤ l → l < 16 → 0 ≤ x → x < ac → R' (391 + 256 * q + ix y l x) = if a ≤ l ∧ l < n then u q x else R (391 + 256 * q + ix y l x)
theorem L_M_ins2 (hd : 1 ≤ d) (hW : MW w) {y a n was k : Int} (hy : y = 0 ∨ y = 1) (hk : 0 ≤ k ∧ k < 16) : ∀ (m : Nat) (p : Int) (h : mm_H), MH h → 0 ≤ p → p + m = 4 → ∃ h', l_M_doInsert_2 (mm_P d) 483 y a n was k p w h = some (.inr (130, [(2, 483), (0, y), (0, a), (0, n), (0, was), (0, k), (0, 4), (9, 0), (9, 0), (9, 0)], w, h')) ∧ (∀ b : Int, b ≠ 484 → h' b = h b) ∧ (∀ j : Int, j < 7 ∨ 135 ≤ j → h' 484 j = h 484 j) ∧ ∀ v q i : Int, (v = 0 ∨ v = 1) → 0 ≤ q → q < 4 → 0 ≤ i → i < 16 → h' 484 (7 + 64 * v + 16 * q + i) = if v = y ∧ p ≤ q ∧ i = k then -1 else h 484 (7 + 64 * v + 16 * q + i) := by
  have hw : (w.1 483).1 = 13 := by rw [hW.1]
  intro m
  induction m with
  | zero =>
    intro p h a1 a2 a3
    rw [l_M_doInsert_2_eq, mLe_t (by omega)]
    exact ⟨h, by rw [show p = 4 by omega], fun _ _ => rfl, fun _ _ => rfl, fun v q i _ _ _ _ _ => by rw [if_neg (by omega)]⟩
  | succ m ih =>
    intro p h a1 a2 a3
    rw [l_M_doInsert_2_eq, mLe_f (by omega), mF_t hw, E_M_lined (by omega) hy ⟨a2, by omega⟩ (by omega) (by omega), mC_s, a1.1, mAw_t hW.2.1 (by omega) (by omega) (by decide)]
    try dsimp only
    rw [mI_id (by omega) (by omega)]
    obtain ⟨h', g1, g2, g3, g4⟩ := ih (p + 1) (mUp h 484 (7 + 64 * y + 16 * p + k) (-1)) (MH_fr a1 (fun i _ => mUp_n (Or.inl (by decide)))) (by omega) (by omega)
    refine ⟨h', g1, fun b hb => by rw [g2 b hb, mUp_row hb], fun j hj => by rw [g3 j hj, mUp_n (Or.inr (by omega))], fun v q i hv q0 q1 i0 i1 => ?_⟩
    rw [g4 v q i hv q0 q1 i0 i1]
    by_cases c1 : v = y ∧ p ≤ q ∧ i = k
    · rw [if_pos c1]
      by_cases c2 : p + 1 ≤ q
      · rw [if_pos ⟨c1.1, c2, c1.2.2⟩]
      · rw [if_neg (by omega), show q = p by omega, c1.1, c1.2.2]
        exact mUp_s
    · rw [if_neg c1, if_neg (by omega), mUp_n (Or.inr (by omega))]
theorem ix_b {y l x : Int} (l0 : 0 ≤ l) (l1 : l < 16) (x0 : 0 ≤ x) (x1 : x < 16) : 0 ≤ ix y l x ∧ ix y l x < 256 := by unfold ix; split <;> omega
theorem ix_e {y l x l' x' : Int} (hy : y = 0 ∨ y = 1) (l0 : 0 ≤ l) (l1 : l < 16) (x0 : 0 ≤ x) (x1 : x < 16) (l0' : 0 ≤ l') (l1' : l' < 16) (x0' : 0 ≤ x') (x1' : x' < 16) (e : ix y l x = ix y l' x') : l = l' ∧ x = x' := by
  unfold ix at e
  rcases hy with rfl | rfl
  · rw [if_pos rfl, if_pos rfl] at e; omega
  · rw [if_neg (by decide), if_neg (by decide)] at e; omega
theorem L_M_ins4 (hd : 2 ≤ d) (hW : MW w) {y a n was k X : Int} {u : Int → Int} (hy : y = 0 ∨ y = 1) (ha : 0 ≤ a ∧ a ≤ was) (hn : 1 ≤ n) (hz : was + n ≤ 16) (hk : a ≤ k ∧ k < a + n) (hX : 0 ≤ X ∧ X < 16) : ∀ (m : Nat) (p : Int) (h : mm_H), MH h → (∀ q : Int, 0 ≤ q → q < 4 → u q = if (if a = 0 then -1 else h 484 (391 + 256 * q + ix y (a - 1) X)) = (if a = was then -1 else h 484 (391 + 256 * q + ix y (a + n) X)) then (if a = 0 then -1 else h 484 (391 + 256 * q + ix y (a - 1) X)) else -1) → 0 ≤ p → p + m = 4 → ∃ h', l_M_doInsert_4 (mm_P d) 483 y a n was k X p w h = some (.inr (288, [(2, 483), (0, y), (0, a), (0, n), (0, was), (0, k), (0, X), (0, 4), (9, 0), (9, 0)], w, h')) ∧ (∀ b : Int, b ≠ 484 → h' b = h b) ∧ (∀ j : Int, j < 391 ∨ 1415 ≤ j → h' 484 j = h 484 j) ∧ ∀ q l x : Int, 0 ≤ q → q < 4 → 0 ≤ l → l < 16 → 0 ≤ x → x < 16 → h' 484 (391 + 256 * q + ix y l x) = if p ≤ q ∧ l = k ∧ x = X then u q else h 484 (391 + 256 * q + ix y l x) := by
  have hw : (w.1 483).1 = 13 := by rw [hW.1]
  have bk := ix_b (y := y) (l := k) (x := X) (by omega) (by omega) hX.1 hX.2
  intro m
  induction m with
  | zero =>
    intro p h a1 au a2 a3
    rw [l_M_doInsert_4_eq, mLe_t (by omega)]
    exact ⟨h, by rw [show p = 4 by omega], fun _ _ => rfl, fun _ _ => rfl, fun q l x _ _ _ _ _ _ => by rw [if_neg (by omega)]⟩
  | succ m ih =>
    intro p h a1 au a2 a3
    have fin : ∀ z : Int, z = u p → ∃ h', l_M_doInsert_4 (mm_P d) 483 y a n was k X (p + 1) w (mUp h 484 (391 + 256 * p + ix y k X) z) = some (.inr (288, [(2, 483), (0, y), (0, a), (0, n), (0, was), (0, k), (0, X), (0, 4), (9, 0), (9, 0)], w, h')) ∧ (∀ b : Int, b ≠ 484 → h' b = h b) ∧ (∀ j : Int, j < 391 ∨ 1415 ≤ j → h' 484 j = h 484 j) ∧ ∀ q l x : Int, 0 ≤ q → q < 4 → 0 ≤ l → l < 16 → 0 ≤ x → x < 16 → h' 484 (391 + 256 * q + ix y l x) = if p ≤ q ∧ l = k ∧ x = X then u q else h 484 (391 + 256 * q + ix y l x) := by
      intro z hz'
      obtain ⟨h', g1, g2, g3, g4⟩ := ih (p + 1) (mUp h 484 (391 + 256 * p + ix y k X) z) (MH_fr a1 (fun i _ => mUp_n (Or.inl (by decide)))) (fun q q0 q1 => by
        have hu := au q q0 q1
        have k1 : a ≠ 0 → mUp h 484 (391 + 256 * p + ix y k X) z 484 (391 + 256 * q + ix y (a - 1) X) = h 484 (391 + 256 * q + ix y (a - 1) X) := fun c => by
          have := ix_b (y := y) (l := a - 1) (x := X) (by omega) (by omega) hX.1 hX.2
          refine mUp_n (Or.inr (fun e => ?_))
          have := (ix_e hy (l := a - 1) (x := X) (l' := k) (x' := X) (by omega) (by omega) hX.1 hX.2 (by omega) (by omega) hX.1 hX.2 (by omega)).1
          omega
        have k2 : a ≠ was → mUp h 484 (391 + 256 * p + ix y k X) z 484 (391 + 256 * q + ix y (a + n) X) = h 484 (391 + 256 * q + ix y (a + n) X) := fun c => by
          have := ix_b (y := y) (l := a + n) (x := X) (by omega) (by omega) hX.1 hX.2
          refine mUp_n (Or.inr (fun e => ?_))
          have := (ix_e hy (l := a + n) (x := X) (l' := k) (x' := X) (by omega) (by omega) hX.1 hX.2 (by omega) (by omega) hX.1 hX.2 (by omega)).1
          omega
        rw [hu]
        by_cases c1 : a = 0
        · by_cases c2 : a = was
          · simp only [if_pos c1, if_pos c2]
          · simp only [if_pos c1, if_neg c2, k2 c2]
        · by_cases c2 : a = was
          · simp only [if_neg c1, if_pos c2, k1 c1]
          · simp only [if_neg c1, if_neg c2, k1 c1, k2 c2]) (by omega) (by omega)
      refine ⟨h', g1, fun b hb => by rw [g2 b hb, mUp_row hb], fun j hj => by rw [g3 j hj, mUp_n (Or.inr (by omega))], fun q l x q0 q1 l0 l1 x0 x1 => ?_⟩
      rw [g4 q l x q0 q1 l0 l1 x0 x1]
      by_cases c1 : p ≤ q ∧ l = k ∧ x = X
      · rw [if_pos c1]
        by_cases c2 : p + 1 ≤ q
        · rw [if_pos ⟨c2, c1.2⟩]
        · rw [if_neg (by omega), show q = p by omega, c1.2.1, c1.2.2, ← hz']
          exact mUp_s
      · have bl := ix_b (y := y) l0 l1 x0 x1
        rw [if_neg c1, if_neg (by omega), mUp_n (Or.inr (fun z => c1 ?_))]
        have := ix_e hy l0 l1 x0 x1 (l' := k) (x' := X) (by omega) (by omega) hX.1 hX.2 (by omega)
        exact ⟨by omega, this⟩
    have gk : mm_P d 230 [(0, y), (0, k), (0, X)] w h = some ((0, ix y k X), w, h) := E_M_crossed hd hy (by omega) (by omega) (by omega) (by omega)
    have hu := au p a2 (by omega)
    rw [l_M_doInsert_4_eq, mLe_f (by omega)]
    simp only [mF_t hw, a1.1]
    by_cases c1 : a = 0
    · rw [mEq_t c1]
      by_cases c2 : a = was
      · rw [mEq_t c2, gk, mC_s, mEq_t rfl]
        try dsimp only
        rw [mI_id (x := 256 * p) (by omega) (by omega), mI_id (x := 391 + 256 * p) (by omega) (by omega), mI_id (x := 391 + 256 * p + ix y k X) (by omega) (by omega), mAw_t hW.2.1 (by omega) (by omega) (by decide), mI_id (by omega) (by omega)]
        exact fin _ (by rw [hu, if_pos c1, if_pos c2, if_pos rfl])
      · have gb : mm_P d 230 [(0, y), (0, a + n), (0, X)] w h = some ((0, ix y (a + n) X), w, h) := E_M_crossed hd hy (by omega) (by omega) (by omega) (by omega)
        have bb := ix_b (y := y) (l := a + n) (x := X) (by omega) (by omega) hX.1 hX.2
        rw [mEq_f c2, mI_id (x := a + n) (by omega) (by omega), gb, mC_s]
        try dsimp only
        rw [mI_id (x := 256 * p) (by omega) (by omega), mI_id (x := 391 + 256 * p) (by omega) (by omega), mI_id (x := 391 + 256 * p + ix y (a + n) X) (by omega) (by omega), mA_t hW.2.1 (by omega) (by omega), gk, mC_s]
        try dsimp only
        rw [mI_id (x := 391 + 256 * p + ix y k X) (by omega) (by omega)]
        rw [if_pos c1, if_neg c2] at hu
        by_cases c3 : -1 = h 484 (391 + 256 * p + ix y (a + n) X)
        · rw [mEq_t c3]
          try simp only [mF_t hw, a1.1]
          rw [mAw_t hW.2.1 (by omega) (by omega) (by decide)]
          try dsimp only
          rw [mI_id (by omega) (by omega)]
          exact fin _ (by rw [hu, if_pos c3])
        · rw [mEq_f c3]
          try simp only [mF_t hw, a1.1]
          rw [mAw_t hW.2.1 (by omega) (by omega) (by decide)]
          try dsimp only
          rw [mI_id (by omega) (by omega)]
          exact fin _ (by rw [hu, if_neg c3])
    · have ga : mm_P d 230 [(0, y), (0, a - 1), (0, X)] w h = some ((0, ix y (a - 1) X), w, h) := E_M_crossed hd hy (by omega) (by omega) (by omega) (by omega)
      have ba := ix_b (y := y) (l := a - 1) (x := X) (by omega) (by omega) hX.1 hX.2
      rw [mEq_f c1, mI_id (x := a - 1) (by omega) (by omega), ga, mC_s]
      try dsimp only
      rw [mI_id (x := 256 * p) (by omega) (by omega), mI_id (x := 391 + 256 * p) (by omega) (by omega), mI_id (x := 391 + 256 * p + ix y (a - 1) X) (by omega) (by omega), mA_t hW.2.1 (by omega) (by omega)]
      try dsimp only
      by_cases c2 : a = was
      · rw [if_neg c1, if_pos c2] at hu
        rw [mEq_t c2, gk, mC_s]
        try dsimp only
        rw [mI_id (x := 391 + 256 * p + ix y k X) (by omega) (by omega)]
        by_cases c3 : h 484 (391 + 256 * p + ix y (a - 1) X) = -1
        · rw [mEq_t c3]
          try simp only [mF_t hw, a1.1]
          rw [mAw_t hW.2.1 (by omega) (by omega) (by decide)]
          try dsimp only
          rw [mI_id (by omega) (by omega)]
          exact fin _ (by rw [hu, if_pos c3])
        · rw [mEq_f c3]
          try simp only [mF_t hw, a1.1]
          rw [mAw_t hW.2.1 (by omega) (by omega) (by decide)]
          try dsimp only
          rw [mI_id (by omega) (by omega)]
          exact fin _ (by rw [hu, if_neg c3])
      · have gb : mm_P d 230 [(0, y), (0, a + n), (0, X)] w h = some ((0, ix y (a + n) X), w, h) := E_M_crossed hd hy (by omega) (by omega) (by omega) (by omega)
        have bb := ix_b (y := y) (l := a + n) (x := X) (by omega) (by omega) hX.1 hX.2
        rw [if_neg c1, if_neg c2] at hu
        rw [mEq_f c2, mI_id (x := a + n) (by omega) (by omega), gb, mC_s]
        try dsimp only
        rw [mI_id (x := 391 + 256 * p + ix y (a + n) X) (by omega) (by omega)]
        try simp only [mF_t hw, a1.1]
        rw [mA_t hW.2.1 (by omega) (by omega)]
        try simp only [mF_t hw, a1.1]
        rw [gk, mC_s]
        try simp only [mF_t hw, a1.1]
        rw [mI_id (x := 391 + 256 * p + ix y k X) (by omega) (by omega)]
        by_cases c3 : h 484 (391 + 256 * p + ix y (a - 1) X) = h 484 (391 + 256 * p + ix y (a + n) X)
        · rw [mEq_t c3]
          try simp only [mF_t hw, a1.1]
          rw [mAw_t hW.2.1 (by omega) (by omega) (by decide)]
          try dsimp only
          rw [mI_id (by omega) (by omega)]
          exact fin _ (by rw [hu, if_pos c3])
        · rw [mEq_f c3]
          try simp only [mF_t hw, a1.1]
          rw [mAw_t hW.2.1 (by omega) (by omega) (by decide)]
          try dsimp only
          rw [mI_id (by omega) (by omega)]
          exact fin _ (by rw [hu, if_neg c3])
end PU
