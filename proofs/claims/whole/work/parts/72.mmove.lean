/-! PURE: lines are moved, in the reference. -/
def othr (f m a l : Int) : Int := if (if l < a then l else if l < a + m then a else l - m) ≤ f then (if l < a then l else if l < a + m then a else l - m) else (if l < a then l else if l < a + m then a else l - m) + m
section PU
variable {d : Nat} {w : mm_W} {h : mm_H} {s : aS} {A : aG}
theorem L_M_move0 (hW : MW w) {y n a f m z : Int} (hy : y = 0 ∨ y = 1) (hz : z ≤ 16) (hf : 0 ≤ f) (hm : 1 ≤ m) (hfm : f + m ≤ z) (ha : 0 ≤ a ∧ a ≤ z - m) : ∀ (k : Nat) (l x : Int) (h : mm_H), MH h → h 484 y = z → 0 ≤ l → l + k = z → x = othr f m a l → ∃ h' x', l_M_move_0 (mm_P d) 483 y n a f m x l w h = some (.inr (158, [(2, 483), (0, y), (0, n), (0, a), (0, f), (0, m), (0, x'), (0, z)], w, h')) ∧ (∀ b : Int, b ≠ 488 → h' b = h b) ∧ ∀ i : Int, h' 488 i = if l ≤ i ∧ i < z then oMove f m a i else h 488 i := by
  have hw : (w.1 483).1 = 13 := by rw [hW.1]
  intro k
  induction k with
  | zero =>
    intro l x h a1 a2 a3 a4 a5
    rw [l_M_move_0_eq, mF_t hw, a1.1, mA_t hW.2.1 (by omega) (by omega), a2, mLe_t (by omega)]
    exact ⟨h, x, by rw [show l = z by omega], fun _ _ => rfl, fun l => by rw [if_neg (by omega)]⟩
  | succ k ih =>
    intro l x h a1 a2 a3 a4 a5
    have fin : ∀ v x1 : Int, v = oMove f m a l → x1 = othr f m a (l + 1) → ∃ h' x', l_M_move_0 (mm_P d) 483 y n a f m x1 (l + 1) w (mUp h 488 l v) = some (.inr (158, [(2, 483), (0, y), (0, n), (0, a), (0, f), (0, m), (0, x'), (0, z)], w, h')) ∧ (∀ b : Int, b ≠ 488 → h' b = h b) ∧ ∀ i : Int, h' 488 i = if l ≤ i ∧ i < z then oMove f m a i else h 488 i := by
      intro v x1 hv hx1
      obtain ⟨h', x', g1, g2, g3⟩ := ih (l + 1) x1 (mUp h 488 l v) (MH_fr a1 (fun j _ => mUp_n (Or.inl (by decide)))) (by rw [mUp_n (Or.inl (by decide))]; exact a2) (by omega) (by omega) hx1
      refine ⟨h', x', g1, fun b hb => by rw [g2 b hb, mUp_row hb], fun i => ?_⟩
      rw [g3 i]
      by_cases c : i = l
      · rw [if_neg (by omega), c, mUp_s, if_pos (by omega), hv]
      · rw [mUp_n (Or.inr c)]
        repeat' split
        all_goals first | rfl | omega
    have hxb : 0 ≤ x ∧ x ≤ 32 := by
      rw [a5]; unfold othr
      repeat' split
      all_goals omega
    have A1 : ∀ (α : Type) (p q : α), mAw w 488 l p q = q := fun α p q => mAw_t hW.2.2.2.2.2.1 (by omega) (by omega) (by decide)
    rw [l_M_move_0_eq, mF_t hw, a1.1, mA_t hW.2.1 (by omega) (by omega), a2, mLe_f (by omega)]
    simp only [mF_t hw, a1.2.2.2.2.1, A1]
    rw [mI_id (x := f + m) (by omega) (by omega), mI_id (x := f + m + 1) (by omega) (by omega), mI_id (x := x + 1) (by omega) (by omega), mI_id (x := l + 1) (by omega) (by omega), mI_id (x := a + m) (by omega) (by omega), mI_id (x := f + l) (by omega) (by omega), mI_id (x := f + l - a) (by omega) (by omega)]
    by_cases c1 : l < a
    · rw [mLt_t c1]
      by_cases c2 : x = f
      · rw [mEq_t c2]
        refine fin _ _ ?_ ?_
        · rw [a5] at c2; unfold oMove; unfold othr at c2
          repeat' split
          all_goals (repeat' split at c2)
          all_goals omega
        · rw [a5] at c2; unfold othr at c2 ⊢
          repeat' split
          all_goals (repeat' split at c2)
          all_goals omega
      · rw [mEq_f c2]
        refine fin _ _ ?_ ?_
        · rw [a5] at c2 ⊢; unfold oMove; unfold othr at c2 ⊢
          repeat' split
          all_goals (repeat' split at c2)
          all_goals omega
        · rw [a5] at c2 ⊢; unfold othr at c2 ⊢
          repeat' split
          all_goals (repeat' split at c2)
          all_goals omega
    · rw [mLt_f (by omega)]
      by_cases c3 : a + m ≤ l
      · rw [mLe_t c3]
        by_cases c2 : x = f
        · rw [mEq_t c2]
          refine fin _ _ ?_ ?_
          · rw [a5] at c2; unfold oMove; unfold othr at c2
            repeat' split
            all_goals (repeat' split at c2)
            all_goals omega
          · rw [a5] at c2; unfold othr at c2 ⊢
            repeat' split
            all_goals (repeat' split at c2)
            all_goals omega
        · rw [mEq_f c2]
          refine fin _ _ ?_ ?_
          · rw [a5] at c2 ⊢; unfold oMove; unfold othr at c2 ⊢
            repeat' split
            all_goals (repeat' split at c2)
            all_goals omega
          · rw [a5] at c2 ⊢; unfold othr at c2 ⊢
            repeat' split
            all_goals (repeat' split at c2)
            all_goals omega
      · rw [mLe_f (by omega)]
        refine fin _ _ ?_ ?_
        · unfold oMove
          repeat' split
          all_goals omega
        · rw [a5]; unfold othr
          repeat' split
          all_goals omega
theorem E_M_move (hd : 4 ≤ d) (hW : MW w) (hH : MH h) (hc : mHis h A) (hI : aI s) (hR : RM (h 484) s) {y n a : Int} (hn : n < 2147483648) : (¬ okMove s y n a ∧ mm_P d 248 [(2, 483), (0, y), (0, n), (0, a)] w h = some ((0, -2), w, h)) ∨ (okMove s y n a ∧ ∃ h', mm_P d 248 [(2, 483), (0, y), (0, n), (0, a)] w h = some ((0, 1), w, h') ∧ mHis h' (gAcc A (F_move s y n a)) ∧ RM (h' 484) (F_move s y n a) ∧ (∀ b : Int, b ≠ 483 → b ≠ 484 → b ≠ 485 → b ≠ 487 → b ≠ 488 → h' b = h b) ∧ (∀ i : Int, i ≠ 2 → i ≠ 3 → i ≠ 4 → h' 483 i = h 483 i) ∧ h' 483 4 = 0) := by
  obtain ⟨d, rfl, hd2⟩ := mm_dS hd; clear hd; have hd := hd2; clear hd2
  have hw : (w.1 483).1 = 13 := by rw [hW.1]
  have hs := aSz_le hI y
  by_cases ok : okMove s y n a
  rotate_left
  · refine Or.inl ⟨ok, ?_⟩
    unfold okMove isAB at ok
    rw [P_M_move, E_M_in (by omega), mC_s, bI_eq (Q := y = 0 ∨ y = 1) (by omega)]
    by_cases cy : y = 0 ∨ y = 1
    rotate_left
    · rw [bI_f cy, mEq_t rfl]
    rw [bI_t cy, mEq_f (by decide)]
    by_cases c0 : n < 0
    · rw [mLt_t c0]
    rw [mLt_f (by omega), mD_t (by decide), mD_t (by decide), mF_t hw, Int.tdiv_eq_ediv_of_nonneg (by omega), Int.tmod_eq_emod_of_nonneg (by omega), mI_id (x := n / 100) (by omega) (by omega), E_M_isLines (by omega) hW hH cy, mC_s, RM_sz hR cy]
    by_cases c1 : 0 ≤ n / 100 ∧ n / 100 ≤ n % 100 ∧ n % 100 < aSz s y
    rotate_left
    · rw [bI_f c1, mEq_t rfl]
    rw [bI_t c1, mEq_f (by decide), mD_t (by decide), mD_t (by decide)]
    try dsimp only
    rw [mI_id (x := n % 100 - n / 100) (by omega) (by omega), mI_id (x := n % 100 - n / 100 + 1) (by omega) (by omega), mF_t hw, hH.1, mA_t hW.2.1 (by omega) (by omega), RM_sz hR cy, mI_id (by omega) (by omega), E_M_in (by omega), mC_s, bI_f (fun q => ok (by omega)), mEq_t rfl]
  refine Or.inr ⟨ok, ?_⟩
  have hI' := aI_move hI ok
  unfold okMove isAB at ok
  have cy := ok.1.1
  rw [P_M_move, E_M_in (by omega), mC_s, bI_t (by omega), mEq_f (by decide), mLt_f (by omega), mD_t (by decide), mD_t (by decide), mF_t hw, Int.tdiv_eq_ediv_of_nonneg (by omega), Int.tmod_eq_emod_of_nonneg (by omega), mI_id (x := n / 100) (by omega) (by omega), E_M_isLines (by omega) hW hH cy, mC_s, RM_sz hR cy, bI_t (by omega), mEq_f (by decide), mD_t (by decide), mD_t (by decide)]
  try dsimp only
  rw [mI_id (x := n % 100 - n / 100) (by omega) (by omega), mI_id (x := n % 100 - n / 100 + 1) (by omega) (by omega), mF_t hw, hH.1, mA_t hW.2.1 (by omega) (by omega), RM_sz hR cy, mI_id (x := aSz s y - (n % 100 - n / 100 + 1)) (by omega) (by omega), E_M_in (by omega), mC_s, bI_t (by omega), mEq_f (by decide)]
  obtain ⟨ha, x', a1, a2, a3⟩ := L_M_move0 (d := d) hW (y := y) (n := n) (a := a) (f := n / 100) (m := n % 100 - n / 100 + 1) (z := aSz s y) cy (by omega) (by omega) (by omega) (by omega) (by omega) (aSz s y).toNat 0 0 h hH (RM_sz hR cy) (by decide) (by omega) (by unfold othr; (repeat' split) <;> omega)
  have Ma : MH ha := MH_fr hH (fun i _ => by rw [a2 483 (by decide)])
  obtain ⟨hc', e1, e2, e3⟩ := E_M_orders (d := d) (by omega) hW Ma hI (by rw [a2 484 (by decide)]; exact hR) (y := y) (o := oMove (n / 100) (n % 100 - n / 100 + 1) a) cy (fun l l0 l1 => ⟨oMove_in (by omega) (by omega) (by omega) (by omega) l0 l1, by rw [a3 l, if_pos ⟨l0, l1⟩]⟩)
  have Mc : MH hc' := MH_fr Ma (fun i _ => by rw [e3 483 (by decide) (by decide)])
  have Hc : mHis hc' A := mHis_fr hc (fun i _ => by rw [e3 483 (by decide) (by decide), a2 483 (by decide)]) (by rw [e3 485 (by decide) (by decide), a2 485 (by decide)])
  obtain ⟨h', g1, g2, g3, g4, g5⟩ := E_M_told (d := d) (by omega) hW Mc Hc e2 hI' (a := 1) (by decide)
  refine ⟨h', ?_, g2, by rw [g3 484 (by decide) (by decide)]; exact e2, fun b p3 p4 p5 p7 p8 => by rw [g3 b p3 p5, e3 b p4 p7, a2 b p8], fun i p q r => by rw [g4 i p q r, e3 483 (by decide) (by decide), a2 483 (by decide)], g5⟩
  rw [a1, mK_r, if_pos rfl]
  simp only [mP_0, mP_1]
  rw [mF_t hw, e1, mC_s]
  try dsimp only
  rw [mF_t hw, g1, mC_s]
end PU
