/-! PURE: lines are ordered, in the reference's row. -/
section PU
variable {d : Nat} {w : mm_W} {h : mm_H} {s : aS}
theorem E_M_aside (hd : 1 ≤ d) (hW : MW w) (hH : MH h) : ∃ h', mm_P d 223 [(2, 483)] w h = some ((9, 0), w, h') ∧ (∀ b : Int, b ≠ 487 → h' b = h b) ∧ ∀ j : Int, 0 ≤ j → j < 3863 → h' 487 j = h 484 j := by
  obtain ⟨d, rfl, hd2⟩ := mm_dS hd; clear hd; have hd := hd2; clear hd2
  have hw : (w.1 483).1 = 13 := by rw [hW.1]
  rw [P_M_aside]
  simp only [mF_t hw, hH.1, hH.2.2.2.1]
  rw [mCy_t hW.2.1 hW.2.2.2.2.1 (by decide) (by decide) (by decide) (by decide) (by decide) (by decide) (by decide)]
  exact ⟨_, rfl, fun b hb => mCpy_row hb, fun j j0 j1 => by rw [mCpy_in (by omega) (by omega)]; congr 1; omega⟩
theorem L_M_orders0 (hd : 2 ≤ d) (hW : MW w) {y z ac : Int} {R o : Int → Int} (hy : y = 0 ∨ y = 1) (hz : z ≤ 16) (hac : 0 ≤ ac ∧ ac ≤ 16) (ho : ∀ l : Int, 0 ≤ l → l < z → 0 ≤ o l ∧ o l < 16) : ∀ (m : Nat) (t : Int) (h : mm_H), MH h → (∀ j : Int, 0 ≤ j → j < 3863 → h 487 j = R j) → (∀ l : Int, 0 ≤ l → l < z → h 488 l = o l) → h 484 (1 - y) = ac → h 484 y = z → 0 ≤ t → t + m = z → lnm y ac R (h 484) (fun l => if l < t then o l else l) → ∃ h', l_M_orders_0 (mm_P d) 483 y t w h = some (.inr (183, [(2, 483), (0, y), (0, z), (9, 0), (9, 0), (9, 0)], w, h')) ∧ (∀ b : Int, b ≠ 484 → h' b = h b) ∧ lnm y ac R (h' 484) (fun l => if l < z then o l else l) := by
  have hw : (w.1 483).1 = 13 := by rw [hW.1]
  intro m
  induction m with
  | zero =>
    intro t h a1 a2 a3 a4 a5 a6 a7 a8
    have e : t = z := by omega
    rw [l_M_orders_0_eq, mF_t hw, a1.1, mA_t hW.2.1 (by omega) (by omega), a5, mLe_t (by omega)]
    rw [e] at a8
    exact ⟨h, by rw [e], fun _ _ => rfl, a8⟩
  | succ m ih =>
    intro t h a1 a2 a3 a4 a5 a6 a7 a8
    have hot := ho t a6 (by omega)
    rw [l_M_orders_0_eq, mF_t hw, a1.1, mA_t hW.2.1 (by omega) (by omega), a5, mLe_f (by omega), mF_t hw, a1.2.2.2.2.1, mA_t hW.2.2.2.2.2.1 (by omega) (by omega), a3 t a6 (by omega)]
    try dsimp only
    obtain ⟨h1, b1, b2, b3, b4⟩ := L_M_orders_l (d := d) hd hW (S := R) (f := o t) (t := t) hy (by omega) (by omega) trivial 4 0 h a1 (fun q q0 q1 => a2 _ (by omega) (by omega)) (by decide) (by decide)
    have M1 : MH h1 := MH_fr a1 (fun i _ => by rw [b2 483 (by decide)])
    obtain ⟨h2, c1, c2, c3, c4, c5⟩ := L_M_orders_x (d := d) hd hW (S := R) (f := o t) (t := t) (ac := ac) hy (by omega) (by omega) hac.2 trivial ac.toNat 0 h1 M1 (by rw [b3 _ (by omega)]; exact a4) (fun x x0 x1 => by
      have := ix_b (y := y) (l := o t) (x := x) hot.1 hot.2 x0 x1
      rw [b2 487 (by decide)]; exact a2 _ (by omega) (by omega)) (fun q x q0 q1 x0 x1 => by
      have := ix_b (y := y) (l := o t) (x := x) hot.1 hot.2 x0 x1
      rw [b2 487 (by decide)]; exact a2 _ (by omega) (by omega)) (by decide) (by omega)
    have M2 : MH h2 := MH_fr M1 (fun i _ => by rw [c2 483 (by decide)])
    rw [b1, mK_r, if_pos rfl]
    simp only [mP_0, mP_1, mP_2, mP_3]
    rw [c1, mK_r, if_pos rfl]
    simp only [mP_0, mP_1, mP_2, mP_3]
    rw [mI_id (x := t + 1) (by omega) (by omega)]
    obtain ⟨h', g1, g2, g3⟩ := ih (t + 1) h2 M2 (fun j j0 j1 => by rw [c2 487 (by decide), b2 487 (by decide)]; exact a2 j j0 j1) (fun l l0 l1 => by rw [c2 488 (by decide), b2 488 (by decide)]; exact a3 l l0 l1) (by rw [c3 _ (by omega), b3 _ (by omega)]; exact a4) (by rw [c3 _ (by omega), b3 _ (by omega)]; exact a5) (by omega) (by omega) (by
      refine ⟨fun j hj => by rw [c3 j (by omega), b3 j (by omega)]; exact a8.1 j hj, fun q i q0 q1 i0 i1 => ?_, fun q i q0 q1 i0 i1 => ?_, fun l x l0 l1 x0 x1 => ?_, fun q l x q0 q1 l0 l1 x0 x1 => ?_⟩
      · rw [c3 _ (by omega), b4 y q i hy q0 q1 i0 i1]
        by_cases c : i = t
        · rw [if_pos ⟨rfl, q0, c⟩]
          show _ = R (7 + 64 * y + 16 * q + if i < t + 1 then o i else i)
          rw [if_pos (by omega), c]
        · rw [if_neg (fun z => c z.2.2), a8.2.1 q i q0 q1 i0 i1]
          have : (if i < t then o i else i) = if i < t + 1 then o i else i := by
            by_cases c' : i < t
            · rw [if_pos c', if_pos (by omega)]
            · rw [if_neg c', if_neg (by omega)]
          exact congrArg (fun z => R (7 + 64 * y + 16 * q + z)) this
      · rw [c3 _ (by omega), b4 (1 - y) q i (by omega) q0 q1 i0 i1, if_neg (by omega)]
        exact a8.2.2.1 q i q0 q1 i0 i1
      · have bl := ix_b (y := y) l0 l1 x0 (show x < 16 by omega)
        rw [c4 l x l0 l1 x0 (by omega)]
        by_cases c : l = t
        · rw [if_pos ⟨c, x0, x1⟩]
          show _ = R (135 + ix y (if l < t + 1 then o l else l) x)
          rw [if_pos (by omega), c]
        · rw [if_neg (fun z => c z.1), b3 _ (by omega), a8.2.2.2.1 l x l0 l1 x0 x1]
          have : (if l < t then o l else l) = if l < t + 1 then o l else l := by
            by_cases c' : l < t
            · rw [if_pos c', if_pos (by omega)]
            · rw [if_neg c', if_neg (by omega)]
          exact congrArg (fun z => R (135 + ix y z x)) this
      · have bl := ix_b (y := y) l0 l1 x0 (show x < 16 by omega)
        rw [c5 q l x q0 q1 l0 l1 x0 (by omega)]
        by_cases c : l = t
        · rw [if_pos ⟨c, x0, x1⟩]
          show _ = R (391 + 256 * q + ix y (if l < t + 1 then o l else l) x)
          rw [if_pos (by omega), c]
        · rw [if_neg (fun z => c z.1), b3 _ (by omega), a8.2.2.2.2 q l x q0 q1 l0 l1 x0 x1]
          have : (if l < t then o l else l) = if l < t + 1 then o l else l := by
            by_cases c' : l < t
            · rw [if_pos c', if_pos (by omega)]
            · rw [if_neg c', if_neg (by omega)]
          exact congrArg (fun z => R (391 + 256 * q + ix y z x)) this)
    exact ⟨h', g1, fun b hb => by rw [g2 b hb, c2 b hb, b2 b hb], g3⟩
theorem E_M_orders (hd : 3 ≤ d) (hW : MW w) (hH : MH h) (hI : aI s) (hR : RM (h 484) s) {y : Int} {o : Int → Int} (hy : y = 0 ∨ y = 1) (ho : ∀ l : Int, 0 ≤ l → l < aSz s y → (0 ≤ o l ∧ o l < aSz s y) ∧ h 488 l = o l) : ∃ h', mm_P d 246 [(2, 483), (0, y)] w h = some ((9, 0), w, h') ∧ RM (h' 484) (F_bring s y o (aSz s y)) ∧ ∀ b : Int, b ≠ 484 → b ≠ 487 → h' b = h b := by
  obtain ⟨d, rfl, hd2⟩ := mm_dS hd; clear hd; have hd := hd2; clear hd2
  have hw : (w.1 483).1 = 13 := by rw [hW.1]
  have hs := aSz_le hI y
  have hs' := aSz_le hI (1 - y)
  obtain ⟨h1, a1, a2, a3⟩ := E_M_aside (d := d) (by omega) hW hH
  have M1 : MH h1 := MH_fr hH (fun i _ => by rw [a2 483 (by decide)])
  have e4 : h1 484 = h 484 := a2 484 (by decide)
  obtain ⟨h2, b1, b2, b3⟩ := L_M_orders0 (d := d) (by omega) hW (y := y) (z := aSz s y) (ac := aSz s (1 - y)) (R := h 484) (o := o) hy hs.2 (by omega) (fun l l0 l1 => by have := (ho l l0 l1).1; omega) (aSz s y).toNat 0 h1 M1 a3 (fun l l0 l1 => by rw [a2 488 (by decide)]; exact (ho l l0 l1).2) (by rw [e4]; exact RM_sz hR (by omega)) (by rw [e4]; exact RM_sz hR hy) (by decide) (by omega) (by
    rw [e4]
    exact lnm_ext lnm_rf (fun l l0 l1 => by rw [if_neg (by omega)]))
  refine ⟨h2, ?_, ?_, fun b hb hb' => by rw [b2 b hb, a2 b hb']⟩
  · rw [P_M_orders, mF_t hw, a1, mC_s]
    try dsimp only
    rw [b1, mK_r, if_pos rfl]
  · refine RM_bns hy hR (z := aSz s y) (o := o) ⟨b3.1 _ (by omega), by rw [b3.1 y (by omega)]; exact RM_sz hR hy, fun j j0 j1 => b3.1 j (by omega), fun q i q0 q1 i0 i1 => ?_, fun q i q0 q1 i0 i1 => b3.2.2.1 q i q0 q1 i0 (by omega), fun l x l0 l1 x0 x1 => ?_, fun q l x q0 q1 l0 l1 x0 x1 => ?_⟩ (fun l l0 l1 => (ho l l0 l1).1) ?_ ⟨rfl, rfl, rfl, rfl, rfl, rfl⟩
    · rw [b3.2.1 q i q0 q1 i0 (by omega)]
      try dsimp only
      rw [if_pos i1]
    · rw [b3.2.2.2.1 l x l0 (by omega) x0 x1]
      try dsimp only
      rw [if_pos l1]
    · rw [b3.2.2.2.2 q l x q0 q1 l0 (by omega) x0 x1]
      try dsimp only
      rw [if_pos l1]
    · obtain ⟨q1, q2⟩ := RR_of hR
      refine ⟨by rw [b3.1 2 (by decide)]; exact q1, fun k k0 k1 => ?_⟩
      have k1 : k < aN s := k1
      have hq := q2 k k0 k1
      exact ⟨fun f f0 f1 => by rw [b3.1 _ (by omega)]; exact hq.1 f f0 f1, by rw [b3.1 _ (by omega)]; exact hq.2.1, fun i hi => by rw [b3.1 _ (by omega)]; exact hq.2.2 i hi⟩
end PU
