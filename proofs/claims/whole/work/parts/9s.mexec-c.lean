/-! PURE: the reference works a condition out, whole. -/
section PU
variable {d : Nat} {w : mm_W} {h : mm_H} {s : aS} {k r c : Int}
theorem mCmp_z {x : Int} : (mCmp x 0 = 0) ↔ x = 0 := by unfold mCmp; split <;> (try split) <;> omega
theorem mI_p1 {y : Nat} (hy : y ≤ 100000) : mI (((y + 1 : Nat) : Int) - 1) = (y : Int) := by rw [mI_id (by omega) (by omega)]; omega
theorem mI_p0 {y : Nat} (hy : y ≤ 100000) : mI ((y : Int) - 0) = (y : Int) := by rw [mI_id (by omega) (by omega)]; omega
theorem mI_s1 {y : Nat} (hy : y ≤ 100000) : mI ((y : Int) + 1) = ((y + 1 : Nat) : Int) := by rw [mI_id (by omega) (by omega)]; omega
theorem EM_op2 (hd : 10 ≤ d) (hW : MW w) (hk : 0 ≤ k ∧ k < 6) {N : Nat} (hN : N ≤ 400) {m : Int} (hm : m = 0 ∨ m = 1) {U V : Term} (hU : EM d w s k r c N U) (hV : EM d w s k r c N V) (bU : ∀ v, ev (wEnv s k r c) U = some v → i32 v) (lU : 1 ≤ lvs U) : EM d w s k r c N (mkJ m U V) := by
  intro q y h hX hc hs hq hy hst
  obtain ⟨z1, z2, z3, z4, z5, z6⟩ := mkJ_all hm U V
  have c2 := code_2 (z5 q) hc
  have c1 := code_1 (z5 q) (by omega) hc
  rw [z2] at hq ⊢
  rw [z3] at hy
  have hqN : q + lenM U < N := by omega
  rw [ev_J hm]
  obtain ⟨u1, u2⟩ := hU q y h hX c1 hs (by omega) (by omega) hst
  have hw : (w.1 483).1 = 13 := by rw [hW.1]
  cases hu : ev (wEnv s k r c) U with
  | none => exact ⟨fun v hv => (by cases hv), fun _ => u2 hu⟩
  | some x =>
    obtain ⟨h1, x1, x2, x3, x4⟩ := u1 x hu
    have hx := bU x hu
    have X1 := MX_fr hX x2
    have sop : h1 484 (1423 + 408 * k + ((q + lenM U : Nat) : Int)) = if m = 0 then 11 else 12 := by
      rw [x2 484 (by decide)]
      exact c2 0 (by omega)
    have stt : h1 484 (1423 + 408 * k + ((q + lenM U + 1 : Nat) : Int)) = ((q + lenM U + 2 + lenM V : Nat) : Int) := by
      rw [x2 484 (by decide)]
      exact c2 1 (by omega)
    have cV : ∀ i : Nat, i < lenM V → h1 484 (1423 + 408 * k + ((q + lenM U + 2 + i : Nat) : Int)) = (compM V (q + lenM U + 2)).getD i 0 := fun i hi => by
      rw [x2 484 (by decide), show q + lenM U + 2 + i = q + (lenM U + (i + 1 + 1)) by omega, c2 (i + 1 + 1) (by omega), getD_S, getD_S]
    have hs1 : h1 484 (1422 + 408 * k) = (N : Int) := by rw [x2 484 (by decide)]; exact hs
    have opf : h1 (h1 483 0) (mI (1423 + 408 * k + ((q + lenM U : Nat) : Int))) = if m = 0 then 11 else 12 := by rw [X1.1.1, mI_id (by omega) (by omega)]; exact sop
    have b1 : y ≤ 100000 := by omega
    have b0 : y + 1 ≤ 100000 := by omega
    have b2 : q + lenM U ≤ 100000 := by omega
    have b3 : q + lenM U + 1 ≤ 100000 := by omega
    have e8 : -2147483648 ≤ 1423 + 408 * k + ((q + lenM U + 1 : Nat) : Int) := by omega
    have e9 : 1423 + 408 * k + ((q + lenM U + 1 : Nat) : Int) < 2147483648 := by omega
    have e5 : (1423 + 408 * k + ((q + lenM U + 1 : Nat) : Int) < 3863) := by omega
    have e6 : (0 ≤ 1423 + 408 * k + ((q + lenM U + 1 : Nat) : Int)) := by omega
    have e7 : q + (lenM U + lenM V + 2) = q + lenM U + 2 + lenM V := by omega
    have h27 := MH_27 X1.1
    have ck1 : i32 (h1 495 (if 1 ≤ ((y + 1 : Nat) : Int) then ((y + 1 : Nat) : Int) - 1 else 0)) := by
      rw [if_pos (by omega), show ((y + 1 : Nat) : Int) - 1 = (y : Int) by omega, x3]; exact hx
    have ck2 : i32 (h1 495 (if 1 ≤ (y : Int) then (y : Int) - 1 else 0)) := by
      by_cases cy : 1 ≤ (y : Int)
      · rw [if_pos cy, x4 _ (by omega)]; exact hst _ (by omega) (by omega)
      · rw [if_neg cy, show (0 : Int) = (y : Int) by omega, x3]; exact hx
    show (∀ v, (if (x ≠ 0 ↔ m = 0) then some x else ev (wEnv s k r c) V) = some v → _) ∧ ((if (x ≠ 0 ↔ m = 0) then some x else ev (wEnv s k r c) V) = none → _)
    by_cases cj : (x ≠ 0 ↔ m = 0)
    · rw [if_pos cj]
      refine ⟨fun v hv => ?_, fun hv => (by cases hv)⟩
      have e := (Option.some.inj hv).symm
      subst e
      refine ⟨h1, ?_, x2, x3, x4⟩
      rw [x1]
      have chk := (M_chk (d := d) (w := w) (by omega) hW (y := ((y + 1 : Nat) : Int)) (by omega) (h1 := h1) h27 (K := fun w h => mL d w k r c ((y + 1 : Nat) : Int) ((q + lenM U + 2 + lenM V : Nat) : Int) h)).1 ck1
      rw [e7]
      show l_M_isSo_0 (mm_P d) 483 (1415 + 408 * k) r c (1423 + 408 * k) ((y + 1 : Nat) : Int) ((q + lenM U : Nat) : Int) w h1 = _
      rcases hm with rfl | rfl
      · rw [if_pos rfl] at opf
        have hx0 : mCmp v 0 ≠ 0 := fun e => cj.mpr rfl (mCmp_z.mp e)
        rw [I_11 _ _ _ _ _ _ _ _ _ _ opf, I_pre hW hk X1 hqN hN hs1]
        simp only [mF_t hw]
        rw [mI_p1 b1, mI_s1 b2, mI_p0 b0, mI_p1 b1, h27, mA_t (MW_495 hW) (by omega) (by omega), x3, mEq_f hx0, X1.1.1, mI_id e8 e9, mA_t hW.2.1 e6 e5, stt]
        rw [mI_p1 b1, h27, x3] at chk
        exact chk
      · rw [if_neg (by decide)] at opf
        have hx0 : mCmp v 0 = 0 := mCmp_z.mpr (by
          rcases Classical.em (v = 0) with h | h
          · exact h
          · exact absurd (cj.mp h) (by decide))
        rw [I_12 _ _ _ _ _ _ _ _ _ _ opf, I_pre hW hk X1 hqN hN hs1]
        simp only [mF_t hw]
        rw [mI_p1 b1, mI_s1 b2, mI_p0 b0, mI_p1 b1, h27, mA_t (MW_495 hW) (by omega) (by omega), x3, mEq_t hx0, X1.1.1, mI_id e8 e9, mA_t hW.2.1 e6 e5, stt]
        rw [mI_p1 b1, h27, x3] at chk
        exact chk
    · rw [if_neg cj]
      have stp : mL d w k r c ((y + 1 : Nat) : Int) ((q + lenM U : Nat) : Int) h1 = mL d w k r c (y : Int) ((q + lenM U + 2 : Nat) : Int) h1 := by
        have chk := (M_chk (d := d) (w := w) (by omega) hW (y := (y : Int)) (by omega) (h1 := h1) h27 (K := fun w h => mL d w k r c (y : Int) ((q + lenM U + 2 : Nat) : Int) h)).1 ck2
        show l_M_isSo_0 (mm_P d) 483 (1415 + 408 * k) r c (1423 + 408 * k) ((y + 1 : Nat) : Int) ((q + lenM U : Nat) : Int) w h1 = _
        rcases hm with rfl | rfl
        · rw [if_pos rfl] at opf
          have hx0 : mCmp x 0 = 0 := mCmp_z.mpr (by
            rcases Classical.em (x = 0) with h | h
            · exact h
            · exact absurd ⟨fun _ => rfl, fun _ => h⟩ cj)
          rw [I_11 _ _ _ _ _ _ _ _ _ _ opf, I_pre hW hk X1 hqN hN hs1]
          simp only [mF_t hw]
          rw [mI_p1 b1, mI_s1 b2, mI_s1 b3, h27, mA_t (MW_495 hW) (by omega) (by omega), x3, mEq_t hx0]
          rw [h27] at chk
          exact chk
        · rw [if_neg (by decide)] at opf
          have hx0 : mCmp x 0 ≠ 0 := fun e => cj ⟨fun q => absurd (mCmp_z.mp e) q, fun q => absurd q (by decide)⟩
          rw [I_12 _ _ _ _ _ _ _ _ _ _ opf, I_pre hW hk X1 hqN hN hs1]
          simp only [mF_t hw]
          rw [mI_p1 b1, mI_s1 b2, mI_s1 b3, h27, mA_t (MW_495 hW) (by omega) (by omega), x3, mEq_f hx0]
          rw [h27] at chk
          exact chk
      obtain ⟨v1, v2⟩ := hV (q + lenM U + 2) y h1 X1 cV hs1 (by omega) (by omega) (fun j j0 j1 => by rw [x4 j j1]; exact hst j j0 j1)
      refine ⟨fun v hv => ?_, fun hv => ?_⟩
      · obtain ⟨h2, y1, y2, y3, y4⟩ := v1 v hv
        exact ⟨h2, by rw [x1, stp, y1, e7], fun b hb => by rw [y2 b hb, x2 b hb], y3, fun j hj => by rw [y4 j hj, x4 j hj]⟩
      · obtain ⟨h2, y1, y2⟩ := v2 hv
        exact ⟨h2, by rw [x1, stp, y1], fun b hb => by rw [y2 b hb, x2 b hb]⟩
theorem E_M_both (hd : 1 ≤ d) {x y : Int} (hx : i32 x) (hy : i32 y) : mm_P d 282 [(0, 3), (1, x), (1, y)] w h = some ((1, x + y), w, h) ∧ mm_P d 282 [(0, 4), (1, x), (1, y)] w h = some ((1, x - y), w, h) ∧ mm_P d 282 [(0, 5), (1, x), (1, y)] w h = some ((1, x * y), w, h) ∧ mm_P d 282 [(0, 7), (1, x), (1, y)] w h = some ((1, bI (x < y)), w, h) ∧ mm_P d 282 [(0, 8), (1, x), (1, y)] w h = some ((1, bI (x = y)), w, h) ∧ mm_P d 282 [(0, 9), (1, x), (1, y)] w h = some ((1, bI (y < x)), w, h) := by
  obtain ⟨d, rfl, hd2⟩ := mm_dS hd; clear hd; have hd := hd2; clear hd2
  unfold i32 at hx hy
  have hm := mul_in hx hy
  refine ⟨?_, ?_, ?_, ?_, ?_, ?_⟩
  · rw [P_M_both, mEq_t rfl, mJ_id (by omega) (by omega)]
  · rw [P_M_both, mEq_f (by decide), mEq_t rfl, mJ_id (by omega) (by omega)]
  · rw [P_M_both, mEq_f (by decide), mEq_f (by decide), mEq_t rfl, mJ_id hm.1 hm.2]
  · rw [P_M_both, mEq_f (by decide), mEq_f (by decide), mEq_f (by decide), mEq_f (by decide), mEq_t rfl, mCmp_ge]
    by_cases c : x < y
    · rw [mLe_f c, bI_t c]
    · rw [mLe_t (by omega), bI_f c]
  · rw [P_M_both, mEq_f (by decide), mEq_f (by decide), mEq_f (by decide), mEq_f (by decide), mEq_f (by decide), mEq_t rfl, mCmp_eq]
    by_cases c : x = y
    · rw [mEq_t c, bI_t c]
    · rw [mEq_f c, bI_f c]
  · rw [P_M_both, mEq_f (by decide), mEq_f (by decide), mEq_f (by decide), mEq_f (by decide), mEq_f (by decide), mEq_f (by decide), mCmp_le]
    by_cases c : y < x
    · rw [mLe_f c, bI_t c]
    · rw [mLe_t (by omega), bI_f c]
theorem EM_all (hd : 10 ≤ d) (hW : MW w) (hI : aI s) (hk : 0 ≤ k ∧ k < aN s) (hr : 0 ≤ r ∧ r < aHi s) (hcc : 0 ≤ c ∧ c < aWi s) {N : Nat} (hN : N ≤ 400) : ∀ (T : Term) (b : Bool), wfT b T → EM d w s k r c N T := by
  have he : ∀ i, -2147483648 ≤ wEnv s k r c i ∧ wEnv s k r c i < 2147483648 := wEnv_le hI hk hr hcc
  have bd : ∀ (T : Term) (b : Bool), wfT b T → ∀ v, ev (wEnv s k r c) T = some v → i32 v := fun T b hT v hv => (ev_in he T b v hT hv).1
  have hn := hI.2.2.1
  have k6 : 0 ≤ k ∧ k < 6 := ⟨hk.1, by omega⟩
  intro T
  induction T with
  | arg n => intro b h; cases b with
    | true => exact EM_arg hd hW k6 hN h
    | false => exact absurd h (by simp [wfT])
  | index i => intro b h; cases b with
    | true => exact EM_index hd hW hI hk hr hcc hN h
    | false => exact absurd h (by simp [wfT])
  | length U ih => intro b h; cases b with
    | true => exact EM_un hd hW k6 hN (f := fun x => -x) (Or.inl ⟨rfl, fun _ => rfl⟩) rfl (fun _ => rfl) rfl rfl (ih true h) (bd U true h) (lvs_1 U true h)
    | false => exact absurd h (by simp [wfT])
  | old U ih => intro b h; cases b with
    | true => exact absurd h (by simp [wfT])
    | false => exact EM_un hd hW k6 hN (f := fun x => 1 - x) (Or.inr ⟨rfl, fun _ => rfl⟩) rfl (fun _ => rfl) rfl rfl (ih false h) (bd U false h) (lvs_1 U false h)
  | add U V iu iv => intro b h; cases b with
    | true => exact EM_bin hd hW k6 hN (f := fun x y => x + y) (op := 3) (by decide) (fun x y h hx hy => (E_M_both (by omega) hx hy).1) rfl (fun _ => rfl) rfl rfl (iu true h.1) (iv true h.2) (bd U true h.1) (bd V true h.2) (lvs_1 U true h.1) (lvs_1 V true h.2)
    | false => exact absurd h (by simp [wfT])
  | sub U V iu iv => intro b h; cases b with
    | true => exact EM_bin hd hW k6 hN (f := fun x y => x - y) (op := 4) (by decide) (fun x y h hx hy => (E_M_both (by omega) hx hy).2.1) rfl (fun _ => rfl) rfl rfl (iu true h.1) (iv true h.2) (bd U true h.1) (bd V true h.2) (lvs_1 U true h.1) (lvs_1 V true h.2)
    | false => exact absurd h (by simp [wfT])
  | mul U V iu iv => intro b h; cases b with
    | true => exact EM_bin hd hW k6 hN (f := fun x y => x * y) (op := 5) (by decide) (fun x y h hx hy => (E_M_both (by omega) hx hy).2.2.1) rfl (fun _ => rfl) rfl rfl (iu true h.1) (iv true h.2) (bd U true h.1) (bd V true h.2) (lvs_1 U true h.1) (lvs_1 V true h.2)
    | false => exact absurd h (by simp [wfT])
  | div U V iu iv => intro b h; cases b with
    | true => exact absurd h (by simp [wfT])
    | false => exact EM_bin hd hW k6 hN (f := fun x y => bI (x < y)) (op := 7) (by decide) (fun x y h hx hy => (E_M_both (by omega) hx hy).2.2.2.1) rfl (fun _ => rfl) rfl rfl (iu true h.1) (iv true h.2) (bd U true h.1) (bd V true h.2) (lvs_1 U true h.1) (lvs_1 V true h.2)
  | rem U V iu iv => intro b h; cases b with
    | true => exact absurd h (by simp [wfT])
    | false => exact EM_bin hd hW k6 hN (f := fun x y => bI (x = y)) (op := 8) (by decide) (fun x y h hx hy => (E_M_both (by omega) hx hy).2.2.2.2.1) rfl (fun _ => rfl) rfl rfl (iu true h.1) (iv true h.2) (bd U true h.1) (bd V true h.2) (lvs_1 U true h.1) (lvs_1 V true h.2)
  | elem U V iu iv => intro b h; cases b with
    | true => exact absurd h (by simp [wfT])
    | false => exact EM_bin hd hW k6 hN (f := fun x y => bI (y < x)) (op := 9) (by decide) (fun x y h hx hy => (E_M_both (by omega) hx hy).2.2.2.2.2) rfl (fun _ => rfl) rfl rfl (iu true h.1) (iv true h.2) (bd U true h.1) (bd V true h.2) (lvs_1 U true h.1) (lvs_1 V true h.2)
  | op2 q U V iu iv => intro b h; cases b with
    | true => exact absurd h (by simp [wfT])
    | false =>
      obtain ⟨h1, h2, h3⟩ := h
      rcases h1 with rfl | rfl
      · exact EM_op2 (m := 0) hd hW k6 hN (Or.inl rfl) (iu false h2) (iv false h3) (bd U false h2) (lvs_1 U false h2)
      · exact EM_op2 (m := 1) hd hW k6 hN (Or.inr rfl) (iu false h2) (iv false h3) (bd U false h2) (lvs_1 U false h2)
  | _ => intro b h; cases b <;> exact absurd h (by simp [wfT])
theorem mL_out (hW : MW w) (hk : 0 ≤ k ∧ k < 6) (hX : MX h s k) {N : Nat} (hN : N ≤ 400) (hs : h 484 (1422 + 408 * k) = (N : Int)) (y : Int) : mL d w k r c y (N : Int) h = some (.inr (331, [(2, 483), (0, 1415 + 408 * k), (0, r), (0, c), (0, 1423 + 408 * k), (0, y), (0, (N : Int)), (9, 0), (9, 0)], w, h)) := by
  have hw : (w.1 483).1 = 13 := by rw [hW.1]
  have e1 : 0 ≤ 1422 + 408 * k ∧ 1422 + 408 * k < 3863 := by omega
  show l_M_isSo_0 (mm_P d) 483 (1415 + 408 * k) r c (1423 + 408 * k) y (N : Int) w h = _
  rw [l_M_isSo_0_eq, mF_t hw, hX.1.1, mI_id (x := 1415 + 408 * k + 7) (by omega) (by omega), mA_t hW.2.1 (by omega) (by omega), show 1415 + 408 * k + 7 = 1422 + 408 * k by omega, hs, mLe_t (Int.le_refl _)]
theorem E_M_isSo (hd : 11 ≤ d) (hW : MW w) (hI : aI s) (hX : MX h s k) (hk : 0 ≤ k ∧ k < aN s) (hr : 0 ≤ r ∧ r < aHi s) (hcc : 0 ≤ c ∧ c < aWi s) : ∃ h' : mm_H, mm_P d 283 [(2, 483), (0, 1415 + 408 * k), (0, r), (0, c)] w h = some ((0, bI (isSoA s k r c)), w, h') ∧ ∀ b : Int, b ≠ 495 → h' b = h b := by
  obtain ⟨d, rfl, hd2⟩ := mm_dS (show 10 + 1 ≤ d by omega)
  have hw : (w.1 483).1 = 13 := by rw [hW.1]
  have hn := hI.2.2.1
  obtain ⟨hok, hl4, hlv⟩ := (hI.2.2.2.2.2.2.2.2 k hk.1 hk.2).2.2.2.2.2
  obtain ⟨-, r7, r8⟩ := hX.2.1.2.2.2.2.2.2 k hk.1 hk.2
  have hs : h 484 (1422 + 408 * k) = ((lenM (aCod s k) : Nat) : Int) := by rw [← r7, show 1415 + 408 * k + 7 = 1422 + 408 * k by omega]
  have hc : ∀ i : Nat, i < lenM (aCod s k) → h 484 (1423 + 408 * k + ((0 + i : Nat) : Int)) = (compM (aCod s k) 0).getD i 0 := fun i hi => by
    rw [← r8 i hi, show 1423 + 408 * k + ((0 + i : Nat) : Int) = 1415 + 408 * k + 8 + (i : Int) by omega]
  obtain ⟨u1, u2⟩ := EM_all (d := d) (by omega) hW hI hk hr hcc (N := lenM (aCod s k)) (by omega) (aCod s k) false hok 0 0 h hX hc hs (by omega) (by omega) (fun j j0 j1 => by omega)
  rw [P_M_isSo, mI_id (x := 1415 + 408 * k + 8) (by omega) (by omega), show 1415 + 408 * k + 8 = 1423 + 408 * k by omega]
  try dsimp only
  cases hv : ev (wEnv s k r c) (aCod s k) with
  | none =>
    obtain ⟨h2, y1, y2⟩ := u2 hv
    have y1 : l_M_isSo_0 (mm_P d) 483 (1415 + 408 * k) r c (1423 + 408 * k) 0 0 w h = some (.inl ((0, 0), w, h2)) := y1
    refine ⟨h2, ?_, y2⟩
    rw [y1, bI_f]
    · rfl
    · rintro ⟨v', e1, e2⟩
      rw [hv] at e1
      cases e1
  | some v =>
    obtain ⟨h2, y1, y2, y3, y4⟩ := u1 v hv
    have y1 : l_M_isSo_0 (mm_P d) 483 (1415 + 408 * k) r c (1423 + 408 * k) 0 0 w h = mL d w k r c 1 ((0 + lenM (aCod s k) : Nat) : Int) h2 := y1
    have X2 := MX_fr hX y2
    have hs2 : h2 484 (1422 + 408 * k) = ((lenM (aCod s k) : Nat) : Int) := by rw [y2 484 (by decide)]; exact hs
    rw [Nat.zero_add, mL_out hW ⟨hk.1, by omega⟩ X2 (by omega) hs2] at y1
    have y3 : h2 495 0 = v := y3
    refine ⟨h2, ?_, y2⟩
    rw [y1, mK_r, if_pos rfl]
    simp only [mP_0]
    rw [mF_t hw, MH_27 X2.1, mA_t (MW_495 hW) (by decide) (by decide), y3, mZ_0, mZ_1, mCmp_eq]
    by_cases q : v = 0
    · rw [mEq_t q, bI_f]
      rintro ⟨v', e1, e2⟩
      rw [hv] at e1
      exact e2 ((Option.some.inj e1).symm.trans q)
    · rw [mEq_f q, bI_t ⟨v, hv, q⟩]
end PU
