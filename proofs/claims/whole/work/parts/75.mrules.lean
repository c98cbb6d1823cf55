/-! PURE: rules dropped and brought, in the reference. -/
theorem RM_rul {row row' : Int → Int} {s : aS} {n : Int} {g : Int → Int} (hI : aI s) (hR : RM row s) (hb : ∀ j : Int, j ≠ 2 → j < 1415 → row' j = row j) (hr : RR row' (F_rul s n g)) : RM row' (F_rul s n g) := by
  have h1 := hI.1; have h2 := hI.2.1
  obtain ⟨R1, R2, R3, R4, R5, R6, R7⟩ := hR
  refine ⟨⟨by rw [hb 0 (by decide) (by decide)]; exact R1.1, by rw [hb 1 (by decide) (by decide)]; exact R1.2.1, hr.1⟩, fun r c r0 r1 c0 c1 => ?_, fun p r c p0 p1 r0 r1 c0 c1 => ?_, fun p i p0 p1 i0 i1 => ?_, fun p i p0 p1 i0 i1 => ?_, fun p p0 p1 => ?_, hr.2⟩
  · have r1 : r < aHi s := r1
    have c1 : c < aWi s := c1
    rw [hb _ (by omega) (by omega)]; exact R2 r c r0 r1 c0 c1
  · have r1 : r < aHi s := r1
    have c1 : c < aWi s := c1
    rw [hb _ (by omega) (by omega)]; exact R3 p r c p0 p1 r0 r1 c0 c1
  · have i1 : i < aHi s := i1
    rw [hb _ (by omega) (by omega)]; exact R4 p i p0 p1 i0 i1
  · have i1 : i < aWi s := i1
    rw [hb _ (by omega) (by omega)]; exact R5 p i p0 p1 i0 i1
  · rw [hb _ (by omega) (by omega)]; exact R6 p p0 p1
theorem aI_rul {s : aS} {n : Int} {g : Int → Int} (hI : aI s) (hn : 0 ≤ n ∧ n ≤ 6) (hg : ∀ k : Int, 0 ≤ k → k < n → 0 ≤ g k ∧ g k < aN s) : aI (F_rul s n g) :=
  ⟨hI.1, hI.2.1, hn, hI.2.2.2.1, hI.2.2.2.2.1, hI.2.2.2.2.2.1, hI.2.2.2.2.2.2.1, hI.2.2.2.2.2.2.2.1, fun k k0 k1 => hI.2.2.2.2.2.2.2.2 (g k) (hg k k0 k1).1 (hg k k0 k1).2⟩
theorem aI_drop {s : aS} {r : Int} (hI : aI s) (hr : 0 ≤ r ∧ r < aN s) : aI (F_drop s r) := by
  have := hI.2.2.1
  refine aI_rul hI (by omega) (fun k k0 k1 => ?_)
  try dsimp only
  split <;> omega
theorem crr_n {n f t k : Int} (hf : 0 ≤ f ∧ f < n) (ht : 0 ≤ t ∧ t < n) (hk : 0 ≤ k ∧ k < n) : 0 ≤ crr f t k ∧ crr f t k < n := by
  unfold crr; repeat' split
  all_goals omega
theorem aI_carry {s : aS} {f t : Int} (hI : aI s) (hf : 0 ≤ f ∧ f < aN s) (ht : 0 ≤ t ∧ t < aN s) : aI (F_carry s f t) := by
  have := hI.2.2.1
  exact aI_rul hI this (fun k k0 k1 => crr_n hf ht ⟨k0, k1⟩)
/-- the rules' slots come in an order -/
theorem RR_rul {row row' : Int → Int} {s : aS} {n : Int} {g : Int → Int} (hI : aI s) (hR : RR row s) (h2 : row' 2 = n) (hg : ∀ k : Int, 0 ≤ k → k < n → 0 ≤ g k ∧ g k < aN s) (hs : ∀ k f : Int, 0 ≤ k → k < n → 0 ≤ f → f < 408 → row' (1415 + 408 * k + f) = row (1415 + 408 * g k + f)) : RR row' (F_rul s n g) := by
  refine ⟨h2, fun k k0 k1 => ?_⟩
  have k1 : k < n := k1
  have hk := hg k k0 k1
  have hl := cOk_of hI (g k) hk.1 hk.2
  obtain ⟨q1, q2, q3⟩ := hR.2 (g k) hk.1 hk.2
  refine ⟨fun f f0 f1 => by rw [hs k f k0 k1 f0 (by omega)]; exact q1 f f0 f1, by rw [hs k 7 k0 k1 (by decide) (by decide)]; exact q2, fun i hi => ?_⟩
  have hi : i < lenM (aCod s (g k)) := hi
  rw [show 1415 + 408 * k + 8 + (i : Int) = 1415 + 408 * k + (8 + i) by omega, hs k (8 + i) k0 k1 (by omega) (by omega), show 1415 + 408 * g k + (8 + (i : Int)) = 1415 + 408 * g k + 8 + i by omega]
  exact q3 i hi
section PU
variable {d : Nat} {w : mm_W} {h : mm_H} {s : aS} {A : aG}
theorem E_M_drop (hd : 4 ≤ d) (hW : MW w) (hH : MH h) (hc : mHis h A) (hI : aI s) (hR : RM (h 484) s) (r : Int) : (¬ (0 ≤ r ∧ r < aN s) ∧ mm_P d 277 [(2, 483), (0, r)] w h = some ((0, -2), w, h)) ∨ ((0 ≤ r ∧ r < aN s) ∧ ∃ h', mm_P d 277 [(2, 483), (0, r)] w h = some ((0, aN s - 1), w, h') ∧ mHis h' (gAcc A (F_drop s r)) ∧ RM (h' 484) (F_drop s r) ∧ (∀ b : Int, b ≠ 483 → b ≠ 484 → b ≠ 485 → h' b = h b) ∧ (∀ i : Int, i ≠ 2 → i ≠ 3 → i ≠ 4 → h' 483 i = h 483 i) ∧ h' 483 4 = 0) := by
  obtain ⟨d, rfl, hd2⟩ := mm_dS hd; clear hd; have hd := hd2; clear hd2
  have hw : (w.1 483).1 = 13 := by rw [hW.1]
  have hn := hI.2.2.1
  rw [P_M_drop, mF_t hw, E_M_isRule (by omega) hW hH r (by rw [hR.1.2.2]; exact hn), mC_s, hR.1.2.2]
  by_cases c : 0 ≤ r ∧ r < aN s
  rotate_left
  · rw [bI_f c, mEq_t rfl]
    exact Or.inl ⟨c, rfl⟩
  refine Or.inr ⟨c, ?_⟩
  obtain ⟨h1, b1, b2, b3, b4, b5⟩ := E_M_dropRule (d := d) (by omega) hW hH (by rw [hR.1.2.2]; exact hn) (r := r) (by omega)
  have M1 : MH h1 := MH_fr hH (fun i _ => by rw [b2 483 (by decide)])
  have R1 : RM (h1 484) (F_drop s r) := RM_rul hI hR (fun j j2 jl => b4 j j2 (by omega)) (RR_drop (RR_of hR) (cOk_of hI) hn.2 c (by rw [b3, hR.1.2.2]) (fun j j0 j1 => b4 j (by omega) j1) b5)
  obtain ⟨h', g1, g2, g3, g4, g5⟩ := E_M_told (d := d) (by omega) hW M1 (mHis_fr hc (fun i _ => by rw [b2 483 (by decide)]) (b2 485 (by decide))) R1 (aI_drop hI c) (a := aN s - 1) (by omega)
  rw [bI_t c, mEq_f (by decide), mF_t hw, b1, mC_s, mF_t hw, M1.1, mA_t hW.2.1 (by decide) (by decide), b3, hR.1.2.2, mF_t hw, g1, mC_s]
  exact ⟨h', rfl, g2, by rw [g3 484 (by decide) (by decide)]; exact R1, fun b p3 p4 p5 => by rw [g3 b p3 p5, b2 b p4], fun i p q r => by rw [g4 i p q r, b2 483 (by decide)], g5⟩
theorem L_M_bringU (hW : MW w) {f t : Int} (hf : 0 ≤ f) (ht : t < 6) : ∀ (m : Nat) (k : Int) (h : mm_H), MH h → 0 ≤ k → k + m = t → ∃ h', l_M_bring_0 (mm_P d) 483 f t 1 k w h = some (.inr (108, [(2, 483), (0, f), (0, t), (0, 1), (0, t)], w, h')) ∧ (∀ b : Int, b ≠ 484 → h' b = h b) ∧ (∀ j : Int, j < 1415 → h' 484 j = h 484 j) ∧ ∀ i x : Int, 0 ≤ i → i < 6 → 0 ≤ x → x < 408 → h' 484 (1415 + 408 * i + x) = h 484 (1415 + 408 * (if k ≤ i ∧ i < t then i + 1 else i) + x) := by
  have hw : (w.1 483).1 = 13 := by rw [hW.1]
  intro m
  induction m with
  | zero =>
    intro k h a1 a2 a3
    rw [l_M_bring_0_eq, mEq_t (by omega)]
    exact ⟨h, by rw [show k = t by omega], fun _ _ => rfl, fun _ _ => rfl, fun i x _ _ _ _ => by rw [if_neg (by omega)]⟩
  | succ m ih =>
    intro k h a1 a2 a3
    rw [l_M_bring_0_eq, mEq_f (by omega), mF_t hw, mF_t hw, a1.1, mI_id (x := k + 1) (by omega) (by omega), mI_id (x := 408 * (k + 1)) (by omega) (by omega), mI_id (x := 1415 + 408 * (k + 1)) (by omega) (by omega), mI_id (x := 408 * k) (by omega) (by omega), mI_id (x := 1415 + 408 * k) (by omega) (by omega), mCy_t hW.2.1 hW.2.1 (by decide) (by decide) (by omega) (by omega) (by decide) (by omega) (by omega)]
    try dsimp only
    generalize hg : mCpy h 484 (1415 + 408 * (k + 1)) 484 (1415 + 408 * k) 408 = h1
    have b1 : ∀ b : Int, b ≠ 484 → h1 b = h b := fun b hb => by rw [← hg]; exact mCpy_row hb
    have b2 : ∀ j : Int, j < 1415 + 408 * k ∨ 1415 + 408 * k + 408 ≤ j → h1 484 j = h 484 j := fun j hj => by rw [← hg]; exact mCpy_out hj
    have b3 : ∀ x : Int, 0 ≤ x → x < 408 → h1 484 (1415 + 408 * k + x) = h 484 (1415 + 408 * (k + 1) + x) := fun x x0 x1 => by rw [← hg, mCpy_in (by omega) (by omega)]; congr 1; omega
    obtain ⟨h', g1, g2, g3, g4⟩ := ih (k + 1) h1 (MH_fr a1 (fun i _ => by rw [b1 483 (by decide)])) (by omega) (by omega)
    refine ⟨h', g1, fun b hb => by rw [g2 b hb, b1 b hb], fun j hj => by rw [g3 j hj, b2 j (by omega)], fun i x i0 i1 x0 x1 => ?_⟩
    rw [g4 i x i0 i1 x0 x1]
    by_cases c : i = k
    · rw [if_neg (by omega), if_pos (by omega), c]; exact b3 x x0 x1
    · by_cases c2 : k + 1 ≤ i ∧ i < t
      · rw [if_pos c2, if_pos (by omega)]; exact b2 _ (by omega)
      · rw [if_neg c2, if_neg (by omega)]; exact b2 _ (by omega)
theorem L_M_bringD (hW : MW w) {f t : Int} (hf : f < 6) (ht : 0 ≤ t) : ∀ (m : Nat) (k : Int) (h : mm_H), MH h → k < 6 → k = t + m → ∃ h', l_M_bring_0 (mm_P d) 483 f t (-1) k w h = some (.inr (108, [(2, 483), (0, f), (0, t), (0, -1), (0, t)], w, h')) ∧ (∀ b : Int, b ≠ 484 → h' b = h b) ∧ (∀ j : Int, j < 1415 → h' 484 j = h 484 j) ∧ ∀ i x : Int, 0 ≤ i → i < 6 → 0 ≤ x → x < 408 → h' 484 (1415 + 408 * i + x) = h 484 (1415 + 408 * (if t < i ∧ i ≤ k then i - 1 else i) + x) := by
  have hw : (w.1 483).1 = 13 := by rw [hW.1]
  intro m
  induction m with
  | zero =>
    intro k h a1 a2 a3
    rw [l_M_bring_0_eq, mEq_t (by omega)]
    exact ⟨h, by rw [show k = t by omega], fun _ _ => rfl, fun _ _ => rfl, fun i x _ _ _ _ => by rw [if_neg (by omega)]⟩
  | succ m ih =>
    intro k h a1 a2 a3
    rw [l_M_bring_0_eq, mEq_f (by omega), mF_t hw, mF_t hw, a1.1, mI_id (x := k + -1) (by omega) (by omega), mI_id (x := 408 * (k + -1)) (by omega) (by omega), mI_id (x := 1415 + 408 * (k + -1)) (by omega) (by omega), mI_id (x := 408 * k) (by omega) (by omega), mI_id (x := 1415 + 408 * k) (by omega) (by omega), mCy_t hW.2.1 hW.2.1 (by decide) (by decide) (by omega) (by omega) (by decide) (by omega) (by omega)]
    try dsimp only
    generalize hg : mCpy h 484 (1415 + 408 * (k + -1)) 484 (1415 + 408 * k) 408 = h1
    have b1 : ∀ b : Int, b ≠ 484 → h1 b = h b := fun b hb => by rw [← hg]; exact mCpy_row hb
    have b2 : ∀ j : Int, j < 1415 + 408 * k ∨ 1415 + 408 * k + 408 ≤ j → h1 484 j = h 484 j := fun j hj => by rw [← hg]; exact mCpy_out hj
    have b3 : ∀ x : Int, 0 ≤ x → x < 408 → h1 484 (1415 + 408 * k + x) = h 484 (1415 + 408 * (k - 1) + x) := fun x x0 x1 => by rw [← hg, mCpy_in (by omega) (by omega)]; congr 1; omega
    obtain ⟨h', g1, g2, g3, g4⟩ := ih (k + -1) h1 (MH_fr a1 (fun i _ => by rw [b1 483 (by decide)])) (by omega) (by omega)
    refine ⟨h', g1, fun b hb => by rw [g2 b hb, b1 b hb], fun j hj => by rw [g3 j hj, b2 j (by omega)], fun i x i0 i1 x0 x1 => ?_⟩
    rw [g4 i x i0 i1 x0 x1]
    by_cases c : i = k
    · rw [if_neg (by omega), if_pos (by omega), c]; exact b3 x x0 x1
    · by_cases c2 : t < i ∧ i ≤ k + -1
      · rw [if_pos c2, if_pos (by omega)]; exact b2 _ (by omega)
      · rw [if_neg c2, if_neg (by omega)]; exact b2 _ (by omega)
theorem E_M_bring (hd : 3 ≤ d) (hW : MW w) (hH : MH h) (hc : mHis h A) (hI : aI s) (hR : RM (h 484) s) (f t : Int) : (¬ ((0 ≤ f ∧ f < aN s) ∧ 0 ≤ t ∧ t < aN s) ∧ mm_P d 278 [(2, 483), (0, f), (0, t)] w h = some ((0, -2), w, h)) ∨ (((0 ≤ f ∧ f < aN s) ∧ 0 ≤ t ∧ t < aN s) ∧ ∃ h', mm_P d 278 [(2, 483), (0, f), (0, t)] w h = some ((0, 1), w, h') ∧ mHis h' (gAcc A (F_carry s f t)) ∧ RM (h' 484) (F_carry s f t) ∧ (∀ b : Int, b ≠ 483 → b ≠ 484 → b ≠ 485 → b ≠ 493 → h' b = h b) ∧ (∀ i : Int, i ≠ 2 → i ≠ 3 → i ≠ 4 → h' 483 i = h 483 i) ∧ h' 483 4 = 0) := by
  obtain ⟨d, rfl, hd2⟩ := mm_dS hd; clear hd; have hd := hd2; clear hd2
  have hw : (w.1 483).1 = 13 := by rw [hW.1]
  have hn := hI.2.2.1
  rw [P_M_bring, mF_t hw, E_M_isRule (by omega) hW hH f (by rw [hR.1.2.2]; exact hn), mC_s, hR.1.2.2]
  by_cases c : 0 ≤ f ∧ f < aN s
  rotate_left
  · rw [bI_f c, mEq_t rfl]
    exact Or.inl ⟨fun q => c q.1, rfl⟩
  rw [bI_t c, mEq_f (by decide), mF_t hw, E_M_isRule (by omega) hW hH t (by rw [hR.1.2.2]; exact hn), mC_s, hR.1.2.2]
  by_cases c' : 0 ≤ t ∧ t < aN s
  rotate_left
  · rw [bI_f c', mEq_t rfl]
    exact Or.inl ⟨fun q => c' q.2, rfl⟩
  refine Or.inr ⟨⟨c, c'⟩, ?_⟩
  have w493 : w.1 493 = (50, 408) := by have := hW; unfold MW at this; simp only [this]
  have r25 : h 483 25 = 493 := by have := hH; unfold MH at this; simp only [this]
  rw [bI_t c', mEq_f (by decide), mF_t hw, mF_t hw, hH.1, r25, mI_id (x := 408 * f) (by omega) (by omega), mI_id (x := 1415 + 408 * f) (by omega) (by omega), mCy_t hW.2.1 w493 (by decide) (by decide) (by omega) (by decide) (by decide) (by omega) (by decide)]
  try dsimp only
  generalize hg : mCpy h 484 (1415 + 408 * f) 493 0 408 = h1
  have b1 : ∀ b : Int, b ≠ 493 → h1 b = h b := fun b hb => by rw [← hg]; exact mCpy_row hb
  have b3 : ∀ x : Int, 0 ≤ x → x < 408 → h1 493 x = h 484 (1415 + 408 * f + x) := fun x x0 x1 => by rw [← hg, mCpy_in (by omega) (by omega)]; congr 1; omega
  have M1 : MH h1 := MH_fr hH (fun i _ => by rw [b1 483 (by decide)])
  have fin : ∀ h2 : mm_H, (∀ b : Int, b ≠ 484 → h2 b = h1 b) → (∀ j : Int, j < 1415 → h2 484 j = h1 484 j) → (∀ i x : Int, 0 ≤ i → i < 6 → 0 ≤ x → x < 408 → i ≠ t → h2 484 (1415 + 408 * i + x) = h1 484 (1415 + 408 * crr f t i + x)) → ∃ h', mF w 483 13 none (mF w 483 13 none (mCy w (h2 483 25) 0 (h2 483 0) (mI (1415 + (mI (408 * t)))) 408 none (let h12 := mCpy h2 (h2 483 25) 0 (h2 483 0) (mI (1415 + (mI (408 * t)))) 408; mF w 483 13 none (mC ((mm_P d) 217 [(2, 483), (0, 1)] w h12) 0 none (fun v13 w14 h15 => some ((0, v13), w14, h15)))))) = some ((0, 1), w, h') ∧ mHis h' (gAcc A (F_carry s f t)) ∧ RM (h' 484) (F_carry s f t) ∧ (∀ b : Int, b ≠ 483 → b ≠ 484 → b ≠ 485 → b ≠ 493 → h' b = h b) ∧ (∀ i : Int, i ≠ 2 → i ≠ 3 → i ≠ 4 → h' 483 i = h 483 i) ∧ h' 483 4 = 0 := by
    intro h2 e1 e2 e3
    have x0 : h2 483 0 = 484 := by rw [e1 483 (by decide)]; exact M1.1
    have x25 : h2 483 25 = 493 := by rw [e1 483 (by decide), b1 483 (by decide)]; exact r25
    rw [mF_t hw, mF_t hw, x0, x25, mI_id (x := 408 * t) (by omega) (by omega), mI_id (x := 1415 + 408 * t) (by omega) (by omega), mCy_t w493 hW.2.1 (by decide) (by decide) (by decide) (by omega) (by decide) (by decide) (by omega)]
    try dsimp only
    generalize hg2 : mCpy h2 493 0 484 (1415 + 408 * t) 408 = h3
    have f1 : ∀ b : Int, b ≠ 484 → h3 b = h2 b := fun b hb => by rw [← hg2]; exact mCpy_row hb
    have f2 : ∀ j : Int, j < 1415 + 408 * t ∨ 1415 + 408 * t + 408 ≤ j → h3 484 j = h2 484 j := fun j hj => by rw [← hg2]; exact mCpy_out hj
    have f3 : ∀ x : Int, 0 ≤ x → x < 408 → h3 484 (1415 + 408 * t + x) = h2 493 x := fun x x0 x1 => by rw [← hg2, mCpy_in (by omega) (by omega)]; congr 1; omega
    have M3 : MH h3 := MH_fr M1 (fun i _ => by rw [f1 483 (by decide), e1 483 (by decide)])
    have low : ∀ j : Int, j < 1415 → h3 484 j = h 484 j := fun j hj => by rw [f2 j (by omega), e2 j hj, b1 484 (by decide)]
    have R3 : RM (h3 484) (F_carry s f t) := RM_rul hI hR (fun j _ hj => low j hj) (RR_rul hI (RR_of hR) (by rw [low 2 (by decide)]; exact hR.1.2.2) (fun k k0 k1 => crr_n c c' ⟨k0, k1⟩) (fun k x k0 k1 x0 x1 => by
      by_cases q : k = t
      · rw [q, f3 x x0 x1, e1 493 (by decide), b3 x x0 x1, show crr f t t = f by unfold crr; rw [if_pos rfl]]
      · rw [f2 _ (by omega), e3 k x k0 (by omega) x0 x1 q, b1 484 (by decide)]))
    obtain ⟨h', g1, g2, g3, g4, g5⟩ := E_M_told (d := d) (by omega) hW M3 (mHis_fr hc (fun i _ => by rw [f1 483 (by decide), e1 483 (by decide), b1 483 (by decide)]) (by rw [f1 485 (by decide), e1 485 (by decide), b1 485 (by decide)])) R3 (aI_carry hI c c') (a := 1) (by decide)
    rw [mF_t hw, g1, mC_s]
    exact ⟨h', rfl, g2, by rw [g3 484 (by decide) (by decide)]; exact R3, fun b p3 p4 p5 p9 => by rw [g3 b p3 p5, f1 b p4, e1 b p4, b1 b p9], fun i p q r => by rw [g4 i p q r, f1 483 (by decide), e1 483 (by decide), b1 483 (by decide)], g5⟩
  by_cases q : f ≤ t
  · obtain ⟨h2, u1, u2, u3, u4⟩ := L_M_bringU (d := d) hW (f := f) (t := t) c.1 (by omega) (t - f).toNat f h1 M1 c.1 (by omega)
    rw [mLe_t q, u1, mK_r, if_pos rfl]
    simp only [mP_0, mP_2]
    refine fin h2 u2 u3 (fun i x i0 i1 x0 x1 hit => ?_)
    rw [u4 i x i0 i1 x0 x1]
    have : (if f ≤ i ∧ i < t then i + 1 else i) = crr f t i := by
      unfold crr
      repeat' split
      all_goals omega
    rw [this]
  · obtain ⟨h2, u1, u2, u3, u4⟩ := L_M_bringD (d := d) hW (f := f) (t := t) (by omega) c'.1 (f - t).toNat f h1 M1 (by omega) (by omega)
    rw [mLe_f (by omega), u1, mK_r, if_pos rfl]
    simp only [mP_0, mP_2]
    refine fin h2 u2 u3 (fun i x i0 i1 x0 x1 hit => ?_)
    rw [u4 i x i0 i1 x0 x1]
    have : (if t < i ∧ i ≤ f then i - 1 else i) = crr f t i := by
      unfold crr
      repeat' split
      all_goals omega
    rw [this]
end PU
