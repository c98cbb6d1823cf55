/-! PURE: what a program's line does; the class performs it. -/
def shO (L : List Int) (u v : Int) : Int := if L.getD 1 0 = 0 then u else v
/-- a line is told on the sheet s, its places moved by u and v -/
def lpO (L : List Int) (s : aS) (u v : Int) : Prop :=
  if L.getD 0 0 = 0 then okPt s (L.getD 1 0) (L.getD 2 0) (L.getD 3 0 + u) (L.getD 4 0 + v) (L.getD 5 0 + u) (L.getD 6 0 + v)
  else if L.getD 0 0 = 1 then okLn s 0 (L.getD 1 0) (L.getD 2 0) (L.getD 3 0 + u) (L.getD 4 0 + u)
  else if L.getD 0 0 = 2 then okLn s 1 (L.getD 1 0) (L.getD 2 0) (L.getD 3 0 + v) (L.getD 4 0 + v)
  else if L.getD 0 0 = 3 then okIns s (L.getD 1 0) (L.getD 2 0 + shO L u v) (L.getD 3 0) ∧ aSz s (L.getD 1 0) + L.getD 3 0 ≤ 16
  else if L.getD 0 0 = 4 then ((L.getD 1 0 = 0 ∨ L.getD 1 0 = 1) ∧ 0 ≤ L.getD 2 0 + shO L u v ∧ L.getD 2 0 + shO L u v ≤ L.getD 3 0 + shO L u v ∧ L.getD 3 0 + shO L u v < aSz s (L.getD 1 0)) ∧ L.getD 3 0 + shO L u v - (L.getD 2 0 + shO L u v) + 1 < aSz s (L.getD 1 0)
  else if L.getD 0 0 = 5 then okCopyC s (L.getD 1 0 + u) (L.getD 2 0 + v) (L.getD 3 0 + u) (L.getD 4 0 + v) (L.getD 5 0 + u) (L.getD 6 0 + v) (L.getD 7 0 + u) (L.getD 8 0 + v) 0
  else if L.getD 0 0 = 6 then okCopyC s (L.getD 1 0 + u) (L.getD 2 0 + v) (L.getD 3 0 + u) (L.getD 4 0 + v) (L.getD 5 0 + u) (L.getD 6 0 + v) (L.getD 7 0 + u) (L.getD 8 0 + v) 1
  else if L.getD 0 0 = 7 then 0 ≤ L.getD 1 0 ∧ L.getD 1 0 < 4
  else True
noncomputable def lpF (L : List Int) (s : aS) (u v : Int) : aS :=
  if L.getD 0 0 = 0 then F_paint s (L.getD 1 0) (L.getD 2 0) (L.getD 3 0 + u) (L.getD 4 0 + v) (L.getD 5 0 + u) (L.getD 6 0 + v)
  else if L.getD 0 0 = 1 then F_lines s 0 (L.getD 1 0) (L.getD 2 0) (L.getD 3 0 + u) (L.getD 4 0 + u)
  else if L.getD 0 0 = 2 then F_lines s 1 (L.getD 1 0) (L.getD 2 0) (L.getD 3 0 + v) (L.getD 4 0 + v)
  else if L.getD 0 0 = 3 then F_insert s (L.getD 1 0) (L.getD 2 0 + shO L u v) (L.getD 3 0)
  else if L.getD 0 0 = 4 then F_remove s (L.getD 1 0) (L.getD 2 0 + shO L u v) (L.getD 3 0 + shO L u v)
  else if L.getD 0 0 = 5 then F_copyC s (L.getD 1 0 + u) (L.getD 2 0 + v) (L.getD 3 0 + u) (L.getD 4 0 + v) (L.getD 5 0 + u) (L.getD 6 0 + v) (L.getD 7 0 + u) (L.getD 8 0 + v) 0
  else if L.getD 0 0 = 6 then F_copyC s (L.getD 1 0 + u) (L.getD 2 0 + v) (L.getD 3 0 + u) (L.getD 4 0 + v) (L.getD 5 0 + u) (L.getD 6 0 + v) (L.getD 7 0 + u) (L.getD 8 0 + v) 1
  else if L.getD 0 0 = 7 then F_tidy s (L.getD 1 0)
  else s
def lpU (L : List Int) (u : Int) : Int := if L.getD 0 0 = 8 then u + L.getD 1 0 else u
def lpV (L : List Int) (v : Int) : Int := if L.getD 0 0 = 8 then v + L.getD 2 0 else v
theorem pairC_ok {si a b : Int} (hs : si ≤ 16) : (isAB si (pairC a b) ↔ 0 ≤ a ∧ a ≤ b ∧ b < si) ∧ pairC a b < 2147483648 ∧ ((0 ≤ a ∧ a ≤ 99 ∧ 0 ≤ b ∧ b ≤ 99) → pairC a b / 100 = a ∧ pairC a b % 100 = b) := by
  unfold pairC
  by_cases hh : 0 ≤ a ∧ a ≤ 99 ∧ 0 ≤ b ∧ b ≤ 99
  · rw [if_pos hh]
    have e1 : (100 * a + b) / 100 = a := by omega
    have e2 : (100 * a + b) % 100 = b := by omega
    unfold isAB
    rw [e1, e2]
    exact ⟨⟨fun x => ⟨hh.1, x.2⟩, fun x => ⟨by omega, x.2⟩⟩, by omega, fun _ => ⟨rfl, rfl⟩⟩
  · rw [if_neg hh]
    exact ⟨⟨fun x => absurd x.1 (by decide), fun x => by omega⟩, by decide, fun x => absurd x hh⟩
theorem lpF_I {L : List Int} {s : aS} {u v : Int} (hI : aI s) (h : lpO L s u v) : aI (lpF L s u v) := by
  unfold lpO at h
  unfold lpF
  by_cases c0 : L.getD 0 0 = 0
  · rw [if_pos c0] at h ⊢
    unfold okPt at h
    exact aI_paint hI h.2.1
  rw [if_neg c0] at h ⊢
  by_cases c1 : L.getD 0 0 = 1
  · rw [if_pos c1] at h ⊢
    unfold okLn at h
    exact aI_lines hI h.2.2.1
  rw [if_neg c1] at h ⊢
  by_cases c2 : L.getD 0 0 = 2
  · rw [if_pos c2] at h ⊢
    unfold okLn at h
    exact aI_lines hI h.2.2.1
  rw [if_neg c2] at h ⊢
  by_cases c3 : L.getD 0 0 = 3
  · rw [if_pos c3] at h ⊢
    exact aI_insert hI h.1 h.2
  rw [if_neg c3] at h ⊢
  by_cases c4 : L.getD 0 0 = 4
  · rw [if_pos c4] at h ⊢
    exact aI_remove hI h.1.1 h.1.2 h.2
  rw [if_neg c4] at h ⊢
  by_cases c5 : L.getD 0 0 = 5
  · rw [if_pos c5] at h ⊢
    exact aI_copyC hI h
  rw [if_neg c5] at h ⊢
  by_cases c6 : L.getD 0 0 = 6
  · rw [if_pos c6] at h ⊢
    exact aI_copyC hI h
  rw [if_neg c6] at h ⊢
  by_cases c7 : L.getD 0 0 = 7
  · rw [if_pos c7] at h ⊢
    exact aI_tidy hI _
  rw [if_neg c7]
  exact hI
theorem nNeed_le {s : aS} (hI : aI s) (p : Int) : 0 ≤ nNeed s p ∧ nNeed s p ≤ 256 := sum2_le (by have := hI.1; omega) (by have := hI.2.1; omega) (fun r c' _ _ _ _ => by have := bI_01 (aNeed s p r c'); omega)
theorem lnL_1 (k : Int) : 1 ≤ lnL k := by
  unfold lnL
  repeat' split
  all_goals decide
/-- what the class's runs rest on -/
def XB (w : mm_W) (h : mm_H) (s : aS) (u v : Int) : Prop := RC w h 4 s ∧ aI s ∧ ShH h 421 ∧ EdH h ∧ h 435 0 = 420 ∧ h 435 2 = u ∧ h 435 3 = v
def XO (h h' : mm_H) : Prop := ∀ b : Int, ¬ (4 ≤ b ∧ b < 17) → ¬ (421 ≤ b ∧ b < 435) → b ≠ 435 → h' b = h b
theorem XO_rf (h : mm_H) : XO h h := fun _ _ _ _ => rfl
theorem XO_tr {a b c : mm_H} (x : XO a b) (y : XO b c) : XO a c := fun q h1 h2 h3 => (y q h1 h2 h3).trans (x q h1 h2 h3)
section PU
variable {d : Nat} {w : mm_W} {h : mm_H} {s : aS} {u v : Int}
theorem X_perf (hd : 8 ≤ d) (hW : WK w) (hX : XB w h s u v) (hu : -6000 ≤ u ∧ u ≤ 6000) (hv : -6000 ≤ v ∧ v ≤ 6000) {a sz : Int} {i : Nat} {L : List Int} (ha : w.1 a = (50, sz)) (hi : 9 * (i : Int) + 9 ≤ sz) (hz : sz ≤ 1800) (hL : lnO L) (hS : Seg h a (9 * i) L) : (lpO L s u v ∧ ∃ (h' : mm_H) (x : Int), mm_P d 81 [(2, 435), (2, 4), (2, a), (0, 9 * (i : Int))] w h = some ((0, x), w, h') ∧ 0 ≤ x ∧ XB w h' (lpF L s u v) (lpU L u) (lpV L v) ∧ XO h h' ∧ ∀ j : Int, j ≠ 2 → j ≠ 3 → h' 435 j = h 435 j) ∨ (¬ lpO L s u v ∧ ∃ x : Int, mm_P d 81 [(2, 435), (2, 4), (2, a), (0, 9 * (i : Int))] w h = some ((0, x), w, h) ∧ x < 0) := by
  obtain ⟨d, rfl, hd2⟩ := mm_dS hd; clear hd; have hd := hd2; clear hd2
  have w8 : (w.1 435).1 = 8 := by rw [hW.1.2.2.2.2.2.1]
  have w3 : w.1 420 = (3, 2) := hW.1.2.2.2.1
  have w3' : (w.1 420).1 = 3 := by rw [w3]
  have w434 : w.1 434 = (50, 16) := hW.1.2.2.2.2.1
  have W4' := W4 hW
  have W421' := W421 hW
  obtain ⟨hR, hI, h421, hE, k0, k2, k3⟩ := hX
  have i1 := hI.1; have i2 := hI.2.1
  have sz16 : ∀ y : Int, aSz s y ≤ 16 := fun y => by unfold aSz; split <;> omega
  obtain ⟨l1, l2, l3⟩ := hL
  have bd : ∀ j : Nat, -99 ≤ L.getD j 0 ∧ L.getD j 0 ≤ 99 := fun j => by
    by_cases c : j < L.length
    · exact l3 _ (getD_mem c)
    · rw [List.getD_eq_getElem?_getD, List.getElem?_eq_none (by omega)]
      show -99 ≤ (0 : Int) ∧ (0 : Int) ≤ 99
      omega
  have vl : ∀ j : Nat, j < L.length → h a (9 * (i : Int) + (j : Int)) = L.getD j 0 := fun j hj => by
    have := hS j hj
    rw [show ((9 * i : Nat) : Int) + (j : Int) = 9 * (i : Int) + (j : Int) by omega] at this
    exact this
  have pk : ∀ (d : Nat) (j : Int), 1 ≤ d → 0 ≤ j → j < 9 → mm_P d 199 [(2, a), (0, 9 * (i : Int) + j)] w h = some ((0, h a (9 * (i : Int) + j)), w, h) := fun d j hd j0 j1 => E_peek_t hd ha (by omega) (by omega)
  have x0 := vl 0 (by omega)
  rw [show 9 * (i : Int) + ((0 : Nat) : Int) = 9 * (i : Int) + 0 by omega] at x0
  have p0 := pk d 0 (by omega) (by decide) (by decide)
  rw [x0, Int.add_zero] at p0
  have p1 := pk d 1 (by omega) (by decide) (by decide)
  have p2 := pk d 2 (by omega) (by decide) (by decide)
  have ln2 : 2 ≤ L.length := by have := lnL_1 (L.getD 0 0); omega
  have x1 : h a (9 * (i : Int) + 1) = L.getD 1 0 := vl 1 (by omega)
  rw [x1] at p1
  have area : ∀ (j : Nat) (d : Nat), 3 ≤ d → (j : Int) + 4 ≤ 9 → j + 4 ≤ L.length → mm_P d 83 [(2, 435), (2, a), (0, 9 * (i : Int) + (j : Int))] w h = some ((0, rectC (L.getD j 0 + u) (L.getD (j + 1) 0 + v) (L.getD (j + 2) 0 + u) (L.getD (j + 3) 0 + v)), w, h) := fun j d hd j9 jl => by
    obtain ⟨d, rfl, hd2⟩ := mm_dS hd
    have b0 := bd j; have b1 := bd (j + 1); have b2 := bd (j + 2); have b3 := bd (j + 3)
    have y0 := vl j (by omega); have y1 := vl (j + 1) (by omega); have y2 := vl (j + 2) (by omega); have y3 := vl (j + 3) (by omega)
    rw [show 9 * (i : Int) + ((j + 1 : Nat) : Int) = 9 * (i : Int) + (j : Int) + 1 by omega] at y1
    rw [show 9 * (i : Int) + ((j + 2 : Nat) : Int) = 9 * (i : Int) + (j : Int) + 2 by omega] at y2
    rw [show 9 * (i : Int) + ((j + 3 : Nat) : Int) = 9 * (i : Int) + (j : Int) + 3 by omega] at y3
    have q1 := pk d ((j : Int) + 1) (by omega) (by omega) (by omega)
    have q2 := pk d ((j : Int) + 2) (by omega) (by omega) (by omega)
    have q3 := pk d ((j : Int) + 3) (by omega) (by omega) (by omega)
    rw [← Int.add_assoc] at q1 q2 q3
    rw [P_Rn_areaAt, mI_id (x := 9 * (i : Int) + (j : Int) + 1) (by omega) (by omega), mI_id (x := 9 * (i : Int) + (j : Int) + 2) (by omega) (by omega), mI_id (x := 9 * (i : Int) + (j : Int) + 3) (by omega) (by omega), pk d (j : Int) (by omega) (by omega) (by omega), mC_s, mF_t w8, q1, mC_s, mF_t w8, q2, mC_s, mF_t w8, q3, mC_s, mF_t w8, k2, k3, y0, y1, y2, y3, mI_id (x := L.getD j 0 + u) (by omega) (by omega), mI_id (x := L.getD (j + 1) 0 + v) (by omega) (by omega), mI_id (x := L.getD (j + 2) 0 + u) (by omega) (by omega), mI_id (x := L.getD (j + 3) 0 + v) (by omega) (by omega), E_rectCode (by omega), mC_s]
  have lin : ∀ (j : Nat) (d : Nat) (z : Int), 2 ≤ d → -6000 ≤ z → z ≤ 6000 → (j : Int) + 2 ≤ 9 → j + 2 ≤ L.length → mm_P d 84 [(2, a), (0, 9 * (i : Int) + (j : Int)), (0, z)] w h = some ((0, pairC (L.getD j 0 + z) (L.getD (j + 1) 0 + z)), w, h) := fun j d z hd z0 z1 j9 jl => by
    obtain ⟨d, rfl, hd2⟩ := mm_dS hd
    have b0 := bd j; have b1 := bd (j + 1)
    have y0 := vl j (by omega); have y1 := vl (j + 1) (by omega)
    rw [show 9 * (i : Int) + ((j + 1 : Nat) : Int) = 9 * (i : Int) + (j : Int) + 1 by omega] at y1
    have q1 := pk d ((j : Int) + 1) (by omega) (by omega) (by omega)
    rw [← Int.add_assoc] at q1
    rw [P_Rn_linesAt, mI_id (x := 9 * (i : Int) + (j : Int) + 1) (by omega) (by omega), pk d (j : Int) (by omega) (by omega) (by omega), mC_s, q1, mC_s, y0, y1, mI_id (x := L.getD j 0 + z) (by omega) (by omega), mI_id (x := L.getD (j + 1) 0 + z) (by omega) (by omega), E_pairCode (by omega), mC_s]
  have ori : ∀ d : Nat, 1 ≤ d → mm_P d 82 [(2, 435), (0, L.getD 1 0)] w h = some ((0, shO L u v), w, h) := fun d hd => by
    obtain ⟨d, rfl, hd2⟩ := mm_dS hd
    rw [P_Rn_originOf]
    unfold shO
    by_cases c : L.getD 1 0 = 0
    · rw [mEq_t c, if_pos c, mF_t w8, k2]
    · rw [mEq_f c, if_neg c, mF_t w8, k3]
  have shb : -6000 ≤ shO L u v ∧ shO L u v ≤ 6000 := by unfold shO; split <;> omega
  -- what an edit leaves
  have fin : ∀ (h' : mm_H) (s' : aS), RC w h' 4 s' → aI s' → ShH h' 421 → (∀ b : Int, ¬ (4 ≤ b ∧ b < 17) → ¬ (421 ≤ b ∧ b < 435) → h' b = h b) → XB w h' s' u v ∧ XO h h' ∧ ∀ j : Int, j ≠ 2 → j ≠ 3 → h' 435 j = h 435 j := fun h' s' r1 r2 r3 e => by
    have e435 := e 435 (by omega) (by omega)
    have e420 := e 420 (by omega) (by omega)
    exact ⟨⟨r1, r2, r3, ⟨by rw [e420]; exact hE.1, by rw [e420]; exact hE.2⟩, by rw [e435]; exact k0, by rw [e435]; exact k2, by rw [e435]; exact k3⟩, fun b x y _ => e b x y, fun j _ _ => by rw [e435]⟩
  have f421 : ∀ h' : mm_H, h' 421 = h 421 → h' (421 + 5) = h (421 + 5) → ShH h' 421 := fun h' e1 e2 => ShH_fr h421 (fun j _ _ => by rw [e1]) e2
  have nu : L.getD 0 0 ≠ 8 → lpU L u = u ∧ lpV L v = v := fun c => ⟨if_neg c, if_neg c⟩
  have m1 : mI (9 * (i : Int) + 1) = 9 * (i : Int) + 1 := mI_id (by omega) (by omega)
  have m2 : mI (9 * (i : Int) + 2) = 9 * (i : Int) + 2 := mI_id (by omega) (by omega)
  have m3 : mI (9 * (i : Int) + 3) = 9 * (i : Int) + 3 := mI_id (by omega) (by omega)
  have m5 : mI (9 * (i : Int) + 5) = 9 * (i : Int) + 5 := mI_id (by omega) (by omega)
  have b1 := bd 1; have b2 := bd 2; have b3 := bd 3; have b4 := bd 4; have b5 := bd 5; have b6 := bd 6; have b7 := bd 7; have b8 := bd 8
  rw [P_Rn_perform, p0, mC_s, m1, p1, mC_s, m2, p2, mC_s]
  unfold lpO lpF
  by_cases c0 : L.getD 0 0 = 0
  · have ll : L.length = 7 := by rw [l2, c0]; rfl
    rw [if_pos c0, if_pos c0, (nu (by omega)).1, (nu (by omega)).2, mEq_t c0, mF_t w8, mF_t w8, m3, (show mm_P d 83 [(2, 435), (2, a), (0, 9 * (i : Int) + 3)] w h = some ((0, rectC (L.getD 3 0 + u) (L.getD 4 0 + v) (L.getD 5 0 + u) (L.getD 6 0 + v)), w, h) from area 3 d (by omega) (by decide) (by omega)), mC_s, k0, mF_t w3', show h a (9 * (i : Int) + 2) = L.getD 2 0 from vl 2 (by omega)]
    have rc := rectC_ok (hi := aHi s) (wi := aWi s) (t := L.getD 3 0 + u) (l := L.getD 4 0 + v) (b := L.getD 5 0 + u) (r := L.getD 6 0 + v) ⟨i1.2, i2.2⟩
    rcases E_paintRect (d := d) (by omega) 420 W4' (by decide) hI hR (L.getD 1 0) (L.getD 2 0) rc.2 with ⟨z, h2, g1, g2, g3⟩ | ⟨z, g1⟩
    · have z2 := rc.1.mp z.2.2
      have dg := rectC_dg (t := L.getD 3 0 + u) (l := L.getD 4 0 + v) (b := L.getD 5 0 + u) (r := L.getD 6 0 + v) (by omega)
      rw [dg.1, dg.2.1, dg.2.2.1, dg.2.2.2] at g2
      rw [g1, mC_s]
      exact Or.inl ⟨⟨z.1, z.2.1, z2⟩, h2, 1, rfl, by decide, fin h2 _ g2 (aI_paint hI z.2.1) (f421 h2 (g3 _ (by decide)) (g3 _ (by decide))) (fun b x y => g3 b (by omega))⟩
    · rw [g1, mC_s]
      exact Or.inr ⟨fun x => z ⟨x.1, x.2.1, rc.1.mpr x.2.2⟩, -2, rfl, by decide⟩
  rw [if_neg c0, if_neg c0, mEq_f c0]
  by_cases c1 : L.getD 0 0 = 1
  · have ll : L.length = 5 := by rw [l2, c1]; rfl
    rw [if_pos c1, if_pos c1, (nu (by omega)).1, (nu (by omega)).2, mEq_t c1, mF_t w8, mF_t w8, m3, k2, (show mm_P d 84 [(2, a), (0, 9 * (i : Int) + 3), (0, u)] w h = some ((0, pairC (L.getD 3 0 + u) (L.getD 4 0 + u)), w, h) from lin 3 d u (by omega) hu.1 hu.2 (by decide) (by omega)), mC_s, k0, mF_t w3', show h a (9 * (i : Int) + 2) = L.getD 2 0 from vl 2 (by omega)]
    have pc := pairC_ok (a := L.getD 3 0 + u) (b := L.getD 4 0 + u) (sz16 0)
    rcases E_setLines (d := d) (by omega) 420 W4' (by decide) hI hR 0 (L.getD 1 0) (L.getD 2 0) pc.2.1 with ⟨z, h2, g1, g2, g3⟩ | ⟨z, g1⟩
    · have z2 := pc.1.mp z.2.2.2
      have s16 := sz16 0
      have dg := pc.2.2 (by omega)
      rw [dg.1, dg.2] at g2
      rw [g1, mC_s]
      exact Or.inl ⟨⟨z.1, z.2.1, z.2.2.1, z2⟩, h2, 1, rfl, by decide, fin h2 _ g2 (aI_lines hI z.2.2.1) (f421 h2 (g3 _ (by decide)) (g3 _ (by decide))) (fun b x y => g3 b (by omega))⟩
    · rw [g1, mC_s]
      exact Or.inr ⟨fun x => z ⟨x.1, x.2.1, x.2.2.1, pc.1.mpr x.2.2.2⟩, -2, rfl, by decide⟩
  rw [if_neg c1, if_neg c1, mEq_f c1]
  by_cases c2 : L.getD 0 0 = 2
  · have ll : L.length = 5 := by rw [l2, c2]; rfl
    rw [if_pos c2, if_pos c2, (nu (by omega)).1, (nu (by omega)).2, mEq_t c2, mF_t w8, mF_t w8, m3, k3, (show mm_P d 84 [(2, a), (0, 9 * (i : Int) + 3), (0, v)] w h = some ((0, pairC (L.getD 3 0 + v) (L.getD 4 0 + v)), w, h) from lin 3 d v (by omega) hv.1 hv.2 (by decide) (by omega)), mC_s, k0, mF_t w3', show h a (9 * (i : Int) + 2) = L.getD 2 0 from vl 2 (by omega)]
    have pc := pairC_ok (a := L.getD 3 0 + v) (b := L.getD 4 0 + v) (sz16 1)
    rcases E_setLines (d := d) (by omega) 420 W4' (by decide) hI hR 1 (L.getD 1 0) (L.getD 2 0) pc.2.1 with ⟨z, h2, g1, g2, g3⟩ | ⟨z, g1⟩
    · have z2 := pc.1.mp z.2.2.2
      have s16 := sz16 1
      have dg := pc.2.2 (by omega)
      rw [dg.1, dg.2] at g2
      rw [g1, mC_s]
      exact Or.inl ⟨⟨z.1, z.2.1, z.2.2.1, z2⟩, h2, 1, rfl, by decide, fin h2 _ g2 (aI_lines hI z.2.2.1) (f421 h2 (g3 _ (by decide)) (g3 _ (by decide))) (fun b x y => g3 b (by omega))⟩
    · rw [g1, mC_s]
      exact Or.inr ⟨fun x => z ⟨x.1, x.2.1, x.2.2.1, pc.1.mpr x.2.2.2⟩, -2, rfl, by decide⟩
  rw [if_neg c2, if_neg c2, mEq_f c2]
  by_cases c3 : L.getD 0 0 = 3
  · have ll : L.length = 4 := by rw [l2, c3]; rfl
    rw [if_pos c3, if_pos c3, (nu (by omega)).1, (nu (by omega)).2, mEq_t c3, mF_t w8, mF_t w8, ori d (by omega), mC_s, m3, pk d 3 (by omega) (by decide) (by decide), mC_s, k0, mF_t w3', show h a (9 * (i : Int) + 2) = L.getD 2 0 from vl 2 (by omega), show h a (9 * (i : Int) + 3) = L.getD 3 0 from vl 3 (by omega), mI_id (x := L.getD 2 0 + shO L u v) (by omega) (by omega)]
    rcases E_insertLines (d := d) (by omega) w3 w434 W4' W421' hI hR h421 hE (L.getD 1 0) (L.getD 2 0 + shO L u v) (L.getD 3 0) (by omega) with ⟨z, g1⟩ | ⟨z, g1⟩ | ⟨z, h2, g1, g2, g3, g4⟩
    · rw [g1, mC_s]
      exact Or.inr ⟨fun x => z x.1, -2, rfl, by decide⟩
    · rw [g1, mC_s]
      exact Or.inr ⟨fun x => by omega, -4, rfl, by decide⟩
    · rw [g1, mC_s]
      have s16 : 0 ≤ aSz s (L.getD 1 0) := by unfold aSz; split <;> omega
      have z1 : 1 ≤ L.getD 3 0 := z.1.2.2.1
      exact Or.inl ⟨z, h2, _, rfl, by omega, fin h2 _ g2 (aI_insert hI z.1 z.2) g3 g4⟩
  rw [if_neg c3, if_neg c3, mEq_f c3]
  by_cases c4 : L.getD 0 0 = 4
  · have ll : L.length = 4 := by rw [l2, c4]; rfl
    rw [if_pos c4, if_pos c4, (nu (by omega)).1, (nu (by omega)).2, mEq_t c4, mF_t w8, mF_t w8, ori d (by omega), mC_s, (show mm_P d 84 [(2, a), (0, 9 * (i : Int) + 2), (0, shO L u v)] w h = some ((0, pairC (L.getD 2 0 + shO L u v) (L.getD 3 0 + shO L u v)), w, h) from lin 2 d (shO L u v) (by omega) shb.1 shb.2 (by decide) (by omega)), mC_s, k0, mF_t w3']
    have pc := pairC_ok (a := L.getD 2 0 + shO L u v) (b := L.getD 3 0 + shO L u v) (sz16 (L.getD 1 0))
    have s16 := sz16 (L.getD 1 0)
    rcases E_removeLines (d := d) (by omega) w3 w434 W4' W421' hI hR h421 hE (L.getD 1 0) pc.2.1 with ⟨z, g1⟩ | ⟨z, g1⟩ | ⟨z, h2, g1, g2, g3, g4⟩
    · rw [g1, mC_s]
      exact Or.inr ⟨fun x => z ⟨x.1.1, pc.1.mpr x.1.2⟩, -2, rfl, by decide⟩
    · have z2 := pc.1.mp z.1.2
      have dg := pc.2.2 (by omega)
      rw [dg.1, dg.2] at z
      rw [g1, mC_s]
      refine Or.inr ⟨fun x => ?_, -3, rfl, by decide⟩
      have a1 := z.2
      have a2 : L.getD 3 0 + shO L u v - (L.getD 2 0 + shO L u v) + 1 < aSz s (L.getD 1 0) := x.2
      omega
    · have z2 := pc.1.mp z.1.2
      have dg := pc.2.2 (by omega)
      rw [dg.1, dg.2] at z g1 g2
      rw [g1, mC_s]
      have zz : L.getD 3 0 + shO L u v - (L.getD 2 0 + shO L u v) + 1 < aSz s (L.getD 1 0) := z.2
      exact Or.inl ⟨⟨⟨z.1.1, z2⟩, zz⟩, h2, _, rfl, by omega, fin h2 _ g2 (aI_remove hI z.1.1 z2 zz) g3 g4⟩
  rw [if_neg c4, if_neg c4, mEq_f c4]
  have cp : ∀ tu : Int, (tu = 0 ∨ tu = 1) → L.length = 9 → (okCopyC s (L.getD 1 0 + u) (L.getD 2 0 + v) (L.getD 3 0 + u) (L.getD 4 0 + v) (L.getD 5 0 + u) (L.getD 6 0 + v) (L.getD 7 0 + u) (L.getD 8 0 + v) tu ∧ ∃ h2, mm_P d 36 [(2, 420), (2, 4), (0, rectC (L.getD 1 0 + u) (L.getD 2 0 + v) (L.getD 3 0 + u) (L.getD 4 0 + v)), (0, rectC (L.getD 5 0 + u) (L.getD 6 0 + v) (L.getD 7 0 + u) (L.getD 8 0 + v)), (0, tu)] w h = some ((0, 1), w, h2) ∧ XB w h2 (F_copyC s (L.getD 1 0 + u) (L.getD 2 0 + v) (L.getD 3 0 + u) (L.getD 4 0 + v) (L.getD 5 0 + u) (L.getD 6 0 + v) (L.getD 7 0 + u) (L.getD 8 0 + v) tu) u v ∧ XO h h2 ∧ ∀ j : Int, j ≠ 2 → j ≠ 3 → h2 435 j = h 435 j) ∨ (¬ okCopyC s (L.getD 1 0 + u) (L.getD 2 0 + v) (L.getD 3 0 + u) (L.getD 4 0 + v) (L.getD 5 0 + u) (L.getD 6 0 + v) (L.getD 7 0 + u) (L.getD 8 0 + v) tu ∧ mm_P d 36 [(2, 420), (2, 4), (0, rectC (L.getD 1 0 + u) (L.getD 2 0 + v) (L.getD 3 0 + u) (L.getD 4 0 + v)), (0, rectC (L.getD 5 0 + u) (L.getD 6 0 + v) (L.getD 7 0 + u) (L.getD 8 0 + v)), (0, tu)] w h = some ((0, -2), w, h)) := fun tu htu ll => by
    have r1 := rectC_ok (hi := aHi s) (wi := aWi s) (t := L.getD 1 0 + u) (l := L.getD 2 0 + v) (b := L.getD 3 0 + u) (r := L.getD 4 0 + v) ⟨i1.2, i2.2⟩
    have r2 := rectC_ok (hi := aHi s) (wi := aWi s) (t := L.getD 5 0 + u) (l := L.getD 6 0 + v) (b := L.getD 7 0 + u) (r := L.getD 8 0 + v) ⟨i1.2, i2.2⟩
    rcases E_copyRect (d := d) (by omega) w3 W4' W421' hI hR h421 hE tu r1.2 r2.2 with ⟨z, g1⟩ | ⟨z, h2, g1, g2, g3, g4⟩
    · exact Or.inr ⟨fun x => z ⟨r1.1.mpr x.1, r2.1.mpr x.2.1, x.2.2⟩, g1⟩
    · have z1 := r1.1.mp z.1
      have z2 := r2.1.mp z.2.1
      have d1 := rectC_dg (t := L.getD 1 0 + u) (l := L.getD 2 0 + v) (b := L.getD 3 0 + u) (r := L.getD 4 0 + v) (by omega)
      have d2 := rectC_dg (t := L.getD 5 0 + u) (l := L.getD 6 0 + v) (b := L.getD 7 0 + u) (r := L.getD 8 0 + v) (by omega)
      rw [F_copy_C, d1.1, d1.2.1, d1.2.2.1, d1.2.2.2, d2.1, d2.2.1, d2.2.2.1, d2.2.2.2] at g2
      have ok : okCopyC s (L.getD 1 0 + u) (L.getD 2 0 + v) (L.getD 3 0 + u) (L.getD 4 0 + v) (L.getD 5 0 + u) (L.getD 6 0 + v) (L.getD 7 0 + u) (L.getD 8 0 + v) tu := ⟨z1, z2, htu⟩
      exact Or.inl ⟨ok, h2, g1, fin h2 _ g2 (aI_copyC hI ok) g3 (fun b x y => g4 b (by omega) (by omega))⟩
  by_cases c5 : L.getD 0 0 = 5
  · have ll : L.length = 9 := by rw [l2, c5]; rfl
    rw [if_pos c5, if_pos c5, (nu (by omega)).1, (nu (by omega)).2, mEq_t c5, mF_t w8, mF_t w8, (show mm_P d 83 [(2, 435), (2, a), (0, 9 * (i : Int) + 1)] w h = some ((0, rectC (L.getD 1 0 + u) (L.getD 2 0 + v) (L.getD 3 0 + u) (L.getD 4 0 + v)), w, h) from area 1 d (by omega) (by decide) (by omega)), mC_s, mF_t w8, m5, (show mm_P d 83 [(2, 435), (2, a), (0, 9 * (i : Int) + 5)] w h = some ((0, rectC (L.getD 5 0 + u) (L.getD 6 0 + v) (L.getD 7 0 + u) (L.getD 8 0 + v)), w, h) from area 5 d (by omega) (by decide) (by omega)), mC_s, k0, mF_t w3']
    rcases cp 0 (Or.inl rfl) ll with ⟨z, h2, g1, g2⟩ | ⟨z, g1⟩
    · rw [g1, mC_s]
      exact Or.inl ⟨z, h2, 1, rfl, by decide, g2⟩
    · rw [g1, mC_s]
      exact Or.inr ⟨z, -2, rfl, by decide⟩
  rw [if_neg c5, if_neg c5, mEq_f c5]
  by_cases c6 : L.getD 0 0 = 6
  · have ll : L.length = 9 := by rw [l2, c6]; rfl
    rw [if_pos c6, if_pos c6, (nu (by omega)).1, (nu (by omega)).2, mEq_t c6, mF_t w8, mF_t w8, (show mm_P d 83 [(2, 435), (2, a), (0, 9 * (i : Int) + 1)] w h = some ((0, rectC (L.getD 1 0 + u) (L.getD 2 0 + v) (L.getD 3 0 + u) (L.getD 4 0 + v)), w, h) from area 1 d (by omega) (by decide) (by omega)), mC_s, mF_t w8, m5, (show mm_P d 83 [(2, 435), (2, a), (0, 9 * (i : Int) + 5)] w h = some ((0, rectC (L.getD 5 0 + u) (L.getD 6 0 + v) (L.getD 7 0 + u) (L.getD 8 0 + v)), w, h) from area 5 d (by omega) (by decide) (by omega)), mC_s, k0, mF_t w3']
    rcases cp 1 (Or.inr rfl) ll with ⟨z, h2, g1, g2⟩ | ⟨z, g1⟩
    · rw [g1, mC_s]
      exact Or.inl ⟨z, h2, 1, rfl, by decide, g2⟩
    · rw [g1, mC_s]
      exact Or.inr ⟨z, -2, rfl, by decide⟩
  rw [if_neg c6, if_neg c6, mEq_f c6]
  by_cases c7 : L.getD 0 0 = 7
  · rw [if_pos c7, if_pos c7, (nu (by omega)).1, (nu (by omega)).2, mEq_t c7, mF_t w8, k0, mF_t w3']
    rcases E_clearNeedless (d := d) (by omega) W4' hI hR (L.getD 1 0) with ⟨z, g1⟩ | ⟨z, h2, g1, g2, g3⟩
    · rw [g1, mC_s]
      exact Or.inr ⟨z, -2, rfl, by decide⟩
    · rw [g1, mC_s]
      exact Or.inl ⟨z, h2, _, rfl, (nNeed_le hI (L.getD 1 0)).1, fin h2 _ g2 (aI_tidy hI _) (f421 h2 (g3 _ (by decide)) (g3 _ (by decide))) (fun b x y => g3 b (by omega))⟩
  have c8 : L.getD 0 0 = 8 := by omega
  have ll : L.length = 3 := by rw [l2, c8]; rfl
  rw [if_neg c7, if_neg c7, mEq_f c7, mEq_t c8]
  simp only [mF_t w8]
  rw [k2, mUp_n (Or.inr (by decide)), k3, show h a (9 * (i : Int) + 2) = L.getD 2 0 from vl 2 (by omega), mI_id (x := u + L.getD 1 0) (by omega) (by omega), mI_id (x := v + L.getD 2 0) (by omega) (by omega)]
  generalize hg : mUp (mUp h 435 2 (u + L.getD 1 0)) 435 3 (v + L.getD 2 0) = h2
  have e : ∀ b : Int, b ≠ 435 → h2 b = h b := fun b hb => by rw [← hg, mUp_row hb, mUp_row hb]
  have ei : ∀ j : Int, j ≠ 2 → j ≠ 3 → h2 435 j = h 435 j := fun j j2 j3 => by rw [← hg, mUp_n (Or.inr j3), mUp_n (Or.inr j2)]
  refine Or.inl ⟨trivial, h2, 1, rfl, by decide, ⟨RC_fr hR hI ⟨Int.le_refl _, fun b b0 _ => ⟨rfl, e b (by omega)⟩⟩ (fun b b0 b1 => e b (by omega)), hI, f421 h2 (e _ (by decide)) (e _ (by decide)), ⟨by rw [e 420 (by decide)]; exact hE.1, by rw [e 420 (by decide)]; exact hE.2⟩, by rw [ei 0 (by decide) (by decide)]; exact k0, ?_, ?_⟩, fun b _ _ x => e b x, ei⟩
  · rw [← hg, mUp_n (Or.inr (by decide)), mUp_s]; exact (if_pos c8).symm
  · rw [← hg, mUp_s]; exact (if_pos c8).symm
end PU
