/-! PURE: what a program's line does: the reference. The first rows are printed from P_M_does. -/
noncomputable def dK (O : mm_O) (a0 a1 v1 v4 v7 x10 : Int) (w8 : mm_W) (h9 : mm_H) : Option mm_R := mF w8 a0 13 none (mC (O 332 [(2, a0), (0, a1)] w8 h9) 0 none (fun v11 w12 h13 => mEq v11 1 (mF w12 a0 13 none (mF w12 a0 13 none (mC (O 332 [(2, a0), (0, mI (a1 + 4))] w12 h13) 0 none (fun v55 w56 h57 => mF w56 a0 13 none (mF w56 a0 13 none (mC (O 332 [(2, a0), (0, mI (a1 + 5))] w56 h57) 0 none (fun v58 w59 h60 => mF w59 a0 13 none (mF w59 a0 13 none (mC (O 332 [(2, a0), (0, mI (a1 + 6))] w59 h60) 0 none (fun v61 w62 h63 => mF w62 a0 13 none (mF w62 a0 13 none (mC (O 234 [(2, a0), (0, v1), (0, v4), (0, mI (v7 + (h13 a0 48))), (0, mI (v55 + (h57 a0 49))), (0, mI (v58 + (h60 a0 48))), (0, mI (v61 + (h63 a0 49)))] w62 h63) 0 none (fun v64 w65 h66 => some ((0, v64), w65, h66)))))))))))))) (mEq v11 2 (mF w12 a0 13 none (mC (O 332 [(2, a0), (0, mI (a1 + 4))] w12 h13) 0 none (fun v46 w47 h48 => mF w47 a0 13 none (mC (O 332 [(2, a0), (0, mI (a1 + 5))] w47 h48) 0 none (fun v49 w50 h51 => mF w50 a0 13 none (mC (O 236 [(2, a0), (0, v1), (0, v4), (0, v7), (0, mI (v46 + x10)), (0, mI (v49 + x10))] w50 h51) 0 none (fun v52 w53 h54 => some ((0, v52), w53, h54)))))))) (mEq v11 3 (mF w12 a0 13 none (mC (O 241 [(2, a0), (0, v1), (0, mI (v4 + x10)), (0, v7)] w12 h13) 0 none (fun v43 w44 h45 => some ((0, v43), w44, h45)))) (mEq v11 4 (mF w12 a0 13 none (mC (O 244 [(2, a0), (0, v1), (0, mI (v4 + x10)), (0, mI (v7 + x10))] w12 h13) 0 none (fun v40 w41 h42 => some ((0, v40), w41, h42)))) (mEq v11 5 (mF w12 a0 13 none (mF w12 a0 13 none (mF w12 a0 13 none (mC (O 332 [(2, a0), (0, mI (a1 + 4))] w12 h13) 0 none (fun v19 w20 h21 => mF w20 a0 13 none (mF w20 a0 13 none (mC (O 332 [(2, a0), (0, mI (a1 + 5))] w20 h21) 0 none (fun v22 w23 h24 => mF w23 a0 13 none (mF w23 a0 13 none (mC (O 332 [(2, a0), (0, mI (a1 + 6))] w23 h24) 0 none (fun v25 w26 h27 => mF w26 a0 13 none (mF w26 a0 13 none (mC (O 332 [(2, a0), (0, mI (a1 + 7))] w26 h27) 0 none (fun v28 w29 h30 => mF w29 a0 13 none (mF w29 a0 13 none (mC (O 332 [(2, a0), (0, mI (a1 + 8))] w29 h30) 0 none (fun v31 w32 h33 => mF w32 a0 13 none (mF w32 a0 13 none (mC (O 332 [(2, a0), (0, mI (a1 + 9))] w32 h33) 0 none (fun v34 w35 h36 => mF w35 a0 13 none (mF w35 a0 13 none (mC (O 249 [(2, a0), (0, mI (v4 + (h13 a0 48))), (0, mI (v7 + (h13 a0 49))), (0, mI (v19 + (h21 a0 48))), (0, mI (v22 + (h24 a0 49))), (0, mI (v25 + (h27 a0 48))), (0, mI (v28 + (h30 a0 49))), (0, mI (v31 + (h33 a0 48))), (0, mI (v34 + (h36 a0 49))), (0, v1)] w35 h36) 0 none (fun v37 w38 h39 => some ((0, v37), w38, h39)))))))))))))))))))))))) (mEq v11 6 (mF w12 a0 13 none (mC (O 253 [(2, a0), (0, v1)] w12 h13) 0 none (fun v16 w17 h18 => some ((0, v16), w17, h18)))) (mF w12 a0 13 none (mF w12 a0 13 none (let h14 := mUp h13 a0 48 (mI ((h13 a0 48) + v1)); mF w12 a0 13 none (mF w12 a0 13 none (let h15 := mUp h14 a0 49 (mI ((h14 a0 49) + v4)); some ((0, 0), w12, h15)))))))))))))
theorem P_M_does2 (d : Nat) (a0 a1 : Int) (w : mm_W) (h : mm_H) : mm_P (d + 1) 333 [(2, a0), (0, a1)] w h = mF w a0 13 none (mC ((mm_P d) 332 [(2, a0), (0, mI (a1 + 1))] w h) 0 none (fun v1 w2 h3 => mF w2 a0 13 none (mC ((mm_P d) 332 [(2, a0), (0, mI (a1 + 2))] w2 h3) 0 none (fun v4 w5 h6 => mF w5 a0 13 none (mC ((mm_P d) 332 [(2, a0), (0, mI (a1 + 3))] w5 h6) 0 none (fun v7 w8 h9 => mEq v1 0 (mF w8 a0 13 none (dK (mm_P d) a0 a1 v1 v4 v7 (h9 a0 48) w8 h9)) (mF w8 a0 13 none (dK (mm_P d) a0 a1 v1 v4 v7 (h9 a0 49) w8 h9)))))))) := P_M_does d a0 a1 w h
/-- what the reference's runs rest on -/
def YB (h : mm_H) (s : aS) (u v k : Int) : Prop := MH h ∧ RM (h 484) s ∧ aI s ∧ h 483 48 = u ∧ h 483 49 = v ∧ h 483 50 = k
def YO (h h' : mm_H) : Prop := (∀ b : Int, b ≠ 483 → b ≠ 484 → b ≠ 489 → h' b = h b) ∧ ∀ i : Int, ¬ (46 ≤ i ∧ i < 50) → h' 483 i = h 483 i
theorem YO_rf (h : mm_H) : YO h h := ⟨fun _ _ _ _ => rfl, fun _ _ => rfl⟩
theorem YO_tr {a b c : mm_H} (x : YO a b) (y : YO b c) : YO a c := ⟨fun q h1 h2 h3 => (y.1 q h1 h2 h3).trans (x.1 q h1 h2 h3), fun i hi => (y.2 i hi).trans (x.2 i hi)⟩
theorem YO_MH {h h' : mm_H} (o : YO h h') (hM : MH h) : MH h' := MH_fr hM (fun i hi => o.2 i (by unfold mRef at hi; omega))
section PU
variable {d : Nat} {w : mm_W} {h : mm_H} {s : aS} {u v k : Int}
theorem E_cell (hd : 1 ≤ d) (hW : MW w) (hH : MH h) (hk : h 483 50 = k) (k0 : 0 ≤ k ∧ k < 4) {j : Int} (hj : 0 ≤ j ∧ j < 400) : mm_P d 332 [(2, 483), (0, j)] w h = some ((0, h 504 (400 * k + j)), w, h) := by
  obtain ⟨d, rfl, hd2⟩ := mm_dS hd
  have hw : (w.1 483).1 = 13 := by rw [hW.1]
  rw [P_M_cellOf, mF_t hw, mF_t hw, hk, MH_41 hH, mI_id (x := 400 * k) (by omega) (by omega), mI_id (x := 400 * k + j) (by omega) (by omega), mA_t (MW_504 hW) (by omega) (by omega)]
theorem E_M_does (hd : 8 ≤ d) (hW : MW w) (hY : YB h s u v k) (hu : -6000 ≤ u ∧ u ≤ 6000) (hv : -6000 ≤ v ∧ v ≤ 6000) (k0 : 0 ≤ k ∧ k < 4) {q : Nat} (hq : q ≤ 200) {L : List Int} (hL : lnO L) (hS : ∀ i : Nat, i < (rfH (L.getD 0 0).toNat ++ L.tail).length → h 504 (400 * k + ((q : Int) + (i : Int))) = (rfH (L.getD 0 0).toNat ++ L.tail).getD i 0) : (lpO L s u v ∧ ∃ (h' : mm_H) (x : Int), mm_P d 333 [(2, 483), (0, (q : Int))] w h = some ((0, x), w, h') ∧ 0 ≤ x ∧ RM (h' 484) (lpF L s u v) ∧ h' 483 48 = lpU L u ∧ h' 483 49 = lpV L v ∧ (∀ b : Int, b ≠ 483 → b ≠ 484 → b ≠ 489 → h' b = h b) ∧ ∀ i : Int, i ≠ 48 → i ≠ 49 → h' 483 i = h 483 i) ∨ (¬ lpO L s u v ∧ ∃ x : Int, mm_P d 333 [(2, 483), (0, (q : Int))] w h = some ((0, x), w, h) ∧ x < 0) := by
  obtain ⟨d, rfl, hd2⟩ := mm_dS hd; clear hd; have hd := hd2; clear hd2
  have hw : (w.1 483).1 = 13 := by rw [hW.1]
  obtain ⟨hH, hR, hI, e48, e49, e50⟩ := hY
  have i1 := hI.1; have i2 := hI.2.1
  obtain ⟨l1, l2, l3⟩ := hL
  have bd : ∀ j : Nat, -99 ≤ L.getD j 0 ∧ L.getD j 0 ≤ 99 := fun j => by
    by_cases c : j < L.length
    · exact l3 _ (getD_mem c)
    · rw [List.getD_eq_getElem?_getD, List.getElem?_eq_none (by omega)]
      show -99 ≤ (0 : Int) ∧ (0 : Int) ≤ 99
      omega
  have cel : ∀ j : Int, 0 ≤ j → j < 12 → mm_P d 332 [(2, 483), (0, (q : Int) + j)] w h = some ((0, h 504 (400 * k + ((q : Int) + j))), w, h) := fun j j0 j1 => E_cell (by omega) hW hH e50 k0 (by omega)
  have m : ∀ j : Int, 0 ≤ j → j < 12 → mI ((q : Int) + j) = (q : Int) + j := fun j j0 j1 => mI_id (by omega) (by omega)
  have c0' := cel 0 (by decide) (by decide)
  rw [Int.add_zero] at c0'
  have shb : -6000 ≤ shO L u v ∧ shO L u v ≤ 6000 := by unfold shO; split <;> omega
  have fin : ∀ h' : mm_H, (∀ b : Int, b ≠ 484 → b ≠ 489 → h' b = h b) → h' 483 48 = u ∧ h' 483 49 = v ∧ (∀ b : Int, b ≠ 483 → b ≠ 484 → b ≠ 489 → h' b = h b) ∧ ∀ i : Int, i ≠ 48 → i ≠ 49 → h' 483 i = h 483 i := fun h' e => by
    have e3 := e 483 (by decide) (by decide)
    exact ⟨by rw [e3]; exact e48, by rw [e3]; exact e49, fun b _ x y => e b x y, fun i _ _ => by rw [e3]⟩
  have b1 := bd 1; have b2 := bd 2; have b3 := bd 3; have b4 := bd 4; have b5 := bd 5; have b6 := bd 6; have b7 := bd 7; have b8 := bd 8
  obtain ⟨X, Lt, rfl⟩ : ∃ X Lt, L = X :: Lt := by
    cases L with
    | nil => exact absurd l2 (by show ¬ 0 = _ + 1; omega)
    | cons X Lt => exact ⟨X, Lt, rfl⟩
  have gX : (X :: Lt).getD 0 0 = X := rfl
  have nu : X ≠ 8 → lpU (X :: Lt) u = u ∧ lpV (X :: Lt) v = v := fun c => ⟨if_neg c, if_neg c⟩
  have gt : ∀ j : Nat, (X :: Lt).getD (j + 1) 0 = Lt.getD j 0 := fun _ => rfl
  rw [gX] at l1 l2 hS
  have hS : ∀ i : Nat, i < (rfH X.toNat ++ Lt).length → h 504 (400 * k + ((q : Int) + (i : Int))) = (rfH X.toNat ++ Lt).getD i 0 := hS
  have ll : Lt.length = lnL X := by have : (X :: Lt).length = Lt.length + 1 := rfl; omega
  -- the two ways to the places' shift
  have two : ∀ Y : Int, h 504 (400 * k + ((q : Int) + 1)) = Y → mm_P (d + 1) 333 [(2, 483), (0, (q : Int))] w h = dK (mm_P d) 483 (q : Int) Y (h 504 (400 * k + ((q : Int) + 2))) (h 504 (400 * k + ((q : Int) + 3))) (if Y = 0 then u else v) w h := fun Y hY => by
    rw [P_M_does2, mF_t hw, m 1 (by decide) (by decide), cel 1 (by decide) (by decide), mC_s, mF_t hw, m 2 (by decide) (by decide), cel 2 (by decide) (by decide), mC_s, mF_t hw, m 3 (by decide) (by decide), cel 3 (by decide) (by decide), mC_s, hY, e48, e49]
    by_cases c : Y = 0
    · rw [mEq_t c, mF_t hw, if_pos c]
    · rw [mEq_f c, mF_t hw, if_neg c]
  unfold lpO lpF
  rw [gX]
  by_cases c0 : X = 0
  · subst c0
    have lt : Lt.length = 6 := ll
    have vv : ∀ i : Nat, i < 7 → h 504 (400 * k + ((q : Int) + (i : Int))) = (1 :: Lt).getD i 0 := fun i hi => hS i (by show i < (1 :: Lt).length; rw [List.length_cons]; omega)
    have v0 : h 504 (400 * k + ((q : Int) + 0)) = 1 := vv 0 (by decide)
    rw [Int.add_zero] at v0
    have v1 : h 504 (400 * k + ((q : Int) + 1)) = (0 :: Lt).getD 1 0 := vv 1 (by decide)
    have v2 : h 504 (400 * k + ((q : Int) + 2)) = (0 :: Lt).getD 2 0 := vv 2 (by decide)
    have v3 : h 504 (400 * k + ((q : Int) + 3)) = (0 :: Lt).getD 3 0 := vv 3 (by decide)
    have v4 : h 504 (400 * k + ((q : Int) + 4)) = (0 :: Lt).getD 4 0 := vv 4 (by decide)
    have v5 : h 504 (400 * k + ((q : Int) + 5)) = (0 :: Lt).getD 5 0 := vv 5 (by decide)
    have v6 : h 504 (400 * k + ((q : Int) + 6)) = (0 :: Lt).getD 6 0 := vv 6 (by decide)
    rw [if_pos rfl, if_pos rfl, (nu (by decide)).1, (nu (by decide)).2, two _ v1]
    unfold dK
    rw [mF_t hw, c0', mC_s, v0, mEq_t rfl, mF_t hw, mF_t hw, m 4 (by decide) (by decide), cel 4 (by decide) (by decide), mC_s, mF_t hw, mF_t hw, m 5 (by decide) (by decide), cel 5 (by decide) (by decide), mC_s, mF_t hw, mF_t hw, m 6 (by decide) (by decide), cel 6 (by decide) (by decide), mC_s, mF_t hw, mF_t hw, e48, e49, v2, v3, v4, v5, v6, mI_id (x := (0 :: Lt).getD 3 0 + u) (by omega) (by omega), mI_id (x := (0 :: Lt).getD 4 0 + v) (by omega) (by omega), mI_id (x := (0 :: Lt).getD 5 0 + u) (by omega) (by omega), mI_id (x := (0 :: Lt).getD 6 0 + v) (by omega) (by omega)]
    rcases E_M_doPaint (d := d) (by omega) hW hH hI hR ((0 :: Lt).getD 1 0) ((0 :: Lt).getD 2 0) ((0 :: Lt).getD 3 0 + u) ((0 :: Lt).getD 4 0 + v) ((0 :: Lt).getD 5 0 + u) ((0 :: Lt).getD 6 0 + v) with ⟨z, h2, g1, g2, g3⟩ | ⟨z, g1⟩
    · rw [g1, mC_s]
      exact Or.inl ⟨z, h2, 1, rfl, by decide, g2, fin h2 (fun b x _ => g3 b x)⟩
    · rw [g1, mC_s]
      exact Or.inr ⟨z, -2, rfl, by decide⟩
  rw [if_neg c0, if_neg c0]
  have lines : ∀ y : Int, (y = 0 ∨ y = 1) → (∀ i : Nat, i < 6 → h 504 (400 * k + ((q : Int) + (i : Int))) = (2 :: y :: Lt).getD i 0) → ∀ z : Int, z = (if y = 0 then u else v) → (okLn s y ((X :: Lt).getD 1 0) ((X :: Lt).getD 2 0) ((X :: Lt).getD 3 0 + z) ((X :: Lt).getD 4 0 + z) ∧ ∃ (h' : mm_H) (x : Int), mm_P (d + 1) 333 [(2, 483), (0, (q : Int))] w h = some ((0, x), w, h') ∧ 0 ≤ x ∧ RM (h' 484) (F_lines s y ((X :: Lt).getD 1 0) ((X :: Lt).getD 2 0) ((X :: Lt).getD 3 0 + z) ((X :: Lt).getD 4 0 + z)) ∧ h' 483 48 = u ∧ h' 483 49 = v ∧ (∀ b : Int, b ≠ 483 → b ≠ 484 → b ≠ 489 → h' b = h b) ∧ ∀ i : Int, i ≠ 48 → i ≠ 49 → h' 483 i = h 483 i) ∨ (¬ okLn s y ((X :: Lt).getD 1 0) ((X :: Lt).getD 2 0) ((X :: Lt).getD 3 0 + z) ((X :: Lt).getD 4 0 + z) ∧ ∃ x : Int, mm_P (d + 1) 333 [(2, 483), (0, (q : Int))] w h = some ((0, x), w, h) ∧ x < 0) := fun y hy vv z hz => by
    have v0 : h 504 (400 * k + ((q : Int) + 0)) = 2 := vv 0 (by decide)
    rw [Int.add_zero] at v0
    have v1 : h 504 (400 * k + ((q : Int) + 1)) = y := vv 1 (by decide)
    have v2 : h 504 (400 * k + ((q : Int) + 2)) = (X :: Lt).getD 1 0 := vv 2 (by decide)
    have v3 : h 504 (400 * k + ((q : Int) + 3)) = (X :: Lt).getD 2 0 := vv 3 (by decide)
    have v4 : h 504 (400 * k + ((q : Int) + 4)) = (X :: Lt).getD 3 0 := vv 4 (by decide)
    have v5 : h 504 (400 * k + ((q : Int) + 5)) = (X :: Lt).getD 4 0 := vv 5 (by decide)
    have zb : -6000 ≤ z ∧ z ≤ 6000 := by rw [hz]; split <;> omega
    rw [two _ v1, ← hz]
    unfold dK
    rw [mF_t hw, c0', mC_s, v0, mEq_f (by decide), mEq_t rfl, mF_t hw, m 4 (by decide) (by decide), cel 4 (by decide) (by decide), mC_s, mF_t hw, m 5 (by decide) (by decide), cel 5 (by decide) (by decide), mC_s, mF_t hw, v2, v3, v4, v5, mI_id (x := (X :: Lt).getD 3 0 + z) (by omega) (by omega), mI_id (x := (X :: Lt).getD 4 0 + z) (by omega) (by omega)]
    rcases E_M_doLines (d := d) (by omega) hW hH hI hR y ((X :: Lt).getD 1 0) ((X :: Lt).getD 2 0) ((X :: Lt).getD 3 0 + z) ((X :: Lt).getD 4 0 + z) with ⟨o, h2, g1, g2, g3⟩ | ⟨o, g1⟩
    · rw [g1, mC_s]
      exact Or.inl ⟨o, h2, 1, rfl, by decide, g2, fin h2 (fun b x _ => g3 b x)⟩
    · rw [g1, mC_s]
      exact Or.inr ⟨o, -2, rfl, by decide⟩
  by_cases c1 : X = 1
  · subst c1
    have lt : Lt.length = 4 := ll
    rw [if_pos rfl, if_pos rfl, (nu (by decide)).1, (nu (by decide)).2]
    exact lines 0 (Or.inl rfl) (fun i hi => hS i (by show i < (2 :: 0 :: Lt).length; rw [List.length_cons, List.length_cons]; omega)) u rfl
  rw [if_neg c1, if_neg c1]
  by_cases c2 : X = 2
  · subst c2
    have lt : Lt.length = 4 := ll
    rw [if_pos rfl, if_pos rfl, (nu (by decide)).1, (nu (by decide)).2]
    exact lines 1 (Or.inr rfl) (fun i hi => hS i (by show i < (2 :: 1 :: Lt).length; rw [List.length_cons, List.length_cons]; omega)) v rfl
  rw [if_neg c2, if_neg c2]
  clear lines
  by_cases c3 : X = 3
  · subst c3
    have lt : Lt.length = 3 := ll
    have vv : ∀ i : Nat, i < 4 → h 504 (400 * k + ((q : Int) + (i : Int))) = (3 :: Lt).getD i 0 := fun i hi => hS i (by show i < (3 :: Lt).length; rw [List.length_cons]; omega)
    have v0 : h 504 (400 * k + ((q : Int) + 0)) = 3 := vv 0 (by decide)
    rw [Int.add_zero] at v0
    have v1 : h 504 (400 * k + ((q : Int) + 1)) = (3 :: Lt).getD 1 0 := vv 1 (by decide)
    have v2 : h 504 (400 * k + ((q : Int) + 2)) = (3 :: Lt).getD 2 0 := vv 2 (by decide)
    have v3 : h 504 (400 * k + ((q : Int) + 3)) = (3 :: Lt).getD 3 0 := vv 3 (by decide)
    have es : (if (3 :: Lt).getD 1 0 = 0 then u else v) = shO (3 :: Lt) u v := rfl
    rw [if_pos rfl, if_pos rfl, (nu (by decide)).1, (nu (by decide)).2, two _ v1, es]
    unfold dK
    rw [mF_t hw, c0', mC_s, v0, mEq_f (by decide), mEq_f (by decide), mEq_t rfl, mF_t hw, v2, v3, mI_id (x := (3 :: Lt).getD 2 0 + shO (3 :: Lt) u v) (by omega) (by omega)]
    rcases E_M_doInsert (d := d) (by omega) hW hH hI hR ((3 :: Lt).getD 1 0) ((3 :: Lt).getD 2 0 + shO (3 :: Lt) u v) ((3 :: Lt).getD 3 0) (by omega) with ⟨z, g1⟩ | ⟨z, g1⟩ | ⟨z, h2, g1, g2, g3⟩
    · rw [g1, mC_s]
      exact Or.inr ⟨fun x => z x.1, -2, rfl, by decide⟩
    · rw [g1, mC_s]
      exact Or.inr ⟨fun x => by omega, -4, rfl, by decide⟩
    · have z1 : 1 ≤ (3 :: Lt).getD 3 0 := z.1.2.2.1
      have s16 : 0 ≤ aSz s ((3 :: Lt).getD 1 0) := by unfold aSz; split <;> omega
      rw [g1, mC_s]
      exact Or.inl ⟨z, h2, _, rfl, by omega, g2, fin h2 (fun b x _ => g3 b x)⟩
  rw [if_neg c3, if_neg c3]
  by_cases c4 : X = 4
  · subst c4
    have lt : Lt.length = 3 := ll
    have vv : ∀ i : Nat, i < 4 → h 504 (400 * k + ((q : Int) + (i : Int))) = (4 :: Lt).getD i 0 := fun i hi => hS i (by show i < (4 :: Lt).length; rw [List.length_cons]; omega)
    have v0 : h 504 (400 * k + ((q : Int) + 0)) = 4 := vv 0 (by decide)
    rw [Int.add_zero] at v0
    have v1 : h 504 (400 * k + ((q : Int) + 1)) = (4 :: Lt).getD 1 0 := vv 1 (by decide)
    have v2 : h 504 (400 * k + ((q : Int) + 2)) = (4 :: Lt).getD 2 0 := vv 2 (by decide)
    have v3 : h 504 (400 * k + ((q : Int) + 3)) = (4 :: Lt).getD 3 0 := vv 3 (by decide)
    have es : (if (4 :: Lt).getD 1 0 = 0 then u else v) = shO (4 :: Lt) u v := rfl
    rw [if_pos rfl, if_pos rfl, (nu (by decide)).1, (nu (by decide)).2, two _ v1, es]
    unfold dK
    rw [mF_t hw, c0', mC_s, v0, mEq_f (by decide), mEq_f (by decide), mEq_f (by decide), mEq_t rfl, mF_t hw, v2, v3, mI_id (x := (4 :: Lt).getD 2 0 + shO (4 :: Lt) u v) (by omega) (by omega), mI_id (x := (4 :: Lt).getD 3 0 + shO (4 :: Lt) u v) (by omega) (by omega)]
    rcases E_M_doRemove (d := d) (by omega) hW hH hI hR ((4 :: Lt).getD 1 0) ((4 :: Lt).getD 2 0 + shO (4 :: Lt) u v) ((4 :: Lt).getD 3 0 + shO (4 :: Lt) u v) with ⟨z, g1⟩ | ⟨z, g1⟩ | ⟨z, h2, g1, g2, g3⟩
    · rw [g1, mC_s]
      exact Or.inr ⟨fun x => z x.1, -2, rfl, by decide⟩
    · rw [g1, mC_s]
      refine Or.inr ⟨fun x => ?_, -3, rfl, by decide⟩
      have a1 := z.2
      have a2 := x.2
      omega
    · have zz := z.2
      rw [g1, mC_s]
      exact Or.inl ⟨z, h2, _, rfl, by omega, g2, fin h2 (fun b x _ => g3 b x)⟩
  rw [if_neg c4, if_neg c4]
  have copy : ∀ y : Int, (y = 0 ∨ y = 1) → (∀ i : Nat, i < 10 → h 504 (400 * k + ((q : Int) + (i : Int))) = (5 :: y :: Lt).getD i 0) → (okCopyC s ((X :: Lt).getD 1 0 + u) ((X :: Lt).getD 2 0 + v) ((X :: Lt).getD 3 0 + u) ((X :: Lt).getD 4 0 + v) ((X :: Lt).getD 5 0 + u) ((X :: Lt).getD 6 0 + v) ((X :: Lt).getD 7 0 + u) ((X :: Lt).getD 8 0 + v) y ∧ ∃ (h' : mm_H) (x : Int), mm_P (d + 1) 333 [(2, 483), (0, (q : Int))] w h = some ((0, x), w, h') ∧ 0 ≤ x ∧ RM (h' 484) (F_copyC s ((X :: Lt).getD 1 0 + u) ((X :: Lt).getD 2 0 + v) ((X :: Lt).getD 3 0 + u) ((X :: Lt).getD 4 0 + v) ((X :: Lt).getD 5 0 + u) ((X :: Lt).getD 6 0 + v) ((X :: Lt).getD 7 0 + u) ((X :: Lt).getD 8 0 + v) y) ∧ h' 483 48 = u ∧ h' 483 49 = v ∧ (∀ b : Int, b ≠ 483 → b ≠ 484 → b ≠ 489 → h' b = h b) ∧ ∀ i : Int, i ≠ 48 → i ≠ 49 → h' 483 i = h 483 i) ∨ (¬ okCopyC s ((X :: Lt).getD 1 0 + u) ((X :: Lt).getD 2 0 + v) ((X :: Lt).getD 3 0 + u) ((X :: Lt).getD 4 0 + v) ((X :: Lt).getD 5 0 + u) ((X :: Lt).getD 6 0 + v) ((X :: Lt).getD 7 0 + u) ((X :: Lt).getD 8 0 + v) y ∧ ∃ x : Int, mm_P (d + 1) 333 [(2, 483), (0, (q : Int))] w h = some ((0, x), w, h) ∧ x < 0) := fun y hy vv => by
    have v0 : h 504 (400 * k + ((q : Int) + 0)) = 5 := vv 0 (by decide)
    rw [Int.add_zero] at v0
    have v1 : h 504 (400 * k + ((q : Int) + 1)) = y := vv 1 (by decide)
    have v2 : h 504 (400 * k + ((q : Int) + 2)) = (X :: Lt).getD 1 0 := vv 2 (by decide)
    have v3 : h 504 (400 * k + ((q : Int) + 3)) = (X :: Lt).getD 2 0 := vv 3 (by decide)
    have v4 : h 504 (400 * k + ((q : Int) + 4)) = (X :: Lt).getD 3 0 := vv 4 (by decide)
    have v5 : h 504 (400 * k + ((q : Int) + 5)) = (X :: Lt).getD 4 0 := vv 5 (by decide)
    have v6 : h 504 (400 * k + ((q : Int) + 6)) = (X :: Lt).getD 5 0 := vv 6 (by decide)
    have v7 : h 504 (400 * k + ((q : Int) + 7)) = (X :: Lt).getD 6 0 := vv 7 (by decide)
    have v8 : h 504 (400 * k + ((q : Int) + 8)) = (X :: Lt).getD 7 0 := vv 8 (by decide)
    have v9 : h 504 (400 * k + ((q : Int) + 9)) = (X :: Lt).getD 8 0 := vv 9 (by decide)
    rw [two _ v1]
    unfold dK
    rw [mF_t hw, c0', mC_s, v0, mEq_f (by decide), mEq_f (by decide), mEq_f (by decide), mEq_f (by decide), mEq_t rfl]
    simp only [mF_t hw]
    rw [m 4 (by decide) (by decide), cel 4 (by decide) (by decide), mC_s]
    simp only [mF_t hw]
    rw [m 5 (by decide) (by decide), cel 5 (by decide) (by decide), mC_s]
    simp only [mF_t hw]
    rw [m 6 (by decide) (by decide), cel 6 (by decide) (by decide), mC_s]
    simp only [mF_t hw]
    rw [m 7 (by decide) (by decide), cel 7 (by decide) (by decide), mC_s]
    simp only [mF_t hw]
    rw [m 8 (by decide) (by decide), cel 8 (by decide) (by decide), mC_s]
    simp only [mF_t hw]
    rw [m 9 (by decide) (by decide), cel 9 (by decide) (by decide), mC_s]
    simp only [mF_t hw]
    rw [e48, e49, v2, v3, v4, v5, v6, v7, v8, v9, mI_id (x := (X :: Lt).getD 1 0 + u) (by omega) (by omega), mI_id (x := (X :: Lt).getD 2 0 + v) (by omega) (by omega), mI_id (x := (X :: Lt).getD 3 0 + u) (by omega) (by omega), mI_id (x := (X :: Lt).getD 4 0 + v) (by omega) (by omega), mI_id (x := (X :: Lt).getD 5 0 + u) (by omega) (by omega), mI_id (x := (X :: Lt).getD 6 0 + v) (by omega) (by omega), mI_id (x := (X :: Lt).getD 7 0 + u) (by omega) (by omega), mI_id (x := (X :: Lt).getD 8 0 + v) (by omega) (by omega)]
    rcases E_M_doCopy (d := d) (by omega) hW hH hI hR ((X :: Lt).getD 1 0 + u) ((X :: Lt).getD 2 0 + v) ((X :: Lt).getD 3 0 + u) ((X :: Lt).getD 4 0 + v) ((X :: Lt).getD 5 0 + u) ((X :: Lt).getD 6 0 + v) ((X :: Lt).getD 7 0 + u) ((X :: Lt).getD 8 0 + v) y with ⟨o, h2, g1, g2, g3⟩ | ⟨o, g1⟩
    · rw [g1, mC_s]
      exact Or.inl ⟨o, h2, 1, rfl, by decide, g2, fin h2 g3⟩
    · rw [g1, mC_s]
      exact Or.inr ⟨o, -2, rfl, by decide⟩
  by_cases c5 : X = 5
  · subst c5
    have lt : Lt.length = 8 := ll
    rw [if_pos rfl, if_pos rfl, (nu (by decide)).1, (nu (by decide)).2]
    exact copy 0 (Or.inl rfl) (fun i hi => hS i (by show i < (5 :: 0 :: Lt).length; rw [List.length_cons, List.length_cons]; omega))
  rw [if_neg c5, if_neg c5]
  by_cases c6 : X = 6
  · subst c6
    have lt : Lt.length = 8 := ll
    rw [if_pos rfl, if_pos rfl, (nu (by decide)).1, (nu (by decide)).2]
    exact copy 1 (Or.inr rfl) (fun i hi => hS i (by show i < (5 :: 1 :: Lt).length; rw [List.length_cons, List.length_cons]; omega))
  rw [if_neg c6, if_neg c6]
  clear copy
  by_cases c7 : X = 7
  · subst c7
    have lt : Lt.length = 1 := ll
    have vv : ∀ i : Nat, i < 2 → h 504 (400 * k + ((q : Int) + (i : Int))) = (6 :: Lt).getD i 0 := fun i hi => hS i (by show i < (6 :: Lt).length; rw [List.length_cons]; omega)
    have v0 : h 504 (400 * k + ((q : Int) + 0)) = 6 := vv 0 (by decide)
    rw [Int.add_zero] at v0
    have v1 : h 504 (400 * k + ((q : Int) + 1)) = (7 :: Lt).getD 1 0 := vv 1 (by decide)
    rw [if_pos rfl, if_pos rfl, (nu (by decide)).1, (nu (by decide)).2, two _ v1]
    unfold dK
    rw [mF_t hw, c0', mC_s, v0, mEq_f (by decide), mEq_f (by decide), mEq_f (by decide), mEq_f (by decide), mEq_f (by decide), mEq_t rfl, mF_t hw]
    rcases E_M_doTidy (d := d) (by omega) hW hH hI hR ((7 :: Lt).getD 1 0) with ⟨z, g1⟩ | ⟨z, h2, g1, g2, g3⟩
    · rw [g1, mC_s]
      exact Or.inr ⟨z, -2, rfl, by decide⟩
    · rw [g1, mC_s]
      exact Or.inl ⟨z, h2, _, rfl, (nNeed_le hI _).1, g2, fin h2 (fun b x _ => g3 b x)⟩
  have c8 : X = 8 := by omega
  subst c8
  have lt : Lt.length = 2 := ll
  have vv : ∀ i : Nat, i < 3 → h 504 (400 * k + ((q : Int) + (i : Int))) = (7 :: Lt).getD i 0 := fun i hi => hS i (by show i < (7 :: Lt).length; rw [List.length_cons]; omega)
  have v0 : h 504 (400 * k + ((q : Int) + 0)) = 7 := vv 0 (by decide)
  rw [Int.add_zero] at v0
  have v1 : h 504 (400 * k + ((q : Int) + 1)) = (8 :: Lt).getD 1 0 := vv 1 (by decide)
  have v2 : h 504 (400 * k + ((q : Int) + 2)) = (8 :: Lt).getD 2 0 := vv 2 (by decide)
  rw [if_neg c7, if_neg c7, two _ v1]
  unfold dK
  rw [mF_t hw, c0', mC_s, v0, mEq_f (by decide), mEq_f (by decide), mEq_f (by decide), mEq_f (by decide), mEq_f (by decide), mEq_f (by decide)]
  simp only [mF_t hw]
  rw [e48, mUp_n (Or.inr (by decide)), e49, v2, mI_id (x := u + (8 :: Lt).getD 1 0) (by omega) (by omega), mI_id (x := v + (8 :: Lt).getD 2 0) (by omega) (by omega)]
  have e : ∀ b : Int, b ≠ 483 → mUp (mUp h 483 48 (u + (8 :: Lt).getD 1 0)) 483 49 (v + (8 :: Lt).getD 2 0) b = h b := fun b hb => by rw [mUp_row hb, mUp_row hb]
  refine Or.inl ⟨trivial, _, 0, rfl, by decide, by rw [e 484 (by decide)]; exact hR, ?_, ?_, fun b x _ _ => e b x, fun i x y => by rw [mUp_n (Or.inr y), mUp_n (Or.inr x)]⟩
  · rw [mUp_n (Or.inr (by decide)), mUp_s]; rfl
  · rw [mUp_s]; rfl
end PU
