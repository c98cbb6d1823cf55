/-! PURE: what is true of the class between two calls. -/
/-- states, (requests that may be undone, done again), programs, the tape, shelves (sizes, shorts), the image -/
abbrev aG : Type := (Int → aS) × (Int × Int) × (Int × (Int → List (List Int))) × (Int × (Int → Int)) × ((Int → Int) × (Int → Int → Int)) × (Int × aS)
abbrev gH (A : aG) : Int → aS := A.1
abbrev gD (A : aG) : Int := A.2.1.1
abbrev gR (A : aG) : Int := A.2.1.2
abbrev gPn (A : aG) : Int := A.2.2.1.1
abbrev gP (A : aG) : Int → List (List Int) := A.2.2.1.2
abbrev gTn (A : aG) : Int := A.2.2.2.1.1
abbrev gT (A : aG) : Int → Int := A.2.2.2.1.2
abbrev gSz (A : aG) : Int → Int := A.2.2.2.2.1.1
abbrev gSh (A : aG) : Int → Int → Int := A.2.2.2.2.1.2
abbrev gIk (A : aG) : Int := A.2.2.2.2.2.1
abbrev gI (A : aG) : aS := A.2.2.2.2.2.2
/-- the sheet as it is -/
abbrev gNow (A : aG) : aS := gH A (gD A)
/-- the class's cells -/
def WK (w : mm_W) : Prop := (w.1 1 = (12, 17) ∧ w.1 2 = (4, 5) ∧ w.1 3 = (109, 31) ∧ w.1 420 = (3, 2) ∧ w.1 434 = (50, 16) ∧ w.1 435 = (8, 5) ∧ w.1 436 = (5, 11) ∧ w.1 437 = (50, 200)) ∧
  (w.1 438 = (11, 10) ∧ w.1 439 = (50, 256) ∧ w.1 440 = (50, 1024) ∧ w.1 441 = (50, 1024) ∧ w.1 442 = (50, 256) ∧ w.1 443 = (50, 313) ∧ w.1 444 = (50, 256)) ∧
  (w.1 445 = (11, 10) ∧ w.1 446 = (50, 256) ∧ w.1 447 = (50, 1024) ∧ w.1 448 = (50, 1024) ∧ w.1 449 = (50, 256) ∧ w.1 450 = (50, 313) ∧ w.1 451 = (50, 256)) ∧
  (w.1 452 = (2, 11) ∧ (∀ i : Int, 0 ≤ i → i < 7 → w.1 (453 + i) = (50, 256)) ∧ w.1 460 = (50, 306)) ∧
  TW w ∧ (w.1 463 = (1, 3) ∧ w.1 464 = (50, 600) ∧ w.1 465 = (6, 4) ∧ w.1 466 = (50, 1800) ∧ w.1 467 = (150, 4) ∧ w.1 468 = (51, 240) ∧ w.1 469 = (50, 4)) ∧
  (∀ k : Int, 0 ≤ k → k < 32 → ShW w (4 + 13 * k)) ∧ ShW w 421 ∧ ShW w 470 ∧ 506 ≤ w.2.1
/-- the String constants -/
def SW (w : mm_W) (h : mm_H) : Prop := StrAt w h (-10) sgs ∧ StrAt w h (-12) [111, 114] ∧ StrAt w h (-14) [97, 110, 100] ∧ StrAt w h (-16) [110, 111, 116] ∧
  StrAt w h (-18) [118, 97, 108, 117, 101, 32, 114, 111, 119, 32, 99, 111, 108, 117, 109, 110, 32, 108, 101, 102, 116, 32, 97, 98, 111, 118, 101, 32, 115, 117, 109, 32, 109, 111, 115, 116, 32, 108, 101, 97, 115, 116, 32, 108, 105, 107, 101, 32, 103, 114, 101, 97, 116, 101, 114] ∧
  StrAt w h (-20) [112, 97, 105, 110, 116, 32, 114, 111, 119, 115, 32, 99, 111, 108, 117, 109, 110, 115, 32, 105, 110, 115, 101, 114, 116, 32, 114, 101, 109, 111, 118, 101, 32, 99, 111, 112, 121, 32, 116, 117, 114, 110, 32, 116, 105, 100, 121, 32, 115, 104, 105, 102, 116, 32, 114, 101, 112, 101, 97, 116] ∧
  StrAt w h (-22) [102, 97, 99, 101, 32, 115, 105, 122, 101, 32, 105, 110, 107, 32, 102, 105, 108, 108] ∧ StrAt w h (-24) [110, 111, 110, 101] ∧
  StrAt w h (-26) [97, 32, 98, 32, 99, 32, 100, 32, 101, 32, 102, 32, 103, 32, 104, 32, 105, 32, 106, 32, 107, 32, 108, 32, 109, 32, 110, 32, 111, 32, 112] ∧
  StrAt w h (-28) [116, 111] ∧ StrAt w h (-30) [114, 111, 119, 115, 32, 99, 111, 108, 117, 109, 110, 115] ∧ StrAt w h (-32) [98, 121]
theorem SW_fr {w : mm_W} {h h' : mm_H} (hs : SW w h) (hf : ∀ b : Int, b < 0 → h' b = h b) : SW w h' := by
  obtain ⟨a1, a2, a3, a4, a5, a6, a7, a8, a9, a10, a11, a12⟩ := hs
  have g : ∀ {a : Int} {cs : List Int}, StrAt w h a cs → a < 0 → StrAt w h' a cs := fun x y => StrAt_fr x y hf
  exact ⟨g a1 (by decide), g a2 (by decide), g a3 (by decide), g a4 (by decide), g a5 (by decide), g a6 (by decide), g a7 (by decide), g a8 (by decide), g a9 (by decide), g a10 (by decide), g a11 (by decide), g a12 (by decide)⟩
/-- where its fields lead; all of its sheets have their rows -/
def HK (h : mm_H) : Prop := (h 1 0 = 2 ∧ h 1 1 = 420 ∧ h 1 2 = 435 ∧ h 1 3 = 436 ∧ h 1 4 = 438 ∧ h 1 5 = 445 ∧ h 1 6 = 452 ∧ h 1 7 = 461 ∧ h 1 8 = 463 ∧ h 1 9 = 465 ∧ h 1 10 = 467 ∧ h 1 11 = 468 ∧ h 1 12 = 469 ∧ h 1 13 = 470) ∧
  (h 2 0 = 3 ∧ h 2 1 = 4 ∧ ∀ k : Int, 0 ≤ k → k < 31 → h 3 k = 17 + 13 * k) ∧ (h 420 0 = 421 ∧ h 420 1 = 434 ∧ h 435 0 = 420 ∧ h 436 0 = 437) ∧
  ((∀ i : Int, 0 ≤ i → i < 6 → h 438 i = 439 + i) ∧ (∀ i : Int, 0 ≤ i → i < 6 → h 445 i = 446 + i) ∧ (∀ i : Int, 0 ≤ i → i < 8 → h 452 i = 453 + i)) ∧
  (h 461 0 = 462 ∧ h 463 0 = 461 ∧ h 463 1 = 464 ∧ h 465 0 = 461 ∧ h 465 1 = 466) ∧
  (∀ k : Int, 0 ≤ k → k < 32 → ShH h (4 + 13 * k)) ∧ ShH h 421 ∧ ShH h 470
/-- the slots that HK speaks of, but for the sheets' -/
def kSl (b i : Int) : Prop := (b = 1 ∧ i < 14) ∨ (b = 2 ∧ i < 2) ∨ b = 3 ∨ b = 420 ∨ (b = 435 ∧ i = 0) ∨ (b = 436 ∧ i = 0) ∨ (b = 438 ∧ i < 6) ∨ (b = 445 ∧ i < 6) ∨ (b = 452 ∧ i < 8) ∨ (b = 461 ∧ i = 0) ∨ (b = 463 ∧ i < 2) ∨ (b = 465 ∧ i < 2)
theorem HK_fr {h h' : mm_H} (hK : HK h) (hf : ∀ b i : Int, kSl b i → h' b i = h b i) (h1 : ∀ k : Int, 0 ≤ k → k < 32 → ShH h' (4 + 13 * k)) (h2 : ShH h' 421) (h3 : ShH h' 470) : HK h' := by
  obtain ⟨k1, k2, k3, k4, k5, -⟩ := hK
  unfold kSl at hf
  refine ⟨?_, ⟨?_, ?_, fun k a b => ?_⟩, ?_, ⟨fun i a b => ?_, fun i a b => ?_, fun i a b => ?_⟩, ?_, h1, h2, h3⟩
  · refine ⟨?_, ?_, ?_, ?_, ?_, ?_, ?_, ?_, ?_, ?_, ?_, ?_, ?_, ?_⟩ <;> (rw [hf _ _ (by omega)]; simp only [k1])
  · rw [hf _ _ (by omega)]; exact k2.1
  · rw [hf _ _ (by omega)]; exact k2.2.1
  · rw [hf _ _ (by omega)]; exact k2.2.2 k a b
  · refine ⟨?_, ?_, ?_, ?_⟩ <;> (rw [hf _ _ (by omega)]; simp only [k3])
  · rw [hf _ _ (by omega)]; exact k4.1 i a b
  · rw [hf _ _ (by omega)]; exact k4.2.1 i a b
  · rw [hf _ _ (by omega)]; exact k4.2.2 i a b
  · refine ⟨?_, ?_, ?_, ?_, ?_⟩ <;> (rw [hf _ _ (by omega)]; simp only [k5])
/-- where the state k lies -/
def gAt (base k : Int) : Int := 17 + 13 * ((base + k) % 31)
/-- the history -/
def cHist (w : mm_W) (h : mm_H) (A : aG) : Prop := (0 ≤ h 2 2 ∧ h 2 2 < 31) ∧ h 2 3 = gD A ∧ h 2 4 = gR A ∧ (0 ≤ gD A ∧ 0 ≤ gR A ∧ gD A + gR A ≤ 30) ∧ ∀ k : Int, 0 ≤ k → k ≤ gD A + gR A → RC w h (gAt (h 2 2) k) (gH A k) ∧ aI (gH A k)
theorem gAt_in {base k : Int} : 17 ≤ gAt base k ∧ gAt base k + 13 ≤ 420 := by unfold gAt; omega
theorem gAt_sh {base k : Int} : ∃ q : Int, 0 ≤ q ∧ q < 32 ∧ gAt base k = 4 + 13 * q := ⟨(base + k) % 31 + 1, by omega, by omega, by unfold gAt; omega⟩
theorem gAt_ne {base k j : Int} (h0 : 0 ≤ base ∧ base < 31) (hk : 0 ≤ k ∧ k ≤ 30) (hj : 0 ≤ j ∧ j ≤ 30) (hne : k ≠ j) : gAt base k + 13 ≤ gAt base j ∨ gAt base j + 13 ≤ gAt base k := by unfold gAt; omega
section PU
variable {d : Nat} {w : mm_W} {h : mm_H} {A : aG}
theorem WK_sh (hW : WK w) {base k : Int} : ShW w (gAt base k) := by
  obtain ⟨q, a, b, e⟩ := gAt_sh (base := base) (k := k)
  rw [e]
  exact hW.2.2.2.2.2.2.1 q a b
theorem HK_sh (hH : HK h) {base k : Int} : ShH h (gAt base k) := by
  obtain ⟨q, a, b, e⟩ := gAt_sh (base := base) (k := k)
  rw [e]
  exact hH.2.2.2.2.2.1 q a b
theorem E_floorMod (hd : 1 ≤ d) {a : Int} (ha : 0 ≤ a) (ha2 : a < 1000) : mm_P d 340 [(0, a), (0, 31)] w h = some ((0, a % 31), w, h) := by
  obtain ⟨d, rfl, hd2⟩ := mm_dS hd; clear hd; have hd := hd2; clear hd2
  have hx : 0 ≤ mXor a 31 := by
    obtain ⟨n, rfl⟩ : ∃ n : Nat, a = n := ⟨a.toNat, by omega⟩
    have := (by decide +kernel : ∀ n : Nat, n < 1000 → 0 ≤ mXor (n : Int) 31)
    exact this n (by omega)
  rw [P_Mth_floorMod, mD_t (by decide)]
  try dsimp only
  rw [mLe_t hx, Int.tmod_eq_emod_of_nonneg ha]
theorem E_stateAt (hd : 2 ≤ d) (hW : WK w) (hH : HK h) {k : Int} (h0 : 0 ≤ h 2 2 ∧ h 2 2 < 31) (k0 : 0 ≤ k) (k1 : k < 31) : mm_P d 45 [(2, 2), (0, k)] w h = some ((2, gAt (h 2 2) k), w, h) := by
  obtain ⟨d, rfl, hd2⟩ := mm_dS hd; clear hd; have hd := hd2; clear hd2
  have hw : (w.1 2).1 = 4 := by rw [hW.1.2.1]
  have h3 := hW.1.2.2.1
  rw [P_Hi_stateAt, mF_t hw, mI_id (by omega) (by omega), E_floorMod hd (by omega) (by omega), mC_s, mLt_f (by omega), mF_t hw, hH.2.1.1, mN_t h3 (by decide), h3, mLe_f (show (h 2 2 + k) % 31 < 31 by omega), mF_t hw, mAr_t h3 (by decide) (by omega) (by omega)]
  try dsimp only
  rw [hH.2.1.2.2 _ (by omega) (by omega), mEq_f (by omega)]
  rfl
theorem E_now (hd : 3 ≤ d) (hW : WK w) (hH : HK h) (hc : cHist w h A) : mm_P d 189 [(2, 1)] w h = some ((2, gAt (h 2 2) (gD A)), w, h) := by
  obtain ⟨d, rfl, hd2⟩ := mm_dS hd; clear hd; have hd := hd2; clear hd2
  have hw : (w.1 1).1 = 12 := by rw [hW.1.1]
  have h2 : (w.1 2).1 = 4 := by rw [hW.1.2.1]
  obtain ⟨c1, c2, c3, c4, c5⟩ := hc
  rw [P_F_now]
  simp only [mF_t hw, hH.1.1, mF_t h2]
  rw [c2, E_stateAt hd hW hH c1 (by omega) (by omega), mC_s]
/-- the draft becomes the sheet as it is -/
theorem E_draftOfNow (hd : 4 ≤ d) (hW : WK w) (hH : HK h) (hc : cHist w h A) : ∃ h', mm_P d 46 [(2, 2)] w h = some ((2, 4), w, h') ∧ RC w h' 4 (gNow A) ∧ ∀ b : Int, ¬ (4 ≤ b ∧ b < 17) → h' b = h b := by
  obtain ⟨d, rfl, hd2⟩ := mm_dS hd; clear hd; have hd := hd2; clear hd2
  have h2 : (w.1 2).1 = 4 := by rw [hW.1.2.1]
  obtain ⟨c1, c2, c3, c4, c5⟩ := hc
  have hS4 : ShW w 4 := hW.2.2.2.2.2.2.1 0 (by decide) (by decide)
  have hH4 : ShH h 4 := hH.2.2.2.2.2.1 0 (by decide) (by decide)
  have hin := gAt_in (base := h 2 2) (k := gD A)
  obtain ⟨r1, r2⟩ := c5 (gD A) (by omega) (by omega)
  rw [P_Hi_draftOfNow]
  simp only [mF_t h2]
  rw [c2, E_stateAt (by omega) hW hH c1 (by omega) (by omega), mC_s, hH.2.1.2.1, mF_t (by rw [hS4.2.1])]
  obtain ⟨h', g1, g2, g3⟩ := E_become hd hS4 (WK_sh hW) (by omega) (by decide) r2 r1 hH4
  rw [g1, mC_s, mF_t h2]
  refine ⟨h', ?_, g2, g3⟩
  rw [g3 2 (by omega), hH.2.1.2.1]
/-- a request is told -/
def gAcc (A : aG) (s : aS) : aG := (if gD A < 30 then (fun k => if k ≤ gD A then gH A k else s) else (fun k => if k < 30 then gH A (k + 1) else s), (if gD A < 30 then gD A + 1 else gD A, 0), A.2.2)
theorem E_acceptDraft (hd : 4 ≤ d) (hW : WK w) (hH : HK h) (hc : cHist w h A) {s : aS} (hR : RC w h 4 s) (hI : aI s) : ∃ h', mm_P d 47 [(2, 2)] w h = some ((9, 0), w, h') ∧ cHist w h' (gAcc A s) ∧ (∀ b : Int, ¬ (b = 2 ∨ (17 ≤ b ∧ b < 420)) → h' b = h b) ∧ (∀ i : Int, i < 2 → h' 2 i = h 2 i) ∧ ∀ k : Int, 0 ≤ k → k < 32 → ShH h' (4 + 13 * k) := by
  obtain ⟨d, rfl, hd2⟩ := mm_dS hd; clear hd; have hd := hd2; clear hd2
  have h2 : (w.1 2).1 = 4 := by rw [hW.1.2.1]
  obtain ⟨c1, c2, c3, c4, c5⟩ := hc
  have hS4 : ShW w 4 := hW.2.2.2.2.2.2.1 0 (by decide) (by decide)
  rw [P_Hi_acceptDraft, mF_t h2, c2]
  -- the two ways end alike
  have key : ∀ (hx : mm_H) (bs dn : Int), (∀ b : Int, b ≠ 2 → hx b = h b) → (∀ i : Int, i < 2 → hx 2 i = h 2 i) → hx 2 2 = bs → hx 2 3 = dn → hx 2 4 = 0 → (0 ≤ bs ∧ bs < 31) → (0 ≤ dn ∧ dn ≤ 30) → ∃ h', mm_P d 86 [(2, gAt bs dn), (2, 4)] w hx = some ((9, 0), w, h') ∧ RC w h' (gAt bs dn) s ∧ (∀ b : Int, ¬ (gAt bs dn ≤ b ∧ b < gAt bs dn + 13) → h' b = hx b) ∧ HK hx ∧ CS w w h h' := by
    intro hx bs dn e1 e2 e3 e4 e5 e6 e7
    have hin := gAt_in (base := bs) (k := dn)
    have hfr : ∀ S : Int, 3 ≤ S → ShH h S → ShH hx S := fun S z q => ShH_fr q (fun i _ _ => by rw [e1 S (by omega)]) (e1 _ (by omega))
    have hHx : HK hx := HK_fr hH (fun b i hb => by
      by_cases hb2 : b = 2
      · subst hb2
        exact e2 i (by unfold kSl at hb; omega)
      · rw [e1 b hb2]) (fun k a b => hfr _ (by omega) (hH.2.2.2.2.2.1 k a b)) (hfr _ (by decide) hH.2.2.2.2.2.2.1) (hfr _ (by decide) hH.2.2.2.2.2.2.2)
    have hRx : RC w hx 4 s := RC_fr hR hI ⟨Int.le_refl _, fun a a0 _ => ⟨rfl, e1 a (by omega)⟩⟩ (fun b b0 b1 => e1 b (by omega))
    obtain ⟨h', g1, g2, g3⟩ := E_become hd (WK_sh hW (base := bs) (k := dn)) hS4 (by omega) (by omega) hI hRx (HK_sh hHx)
    exact ⟨h', g1, g2, g3, hHx, Int.le_refl _, fun a a0 _ => ⟨rfl, by rw [g3 a (by omega), e1 a (by omega)]⟩⟩
  by_cases c : gD A < 30
  · rw [mLe_f c, mF_t h2, mF_t h2]
    try dsimp only
    simp only [mF_t h2]
    rw [mI_id (by omega) (by omega)]
    generalize hg : mUp (mUp h 2 3 (gD A + 1)) 2 4 0 = hx
    have e1 : ∀ b : Int, b ≠ 2 → hx b = h b := fun b hb => by rw [← hg, mUp_row hb, mUp_row hb]
    have e2 : ∀ i : Int, i < 3 → hx 2 i = h 2 i := fun i hi => by rw [← hg, mUp_n (Or.inr (by omega)), mUp_n (Or.inr (by omega))]
    have e3 : hx 2 3 = gD A + 1 := by rw [← hg, mUp_n (Or.inr (by decide))]; exact mUp_s
    have e4 : hx 2 4 = 0 := by rw [← hg]; exact mUp_s
    obtain ⟨h', g1, g2, g3, g4, g5⟩ := key hx (h 2 2) (gD A + 1) e1 (fun i hi => e2 i (by omega)) (e2 2 (by decide)) e3 e4 c1 (by omega)
    have hin := gAt_in (base := h 2 2) (k := gD A + 1)
    rw [e3, E_stateAt (by omega) hW g4 (by rw [e2 2 (by decide)]; exact c1) (by omega) (by omega), mC_s, e2 2 (by decide), mF_t h2, mF_t (by rw [(WK_sh hW).2.1]), g4.2.1.2.1, g1, mC_s]
    have z2 : h' 2 = hx 2 := g3 2 (by omega)
    refine ⟨h', rfl, ⟨by rw [z2, e2 2 (by decide)]; exact c1, ?_, ?_, ?_, ?_⟩, fun b hb => by rw [g3 b (by omega), e1 b (by omega)], fun i hi => by rw [z2, e2 i (by omega)], fun k k0 k1 => ?_⟩
    · rw [z2, e3]; show _ = (if gD A < 30 then gD A + 1 else gD A); rw [if_pos c]
    · rw [z2, e4]; rfl
    · show 0 ≤ (if gD A < 30 then gD A + 1 else gD A) ∧ (0 : Int) ≤ 0 ∧ (if gD A < 30 then gD A + 1 else gD A) + 0 ≤ 30
      rw [if_pos c]; omega
    · intro k k0 k1
      have k1 : k ≤ (if gD A < 30 then gD A + 1 else gD A) + 0 := k1
      rw [if_pos c] at k1
      rw [z2, e2 2 (by decide)]
      show RC w h' (gAt (h 2 2) k) ((if gD A < 30 then (fun k => if k ≤ gD A then gH A k else s) else (fun k => if k < 30 then gH A (k + 1) else s)) k) ∧ aI ((if gD A < 30 then (fun k => if k ≤ gD A then gH A k else s) else (fun k => if k < 30 then gH A (k + 1) else s)) k)
      rw [if_pos c]
      try dsimp only
      by_cases ck : k ≤ gD A
      · rw [if_pos ck]
        obtain ⟨q1, q2⟩ := c5 k k0 (by omega)
        refine ⟨RC_fr q1 q2 g5 (fun b b0 b1 => ?_), q2⟩
        have := gAt_ne c1 (k := k) (j := gD A + 1) (by omega) (by omega) (by omega)
        have := gAt_in (base := h 2 2) (k := k)
        rw [g3 b (by omega), e1 b (by omega)]
      · rw [if_neg ck, show k = gD A + 1 by omega]
        exact ⟨g2, hI⟩
    · by_cases hk : 4 + 13 * k = gAt (h 2 2) (gD A + 1)
      · rw [hk]; exact g2.1
      · have : 4 + 13 * k + 13 ≤ gAt (h 2 2) (gD A + 1) ∨ gAt (h 2 2) (gD A + 1) + 13 ≤ 4 + 13 * k := by unfold gAt at hk ⊢; omega
        exact ShH_fr (g4.2.2.2.2.2.1 k k0 k1) (fun i _ _ => by rw [g3 _ (by omega)]) (g3 _ (by omega))
  · have hD : gD A = 30 := by omega
    rw [mLe_t (by omega), mF_t h2, mD_t (by decide), mF_t h2, mF_t h2]
    try dsimp only
    simp only [mF_t h2]
    rw [mI_id (by omega) (by omega), Int.tmod_eq_emod_of_nonneg (by omega)]
    generalize hg : mUp (mUp h 2 2 ((h 2 2 + 1) % 31)) 2 4 0 = hx
    have e1 : ∀ b : Int, b ≠ 2 → hx b = h b := fun b hb => by rw [← hg, mUp_row hb, mUp_row hb]
    have e2 : ∀ i : Int, i < 2 → hx 2 i = h 2 i := fun i hi => by rw [← hg, mUp_n (Or.inr (by omega)), mUp_n (Or.inr (by omega))]
    have e2' : hx 2 2 = (h 2 2 + 1) % 31 := by rw [← hg, mUp_n (Or.inr (by decide))]; exact mUp_s
    have e3 : hx 2 3 = gD A := by rw [← hg, mUp_n (Or.inr (by decide)), mUp_n (Or.inr (by decide))]; exact c2
    have e4 : hx 2 4 = 0 := by rw [← hg]; exact mUp_s
    obtain ⟨h', g1, g2, g3, g4, g5⟩ := key hx ((h 2 2 + 1) % 31) (gD A) e1 e2 e2' e3 e4 (by omega) (by omega)
    have hin := gAt_in (base := (h 2 2 + 1) % 31) (k := gD A)
    rw [e3, E_stateAt (by omega) hW g4 (by rw [e2']; omega) (by omega) (by omega), mC_s, e2', mF_t h2, mF_t (by rw [(WK_sh hW).2.1]), g4.2.1.2.1, g1, mC_s]
    have z2 : h' 2 = hx 2 := g3 2 (by omega)
    refine ⟨h', rfl, ⟨by rw [z2, e2']; omega, ?_, ?_, ?_, ?_⟩, fun b hb => by rw [g3 b (by omega), e1 b (by omega)], fun i hi => by rw [z2, e2 i (by omega)], fun k k0 k1 => ?_⟩
    · rw [z2, e3]; show _ = (if gD A < 30 then gD A + 1 else gD A); rw [if_neg c]
    · rw [z2, e4]; rfl
    · show 0 ≤ (if gD A < 30 then gD A + 1 else gD A) ∧ (0 : Int) ≤ 0 ∧ (if gD A < 30 then gD A + 1 else gD A) + 0 ≤ 30
      rw [if_neg c]; omega
    · intro k k0 k1
      have k1 : k ≤ (if gD A < 30 then gD A + 1 else gD A) + 0 := k1
      rw [if_neg c] at k1
      rw [z2, e2']
      show RC w h' (gAt ((h 2 2 + 1) % 31) k) ((if gD A < 30 then (fun k => if k ≤ gD A then gH A k else s) else (fun k => if k < 30 then gH A (k + 1) else s)) k) ∧ aI ((if gD A < 30 then (fun k => if k ≤ gD A then gH A k else s) else (fun k => if k < 30 then gH A (k + 1) else s)) k)
      rw [if_neg c]
      try dsimp only
      by_cases ck : k < 30
      · rw [if_pos ck]
        obtain ⟨q1, q2⟩ := c5 (k + 1) (by omega) (by omega)
        have ea : gAt ((h 2 2 + 1) % 31) k = gAt (h 2 2) (k + 1) := by unfold gAt; omega
        rw [ea]
        refine ⟨RC_fr q1 q2 g5 (fun b b0 b1 => ?_), q2⟩
        have := gAt_ne (base := (h 2 2 + 1) % 31) (by omega) (k := k) (j := gD A) (by omega) (by omega) (by omega)
        have := gAt_in (base := h 2 2) (k := k + 1)
        rw [g3 b (by omega), e1 b (by omega)]
      · rw [if_neg ck, show k = gD A by omega]
        exact ⟨g2, hI⟩
    · by_cases hk : 4 + 13 * k = gAt ((h 2 2 + 1) % 31) (gD A)
      · rw [hk]; exact g2.1
      · have : 4 + 13 * k + 13 ≤ gAt ((h 2 2 + 1) % 31) (gD A) ∨ gAt ((h 2 2 + 1) % 31) (gD A) + 13 ≤ 4 + 13 * k := by unfold gAt at hk ⊢; omega
        exact ShH_fr (g4.2.2.2.2.2.1 k k0 k1) (fun i _ _ => by rw [g3 _ (by omega)]) (g3 _ (by omega))
end PU
