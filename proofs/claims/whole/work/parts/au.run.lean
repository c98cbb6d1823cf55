/-! PURE: programs are run: what they come to; the class. -/
/-- sheet, steps, how far moved (rows, columns), broken -/
abbrev rS : Type := aS × (Int × (Int × Int × Int))
abbrev rsS (x : rS) : aS := x.1
abbrev rsT (x : rS) : Int := x.2.1
abbrev rsU (x : rS) : Int := x.2.2.1
abbrev rsV (x : rS) : Int := x.2.2.2.1
abbrev rsB (x : rS) : Int := x.2.2.2.2
noncomputable def doL (L : List Int) (x : rS) : rS := @ite _ (lpO L (rsS x) (rsU x) (rsV x)) (Classical.propDecidable _) (lpF L (rsS x) (rsU x) (rsV x), rsT x, lpU L (rsU x), lpV L (rsV x), 0) (rsS x, rsT x, rsU x, rsV x, 1)
theorem doL_t {L : List Int} {x : rS} (h : lpO L (rsS x) (rsU x) (rsV x)) : doL L x = (lpF L (rsS x) (rsU x) (rsV x), rsT x, lpU L (rsU x), lpV L (rsV x), 0) := if_pos h
theorem doL_f {L : List Int} {x : rS} (h : ¬ lpO L (rsS x) (rsU x) (rsV x)) : doL L x = (rsS x, rsT x, rsU x, rsV x, 1) := if_neg h
/-- so many times, till it breaks -/
def itN (f : rS → rS) : Nat → rS → rS
  | 0, x => x
  | n + 1, x => if rsB x = 0 then itN f n (f x) else x
noncomputable def rnL : Nat → List (List Int) → rS → rS
  | 0, _, x => x
  | _ + 1, [], x => x
  | m + 1, L :: P, x => if rsB x ≠ 0 then x else if 60 ≤ rsT x then (rsS x, rsT x, rsU x, rsV x, 1) else if L.getD 0 0 = 9 then rnL m (P.drop (L.getD 2 0).toNat) (itN (rnL m (P.take (L.getD 2 0).toNat)) (L.getD 1 0).toNat (rsS x, rsT x + 1, rsU x, rsV x, 0)) else rnL m P (doL L (rsS x, rsT x + 1, rsU x, rsV x, 0))
/-- what is true of a run -/
def rOK (x : rS) : Prop := aI (rsS x) ∧ (0 ≤ rsT x ∧ rsT x ≤ 60) ∧ (-99 * rsT x ≤ rsU x ∧ rsU x ≤ 99 * rsT x) ∧ (-99 * rsT x ≤ rsV x ∧ rsV x ≤ 99 * rsT x) ∧ (rsB x = 0 ∨ rsB x = 1)
theorem rnL_b {m : Nat} {P : List (List Int)} {x : rS} (h : rsB x ≠ 0) : rnL m P x = x := by
  cases m with
  | zero => rfl
  | succ m => cases P with
    | nil => rfl
    | cons L P => exact if_pos h
theorem rnL_60 {m : Nat} {L : List Int} {P : List (List Int)} {x : rS} (h : rsB x = 0) (h6 : 60 ≤ rsT x) : rnL (m + 1) (L :: P) x = (rsS x, rsT x, rsU x, rsV x, 1) := (if_neg (fun y => y h)).trans (if_pos h6)
theorem rnL_9 {m : Nat} {L : List Int} {P : List (List Int)} {x : rS} (h : rsB x = 0) (h6 : rsT x < 60) (h9 : L.getD 0 0 = 9) : rnL (m + 1) (L :: P) x = rnL m (P.drop (L.getD 2 0).toNat) (itN (rnL m (P.take (L.getD 2 0).toNat)) (L.getD 1 0).toNat (rsS x, rsT x + 1, rsU x, rsV x, 0)) := (if_neg (fun y => y h)).trans ((if_neg (by omega)).trans (if_pos h9))
theorem rnL_l {m : Nat} {L : List Int} {P : List (List Int)} {x : rS} (h : rsB x = 0) (h6 : rsT x < 60) (h9 : L.getD 0 0 ≠ 9) : rnL (m + 1) (L :: P) x = rnL m P (doL L (rsS x, rsT x + 1, rsU x, rsV x, 0)) := (if_neg (fun y => y h)).trans ((if_neg (by omega)).trans (if_neg h9))
theorem lp_shift {L : List Int} (hl : ∀ v ∈ L, -99 ≤ v ∧ v ≤ 99) (u v : Int) : (-99 ≤ lpU L u - u ∧ lpU L u - u ≤ 99) ∧ (-99 ≤ lpV L v - v ∧ lpV L v - v ≤ 99) := by
  have bd : ∀ j : Nat, -99 ≤ L.getD j 0 ∧ L.getD j 0 ≤ 99 := fun j => by
    by_cases c : j < L.length
    · exact hl _ (getD_mem c)
    · rw [List.getD_eq_getElem?_getD, List.getElem?_eq_none (by omega)]
      show -99 ≤ (0 : Int) ∧ (0 : Int) ≤ 99
      omega
  have b1 := bd 1; have b2 := bd 2
  unfold lpU lpV
  constructor <;> split <;> omega
theorem doL_ok {L : List Int} (hL : lnO L) {x : rS} (hx : rOK x) (h6 : rsT x < 60) : rOK (doL L (rsS x, rsT x + 1, rsU x, rsV x, 0)) := by
  obtain ⟨a1, a2, a3, a4, a5⟩ := hx
  have sh := lp_shift hL.2.2 (rsU x) (rsV x)
  by_cases c : lpO L (rsS x) (rsU x) (rsV x)
  · rw [doL_t (x := (rsS x, rsT x + 1, rsU x, rsV x, 0)) c]
    refine ⟨lpF_I a1 c, by show 0 ≤ rsT x + 1 ∧ rsT x + 1 ≤ 60; omega, ?_, ?_, Or.inl rfl⟩
    · show -99 * (rsT x + 1) ≤ lpU L (rsU x) ∧ lpU L (rsU x) ≤ 99 * (rsT x + 1); omega
    · show -99 * (rsT x + 1) ≤ lpV L (rsV x) ∧ lpV L (rsV x) ≤ 99 * (rsT x + 1); omega
  · rw [doL_f (x := (rsS x, rsT x + 1, rsU x, rsV x, 0)) c]
    refine ⟨a1, by show 0 ≤ rsT x + 1 ∧ rsT x + 1 ≤ 60; omega, ?_, ?_, Or.inr rfl⟩
    · show -99 * (rsT x + 1) ≤ rsU x ∧ rsU x ≤ 99 * (rsT x + 1); omega
    · show -99 * (rsT x + 1) ≤ rsV x ∧ rsV x ≤ 99 * (rsT x + 1); omega
theorem clP_app2 {h : mm_H} {a : Int} : ∀ (P Q : List (List Int)) (i : Nat), clP h a i (P ++ Q) → clP h a i P ∧ clP h a (i + P.length) Q := by
  intro P
  induction P with
  | nil => intro Q i hp; exact ⟨trivial, hp⟩
  | cons L P ih =>
    intro Q i hp
    obtain ⟨a1, a2⟩ := ih Q (i + 1) hp.2
    exact ⟨⟨hp.1, a1⟩, by rw [List.length_cons, show i + (P.length + 1) = i + 1 + P.length by omega]; exact a2⟩
theorem clP_cut {h : mm_H} {a : Int} {P : List (List Int)} {i k : Nat} (hk : k ≤ P.length) (hp : clP h a i P) : clP h a i (P.take k) ∧ clP h a (i + k) (P.drop k) := by
  rw [← List.take_append_drop k P] at hp
  obtain ⟨a1, a2⟩ := clP_app2 _ _ i hp
  rw [List.length_take, Nat.min_eq_left hk] at a2
  exact ⟨a1, a2⟩
/-- the class's run stands at x -/
def XSt (w : mm_W) (h : mm_H) (x : rS) : Prop := XB w h (rsS x) (rsU x) (rsV x) ∧ h 435 1 = rsT x ∧ h 435 4 = rsB x ∧ rOK x
section PU
variable {d : Nat} {w : mm_W} {h : mm_H}
theorem XB_435 {h' : mm_H} {s : aS} {u v : Int} (hX : XB w h s u v) (e : ∀ b : Int, b ≠ 435 → h' b = h b) (e2 : h' 435 0 = h 435 0 ∧ h' 435 2 = h 435 2 ∧ h' 435 3 = h 435 3) : XB w h' s u v := by
  obtain ⟨hR, hI, h421, hE, k0, k2, k3⟩ := hX
  exact ⟨RC_fr hR hI ⟨Int.le_refl _, fun b b0 _ => ⟨rfl, e b (by omega)⟩⟩ (fun b b0 b1 => e b (by omega)), hI, ShH_fr h421 (fun j _ _ => by rw [e 421 (by decide)]) (e _ (by decide)), ⟨by rw [e 420 (by decide)]; exact hE.1, by rw [e 420 (by decide)]; exact hE.2⟩, by rw [e2.1]; exact k0, by rw [e2.2.1]; exact k2, by rw [e2.2.2]; exact k3⟩
theorem X_run (hW : WK w) {a sz : Int} (ha : 506 ≤ a) (hz : w.1 a = (50, sz)) (hz2 : sz ≤ 1800) (R : Int → Int) : ∀ (m D : Nat) (P : List (List Int)) (i : Nat) (fi nn op : Int) (d : Nat) (x : rS) (h : mm_H), wfP m D P → (D : Int) + op = 4 → 0 ≤ op → clP (fun b => if b = a then R else h b) a i P → h a = R → 9 * ((i : Int) + P.length) ≤ sz → 0 ≤ nn → nn ≤ i → 30 + 4 * (D : Int) ≤ d → XSt w h x → ∃ h', ((∃ L, l_Rn_runLines_0 (mm_P d) 435 4 a fi ((i : Int) + P.length) op (i : Int) nn w h = some (.inr (185, L, w, h'))) ∨ l_Rn_runLines_0 (mm_P d) 435 4 a fi ((i : Int) + P.length) op (i : Int) nn w h = some (.inl ((9, 0), w, h'))) ∧ XSt w h' (rnL m P x) ∧ XO h h' := by
  have w8 : (w.1 435).1 = 8 := by rw [hW.1.2.2.2.2.2.1]
  intro m
  induction m with
  | zero =>
    intro D P i fi nn op d x h hw _ _ _ _ _ n0 n1 _ hX
    have hw : P = [] := hw
    subst hw
    have e : (i : Int) + (([] : List (List Int)).length : Nat) = i := by show (i : Int) + ((0 : Nat) : Int) = i; omega
    rw [e, l_Rn_runLines_0_eq]
    by_cases c : (i : Int) ≤ nn
    · rw [mLe_t c]
      exact ⟨h, Or.inl ⟨_, rfl⟩, hX, XO_rf h⟩
    · rw [mLe_f (by omega), mLe_t (Int.le_refl _)]
      exact ⟨h, Or.inl ⟨_, rfl⟩, hX, XO_rf h⟩
  | succ m ih =>
    intro D P i fi nn op d x h hw hD hop hc hR hsz n0 n1 hd hX
    cases P with
    | nil =>
      have e : (i : Int) + (([] : List (List Int)).length : Nat) = i := by show (i : Int) + ((0 : Nat) : Int) = i; omega
      rw [e, l_Rn_runLines_0_eq]
      by_cases c : (i : Int) ≤ nn
      · rw [mLe_t c]
        exact ⟨h, Or.inl ⟨_, rfl⟩, hX, XO_rf h⟩
      · rw [mLe_f (by omega), mLe_t (Int.le_refl _)]
        exact ⟨h, Or.inl ⟨_, rfl⟩, hX, XO_rf h⟩
    | cons L P =>
    rw [List.length_cons] at hsz ⊢
    obtain ⟨hB, hT, hBr, hok⟩ := hX
    rw [l_Rn_runLines_0_eq, mLe_f (by omega), mLe_f (by omega), mF_t w8, hBr]
    by_cases cb : rsB x = 0
    rotate_left
    · rw [mEq_f cb, rnL_b cb]
      exact ⟨h, Or.inl ⟨_, rfl⟩, ⟨hB, hT, hBr, hok⟩, XO_rf h⟩
    rw [mEq_t cb]
    try dsimp only
    simp only [mF_t w8]
    rw [hT]
    by_cases c6 : rsT x < 60
    rotate_left
    · rw [mLt_f (by omega), mZ_1, mUp_s, mEq_f (by decide), rnL_60 cb (by omega)]
      have e : ∀ b : Int, b ≠ 435 → mUp h 435 4 1 b = h b := fun b hb => mUp_row hb
      exact ⟨_, Or.inr rfl, ⟨XB_435 hB e ⟨mUp_n (Or.inr (by decide)), mUp_n (Or.inr (by decide)), mUp_n (Or.inr (by decide))⟩, by rw [mUp_n (Or.inr (by decide))]; exact hT, mUp_s, hok.1, hok.2.1, hok.2.2.1, hok.2.2.2.1, Or.inr rfl⟩, fun b _ _ hb => e b hb⟩
    rw [mLt_t c6, mZ_0, mUp_s, mEq_t rfl, mUp_n (Or.inr (by decide)), hT, mI_id (x := rsT x + 1) (by have := hok.2.1; omega) (by have := hok.2.1; omega), mI_id (x := (i : Int) * 9) (by omega) (by omega), mI_id (x := (i : Int) + 1) (by omega) (by omega), show (i : Int) * 9 = 9 * (i : Int) by omega]
    generalize hg : mUp (mUp h 435 4 0) 435 1 (rsT x + 1) = h1
    have e1 : ∀ b : Int, b ≠ 435 → h1 b = h b := fun b hb => by rw [← hg, mUp_row hb, mUp_row hb]
    have ei : ∀ j : Int, j ≠ 1 → j ≠ 4 → h1 435 j = h 435 j := fun j j1 j4 => by rw [← hg, mUp_n (Or.inr j1), mUp_n (Or.inr j4)]
    have O1 : XO h h1 := fun b _ _ hb => e1 b hb
    have X1 : XSt w h1 (rsS x, rsT x + 1, rsU x, rsV x, 0) := ⟨XB_435 hB e1 ⟨ei 0 (by decide) (by decide), ei 2 (by decide) (by decide), ei 3 (by decide) (by decide)⟩, by rw [← hg, mUp_s], by rw [← hg, mUp_n (Or.inr (by decide)), mUp_s], hok.1, by show 0 ≤ rsT x + 1 ∧ rsT x + 1 ≤ 60; have := hok.2.1; omega, by show -99 * (rsT x + 1) ≤ rsU x ∧ rsU x ≤ 99 * (rsT x + 1); have := hok.2.2.1; omega, by show -99 * (rsT x + 1) ≤ rsV x ∧ rsV x ≤ 99 * (rsT x + 1); have := hok.2.2.2.1; omega, Or.inl rfl⟩
    have R1 : h1 a = R := by rw [e1 a (by omega)]; exact hR
    have hcl := hc.1
    have hcr := hc.2
    have row : ∀ j : Nat, j < (clR i L).length → h1 a (9 * (i : Int) + (j : Int)) = (clR i L).getD j 0 := fun j hj => by
      have := hcl j hj
      dsimp only at this
      rw [if_pos rfl, show ((9 * i : Nat) : Int) + (j : Int) = 9 * (i : Int) + (j : Int) by omega] at this
      rw [R1]; exact this
    have pk : ∀ (j : Int) (g : mm_H), 0 ≤ j → j < 9 → mm_P d 199 [(2, a), (0, 9 * (i : Int) + j)] w g = some ((0, g a (9 * (i : Int) + j)), w, g) := fun j g j0 j1 => E_peek_t (by omega) hz (by omega) (by omega)
    have p0 := pk 0 h1 (by decide) (by decide)
    rw [Int.add_zero] at p0
    have ex : ∀ (g : mm_H), XO h1 g → g a = R := fun g o => by rw [o a (by omega) (by omega) (by omega)]; exact R1
    have cl' : ∀ (g : mm_H) (j : Nat) (Q : List (List Int)), clP (fun b => if b = a then R else h b) a j Q → clP (fun b => if b = a then R else g b) a j Q := fun g j Q hq => clP_gw (w' := w) Q j (by rw [if_pos rfl, if_pos rfl]) hq
    rcases hw with ⟨hL, hw⟩ | ⟨t, k, rfl, tb, D0, kl, hw1, hw2⟩
    · -- a line that is no repeat
      have h9 : L.getD 0 0 ≠ 9 := by have := hL.1; omega
      have er : clR i L = L := if_neg h9
      rw [er] at row hcl
      have r0 := row 0 (by rw [hL.2.1]; omega)
      rw [show 9 * (i : Int) + ((0 : Nat) : Int) = 9 * (i : Int) by omega] at r0
      have hseg : Seg h1 a (9 * i) L := fun j hj => by
        rw [show ((9 * i : Nat) : Int) + (j : Int) = 9 * (i : Int) + (j : Int) by omega]; exact row j hj
      have ub := X1.2.2.2.2.2.1
      have vb := X1.2.2.2.2.2.2.1
      have tb := X1.2.2.2.2.1
      have ub : -99 * (rsT x + 1) ≤ rsU x ∧ rsU x ≤ 99 * (rsT x + 1) := ub
      have vb : -99 * (rsT x + 1) ≤ rsV x ∧ rsV x ≤ 99 * (rsT x + 1) := vb
      have tb : 0 ≤ rsT x + 1 ∧ rsT x + 1 ≤ 60 := tb
      have dk := doL_ok hL hok c6
      rw [p0, mC_s, r0, mEq_f h9, rnL_l cb c6 h9]
      rcases X_perf (d := d) (by omega) hW X1.1 (by show -6000 ≤ rsU x ∧ rsU x ≤ 6000; omega) (by show -6000 ≤ rsV x ∧ rsV x ≤ 6000; omega) hz (by omega) hz2 hL hseg with ⟨z, h2, y, g1, g2, g3, g4, g5⟩ | ⟨z, y, g1, g2⟩
      · rw [g1, mC_s, mLe_t g2, mZ_0]
        simp only [mF_t w8]
        have e2 : ∀ b : Int, b ≠ 435 → mUp h2 435 4 0 b = h2 b := fun b hb => mUp_row hb
        have X2 : XSt w (mUp h2 435 4 0) (doL L (rsS x, rsT x + 1, rsU x, rsV x, 0)) := by
          rw [doL_t (x := (rsS x, rsT x + 1, rsU x, rsV x, 0)) z] at dk ⊢
          exact ⟨XB_435 g3 e2 ⟨mUp_n (Or.inr (by decide)), mUp_n (Or.inr (by decide)), mUp_n (Or.inr (by decide))⟩, by rw [mUp_n (Or.inr (by decide)), g5 1 (by decide) (by decide)]; exact X1.2.1, mUp_s, dk⟩
        have O2 : XO h1 (mUp h2 435 4 0) := fun b x1 x2 x3 => by rw [e2 b x3, g4 b x1 x2 x3]
        obtain ⟨h', y1, y2, y3⟩ := ih D P (i + 1) fi (nn + 1) op d _ _ hw hD hop (cl' _ _ _ hcr) (ex _ O2) (by omega) (by omega) (by omega) hd X2
        rw [show ((i + 1 : Nat) : Int) + (P.length : Int) = (i : Int) + ((P.length + 1 : Nat) : Int) by omega, show ((i + 1 : Nat) : Int) = (i : Int) + 1 by omega] at y1
        rw [mI_id (x := nn + 1) (by omega) (by omega)]
        exact ⟨h', y1, y2, XO_tr O1 (XO_tr O2 y3)⟩
      · rw [g1, mC_s, mLe_f (by omega), mZ_1]
        simp only [mF_t w8]
        have e2 : ∀ b : Int, b ≠ 435 → mUp h1 435 4 1 b = h1 b := fun b hb => mUp_row hb
        have X2 : XSt w (mUp h1 435 4 1) (doL L (rsS x, rsT x + 1, rsU x, rsV x, 0)) := by
          rw [doL_f (x := (rsS x, rsT x + 1, rsU x, rsV x, 0)) z] at dk ⊢
          exact ⟨XB_435 X1.1 e2 ⟨mUp_n (Or.inr (by decide)), mUp_n (Or.inr (by decide)), mUp_n (Or.inr (by decide))⟩, by rw [mUp_n (Or.inr (by decide))]; exact X1.2.1, mUp_s, dk⟩
        have O2 : XO h1 (mUp h1 435 4 1) := fun b x1 x2 x3 => e2 b x3
        obtain ⟨h', y1, y2, y3⟩ := ih D P (i + 1) fi (nn + 1) op d _ _ hw hD hop (cl' _ _ _ hcr) (ex _ O2) (by omega) (by omega) (by omega) hd X2
        rw [show ((i + 1 : Nat) : Int) + (P.length : Int) = (i : Int) + ((P.length + 1 : Nat) : Int) by omega, show ((i + 1 : Nat) : Int) = (i : Int) + 1 by omega] at y1
        rw [mI_id (x := nn + 1) (by omega) (by omega)]
        exact ⟨h', y1, y2, XO_tr O1 (XO_tr O2 y3)⟩
    · -- a repeat
      have er : clR i [9, t, (k : Int)] = [9, t, ((i + 1 : Nat) : Int) + (k : Int)] := if_pos rfl
      rw [er] at row
      have r0 := row 0 (show 0 < 3 by decide)
      have r1 := row 1 (show 1 < 3 by decide)
      have r2 := row 2 (show 2 < 3 by decide)
      rw [show 9 * (i : Int) + ((0 : Nat) : Int) = 9 * (i : Int) by omega] at r0
      have r0 : h1 a (9 * (i : Int)) = 9 := r0
      have r1 : h1 a (9 * (i : Int) + 1) = t := r1
      have r2 : h1 a (9 * (i : Int) + 2) = ((i + 1 : Nat) : Int) + (k : Int) := r2
      obtain ⟨q1, q2⟩ := clP_cut kl hcr
      have lt : (P.take k).length = k := by rw [List.length_take, Nat.min_eq_left kl]
      have ld : (P.drop k).length = P.length - k := List.length_drop
      have mx : mMax ((i : Int) + 1) (((i + 1 : Nat) : Int) + (k : Int)) = (i : Int) + 1 + (k : Int) := by unfold mMax; rw [if_pos (by omega)]; omega
      rw [p0, mC_s, r0, mEq_t rfl, mI_id (x := 9 * (i : Int) + 1) (by omega) (by omega), pk 1 h1 (by decide) (by decide), mC_s, r1, mI_id (x := 9 * (i : Int) + 2) (by omega) (by omega), pk 2 h1 (by decide) (by decide), mC_s, r2, mx, rnL_9 cb c6 rfl]
      show ∃ h', _ ∧ XSt w h' (rnL m (P.drop (((k : Int)).toNat)) (itN (rnL m (P.take (((k : Int)).toNat))) t.toNat (rsS x, rsT x + 1, rsU x, rsV x, 0))) ∧ XO h h'
      rw [Int.toNat_natCast]
      have rep : ∀ (j : Nat) (kk : Int) (x' : rS) (g : mm_H), 0 ≤ kk → (kk + j = t ∨ (j = 0 ∧ t ≤ kk)) → XSt w g x' → XO h1 g → ∃ (h' : mm_H) (k' : Int), l_Rn_runLines_1 (mm_P d) 435 4 a fi ((i : Int) + ((P.length + 1 : Nat) : Int)) op ((i : Int) + 1) nn (9 * (i : Int)) t ((i : Int) + 1 + (k : Int)) kk w g = some (.inr (152, [(2, 435), (2, 4), (2, a), (0, fi), (0, (i : Int) + ((P.length + 1 : Nat) : Int)), (0, op), (0, (i : Int) + 1), (0, nn), (0, 9 * (i : Int)), (0, t), (0, (i : Int) + 1 + (k : Int)), (0, k')], w, h')) ∧ XSt w h' (itN (rnL m (P.take k)) j x') ∧ XO h1 h' := by
        intro j
        induction j with
        | zero =>
          intro kk x' g k0 hj hX o
          rw [l_Rn_runLines_1_eq, mLe_t (by omega)]
          exact ⟨g, kk, rfl, hX, o⟩
        | succ j ihj =>
          intro kk x' g k0 hj hX o
          rw [l_Rn_runLines_1_eq, mLe_f (by omega), mLe_f (by omega), mF_t w8, hX.2.2.1]
          have u : itN (rnL m (P.take k)) (j + 1) x' = if rsB x' = 0 then itN (rnL m (P.take k)) j (rnL m (P.take k) x') else x' := rfl
          by_cases c : rsB x' = 0
          rotate_left
          · rw [mEq_f c, u, if_neg c]
            exact ⟨g, kk, rfl, hX, o⟩
          have inn : ∃ h', mm_P d 80 [(2, 435), (2, 4), (2, a), (0, (i : Int) + 1), (0, (i : Int) + 1 + (k : Int)), (0, op + 1)] w g = some ((9, 0), w, h') ∧ XSt w h' (rnL m (P.take k) x') ∧ XO g h' := by
            obtain ⟨d, rfl, hd2⟩ := mm_dS (show 30 + 1 ≤ d by omega)
            obtain ⟨h', y1, y2, y3⟩ := ih (D - 1) (P.take k) (i + 1) ((i : Int) + 1) ((i : Int) + 1) (op + 1) d x' g hw1 (by omega) (by omega) (cl' _ _ _ q1) (ex _ o) (by rw [lt]; omega) (by omega) (by omega) (by omega) hX
            rw [lt, show ((i + 1 : Nat) : Int) = (i : Int) + 1 by omega] at y1
            rw [P_Rn_runLines]
            rcases y1 with ⟨l, y1⟩ | y1
            · rw [y1, mK_r, if_pos rfl]
              exact ⟨h', rfl, y2, y3⟩
            · rw [y1, mK_l]
              exact ⟨h', rfl, y2, y3⟩
          obtain ⟨g1, a1, a2, a3⟩ := inn
          obtain ⟨h2, k2, y1, y2, y3⟩ := ihj (kk + 1) (rnL m (P.take k) x') g1 (by omega) (by omega) a2 (XO_tr o a3)
          rw [mEq_t c, mF_t w8, mI_id (x := op + 1) (by omega) (by omega), a1, mC_s, mI_id (x := kk + 1) (by omega) (by omega), u, if_pos c]
          exact ⟨h2, k2, y1, y2, y3⟩
      obtain ⟨h2, k2, y1, y2, y3⟩ := rep t.toNat 0 (rsS x, rsT x + 1, rsU x, rsV x, 0) h1 (Int.le_refl _) (by omega) X1 (XO_rf h1)
      rw [y1, mK_r, if_pos rfl]
      simp only [mP_0, mP_1, mP_2, mP_3, mP_4, mP_5, mP_6, mP_7, mP_8, mP_9, mP_10]
      rw [mI_id (x := nn + 1) (by omega) (by omega)]
      obtain ⟨h', z1, z2, z3⟩ := ih D (P.drop k) (i + 1 + k) fi (nn + 1) op d _ h2 hw2 hD hop (cl' _ _ _ q2) (ex _ y3) (by rw [ld]; omega) (by omega) (by omega) hd y2
      rw [ld, show ((i + 1 + k : Nat) : Int) + ((P.length - k : Nat) : Int) = (i : Int) + ((P.length + 1 : Nat) : Int) by omega, show ((i + 1 + k : Nat) : Int) = (i : Int) + 1 + (k : Int) by omega] at z1
      exact ⟨h', z1, z2, XO_tr O1 (XO_tr y3 z3)⟩
end PU
