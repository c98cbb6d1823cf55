/-! PURE: the class is asked. Printed by wip/whole/gen/gen9n.py. -/
noncomputable def iC (P : Prop) (a b : Int) : Int := @ite _ P (Classical.propDecidable P) a b
theorem iC_t {P : Prop} {a b : Int} (h : P) : iC P a b = a := if_pos h
theorem iC_f {P : Prop} {a b : Int} (h : ¬ P) : iC P a b = b := if_neg h
/-- the class's view, where it is fresh -/
def cFr (h : mm_H) (A : aG) : Prop := h 1 15 = 1 ∨ h 1 15 = 0 ∧ cVw h 438 (gNow A)
/-- what a question rests on -/
def QS (w : mm_W) (h : mm_H) (A : aG) : Prop := WK w ∧ HK h ∧ cHist w h A ∧ cFr h A
/-- what a question may change -/
def CN (h h' : mm_H) : Prop := (∀ b : Int, b ≠ 1 → ¬ (4 ≤ b ∧ b < 17) → ¬ (421 ≤ b ∧ b < 461) → h' b = h b) ∧ ∀ i : Int, i ≠ 15 → h' 1 i = h 1 i
theorem CN_rf (h : mm_H) : CN h h := ⟨fun _ _ _ _ => rfl, fun _ _ => rfl⟩
theorem CN_tr {a b c : mm_H} (x : CN a b) (y : CN b c) : CN a c := ⟨fun q h1 h2 h3 => (y.1 q h1 h2 h3).trans (x.1 q h1 h2 h3), fun i hi => (y.2 i hi).trans (x.2 i hi)⟩
theorem CN_vt {V : Int} {h h' : mm_H} (hV : vOk V) (o : VT V h h') : CN h h' := ⟨fun b _ _ h3 => o.1 b (by omega) (by omega) (by unfold vOk at hV; omega), fun i _ => by rw [o.1 1 (by decide) (by decide) (by unfold vOk at hV; omega)]⟩
section PU
variable {d : Nat} {w : mm_W} {h : mm_H} {A : aG}
theorem WK_PW (hW : WK w) : PW w := ⟨hW.1.2.2.2.2.2.2.1, hW.1.2.2.2.2.2.2.2⟩
theorem WK_V1 (hW : WK w) : VW w 438 := hW.2.1
theorem WK_V2 (hW : WK w) : VW w 445 := hW.2.2.1
theorem HK_V1 (hK : HK h) : VH h 438 := fun i i0 i1 => by have := hK.2.2.2.1.1 i i0 i1; omega
theorem HK_V2 (hK : HK h) : VH h 445 := fun i i0 i1 => by have := hK.2.2.2.1.2.1 i i0 i1; omega
theorem HK_436 (hK : HK h) : h 436 0 = 437 := hK.2.2.1.2.2.2
theorem gAt_ok {base k : Int} : sOk (gAt base k) := Or.inl (by have := gAt_in (base := base) (k := k); omega)
theorem HK_vt {V : Int} {h' : mm_H} (hV : vOk V) (hK : HK h) (o : VT V h h') : HK h' := by
  have e : ∀ b : Int, b ≠ 436 → b ≠ 437 → ¬ (438 ≤ b ∧ b < 452) → h' b = h b := fun b x1 x2 x3 => o.1 b x1 x2 (by unfold vOk at hV; omega)
  refine HK_fr hK (fun b i hb => ?_) (fun k k0 k1 => ShH_fr (hK.2.2.2.2.2.1 k k0 k1) (fun i _ _ => by rw [e _ (by omega) (by omega) (by omega)]) (e _ (by omega) (by omega) (by omega))) (ShH_fr hK.2.2.2.2.2.2.1 (fun i _ _ => by rw [e _ (by omega) (by omega) (by omega)]) (e _ (by omega) (by omega) (by omega))) (ShH_fr hK.2.2.2.2.2.2.2 (fun i _ _ => by rw [e _ (by omega) (by omega) (by omega)]) (e _ (by omega) (by omega) (by omega)))
  by_cases c1 : b = 436
  · subst c1
    have : i = 0 := by unfold kSl at hb; omega
    subst this
    exact o.2.1
  by_cases c2 : b = V
  · subst c2
    exact o.2.2 i (by unfold kSl at hb; unfold vOk at hV; omega)
  rw [o.1 b c1 (by unfold kSl at hb; omega) (by unfold kSl at hb; unfold vOk at hV; omega)]
theorem cHist_vt {V : Int} {h' : mm_H} (hV : vOk V) (hc : cHist w h A) (o : VT V h h') : cHist w h' A := cHist_gr hc ⟨Int.le_refl _, fun a a0 _ => ⟨rfl, o.1 a (by omega) (by omega) (by unfold vOk at hV; omega)⟩⟩ (fun b b0 b1 => o.1 b (by omega) (by omega) (by unfold vOk at hV; omega)) (o.1 2 (by decide) (by decide) (by unfold vOk at hV; omega))
/-- the sheet as it is -/
theorem Q_now (hQ : QS w h A) : ShW w (gAt (h 2 2) (gD A)) ∧ RC w h (gAt (h 2 2) (gD A)) (gNow A) ∧ aI (gNow A) := by
  obtain ⟨hW, hK, hc, hf⟩ := hQ
  obtain ⟨q1, q2⟩ := hc.2.2.2.2 (gD A) hc.2.2.2.1.1 (by have := hc.2.2.2.1; omega)
  exact ⟨WK_sh hW, q1, q2⟩
theorem E_freshX (hd : 20 ≤ d) (hQ : QS w h A) : ∃ h', mm_P d 191 [(2, 1)] w h = some ((2, 438), w, h') ∧ QS w h' A ∧ CN h h' ∧ cVw h' 438 (gNow A) ∧ VH h' 438 ∧ ∀ b : Int, 445 ≤ b → b < 461 → h' b = h b := by
  obtain ⟨d, rfl, hd2⟩ := mm_dS (show 19 + 1 ≤ d by omega)
  obtain ⟨n1, n2, n3⟩ := Q_now hQ
  have hQ' := hQ
  obtain ⟨hW, hK, hc, hf⟩ := hQ
  have w1 : (w.1 1).1 = 12 := by rw [hW.1.1]
  have wV : (w.1 438).1 = 11 := by rw [(WK_V1 hW).1]
  have k4 : h 1 4 = 438 := hK.1.2.2.2.2.1
  have k3 : h 1 3 = 436 := hK.1.2.2.2.1
  rw [P_F_freshView, mF_t w1]
  rcases hf with hf | ⟨hf, hv⟩
  rotate_left
  · rw [hf, mEq_t rfl, mF_t w1, k4]
    exact ⟨h, rfl, hQ', CN_rf h, hv, HK_V1 hK, fun _ _ _ => rfl⟩
  obtain ⟨h1, b1, b2, b3⟩ := E_take (d := d) (by omega) (WK_PW hW) (gAt_ok (base := h 2 2) (k := gD A)) (Or.inl rfl) (WK_V1 hW) n1 n3 (HK_V1 hK) n2 (HK_436 hK)
  rw [hf, mEq_f (by decide), mF_t w1, mF_t w1, E_now (by omega) hW hK hc, mC_s, mF_t w1, k4, k3, mF_t wV, b1, mC_s, mZ_0, mF_t w1]
  try dsimp only
  have u : ∀ b : Int, b ≠ 1 → mUp h1 1 15 0 b = h1 b := fun b hb => mUp_row hb
  have K1 := HK_vt (Or.inl rfl) hK b2
  have C1 := cHist_vt (Or.inl rfl) hc b2
  have e1 : h1 1 = h 1 := b2.1 1 (by decide) (by decide) (by decide)
  rw [mF_t w1, mUp_n (Or.inr (by decide)), e1, k4]
  refine ⟨_, rfl, ⟨hW, HK_12 K1 (fun i hi => mUp_n (Or.inr (by omega))) (fun i _ => by rw [u 2 (by decide)]) (fun b x1 _ => u b x1), cHist_gr C1 ⟨Int.le_refl _, fun a a0 _ => ⟨rfl, u a (by omega)⟩⟩ (fun b b0 _ => u b (by omega)) (u 2 (by decide)), Or.inr ⟨mUp_s, cVw_fr b3 (fun b x0 _ => u b (by omega))⟩⟩, CN_tr (CN_vt (Or.inl rfl) b2) ⟨fun b x1 _ _ => u b x1, fun i hi => mUp_n (Or.inr hi)⟩, cVw_fr b3 (fun b x0 _ => u b (by omega)), fun i x0 x1 => by rw [u 438 (by decide)]; exact VT_VH b2 (HK_V1 hK) i x0 x1, fun b x0 x1 => by rw [u b (by omega), b2.1 b (by omega) (by omega) (by omega)]⟩
theorem E_fresh (hd : 20 ≤ d) (hQ : QS w h A) : ∃ h', mm_P d 191 [(2, 1)] w h = some ((2, 438), w, h') ∧ QS w h' A ∧ CN h h' ∧ cVw h' 438 (gNow A) ∧ VH h' 438 := by
  obtain ⟨h', a, b, c, e, f, _⟩ := E_freshX hd hQ
  exact ⟨h', a, b, c, e, f⟩
/-- a view's own rows may change behind a question -/
theorem QS_row {h' : mm_H} (hQ : QS w h A) (hf : cVw h 438 (gNow A)) (e : ∀ b : Int, b ≠ 443 → b ≠ 438 → b ≠ 444 → h' b = h b) (e2 : ∀ i : Int, i ≠ 8 → i ≠ 9 → h' 438 i = h 438 i) : QS w h' A ∧ CN h h' := by
  have o : VT 438 h h' := ⟨fun b _ _ x => e b (by omega) (by omega) (by omega), by rw [e 436 (by decide) (by decide) (by decide)], fun i hi => e2 i (by omega) (by omega)⟩
  obtain ⟨hW, hK, hc, hF⟩ := hQ
  have C' : cVw h' 438 (gNow A) := by
    have z1 := e 439 (by decide) (by decide) (by decide)
    have z2 := e 440 (by decide) (by decide) (by decide)
    have z3 := e 441 (by decide) (by decide) (by decide)
    have z4 := e 442 (by decide) (by decide) (by decide)
    refine ⟨⟨by rw [e2 6 (by decide) (by decide)]; exact hf.1.1, by rw [e2 7 (by decide) (by decide)]; exact hf.1.2⟩, fun i j a b c d => ?_, fun i j a b c d => ?_⟩
    · show h' 439 _ = _
      rw [z1]; exact hf.2.1 i j a b c d
    · have := hf.2.2 i j a b c d
      unfold VC at this ⊢
      show (∀ p : Int, 0 ≤ p → p < 4 → h' 440 _ = _ ∧ h' 441 _ = _) ∧ h' 442 _ = _
      rw [z2, z3, z4]
      exact this
  refine ⟨⟨hW, HK_vt (Or.inl rfl) hK o, cHist_vt (Or.inl rfl) hc o, ?_⟩, CN_vt (Or.inl rfl) o⟩
  rcases hF with hF | ⟨hF, _⟩
  · exact Or.inl (by rw [e 1 (by decide) (by decide) (by decide)]; exact hF)
  · exact Or.inr ⟨by rw [e 1 (by decide) (by decide) (by decide)]; exact hF, C'⟩
/-- the answers -/
noncomputable def fShown (A : aG) (n p : Int) : Int := iC (isCell (aHi (gNow A)) (aWi (gNow A)) n ∧ 0 ≤ p ∧ p < 4) (numA (gNow A) p (n / 100) (n % 100)) (-2)
theorem E_F_shown (hd : 30 ≤ d) (hQ : QS w h A) {n : Int} (hn : n < 2147483648) (p : Int) : ∃ h', mm_P d 158 [(2, 1), (0, n), (0, p)] w h = some ((0, fShown A n p), w, h') ∧ QS w h' A ∧ CN h h' := by
  obtain ⟨d, rfl, hd2⟩ := mm_dS (show 29 + 1 ≤ d by omega)
  obtain ⟨n1, n2, n3⟩ := Q_now hQ
  have hW := hQ.1
  have hK := hQ.2.1
  have hc := hQ.2.2.1
  have w1 : (w.1 1).1 = 12 := by rw [hW.1.1]
  have wS : (w.1 (gAt (h 2 2) (gD A))).1 = 9 := by rw [n1.2.1]
  have wV : (w.1 438).1 = 11 := by rw [(WK_V1 hW).1]
  have i1 := n3.1
  have i2 := n3.2.1
  unfold fShown
  rw [P_F_shown, mF_t w1, E_now (by omega) hW hK hc, mC_s, mF_t wS, E_hasCell (by omega) n1 hn, mC_s, n2.2.1.1, n2.2.1.2.1]
  by_cases c0 : isCell (aHi (gNow A)) (aWi (gNow A)) n
  rotate_left
  · rw [bI_f c0, mEq_t rfl, iC_f (fun x => c0 x.1)]
    exact ⟨h, rfl, hQ, CN_rf h⟩
  have c0' := c0
  unfold isCell at c0'
  rw [bI_t c0, mEq_f (by decide)]
  rw [E_isProperty (by omega), mC_s]
  by_cases c1 : 0 ≤ p ∧ p < 4
  rotate_left
  · rw [bI_f c1, mEq_t rfl, iC_f (fun x => c1 x.2)]
    exact ⟨h, rfl, hQ, CN_rf h⟩
  rw [bI_t c1, mEq_f (by decide)]
  obtain ⟨h1, f1, f2, f3, f4, f5⟩ := E_fresh (d := d) (by omega) hQ
  rw [mF_t w1, f1, mC_s, mD_t (by decide), mD_t (by decide), mF_t wV, Int.tdiv_eq_ediv_of_nonneg c0'.1, Int.tmod_eq_emod_of_nonneg c0'.1, mI_id (x := n / 100) (by omega) (by omega), E_vNumber (by omega) (Or.inl rfl) (WK_V1 hW) f5 n3 f4 c1 (by omega) (by omega), mC_s, iC_t ⟨c0, c1⟩]
  exact ⟨h1, rfl, f2, f3⟩
noncomputable def fBy (A : aG) (n p : Int) : Int := iC (isCell (aHi (gNow A)) (aWi (gNow A)) n ∧ 0 ≤ p ∧ p < 4) (fromA (gNow A) p (n / 100) (n % 100)) (-2)
theorem E_F_by (hd : 30 ≤ d) (hQ : QS w h A) {n : Int} (hn : n < 2147483648) (p : Int) : ∃ h', mm_P d 160 [(2, 1), (0, n), (0, p)] w h = some ((0, fBy A n p), w, h') ∧ QS w h' A ∧ CN h h' := by
  obtain ⟨d, rfl, hd2⟩ := mm_dS (show 29 + 1 ≤ d by omega)
  obtain ⟨n1, n2, n3⟩ := Q_now hQ
  have hW := hQ.1
  have hK := hQ.2.1
  have hc := hQ.2.2.1
  have w1 : (w.1 1).1 = 12 := by rw [hW.1.1]
  have wS : (w.1 (gAt (h 2 2) (gD A))).1 = 9 := by rw [n1.2.1]
  have wV : (w.1 438).1 = 11 := by rw [(WK_V1 hW).1]
  have i1 := n3.1
  have i2 := n3.2.1
  unfold fBy
  rw [P_F_by, mF_t w1, E_now (by omega) hW hK hc, mC_s, mF_t wS, E_hasCell (by omega) n1 hn, mC_s, n2.2.1.1, n2.2.1.2.1]
  by_cases c0 : isCell (aHi (gNow A)) (aWi (gNow A)) n
  rotate_left
  · rw [bI_f c0, mEq_t rfl, iC_f (fun x => c0 x.1)]
    exact ⟨h, rfl, hQ, CN_rf h⟩
  have c0' := c0
  unfold isCell at c0'
  rw [bI_t c0, mEq_f (by decide)]
  rw [E_isProperty (by omega), mC_s]
  by_cases c1 : 0 ≤ p ∧ p < 4
  rotate_left
  · rw [bI_f c1, mEq_t rfl, iC_f (fun x => c1 x.2)]
    exact ⟨h, rfl, hQ, CN_rf h⟩
  rw [bI_t c1, mEq_f (by decide)]
  obtain ⟨h1, f1, f2, f3, f4, f5⟩ := E_fresh (d := d) (by omega) hQ
  rw [mF_t w1, f1, mC_s, mD_t (by decide), mD_t (by decide), mF_t wV, Int.tdiv_eq_ediv_of_nonneg c0'.1, Int.tmod_eq_emod_of_nonneg c0'.1, mI_id (x := n / 100) (by omega) (by omega), E_vSource (by omega) (Or.inl rfl) (WK_V1 hW) f5 n3 f4 c1 (by omega) (by omega), mC_s, iC_t ⟨c0, c1⟩]
  exact ⟨h1, rfl, f2, f3⟩
/-- what lies under -/
def undA (s : aS) (p r c q : Int) : Int := if q = 0 then num s p r c (-1) else if q = 1 then aCel s p r c else if q = 2 then aLin s 0 p r else if q = 3 then aLin s 1 p c else aBen s p r c
noncomputable def fUnder (A : aG) (n p q : Int) : Int := iC (isCell (aHi (gNow A)) (aWi (gNow A)) n ∧ (0 ≤ p ∧ p < 4) ∧ 0 ≤ q ∧ q ≤ 4) (undA (gNow A) p (n / 100) (n % 100) q) (-2)
theorem E_F_under (hd : 30 ≤ d) (hQ : QS w h A) {n : Int} (hn : n < 2147483648) (p q : Int) : ∃ h', mm_P d 159 [(2, 1), (0, n), (0, p), (0, q)] w h = some ((0, fUnder A n p q), w, h') ∧ QS w h' A ∧ CN h h' := by
  obtain ⟨d, rfl, hd2⟩ := mm_dS (show 29 + 1 ≤ d by omega)
  obtain ⟨n1, n2, n3⟩ := Q_now hQ
  have hW := hQ.1
  have hK := hQ.2.1
  have hc := hQ.2.2.1
  have w1 : (w.1 1).1 = 12 := by rw [hW.1.1]
  have wS : (w.1 (gAt (h 2 2) (gD A))).1 = 9 := by rw [n1.2.1]
  have wV : (w.1 438).1 = 11 := by rw [(WK_V1 hW).1]
  have i1 := n3.1
  have i2 := n3.2.1
  unfold fUnder
  rw [P_F_under, mF_t w1, E_now (by omega) hW hK hc, mC_s, mF_t wS, E_hasCell (by omega) n1 hn, mC_s, n2.2.1.1, n2.2.1.2.1]
  by_cases c0 : isCell (aHi (gNow A)) (aWi (gNow A)) n
  rotate_left
  · rw [bI_f c0, mEq_t rfl, iC_f (fun x => c0 x.1)]
    exact ⟨h, rfl, hQ, CN_rf h⟩
  have c0' := c0
  unfold isCell at c0'
  rw [bI_t c0, mEq_f (by decide)]
  rw [E_isProperty (by omega), mC_s]
  by_cases c1 : 0 ≤ p ∧ p < 4
  rotate_left
  · rw [bI_f c1, mEq_t rfl, iC_f (fun x => c1 x.2.1)]
    exact ⟨h, rfl, hQ, CN_rf h⟩
  rw [bI_t c1, mEq_f (by decide)]
  rw [mD_t (by decide)]
  try dsimp only
  rw [mD_t (by decide), Int.tdiv_eq_ediv_of_nonneg c0'.1, Int.tmod_eq_emod_of_nonneg c0'.1, mI_id (x := n / 100) (by omega) (by omega)]
  have hr : 0 ≤ n / 100 ∧ n / 100 < aHi (gNow A) := by omega
  have hcc : 0 ≤ n % 100 ∧ n % 100 < aWi (gNow A) := by omega
  refine ⟨h, ?_, hQ, CN_rf h⟩
  simp only [mF_t wS]
  by_cases q0 : q = 0
  · subst q0
    have e := E_sourceOf (d := d) (h := h) (M := 0) (by omega) n1 n3 n2 (H := fun _ => False) (p := p) (fun k k0 k1 => bits_0 (s := gNow A) k k0 k1 n3.2.2.1.2) c1 hr hcc
    rw [srcR_no] at e
    rw [mEq_t rfl, e, mC_s, E_numberFrom (by omega) n1 n3 n2 c1 hr hcc (by have := n3.2.2.1; omega), mC_s, mF_t wS, iC_t ⟨c0, c1, by decide⟩]
    rfl
  rw [mEq_f q0]
  by_cases q1 : q = 1
  · subst q1
    rw [mEq_t rfl, E_cellFormat (by omega) n1 n2.1.2.1 c1.1 c1.2 hr.1 (by omega) hcc.1 (by omega), mC_s, n2.2.2.2.1 p _ _ c1.1 c1.2 hr.1 hr.2 hcc.1 hcc.2, iC_t ⟨c0, c1, by decide⟩]
    rfl
  rw [mEq_f q1]
  by_cases q2 : q = 2
  · subst q2
    rw [mEq_t rfl, E_lineFormat (by omega) n1 n2.1.2.2.1 (Or.inl rfl) c1.1 c1.2 hr.1 (by omega), mC_s, show 64 * 0 + 16 * p + n / 100 = 16 * p + n / 100 by omega, n2.2.2.2.2.1 p _ c1.1 c1.2 hr.1 hr.2, iC_t ⟨c0, c1, by decide⟩]
    rfl
  rw [mEq_f q2]
  by_cases q3 : q = 3
  · subst q3
    rw [mEq_t rfl, E_lineFormat (by omega) n1 n2.1.2.2.1 (Or.inr rfl) c1.1 c1.2 hcc.1 (by omega), mC_s, show (64 : Int) * 1 + 16 * p + n % 100 = 64 + 16 * p + n % 100 by omega, n2.2.2.2.2.2.1 p _ c1.1 c1.2 hcc.1 hcc.2, iC_t ⟨c0, c1, by decide⟩]
    rfl
  rw [mEq_f q3]
  by_cases q4 : q = 4
  · subst q4
    rw [mEq_t rfl, E_beneath (by omega) n1 n2.1 c1.1 c1.2 hr.1 (by omega) hcc.1 (by omega), mC_s, benA_S n2 c1 hr hcc, iC_t ⟨c0, c1, by decide⟩]
    rfl
  rw [mEq_f q4, iC_f (fun x => by omega)]
noncomputable def fValueAt (A : aG) (n : Int) : Int := iC (isCell (aHi (gNow A)) (aWi (gNow A)) n) (aVal (gNow A) (n / 100) (n % 100)) (-2000000000)
theorem E_F_valueAt (hd : 30 ≤ d) (hQ : QS w h A) {n : Int} (hn : n < 2147483648) : ∃ h', mm_P d 161 [(2, 1), (0, n)] w h = some ((0, fValueAt A n), w, h') ∧ QS w h' A ∧ CN h h' := by
  obtain ⟨d, rfl, hd2⟩ := mm_dS (show 29 + 1 ≤ d by omega)
  obtain ⟨n1, n2, n3⟩ := Q_now hQ
  have hW := hQ.1
  have hK := hQ.2.1
  have hc := hQ.2.2.1
  have w1 : (w.1 1).1 = 12 := by rw [hW.1.1]
  have wS : (w.1 (gAt (h 2 2) (gD A))).1 = 9 := by rw [n1.2.1]
  have wV : (w.1 438).1 = 11 := by rw [(WK_V1 hW).1]
  have i1 := n3.1
  have i2 := n3.2.1
  unfold fValueAt
  rw [P_F_valueAt, mF_t w1, E_now (by omega) hW hK hc, mC_s, mF_t wS, E_hasCell (by omega) n1 hn, mC_s, n2.2.1.1, n2.2.1.2.1]
  by_cases c0 : isCell (aHi (gNow A)) (aWi (gNow A)) n
  rotate_left
  · rw [bI_f c0, mEq_t rfl, iC_f (c0)]
    exact ⟨h, rfl, hQ, CN_rf h⟩
  have c0' := c0
  unfold isCell at c0'
  rw [bI_t c0, mEq_f (by decide)]
  rw [mD_t (by decide), mD_t (by decide), mF_t wS, Int.tdiv_eq_ediv_of_nonneg c0'.1, Int.tmod_eq_emod_of_nonneg c0'.1, mI_id (x := n / 100) (by omega) (by omega), E_valS (by omega) n1 n3 n2 (by omega) (by omega), mC_s, iC_t c0]
  exact ⟨h, rfl, hQ, CN_rf h⟩
noncomputable def fHolds (A : aG) (k n : Int) : Int := iC ((0 ≤ k ∧ k < aN (gNow A)) ∧ isCell (aHi (gNow A)) (aWi (gNow A)) n) (bI (hldA (gNow A) k (n / 100) (n % 100))) (-2)
theorem E_F_holds (hd : 30 ≤ d) (hQ : QS w h A) {n : Int} (hn : n < 2147483648) (k : Int) : ∃ h', mm_P d 162 [(2, 1), (0, k), (0, n)] w h = some ((0, fHolds A k n), w, h') ∧ QS w h' A ∧ CN h h' := by
  obtain ⟨d, rfl, hd2⟩ := mm_dS (show 29 + 1 ≤ d by omega)
  obtain ⟨n1, n2, n3⟩ := Q_now hQ
  have hW := hQ.1
  have hK := hQ.2.1
  have hc := hQ.2.2.1
  have w1 : (w.1 1).1 = 12 := by rw [hW.1.1]
  have wS : (w.1 (gAt (h 2 2) (gD A))).1 = 9 := by rw [n1.2.1]
  have wV : (w.1 438).1 = 11 := by rw [(WK_V1 hW).1]
  have i1 := n3.1
  have i2 := n3.2.1
  unfold fHolds
  rw [P_F_holds, mF_t w1, E_now (by omega) hW hK hc, mC_s, mF_t wS, E_hasRule (by omega) n1, mC_s, n2.2.1.2.2]
  by_cases ck : 0 ≤ k ∧ k < aN (gNow A)
  rotate_left
  · rw [bI_f ck, mEq_t rfl, iC_f (fun x => ck x.1)]
    exact ⟨h, rfl, hQ, CN_rf h⟩
  rw [bI_t ck, mEq_f (by decide), mF_t wS, E_hasCell (by omega) n1 hn, mC_s, n2.2.1.1, n2.2.1.2.1]
  by_cases c0 : isCell (aHi (gNow A)) (aWi (gNow A)) n
  rotate_left
  · rw [bI_f c0, mEq_t rfl, iC_f (fun x => c0 x.2)]
    exact ⟨h, rfl, hQ, CN_rf h⟩
  have c0' := c0
  unfold isCell at c0'
  rw [bI_t c0, mEq_f (by decide)]
  obtain ⟨h1, f1, f2, f3, f4, f5⟩ := E_fresh (d := d) (by omega) hQ
  rw [mF_t w1, f1, mC_s, mD_t (by decide), mD_t (by decide), mF_t wV, Int.tdiv_eq_ediv_of_nonneg c0'.1, Int.tmod_eq_emod_of_nonneg c0'.1, mI_id (x := n / 100) (by omega) (by omega), E_vMask (by omega) (Or.inl rfl) (WK_V1 hW) f5 n3 f4 (by omega) (by omega), mC_s, bits_A n3 k ck.1 ck.2, iC_t ⟨ck, c0⟩]
  exact ⟨h1, rfl, f2, f3⟩
/-- of a rule: how many show its number by it -/
noncomputable def shbN (s : aS) (k : Int) : Int := sum2 (fun r c => bI (fromA s (aRul s k 4) r c = 4 + k)) (aHi s).toNat (aWi s).toNat 0 0
noncomputable def ruA (s : aS) (k q : Int) : Int := if q = 0 then rectC (aRul s k 0) (aRul s k 1) (aRul s k 2) (aRul s k 3) else if q = 1 then aRul s k 4 else if q = 2 then aRul s k 5 else if q = 3 then aRul s k 6 else if q = 4 then sum2 (fun r c => bI (hldA s k r c)) (aHi s).toNat (aWi s).toNat 0 0 else shbN s k
noncomputable def fRuleOf (A : aG) (k q : Int) : Int := iC ((0 ≤ k ∧ k < aN (gNow A)) ∧ 0 ≤ q ∧ q ≤ 5) (ruA (gNow A) k q) (-2)
theorem E_F_ruleOf (hd : 30 ≤ d) (hQ : QS w h A) (k q : Int) : ∃ h', mm_P d 163 [(2, 1), (0, k), (0, q)] w h = some ((0, fRuleOf A k q), w, h') ∧ QS w h' A ∧ CN h h' := by
  obtain ⟨d, rfl, hd2⟩ := mm_dS (show 29 + 1 ≤ d by omega)
  obtain ⟨n1, n2, n3⟩ := Q_now hQ
  have hW := hQ.1
  have hK := hQ.2.1
  have hc := hQ.2.2.1
  have w1 : (w.1 1).1 = 12 := by rw [hW.1.1]
  have wS : (w.1 (gAt (h 2 2) (gD A))).1 = 9 := by rw [n1.2.1]
  have wV : (w.1 438).1 = 11 := by rw [(WK_V1 hW).1]
  have i1 := n3.1
  have i2 := n3.2.1
  unfold fRuleOf
  rw [P_F_ruleOf, mF_t w1, E_now (by omega) hW hK hc, mC_s, mF_t wS, E_hasRule (by omega) n1, mC_s, n2.2.1.2.2]
  by_cases ck : 0 ≤ k ∧ k < aN (gNow A)
  rotate_left
  · rw [bI_f ck, mEq_t rfl, iC_f (fun x => ck x.1)]
    exact ⟨h, rfl, hQ, CN_rf h⟩
  have hn6 := n3.2.2.1
  rw [bI_t ck, mEq_f (by decide), mF_t wS, E_ruleAt (by omega) n1 n2.1 ck.1 (by omega), mC_s]
  have hv := (n2.2.2.2.2.2.2.2 k ck.1 ck.2).1
  have o1 : (w.1 (h (gAt (h 2 2) (gD A) + 5) k)).1 = 7 := by rw [(Sh_rul n1 n2.1 ck.1 (show k < 6 by omega)).1]
  have v4 := hv 4 (by decide) (by decide)
  have hp4 := (n3.2.2.2.2.2.2.2.2 k ck.1 ck.2).2.2.1
  by_cases q0 : q = 0
  · subst q0
    rw [mEq_t rfl]
    simp only [mF_t o1]
    rw [E_rectCode (by omega), mC_s, hv 0 (by decide) (by decide), hv 1 (by decide) (by decide), hv 2 (by decide) (by decide), hv 3 (by decide) (by decide), iC_t ⟨ck, by decide⟩]
    exact ⟨h, rfl, hQ, CN_rf h⟩
  rw [mEq_f q0]
  by_cases q1 : q = 1
  · subst q1
    rw [mEq_t rfl, mF_t o1, v4, iC_t ⟨ck, by decide⟩]
    exact ⟨h, rfl, hQ, CN_rf h⟩
  rw [mEq_f q1]
  by_cases q2 : q = 2
  · subst q2
    rw [mEq_t rfl, mF_t o1, hv 5 (by decide) (by decide), iC_t ⟨ck, by decide⟩]
    exact ⟨h, rfl, hQ, CN_rf h⟩
  rw [mEq_f q2]
  by_cases q3 : q = 3
  · subst q3
    rw [mEq_t rfl, mF_t o1, hv 6 (by decide) (by decide), iC_t ⟨ck, by decide⟩]
    exact ⟨h, rfl, hQ, CN_rf h⟩
  rw [mEq_f q3]
  obtain ⟨h1, f1, f2, f3, f4, f5⟩ := E_fresh (d := d) (by omega) hQ
  by_cases q4 : q = 4
  · subst q4
    rw [mEq_t rfl, mF_t w1, f1, mC_s, mF_t wV, E_held (by omega) (Or.inl rfl) (WK_V1 hW) f5 n3 f4 ck, mC_s, iC_t ⟨ck, by decide⟩]
    exact ⟨h1, rfl, f2, f3⟩
  rw [mEq_f q4]
  by_cases q5 : q = 5
  · subst q5
    have rj := n2.1.2.2.2.2.2.2.1 k ck.1 (by omega)
    have hin := gAt_in (base := h 2 2) (k := gD A)
    rw [mEq_t rfl, mF_t w1, f1, mC_s, mF_t o1, mF_t wV, f3.1 _ (by omega) (by omega) (by omega), v4, E_shby (by omega) (Or.inl rfl) (WK_V1 hW) f5 n3 f4 ck hp4, mC_s, iC_t ⟨ck, by decide⟩]
    exact ⟨h1, rfl, f2, f3⟩
  rw [mEq_f q5, iC_f (fun x => by omega)]
  exact ⟨h, rfl, hQ, CN_rf h⟩
end PU
