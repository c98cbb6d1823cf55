/-! PURE: a unit is read on both sides. -/
/-- what was read, and what it is made of -/
def OKT (n p p' m : Int) (T : Term) : Prop := p < p' ∧ p' ≤ n ∧ wfT (decide (4 ≤ m)) T ∧ ((lenM T : Nat) : Int) ≤ 2 * (p' - p) ∧ ((lenC T : Nat) : Int) ≤ 2 * (p' - p) ∧ ((lvs T : Nat) : Int) ≤ p' - p
def R1C (w : mm_W) (B : Int → Int) (n m op p : Int) (T : Term) (p' : Int) : Prop := ∀ (d : Nat) (h : mm_H) (q : Nat), 40 * (5 - op) - 4 * m + 20 ≤ (d : Int) → CA w h B n p q → (q : Int) ≤ 2 * p → ∃ h', mm_P d 2 [(2, 463), (0, m), (0, op)] w h = some ((9, 0), w, h') ∧ CO h h' ∧ CA w h' B n p' (q + lenC T) ∧ Seg h' 464 q (compC T q) ∧ ∀ j : Int, j < q → h' 464 j = h 464 j
def R0C (w : mm_W) (B : Int → Int) (n m op p f : Int) : Prop := ∀ (d : Nat) (h : mm_H) (q : Nat), 40 * (5 - op) - 4 * m + 20 ≤ (d : Int) → CA w h B n p q → (q : Int) ≤ 2 * p → ∃ h', mm_P d 2 [(2, 463), (0, m), (0, op)] w h = some ((9, 0), w, h') ∧ CO h h' ∧ CF w h' B n f
def R1M (w : mm_W) (B : Int → Int) (n m op p : Int) (T : Term) (p' : Int) : Prop := ∀ w : mm_W, MW w → ∀ (d : Nat) (h : mm_H) (q : Nat), 40 * (5 - op) - 4 * m + 20 ≤ (d : Int) → MA h B n p op q → (q : Int) ≤ 2 * p → ∃ h', mm_P d (mId m) [(2, 483)] w h = some ((9, 0), w, h') ∧ Mq h h' ∧ MA h' B n p' op (q + lenM T) ∧ Seg h' 491 q (compM T q) ∧ ∀ j : Int, j < q → h' 491 j = h 491 j
def R0M (w : mm_W) (B : Int → Int) (n m op p f : Int) : Prop := ∀ w : mm_W, MW w → ∀ (d : Nat) (h : mm_H) (q : Nat), 40 * (5 - op) - 4 * m + 20 ≤ (d : Int) → MA h B n p op q → (q : Int) ≤ 2 * p → ∃ h', mm_P d (mId m) [(2, 483)] w h = some ((9, 0), w, h') ∧ Mq h h' ∧ MG h' B n f
def RD (w : mm_W) (B : Int → Int) (n m op p : Int) : Prop := (∃ f, R0C w B n m op p f ∧ R0M w B n m op p f) ∨ ∃ (T : Term) (p' : Int), OKT n p p' m T ∧ R1C w B n m op p T p' ∧ R1M w B n m op p T p'
section PU
variable {d : Nat} {w : mm_W} {h : mm_H} {B : Int → Int} {n p : Int}
theorem CA_k {q : Nat} (hA : CA w h B n p q) : h 461 2 = tK B n p := hA.1.2.2.1
theorem MA_k {op : Int} {q : Nat} (hA : MA h B n p op q) {c : Int} (hc : c = 0 ∨ c = 1 ∨ c = 2 ∨ c ∈ sgs) : h 483 18 = c ↔ tK B n p = c := kM_iff hA.1.2.2.1 hc
theorem CA_n {q : Nat} (hA : CA w h B n p q) : n ≤ 200 ∧ 0 ≤ p ∧ p ≤ n := ⟨hA.1.1.2.2.1.2, hA.1.2.2.2.2.2⟩
theorem MA_n {op : Int} {q : Nat} (hA : MA h B n p op q) : n ≤ 200 ∧ 0 ≤ p ∧ p ≤ n := ⟨hA.1.1.2.1.2, hA.1.2.2.2.2.2.2⟩
/-- a minus, too deep -/
theorem U_deep (hW : CW w) (hM : MW w) {c : Int} (hc : c = 45 ∨ c = 40) (hk : tK B n p = c) : R0C w B n 6 4 p (tS B n p) ∧ R0M w B n 6 4 p (tS B n p) := by
  constructor
  · intro d h q hd hA hq
    obtain ⟨d, rfl, hd2⟩ := mm_dS (show 35 + 1 ≤ d by omega)
    obtain ⟨d, rfl, hd3⟩ := mm_dS (show 34 + 1 ≤ d by omega)
    have hw : (w.1 463).1 = 1 := by rw [hW.2.1]
    have hw2 : (w.1 461).1 = 10 := by rw [hW.1.1]
    obtain ⟨h1, a1, a2, a3⟩ := E_opens4 (d := d) (by omega) hW hA (op := 4) (by decide)
    refine ⟨h1, C_l6 hW ?_, a2, a3⟩
    rw [P_Cr_readUnit]
    simp only [mF_t hw]
    rw [hA.2.1.1]
    simp only [mF_t hw2]
    rw [CA_k hA, hk]
    rcases hc with rfl | rfl
    · rw [mEq_t rfl, a1, mC_s, mEq_t rfl]
    · rw [mEq_f (by decide), mEq_t rfl, a1, mC_s, mEq_t rfl]
  · intro w hM d h q hd hA hq
    obtain ⟨d, rfl, hd2⟩ := mm_dS (show 35 + 1 ≤ d by omega)
    have hw : (w.1 483).1 = 13 := by rw [hM.1]
    obtain ⟨h1, a1, a2, a3⟩ := E_M_opens4 (d := d) (by omega) hM hA
    refine ⟨h1, ?_, a2, a3⟩
    show mm_P (d + 1) 274 [(2, 483)] w h = _
    rw [P_M_readsUnit]
    simp only [mF_t hw]
    rcases hc with rfl | rfl
    · rw [(MA_k hA (by decide)).mpr hk, mEq_t rfl, mEq_t rfl, a1, mC_s, mEq_t rfl]
    · rw [(MA_k hA (by decide)).mpr hk, mEq_f (by decide), mEq_t rfl, mEq_f (by decide), a1, mC_s, mEq_t rfl]
theorem U_neg (hW : CW w) (hM : MW w) {op : Int} (ho : 0 ≤ op ∧ op < 4) (hp : 0 ≤ p ∧ p ≤ n) (hk : tK B n p = 45) (ih : RD w B n 6 (op + 1) (tE B n p)) : RD w B n 6 op p := by
  have l1 := tS_le (B := B) hp.2
  have l2 := tE_lt hp.2 (show tK B n p ≠ 0 by omega)
  rcases ih with ⟨f, i1, i2⟩ | ⟨T, p', ⟨t1, t2, t3, t4, t5, t6⟩, i1, i2⟩
  · refine Or.inl ⟨f, fun d h q hd hA hq => ?_, fun w hM d h q hd hA hq => ?_⟩
    · obtain ⟨d, rfl, hd2⟩ := mm_dS (show 35 + 1 ≤ d by omega)
      obtain ⟨d, rfl, hd3⟩ := mm_dS (show 34 + 1 ≤ d by omega)
      have hw : (w.1 463).1 = 1 := by rw [hW.2.1]
      have hw2 : (w.1 461).1 = 10 := by rw [hW.1.1]
      obtain ⟨h1, a1, a2, a3, a4⟩ := E_opens (d := d) (by omega) hW hA ho.2
      obtain ⟨h2, b1, b2, b3⟩ := i1 d h1 q (by omega) a3 (by omega)
      obtain ⟨h3, c1, c2, c3⟩ := E_emitF (d := d) (by omega) hW b3 5
      refine ⟨h3, C_l6 hW ?_, CO_tr (CO_tr a2 b2) c2, c3⟩
      rw [P_Cr_readUnit]
      simp only [mF_t hw]
      rw [hA.2.1.1]
      simp only [mF_t hw2]
      rw [CA_k hA, hk, mEq_t rfl, a1, mC_s, mEq_f (by decide), mF_t hw, mI_id (by omega) (by omega), b1, mC_s, mF_t hw, c1, mC_s]
    · obtain ⟨d, rfl, hd2⟩ := mm_dS (show 35 + 1 ≤ d by omega)
      have hw : (w.1 483).1 = 13 := by rw [hM.1]
      obtain ⟨h1, a1, a2, a3, a4⟩ := E_M_opens (d := d) (by omega) hM hA ho
      obtain ⟨h2, b1, b2, b3⟩ := i2 w hM d h1 q (by omega) a3 (by omega)
      obtain ⟨c1, c2⟩ := MG_up b3 (b := 483) (i := 20) (z := mI (h2 483 20 - 1)) (Or.inr ⟨rfl, Or.inl rfl⟩)
      refine ⟨_, ?_, Mq_tr (Mq_tr a2 b2) c1, c2⟩
      show mm_P (d + 1) 274 [(2, 483)] w h = _
      have b1 : mm_P d 274 [(2, 483)] w h1 = some ((9, 0), w, h2) := b1
      rw [P_M_readsUnit]
      simp only [mF_t hw]
      rw [(MA_k hA (by decide)).mpr hk, mEq_t rfl, mEq_t rfl, a1, mC_s, mEq_f (by decide), mEq_f (by decide), mF_t hw, b1, mC_s, mF_t hw, E_M_writesF (by omega) hM b3.1, mC_s, mF_t hw, mF_t hw]
  · refine Or.inr ⟨.length T, p', ⟨by omega, t2, t3, ?_, ?_, ?_⟩, fun d h q hd hA hq => ?_, fun w hM d h q hd hA hq => ?_⟩
    · unfold lenM; omega
    · unfold lenC; omega
    · unfold lvs; omega
    · have hn := CA_n hA
      obtain ⟨d, rfl, hd2⟩ := mm_dS (show 35 + 1 ≤ d by omega)
      obtain ⟨d, rfl, hd3⟩ := mm_dS (show 34 + 1 ≤ d by omega)
      have hw : (w.1 463).1 = 1 := by rw [hW.2.1]
      have hw2 : (w.1 461).1 = 10 := by rw [hW.1.1]
      obtain ⟨h1, a1, a2, a3, a4⟩ := E_opens (d := d) (by omega) hW hA ho.2
      obtain ⟨h2, b1, b2, b3, b4, b5⟩ := i1 d h1 q (by omega) a3 (by omega)
      obtain ⟨h3, c1, c2, c3, c4, c5⟩ := E_emit (d := d) (by omega) hW b3 (by omega) 5
      refine ⟨h3, C_l6 hW ?_, CO_tr (CO_tr a2 b2) c2, c3, ?_, fun j hj => by rw [c5 j (by omega), b5 j hj, a4]⟩
      · rw [P_Cr_readUnit]
        simp only [mF_t hw]
        rw [hA.2.1.1]
        simp only [mF_t hw2]
        rw [CA_k hA, hk, mEq_t rfl, a1, mC_s, mEq_f (by decide), mF_t hw, mI_id (by omega) (by omega), b1, mC_s, mF_t hw, c1, mC_s]
      · have hl := compC_len T q
        refine Seg_app.mpr ⟨Seg_fr b4 (e := ((q + lenC T : Nat) : Int)) (by omega) (fun j _ hj => c5 j (by omega)), Seg_cons.mpr ⟨by rw [hl]; exact c4, Seg_nil⟩⟩
    · have hn := MA_n hA
      obtain ⟨d, rfl, hd2⟩ := mm_dS (show 35 + 1 ≤ d by omega)
      have hw : (w.1 483).1 = 13 := by rw [hM.1]
      obtain ⟨h1, a1, a2, a3, a4⟩ := E_M_opens (d := d) (by omega) hM hA ho
      obtain ⟨h2, b1, b2, b3, b4, b5⟩ := i2 w hM d h1 q (by omega) a3 (by omega)
      obtain ⟨h3, c1, c2, c3, c4, c5⟩ := E_M_wr (d := d) (by omega) hM b3 (by omega) 6
      obtain ⟨e1, e2, e3⟩ := MA_close c3 (h' := mUp h3 483 20 op) rfl
      refine ⟨_, ?_, Mq_tr (Mq_tr (Mq_tr a2 b2) c2) e1, e2, ?_, fun j hj => by rw [e3, c5 j (by omega), b5 j hj, a4]⟩
      · show mm_P (d + 1) 274 [(2, 483)] w h = _
        have b1 : mm_P d 274 [(2, 483)] w h1 = some ((9, 0), w, h2) := b1
        rw [P_M_readsUnit]
        simp only [mF_t hw]
        rw [(MA_k hA (by decide)).mpr hk, mEq_t rfl, mEq_t rfl, a1, mC_s, mEq_f (by decide), mEq_f (by decide), mF_t hw, b1, mC_s, mF_t hw, c1, mC_s, mF_t hw, mF_t hw, c3.2.2.1, mI_id (by omega) (by omega), show op + 1 - 1 = op by omega]
      · have hl := compM_len T q
        refine Seg_app.mpr ⟨Seg_fr b4 (e := ((q + lenM T : Nat) : Int)) (by omega) (fun j _ hj => by rw [e3]; exact c5 j (by omega)), Seg_cons.mpr ⟨by rw [hl, e3]; exact c4, Seg_nil⟩⟩
theorem U_par (hW : CW w) (hM : MW w) {op : Int} (ho : 0 ≤ op ∧ op < 4) (hp : 0 ≤ p ∧ p ≤ n) (hk : tK B n p = 40) (ih : RD w B n 4 (op + 1) (tE B n p)) : RD w B n 6 op p := by
  have l1 := tS_le (B := B) hp.2
  have l2 := tE_lt hp.2 (show tK B n p ≠ 0 by omega)
  rcases ih with ⟨f, i1, i2⟩ | ⟨T, p', ⟨t1, t2, t3, t4, t5, t6⟩, i1, i2⟩
  · refine Or.inl ⟨f, fun d h q hd hA hq => ?_, fun w hM d h q hd hA hq => ?_⟩
    · obtain ⟨d, rfl, hd2⟩ := mm_dS (show 35 + 1 ≤ d by omega)
      obtain ⟨d, rfl, hd3⟩ := mm_dS (show 34 + 1 ≤ d by omega)
      have hw : (w.1 463).1 = 1 := by rw [hW.2.1]
      have hw2 : (w.1 461).1 = 10 := by rw [hW.1.1]
      obtain ⟨h1, a1, a2, a3, a4⟩ := E_opens (d := d) (by omega) hW hA ho.2
      obtain ⟨h2, b1, b2, b3⟩ := i1 d h1 q (by omega) a3 (by omega)
      obtain ⟨h3, c1, c2, c3⟩ := E_needSign_f (d := d) (by omega) hW.1 b3.2.2.2.1 b3.1 41
      obtain ⟨e1, e2⟩ := CF_to b3.2 c2 c3
      refine ⟨h3, C_l6 hW ?_, CO_tr (CO_tr a2 b2) e1, e2⟩
      rw [P_Cr_readUnit]
      simp only [mF_t hw]
      rw [hA.2.1.1]
      simp only [mF_t hw2]
      rw [CA_k hA, hk, mEq_f (by decide), mEq_t rfl, a1, mC_s, mEq_f (by decide), mF_t hw, mI_id (by omega) (by omega), b1, mC_s, mF_t hw, b3.2.1, mF_t hw2, c1, mC_s]
    · obtain ⟨d, rfl, hd2⟩ := mm_dS (show 35 + 1 ≤ d by omega)
      have hw : (w.1 483).1 = 13 := by rw [hM.1]
      obtain ⟨h1, a1, a2, a3, a4⟩ := E_M_opens (d := d) (by omega) hM hA ho
      obtain ⟨h2, b1, b2, b3⟩ := i2 w hM d h1 q (by omega) a3 (by omega)
      obtain ⟨h3, c1, c2, c3⟩ := E_M_wantsF (d := d) (by omega) hM b3.1 0
      obtain ⟨e1, e2⟩ := MG_mo b3.2 c2 c3
      obtain ⟨g1, g2⟩ := MG_up e2 (b := 483) (i := 20) (z := mI (h3 483 20 - 1)) (Or.inr ⟨rfl, Or.inl rfl⟩)
      refine ⟨_, ?_, Mq_tr (Mq_tr (Mq_tr a2 b2) e1) g1, g2⟩
      show mm_P (d + 1) 274 [(2, 483)] w h = _
      have b1 : mm_P d 271 [(2, 483)] w h1 = some ((9, 0), w, h2) := b1
      rw [P_M_readsUnit]
      simp only [mF_t hw]
      rw [(MA_k hA (by decide)).mpr hk, mEq_f (by decide), mEq_t rfl, mEq_f (by decide), a1, mC_s, mEq_f (by decide), mEq_t rfl, mF_t hw, b1, mC_s, mF_t hw, E_M_takesSignF (by omega) hM b3.1 (by decide), mC_s, mF_t hw, c1, mC_s, mF_t hw, mF_t hw]
  · by_cases ck : tK B n p' = 41
    · have l3 := tE_lt t2 (show tK B n p' ≠ 0 by omega)
      have l4 := tE_le (B := B) t2
      refine Or.inr ⟨T, tE B n p', ⟨by omega, l4.2.1, t3, by omega, by omega, by omega⟩, fun d h q hd hA hq => ?_, fun w hM d h q hd hA hq => ?_⟩
      · have hn := CA_n hA
        obtain ⟨d, rfl, hd2⟩ := mm_dS (show 35 + 1 ≤ d by omega)
        obtain ⟨d, rfl, hd3⟩ := mm_dS (show 34 + 1 ≤ d by omega)
        have hw : (w.1 463).1 = 1 := by rw [hW.2.1]
        have hw2 : (w.1 461).1 = 10 := by rw [hW.1.1]
        obtain ⟨h1, a1, a2, a3, a4⟩ := E_opens (d := d) (by omega) hW hA ho.2
        obtain ⟨h2, b1, b2, b3, b4, b5⟩ := i1 d h1 q (by omega) a3 (by omega)
        obtain ⟨h3, c1, c2, c3⟩ := E_needSign (d := d) (by omega) hW.1 b3.2.1.2.2.1 b3.1 41
        have c3 : TA h3 B n (tE B n p') := by
          rcases c3 with ⟨_, c3⟩ | ⟨c3, _⟩
          · exact c3
          · exact absurd ck c3
        obtain ⟨e1, e2, e3⟩ := CA_to b3 c2 c3
        refine ⟨h3, C_l6 hW ?_, CO_tr (CO_tr a2 b2) e1, e2, ?_, fun j hj => by rw [e3, b5 j hj, a4]⟩
        · rw [P_Cr_readUnit]
          simp only [mF_t hw]
          rw [hA.2.1.1]
          simp only [mF_t hw2]
          rw [CA_k hA, hk, mEq_f (by decide), mEq_t rfl, a1, mC_s, mEq_f (by decide), mF_t hw, mI_id (by omega) (by omega), b1, mC_s, mF_t hw, b3.2.1.1, mF_t hw2, c1, mC_s]
        · exact fun i hi => by rw [e3]; exact b4 i hi
      · have hn := MA_n hA
        obtain ⟨d, rfl, hd2⟩ := mm_dS (show 35 + 1 ≤ d by omega)
        have hw : (w.1 483).1 = 13 := by rw [hM.1]
        obtain ⟨h1, a1, a2, a3, a4⟩ := E_M_opens (d := d) (by omega) hM hA ho
        obtain ⟨h2, b1, b2, b3, b4, b5⟩ := i2 w hM d h1 q (by omega) a3 (by omega)
        obtain ⟨h3, c1, c2, c3⟩ : ∃ h3, mm_P d 263 [(2, 483), (0, 41)] w h2 = some ((0, 1), w, h3) ∧ MO h2 h3 ∧ MT h3 B n (tE B n p') := by
          rcases E_M_takesSign (d := d) (by omega) hM b3.2.1.1 (c := 41) (by decide) b3.1 with ⟨_, h3, c⟩ | ⟨c, _⟩
          · exact ⟨h3, c⟩
          · exact absurd ck c
        obtain ⟨k1, k2, k3⟩ := MA_mo b3 c2 c3
        obtain ⟨e1, e2, e3⟩ := MA_close k2 (h' := mUp h3 483 20 op) rfl
        refine ⟨_, ?_, Mq_tr (Mq_tr (Mq_tr a2 b2) k1) e1, e2, ?_, fun j hj => by rw [e3, k3, b5 j hj, a4]⟩
        · show mm_P (d + 1) 274 [(2, 483)] w h = _
          have b1 : mm_P d 271 [(2, 483)] w h1 = some ((9, 0), w, h2) := b1
          rw [P_M_readsUnit]
          simp only [mF_t hw]
          rw [(MA_k hA (by decide)).mpr hk, mEq_f (by decide), mEq_t rfl, mEq_f (by decide), a1, mC_s, mEq_f (by decide), mEq_t rfl, mF_t hw, b1, mC_s, mF_t hw, c1, mC_s, mF_t hw, E_M_wants1 (by omega), mC_s, mF_t hw, mF_t hw, k2.2.2.1, mI_id (by omega) (by omega), show op + 1 - 1 = op by omega]
        · exact fun i hi => by rw [e3, k3]; exact b4 i hi
    · refine Or.inl ⟨tS B n p', fun d h q hd hA hq => ?_, fun w hM d h q hd hA hq => ?_⟩
      · obtain ⟨d, rfl, hd2⟩ := mm_dS (show 35 + 1 ≤ d by omega)
        obtain ⟨d, rfl, hd3⟩ := mm_dS (show 34 + 1 ≤ d by omega)
        have hw : (w.1 463).1 = 1 := by rw [hW.2.1]
        have hw2 : (w.1 461).1 = 10 := by rw [hW.1.1]
        obtain ⟨h1, a1, a2, a3, a4⟩ := E_opens (d := d) (by omega) hW hA ho.2
        obtain ⟨h2, b1, b2, b3, b4, b5⟩ := i1 d h1 q (by omega) a3 (by omega)
        obtain ⟨h3, c1, c2, c3⟩ := E_needSign (d := d) (by omega) hW.1 b3.2.1.2.2.1 b3.1 41
        have c3 : TF h3 B n (tS B n p') := by
          rcases c3 with ⟨c3, _⟩ | ⟨_, c3⟩
          · exact absurd c3 ck
          · exact c3
        obtain ⟨e1, e2⟩ := CF_to b3.2.1 c2 c3
        refine ⟨h3, C_l6 hW ?_, CO_tr (CO_tr a2 b2) e1, e2⟩
        rw [P_Cr_readUnit]
        simp only [mF_t hw]
        rw [hA.2.1.1]
        simp only [mF_t hw2]
        rw [CA_k hA, hk, mEq_f (by decide), mEq_t rfl, a1, mC_s, mEq_f (by decide), mF_t hw, mI_id (by omega) (by omega), b1, mC_s, mF_t hw, b3.2.1.1, mF_t hw2, c1, mC_s]
      · obtain ⟨d, rfl, hd2⟩ := mm_dS (show 35 + 1 ≤ d by omega)
        have hw : (w.1 483).1 = 13 := by rw [hM.1]
        obtain ⟨h1, a1, a2, a3, a4⟩ := E_M_opens (d := d) (by omega) hM hA ho
        obtain ⟨h2, b1, b2, b3, b4, b5⟩ := i2 w hM d h1 q (by omega) a3 (by omega)
        have c1 : mm_P d 263 [(2, 483), (0, 41)] w h2 = some ((0, 0), w, h2) := by
          rcases E_M_takesSign (d := d) (by omega) hM b3.2.1.1 (c := 41) (by decide) b3.1 with ⟨c, _⟩ | ⟨_, c⟩
          · exact absurd c ck
          · exact c
        obtain ⟨h3, k1, k2, k3⟩ := E_M_wants0 (d := d) (by omega) hM b3.1
        obtain ⟨e1, e2⟩ := MG_mo b3.2.1 k2 k3
        obtain ⟨g1, g2⟩ := MG_up e2 (b := 483) (i := 20) (z := mI (h3 483 20 - 1)) (Or.inr ⟨rfl, Or.inl rfl⟩)
        refine ⟨_, ?_, Mq_tr (Mq_tr (Mq_tr a2 b2) e1) g1, g2⟩
        show mm_P (d + 1) 274 [(2, 483)] w h = _
        have b1 : mm_P d 271 [(2, 483)] w h1 = some ((9, 0), w, h2) := b1
        rw [P_M_readsUnit]
        simp only [mF_t hw]
        rw [(MA_k hA (by decide)).mpr hk, mEq_f (by decide), mEq_t rfl, mEq_f (by decide), a1, mC_s, mEq_f (by decide), mEq_t rfl, mF_t hw, b1, mC_s, mF_t hw, c1, mC_s, mF_t hw, k1, mC_s, mF_t hw, mF_t hw]
end PU
