/-! PURE: comparisons, not, brackets are read on both sides. -/
def mkC (c : Int) (a b : Term) : Term := if c = 60 then .div a b else if c = 61 then .rem a b else .elem a b
def opC (c : Int) : Int := if c = 60 then 7 else if c = 61 then 8 else 9
theorem mkC_all {c : Int} (h : c = 60 ∨ c = 61 ∨ c = 62) (a b : Term) : lenC (mkC c a b) = lenC a + lenC b + 1 ∧ lenM (mkC c a b) = lenM a + lenM b + 1 ∧ lvs (mkC c a b) = lvs a + lvs b ∧ (∀ q, compC (mkC c a b) q = compC a q ++ (compC b (q + lenC a) ++ [c])) ∧ (∀ q, compM (mkC c a b) q = compM a q ++ (compM b (q + lenM a) ++ [opC c])) ∧ (wfT false (mkC c a b) ↔ wfT true a ∧ wfT true b) := by
  rcases h with rfl | rfl | rfl
  · exact ⟨rfl, rfl, rfl, fun _ => rfl, fun _ => rfl, Iff.rfl⟩
  · exact ⟨rfl, rfl, rfl, fun _ => rfl, fun _ => rfl, Iff.rfl⟩
  · exact ⟨rfl, rfl, rfl, fun _ => rfl, fun _ => rfl, Iff.rfl⟩
theorem wN_not : wNum [110, 111, 116] 14836 := ⟨by decide, by decide, by decide, by decide⟩
theorem wN_or : wNum [111, 114] 498 := ⟨by decide, by decide, by decide, by decide⟩
theorem wN_and : wNum [97, 110, 100] 1476 := ⟨by decide, by decide, by decide, by decide⟩
section PU
variable {d : Nat} {w : mm_W} {h : mm_H} {B : Int → Int} {n p : Int}
theorem tWd_k {ws : List Int} (h : tWd B n p = ws) (hn : ws ≠ []) : tK B n p = 1 := by
  rcases Classical.em (tK B n p = 1) with c | c
  · exact c
  · rw [tWd_0 c] at h; exact absurd h.symm hn
/-- the class at level 2: three ways -/
theorem N_C1 (hd : 7 ≤ d) (hW : CW w) {q : Nat} (hA : CA w h B n p q) (hk : tWd B n p = [110, 111, 116]) {op : Int} (ho : 0 ≤ op ∧ op < 4) : ∃ h1, CO h h1 ∧ CA w h1 B n (tE B n p) q ∧ h1 464 = h 464 ∧ ∀ h2 h3, mm_P d 2 [(2, 463), (0, 2), (0, op + 1)] w h1 = some ((9, 0), w, h2) → mm_P d 11 [(2, 463), (0, 6)] w h2 = some ((9, 0), w, h3) → mm_P (d + 1 + 1) 2 [(2, 463), (0, 2), (0, op)] w h = some ((9, 0), w, h3) := by
  have hw : (w.1 463).1 = 1 := by rw [hW.2.1]
  have hw2 : (w.1 461).1 = 10 := by rw [hW.1.1]
  obtain ⟨h1, a1, a2, a3, a4⟩ := E_opens (d := d) (by omega) hW hA ho.2
  refine ⟨h1, a2, a3, a4, fun h2 h3 e1 e2 => C_l2 hW ?_⟩
  rw [P_Cr_readNegated, mF_t hw, hA.2.1.1, mF_t hw2, E_isWord (by omega) hW.1 hA.2.1.2.2.2.2.2.1 (by decide) hA.1, mC_s, bI_t hk, mEq_f (by decide), mF_t hw, a1, mC_s, mEq_f (by decide), mF_t hw, mI_id (by omega) (by omega), e1, mC_s, mF_t hw, e2, mC_s]
theorem N_C2 (hd : 7 ≤ d) (hW : CW w) {q : Nat} (hA : CA w h B n p q) (hk : tK B n p = 91) {op : Int} (ho : 0 ≤ op ∧ op < 4) : ∃ h1, CO h h1 ∧ CA w h1 B n (tE B n p) q ∧ h1 464 = h 464 ∧ ∀ h2 h3, mm_P d 2 [(2, 463), (0, 0), (0, op + 1)] w h1 = some ((9, 0), w, h2) → h2 463 0 = 461 → mm_P d 118 [(2, 461), (0, 93)] w h2 = some ((9, 0), w, h3) → mm_P (d + 1 + 1) 2 [(2, 463), (0, 2), (0, op)] w h = some ((9, 0), w, h3) := by
  have hw : (w.1 463).1 = 1 := by rw [hW.2.1]
  have hw2 : (w.1 461).1 = 10 := by rw [hW.1.1]
  obtain ⟨h1, a1, a2, a3, a4⟩ := E_opens (d := d) (by omega) hW hA ho.2
  refine ⟨h1, a2, a3, a4, fun h2 h3 e1 e0 e2 => C_l2 hW ?_⟩
  have nw : tWd B n p ≠ [110, 111, 116] := fun x => by have := tWd_k x (by decide); omega
  rw [P_Cr_readNegated, mF_t hw, hA.2.1.1, mF_t hw2, E_isWord (by omega) hW.1 hA.2.1.2.2.2.2.2.1 (by decide) hA.1, mC_s, bI_f nw, mEq_t rfl, mF_t hw, hA.2.1.1, mF_t hw2, CA_k hA, mEq_t hk, mF_t hw, a1, mC_s, mEq_f (by decide), mF_t hw, mI_id (by omega) (by omega), e1, mC_s, mF_t hw, e0, mF_t hw2, e2, mC_s]
theorem N_C3 (hd : 7 ≤ d) (hW : CW w) {q : Nat} (hA : CA w h B n p q) (hk : tWd B n p ≠ [110, 111, 116]) (hk2 : tK B n p ≠ 91) {op : Int} {h3 : mm_H} (e : mm_P d 2 [(2, 463), (0, 3), (0, op)] w h = some ((9, 0), w, h3)) : mm_P (d + 1 + 1) 2 [(2, 463), (0, 2), (0, op)] w h = some ((9, 0), w, h3) := by
  have hw : (w.1 463).1 = 1 := by rw [hW.2.1]
  have hw2 : (w.1 461).1 = 10 := by rw [hW.1.1]
  refine C_l2 hW ?_
  rw [P_Cr_readNegated, mF_t hw, hA.2.1.1, mF_t hw2, E_isWord (by omega) hW.1 hA.2.1.2.2.2.2.2.1 (by decide) hA.1, mC_s, bI_f hk, mEq_t rfl, mF_t hw, hA.2.1.1, mF_t hw2, CA_k hA, mEq_f hk2, mF_t hw, e, mC_s]
theorem N_C4 (hd : 7 ≤ d) (hW : CW w) {q : Nat} (hA : CA w h B n p q) (hk : tWd B n p = [110, 111, 116] ∨ tK B n p = 91) : ∃ h1, mm_P (d + 1 + 1) 2 [(2, 463), (0, 2), (0, 4)] w h = some ((9, 0), w, h1) ∧ CO h h1 ∧ CF w h1 B n (tS B n p) := by
  have hw : (w.1 463).1 = 1 := by rw [hW.2.1]
  have hw2 : (w.1 461).1 = 10 := by rw [hW.1.1]
  obtain ⟨h1, a1, a2, a3⟩ := E_opens4 (d := d) (by omega) hW hA (op := 4) (by decide)
  refine ⟨h1, C_l2 hW ?_, a2, a3⟩
  rw [P_Cr_readNegated, mF_t hw, hA.2.1.1, mF_t hw2, E_isWord (by omega) hW.1 hA.2.1.2.2.2.2.2.1 (by decide) hA.1, mC_s]
  rcases hk with hk | hk
  · rw [bI_t hk, mEq_f (by decide), mF_t hw, a1, mC_s, mEq_t rfl]
  · have nw : tWd B n p ≠ [110, 111, 116] := fun x => by have := tWd_k x (by decide); omega
    rw [bI_f nw, mEq_t rfl, mF_t hw, hA.2.1.1, mF_t hw2, CA_k hA, mEq_t hk, mF_t hw, a1, mC_s, mEq_t rfl]
/-- the reference -/
theorem N_M1 (hd : 7 ≤ d) (hM : MW w) {q : Nat} {op : Int} (hA : MA h B n p op q) (hk : tWd B n p = [110, 111, 116]) (ho : 0 ≤ op ∧ op < 4) : ∃ h1, Mq h h1 ∧ MA h1 B n (tE B n p) (op + 1) q ∧ h1 491 = h 491 ∧ ∀ h2 h3, mm_P d 270 [(2, 483)] w h1 = some ((9, 0), w, h2) → mm_P d 266 [(2, 483), (0, 10)] w (mUp h2 483 20 (mI (h2 483 20 - 1))) = some ((9, 0), w, h3) → mm_P (d + 1) 270 [(2, 483)] w h = some ((9, 0), w, h3) := by
  have hw : (w.1 483).1 = 13 := by rw [hM.1]
  obtain ⟨h1, a1, a2, a3, a4⟩ := E_M_opens (d := d) (by omega) hM hA ho
  refine ⟨h1, a2, a3, a4, fun h2 h3 e1 e2 => ?_⟩
  rw [P_M_readsNot, mF_t hw, E_M_isWord (by omega) hM wN_not hA.1, mC_s, bI_t hk, mEq_f (by decide), mF_t hw, a1, mC_s, mEq_f (by decide), mF_t hw, e1, mC_s, mF_t hw, mF_t hw]
  try dsimp only
  rw [mF_t hw, e2, mC_s]
theorem N_M2 (hd : 7 ≤ d) (hM : MW w) {q : Nat} {op : Int} (hA : MA h B n p op q) (hk : tK B n p = 91) (ho : 0 ≤ op ∧ op < 4) : ∃ h1, Mq h h1 ∧ MA h1 B n (tE B n p) (op + 1) q ∧ h1 491 = h 491 ∧ ∀ h2 h3 h4 v, mm_P d 268 [(2, 483)] w h1 = some ((9, 0), w, h2) → mm_P d 263 [(2, 483), (0, 93)] w h2 = some ((0, v), w, h3) → mm_P d 264 [(2, 483), (0, v)] w h3 = some ((9, 0), w, h4) → mm_P (d + 1) 270 [(2, 483)] w h = some ((9, 0), w, mUp h4 483 20 (mI (h4 483 20 - 1))) := by
  have hw : (w.1 483).1 = 13 := by rw [hM.1]
  obtain ⟨h1, a1, a2, a3, a4⟩ := E_M_opens (d := d) (by omega) hM hA ho
  refine ⟨h1, a2, a3, a4, fun h2 h3 h4 v e1 e2 e3 => ?_⟩
  have nw : tWd B n p ≠ [110, 111, 116] := fun x => by have := tWd_k x (by decide); omega
  rw [P_M_readsNot, mF_t hw, E_M_isWord (by omega) hM wN_not hA.1, mC_s, bI_f nw, mEq_t rfl, mF_t hw, (MA_k hA (by decide)).mpr hk, mEq_t rfl, mF_t hw, a1, mC_s, mEq_f (by decide), mF_t hw, e1, mC_s, mF_t hw, e2, mC_s, mF_t hw, e3, mC_s, mF_t hw, mF_t hw]
theorem N_M4 (hd : 7 ≤ d) (hM : MW w) {q : Nat} (hA : MA h B n p 4 q) (hk : tWd B n p = [110, 111, 116] ∨ tK B n p = 91) : ∃ h1, mm_P (d + 1) 270 [(2, 483)] w h = some ((9, 0), w, h1) ∧ Mq h h1 ∧ MG h1 B n (tS B n p) := by
  have hw : (w.1 483).1 = 13 := by rw [hM.1]
  obtain ⟨h1, a1, a2, a3⟩ := E_M_opens4 (d := d) (by omega) hM hA
  refine ⟨h1, ?_, a2, a3⟩
  rw [P_M_readsNot, mF_t hw, E_M_isWord (by omega) hM wN_not hA.1, mC_s]
  rcases hk with hk | hk
  · rw [bI_t hk, mEq_f (by decide), mF_t hw, a1, mC_s, mEq_t rfl]
  · have nw : tWd B n p ≠ [110, 111, 116] := fun x => by have := tWd_k x (by decide); omega
    rw [bI_f nw, mEq_t rfl, mF_t hw, (MA_k hA (by decide)).mpr hk, mEq_t rfl, mF_t hw, a1, mC_s, mEq_t rfl]
theorem N_not (hW : CW w) (hM : MW w) {op : Int} (ho : 0 ≤ op ∧ op < 4) (hp : 0 ≤ p ∧ p ≤ n) (hk : tWd B n p = [110, 111, 116]) (ih : RD w B n 2 (op + 1) (tE B n p)) : RD w B n 2 op p := by
  have k1 := tWd_k hk (by decide)
  have l1 := tS_le (B := B) hp.2
  have l2 := tE_lt hp.2 (show tK B n p ≠ 0 by omega)
  rcases ih with ⟨f, i1, i2⟩ | ⟨T, p', ⟨t1, t2, t3, t4, t5, t6⟩, i1, i2⟩
  · refine Or.inl ⟨f, fun d h q hd hA hq => ?_, fun w hM d h q hd hA hq => ?_⟩
    · obtain ⟨d, rfl, hd2⟩ := mm_dS (show 35 + 1 ≤ d by omega)
      obtain ⟨d, rfl, hd3⟩ := mm_dS (show 34 + 1 ≤ d by omega)
      obtain ⟨h1, a1, a2, a3, a4⟩ := N_C1 (d := d) (by omega) hW hA hk ho
      obtain ⟨h2, b1, b2, b3⟩ := i1 d h1 q (by omega) a2 (by omega)
      obtain ⟨h3, c1, c2, c3⟩ := E_emitF (d := d) (by omega) hW b3 6
      exact ⟨h3, a4 h2 h3 b1 c1, CO_tr (CO_tr a1 b2) c2, c3⟩
    · obtain ⟨d, rfl, hd2⟩ := mm_dS (show 35 + 1 ≤ d by omega)
      obtain ⟨h1, a1, a2, a3, a4⟩ := N_M1 (d := d) (by omega) hM hA hk ho
      obtain ⟨h2, b1, b2, b3⟩ := i2 w hM d h1 q (by omega) a2 (by omega)
      obtain ⟨c1, c2⟩ := MG_up b3 (b := 483) (i := 20) (z := mI (h2 483 20 - 1)) (Or.inr ⟨rfl, Or.inl rfl⟩)
      exact ⟨_, a4 h2 _ b1 (E_M_writesF (by omega) hM c2.1 10), Mq_tr (Mq_tr a1 b2) c1, c2⟩
  · refine Or.inr ⟨.old T, p', ⟨by omega, t2, t3, ?_, ?_, ?_⟩, fun d h q hd hA hq => ?_, fun w hM d h q hd hA hq => ?_⟩
    · unfold lenM; omega
    · unfold lenC; omega
    · unfold lvs; omega
    · have hn := CA_n hA
      obtain ⟨d, rfl, hd2⟩ := mm_dS (show 35 + 1 ≤ d by omega)
      obtain ⟨d, rfl, hd3⟩ := mm_dS (show 34 + 1 ≤ d by omega)
      obtain ⟨h1, a1, a2, a3, a4⟩ := N_C1 (d := d) (by omega) hW hA hk ho
      obtain ⟨h2, b1, b2, b3, b4, b5⟩ := i1 d h1 q (by omega) a2 (by omega)
      obtain ⟨h3, c1, c2, c3, c4, c5⟩ := E_emit (d := d) (by omega) hW b3 (by omega) 6
      refine ⟨h3, a4 h2 h3 b1 c1, CO_tr (CO_tr a1 b2) c2, c3, ?_, fun j hj => by rw [c5 j (by omega), b5 j hj, a3]⟩
      have hl := compC_len T q
      exact Seg_app.mpr ⟨Seg_fr b4 (e := ((q + lenC T : Nat) : Int)) (by omega) (fun j _ hj => c5 j (by omega)), Seg_cons.mpr ⟨by rw [hl]; exact c4, Seg_nil⟩⟩
    · have hn := MA_n hA
      obtain ⟨d, rfl, hd2⟩ := mm_dS (show 35 + 1 ≤ d by omega)
      obtain ⟨h1, a1, a2, a3, a4⟩ := N_M1 (d := d) (by omega) hM hA hk ho
      obtain ⟨h2, b1, b2, b3, b4, b5⟩ := i2 w hM d h1 q (by omega) a2 (by omega)
      obtain ⟨e1, e2, e3⟩ := MA_close b3 (h' := mUp h2 483 20 (mI (h2 483 20 - 1))) (by rw [b3.2.2.1, mI_id (by omega) (by omega), show op + 1 - 1 = op by omega])
      obtain ⟨h3, c1, c2, c3, c4, c5⟩ := E_M_wr (d := d) (by omega) hM e2 (by omega) 10
      refine ⟨h3, a4 h2 h3 b1 c1, Mq_tr (Mq_tr (Mq_tr a1 b2) e1) c2, c3, ?_, fun j hj => by rw [c5 j (by omega), e3, b5 j hj, a3]⟩
      have hl := compM_len T q
      exact Seg_app.mpr ⟨Seg_fr b4 (e := ((q + lenM T : Nat) : Int)) (by omega) (fun j _ hj => by rw [c5 j (by omega), e3]), Seg_cons.mpr ⟨by rw [hl]; exact c4, Seg_nil⟩⟩
theorem N_br (hW : CW w) (hM : MW w) {op : Int} (ho : 0 ≤ op ∧ op < 4) (hp : 0 ≤ p ∧ p ≤ n) (hk : tK B n p = 91) (ih : RD w B n 0 (op + 1) (tE B n p)) : RD w B n 2 op p := by
  have l1 := tS_le (B := B) hp.2
  have l2 := tE_lt hp.2 (show tK B n p ≠ 0 by omega)
  rcases ih with ⟨f, i1, i2⟩ | ⟨T, p', ⟨t1, t2, t3, t4, t5, t6⟩, i1, i2⟩
  · refine Or.inl ⟨f, fun d h q hd hA hq => ?_, fun w hM d h q hd hA hq => ?_⟩
    · obtain ⟨d, rfl, hd2⟩ := mm_dS (show 35 + 1 ≤ d by omega)
      obtain ⟨d, rfl, hd3⟩ := mm_dS (show 34 + 1 ≤ d by omega)
      obtain ⟨h1, a1, a2, a3, a4⟩ := N_C2 (d := d) (by omega) hW hA hk ho
      obtain ⟨h2, b1, b2, b3⟩ := i1 d h1 q (by omega) a2 (by omega)
      obtain ⟨h3, c1, c2, c3⟩ := E_needSign_f (d := d) (by omega) hW.1 b3.2.2.2.1 b3.1 93
      obtain ⟨e1, e2⟩ := CF_to b3.2 c2 c3
      exact ⟨h3, a4 h2 h3 b1 b3.2.1 c1, CO_tr (CO_tr a1 b2) e1, e2⟩
    · obtain ⟨d, rfl, hd2⟩ := mm_dS (show 35 + 1 ≤ d by omega)
      obtain ⟨h1, a1, a2, a3, a4⟩ := N_M2 (d := d) (by omega) hM hA hk ho
      obtain ⟨h2, b1, b2, b3⟩ := i2 w hM d h1 q (by omega) a2 (by omega)
      obtain ⟨h3, c1, c2, c3⟩ := E_M_wantsF (d := d) (by omega) hM b3.1 0
      obtain ⟨e1, e2⟩ := MG_mo b3.2 c2 c3
      obtain ⟨g1, g2⟩ := MG_up e2 (b := 483) (i := 20) (z := mI (h3 483 20 - 1)) (Or.inr ⟨rfl, Or.inl rfl⟩)
      exact ⟨_, a4 h2 h2 h3 0 b1 (E_M_takesSignF (by omega) hM b3.1 (by decide)) c1, Mq_tr (Mq_tr (Mq_tr a1 b2) e1) g1, g2⟩
  · by_cases ck : tK B n p' = 93
    · have l3 := tE_lt t2 (show tK B n p' ≠ 0 by omega)
      have l4 := tE_le (B := B) t2
      refine Or.inr ⟨T, tE B n p', ⟨by omega, l4.2.1, t3, by omega, by omega, by omega⟩, fun d h q hd hA hq => ?_, fun w hM d h q hd hA hq => ?_⟩
      · have hn := CA_n hA
        obtain ⟨d, rfl, hd2⟩ := mm_dS (show 35 + 1 ≤ d by omega)
        obtain ⟨d, rfl, hd3⟩ := mm_dS (show 34 + 1 ≤ d by omega)
        obtain ⟨h1, a1, a2, a3, a4⟩ := N_C2 (d := d) (by omega) hW hA hk ho
        obtain ⟨h2, b1, b2, b3, b4, b5⟩ := i1 d h1 q (by omega) a2 (by omega)
        obtain ⟨h3, c1, c2, c3⟩ := E_needSign (d := d) (by omega) hW.1 b3.2.1.2.2.1 b3.1 93
        have c3 : TA h3 B n (tE B n p') := by
          rcases c3 with ⟨_, c3⟩ | ⟨c3, _⟩
          · exact c3
          · exact absurd ck c3
        obtain ⟨e1, e2, e3⟩ := CA_to b3 c2 c3
        refine ⟨h3, a4 h2 h3 b1 b3.2.1.1 c1, CO_tr (CO_tr a1 b2) e1, e2, fun i hi => by rw [e3]; exact b4 i hi, fun j hj => by rw [e3, b5 j hj, a3]⟩
      · have hn := MA_n hA
        obtain ⟨d, rfl, hd2⟩ := mm_dS (show 35 + 1 ≤ d by omega)
        obtain ⟨h1, a1, a2, a3, a4⟩ := N_M2 (d := d) (by omega) hM hA hk ho
        obtain ⟨h2, b1, b2, b3, b4, b5⟩ := i2 w hM d h1 q (by omega) a2 (by omega)
        obtain ⟨h3, c1, c2, c3⟩ : ∃ h3, mm_P d 263 [(2, 483), (0, 93)] w h2 = some ((0, 1), w, h3) ∧ MO h2 h3 ∧ MT h3 B n (tE B n p') := by
          rcases E_M_takesSign (d := d) (by omega) hM b3.2.1.1 (c := 93) (by decide) b3.1 with ⟨_, h3, c⟩ | ⟨c, _⟩
          · exact ⟨h3, c⟩
          · exact absurd ck c
        obtain ⟨k1, k2, k3⟩ := MA_mo b3 c2 c3
        obtain ⟨e1, e2, e3⟩ := MA_close k2 (h' := mUp h3 483 20 (mI (h3 483 20 - 1))) (by rw [k2.2.2.1, mI_id (by omega) (by omega), show op + 1 - 1 = op by omega])
        exact ⟨_, a4 h2 h3 h3 1 b1 c1 (E_M_wants1 (by omega)), Mq_tr (Mq_tr (Mq_tr a1 b2) k1) e1, e2, fun i hi => by rw [e3, k3]; exact b4 i hi, fun j hj => by rw [e3, k3, b5 j hj, a3]⟩
    · refine Or.inl ⟨tS B n p', fun d h q hd hA hq => ?_, fun w hM d h q hd hA hq => ?_⟩
      · obtain ⟨d, rfl, hd2⟩ := mm_dS (show 35 + 1 ≤ d by omega)
        obtain ⟨d, rfl, hd3⟩ := mm_dS (show 34 + 1 ≤ d by omega)
        obtain ⟨h1, a1, a2, a3, a4⟩ := N_C2 (d := d) (by omega) hW hA hk ho
        obtain ⟨h2, b1, b2, b3, b4, b5⟩ := i1 d h1 q (by omega) a2 (by omega)
        obtain ⟨h3, c1, c2, c3⟩ := E_needSign (d := d) (by omega) hW.1 b3.2.1.2.2.1 b3.1 93
        have c3 : TF h3 B n (tS B n p') := by
          rcases c3 with ⟨c3, _⟩ | ⟨_, c3⟩
          · exact absurd c3 ck
          · exact c3
        obtain ⟨e1, e2⟩ := CF_to b3.2.1 c2 c3
        exact ⟨h3, a4 h2 h3 b1 b3.2.1.1 c1, CO_tr (CO_tr a1 b2) e1, e2⟩
      · obtain ⟨d, rfl, hd2⟩ := mm_dS (show 35 + 1 ≤ d by omega)
        obtain ⟨h1, a1, a2, a3, a4⟩ := N_M2 (d := d) (by omega) hM hA hk ho
        obtain ⟨h2, b1, b2, b3, b4, b5⟩ := i2 w hM d h1 q (by omega) a2 (by omega)
        have c1 : mm_P d 263 [(2, 483), (0, 93)] w h2 = some ((0, 0), w, h2) := by
          rcases E_M_takesSign (d := d) (by omega) hM b3.2.1.1 (c := 93) (by decide) b3.1 with ⟨c, _⟩ | ⟨_, c⟩
          · exact absurd c ck
          · exact c
        obtain ⟨h3, k1, k2, k3⟩ := E_M_wants0 (d := d) (by omega) hM b3.1
        obtain ⟨e1, e2⟩ := MG_mo b3.2.1 k2 k3
        obtain ⟨g1, g2⟩ := MG_up e2 (b := 483) (i := 20) (z := mI (h3 483 20 - 1)) (Or.inr ⟨rfl, Or.inl rfl⟩)
        exact ⟨_, a4 h2 h2 h3 0 b1 c1 k1, Mq_tr (Mq_tr (Mq_tr a1 b2) e1) g1, g2⟩
/-- the class: a sum, a sign, a sum -/
theorem N_C5 (hd : 7 ≤ d) (hW : CW w) {op x : Int} {h1 h2 h3 h4 : mm_H} (e1 : mm_P d 2 [(2, 463), (0, 4), (0, op)] w h = some ((9, 0), w, h1)) (e0 : h1 463 0 = 461) (hx : h1 461 2 = x) (e2 : (x = 60 ∨ x = 61 ∨ x = 62) ∧ mm_P d 112 [(2, 461)] w h1 = some ((9, 0), w, h2) ∨ ¬ (x = 60 ∨ x = 61 ∨ x = 62) ∧ mm_P d 114 [(2, 461)] w h1 = some ((9, 0), w, h2)) (e3 : mm_P d 2 [(2, 463), (0, 4), (0, op)] w h2 = some ((9, 0), w, h3)) (e4 : mm_P d 11 [(2, 463), (0, x)] w h3 = some ((9, 0), w, h4)) : mm_P (d + 1 + 1) 2 [(2, 463), (0, 3), (0, op)] w h = some ((9, 0), w, h4) := by
  have hw : (w.1 463).1 = 1 := by rw [hW.2.1]
  have hw2 : (w.1 461).1 = 10 := by rw [hW.1.1]
  refine C_l3 hW ?_
  rw [P_Cr_readCompared, mF_t hw, e1, mC_s, mF_t hw, e0, mF_t hw2]
  try dsimp only
  rw [hx]
  rcases e2 with ⟨c, e2⟩ | ⟨c, e2⟩
  · rcases c with c | c | c
    · rw [mEq_t c, mF_t hw, mF_t hw2, e2, mC_s, mF_t hw, e3, mC_s, mF_t hw, e4, mC_s]
    · rw [mEq_f (by omega), mEq_t c, mF_t hw, mF_t hw2, e2, mC_s, mF_t hw, e3, mC_s, mF_t hw, e4, mC_s]
    · rw [mEq_f (by omega), mEq_f (by omega), mEq_t c, mF_t hw, mF_t hw2, e2, mC_s, mF_t hw, e3, mC_s, mF_t hw, e4, mC_s]
  · rw [mEq_f (by omega), mEq_f (by omega), mEq_f (by omega), mF_t hw, mF_t hw2, e2, mC_s, mF_t hw, e3, mC_s, mF_t hw, e4, mC_s]
theorem N_M5 (hd : 7 ≤ d) (hM : MW w) (e0 : mm_P d 261 [(2, 483), (1, 14836)] w h = some ((0, 0), w, h)) (e01 : h 483 18 ≠ 91) {x : Int} {h1 : mm_H} (e1 : mm_P d 271 [(2, 483)] w h = some ((9, 0), w, h1)) (hx : h1 483 18 = x) : (∀ h2 h3 h4, (x = 60 ∨ x = 61 ∨ x = 62) → mm_P d 258 [(2, 483)] w h1 = some ((9, 0), w, h2) → mm_P d 271 [(2, 483)] w h2 = some ((9, 0), w, h3) → mm_P d 266 [(2, 483), (0, opC x)] w h3 = some ((9, 0), w, h4) → mm_P (d + 1) 270 [(2, 483)] w h = some ((9, 0), w, h4)) ∧ ∀ h2, ¬ (x = 60 ∨ x = 61 ∨ x = 62) → mm_P d 260 [(2, 483)] w h1 = some ((9, 0), w, h2) → mm_P (d + 1) 270 [(2, 483)] w h = some ((9, 0), w, h2) := by
  have hw : (w.1 483).1 = 13 := by rw [hM.1]
  constructor
  · intro h2 h3 h4 c e2 e3 e4
    rw [P_M_readsNot, mF_t hw, e0, mC_s, mEq_t rfl, mF_t hw, mEq_f e01, mF_t hw, e1, mC_s, mF_t hw]
    try dsimp only
    rw [hx]
    rcases c with rfl | rfl | rfl
    · have e4 : mm_P d 266 [(2, 483), (0, 7)] w h3 = some ((9, 0), w, h4) := e4
      rw [mEq_t rfl, mF_t hw, e2, mC_s, mF_t hw, e3, mC_s, mEq_t rfl, mF_t hw, e4, mC_s]
    · have e4 : mm_P d 266 [(2, 483), (0, 8)] w h3 = some ((9, 0), w, h4) := e4
      rw [mEq_f (by decide), mEq_t rfl, mF_t hw, e2, mC_s, mF_t hw, e3, mC_s, mEq_f (by decide), mEq_t rfl, mF_t hw, e4, mC_s]
    · have e4 : mm_P d 266 [(2, 483), (0, 9)] w h3 = some ((9, 0), w, h4) := e4
      rw [mEq_f (by decide), mEq_f (by decide), mEq_t rfl, mF_t hw, e2, mC_s, mF_t hw, e3, mC_s, mEq_f (by decide), mEq_f (by decide), mF_t hw, e4, mC_s]
  · intro h2 c e2
    rw [P_M_readsNot, mF_t hw, e0, mC_s, mEq_t rfl, mF_t hw, mEq_f e01, mF_t hw, e1, mC_s, mF_t hw]
    try dsimp only
    rw [hx, mEq_f (by omega), mEq_f (by omega), mEq_f (by omega), mF_t hw, e2, mC_s]
theorem N_cmp (hW : CW w) (hM : MW w) {op : Int} (ho : 0 ≤ op ∧ op ≤ 4) (hp : 0 ≤ p ∧ p ≤ n) (hk : tWd B n p ≠ [110, 111, 116]) (hk2 : tK B n p ≠ 91) (h4 : RD w B n 4 op p) (ih : ∀ p' : Int, p < p' → p' ≤ n → RD w B n 4 op p') : RD w B n 2 op p := by
  have m0 : ∀ {w : mm_W}, MW w → ∀ {d : Nat} {h : mm_H} {q : Nat}, 1 ≤ d → MA h B n p op q → mm_P d 261 [(2, 483), (1, 14836)] w h = some ((0, 0), w, h) ∧ h 483 18 ≠ 91 := fun {_} hM {_} {_} {_} hd hA => ⟨by rw [E_M_isWord hd hM wN_not hA.1, bI_f hk], fun x => hk2 ((MA_k hA (by decide)).mp x)⟩
  rcases h4 with ⟨f, i1, i2⟩ | ⟨T, p', ⟨t1, t2, t3, t4, t5, t6⟩, i1, i2⟩
  · refine Or.inl ⟨f, fun d h q hd hA hq => ?_, fun w hM d h q hd hA hq => ?_⟩
    · obtain ⟨d, rfl, hd2⟩ := mm_dS (show 35 + 1 ≤ d by omega)
      obtain ⟨d, rfl, hd3⟩ := mm_dS (show 34 + 1 ≤ d by omega)
      obtain ⟨d, rfl, hd4⟩ := mm_dS (show 33 + 1 ≤ d by omega)
      obtain ⟨d, rfl, hd5⟩ := mm_dS (show 32 + 1 ≤ d by omega)
      obtain ⟨h1, a1, a2, a3⟩ := i1 d h q (by omega) hA hq
      obtain ⟨h2, b1, b2, b3⟩ := E_refuse_f (d := d) (by omega) hW.1 a3.1
      obtain ⟨c1, c2⟩ := CF_to a3.2 b2 b3
      obtain ⟨h3, e1, e2, e3⟩ := FC_all (B := B) (n := n) hW (m := 4) (by decide) ho.2 d h2 f (by omega) c2
      obtain ⟨h5, g1, g2, g3⟩ := E_emitF (d := d) (by omega) hW e3 0
      exact ⟨h5, N_C3 (by omega) hW hA hk hk2 (N_C5 (by omega) hW a1 a3.2.1 a3.1.2.2.2 (Or.inr ⟨by decide, b1⟩) e1 g1), CO_tr (CO_tr (CO_tr a2 c1) e2) g2, g3⟩
    · obtain ⟨d, rfl, hd2⟩ := mm_dS (show 35 + 1 ≤ d by omega)
      obtain ⟨h1, a1, a2, a3⟩ := i2 w hM d h q (by omega) hA hq
      obtain ⟨h2, b1, b2, b3⟩ := E_M_wrongF (d := d) (by omega) hM a3.1
      obtain ⟨c1, c2⟩ := MG_mo a3.2 b2 b3
      obtain ⟨z1, z2⟩ := m0 hM (d := d) (by omega) hA
      exact ⟨h2, (N_M5 (by omega) hM z1 z2 a1 a3.1.2.2.2.1).2 h2 (by decide) b1, Mq_tr a2 c1, c2⟩
  by_cases cs : tK B n p' = 60 ∨ tK B n p' = 61 ∨ tK B n p' = 62
  rotate_left
  · refine Or.inl ⟨tS B n p', fun d h q hd hA hq => ?_, fun w hM d h q hd hA hq => ?_⟩
    · obtain ⟨d, rfl, hd2⟩ := mm_dS (show 35 + 1 ≤ d by omega)
      obtain ⟨d, rfl, hd3⟩ := mm_dS (show 34 + 1 ≤ d by omega)
      obtain ⟨d, rfl, hd4⟩ := mm_dS (show 33 + 1 ≤ d by omega)
      obtain ⟨d, rfl, hd5⟩ := mm_dS (show 32 + 1 ≤ d by omega)
      obtain ⟨h1, a1, a2, a3, a4, a5⟩ := i1 d h q (by omega) hA hq
      obtain ⟨h2, b1, b2, b3⟩ := E_refuse (d := d) (by omega) hW.1 a3.1
      obtain ⟨c1, c2⟩ := CF_to a3.2.1 b2 b3
      obtain ⟨h3, e1, e2, e3⟩ := FC_all (B := B) (n := n) hW (m := 4) (by decide) ho.2 d h2 (tS B n p') (by omega) c2
      obtain ⟨h5, g1, g2, g3⟩ := E_emitF (d := d) (by omega) hW e3 (tK B n p')
      exact ⟨h5, N_C3 (by omega) hW hA hk hk2 (N_C5 (by omega) hW a1 a3.2.1.1 (CA_k a3) (Or.inr ⟨cs, b1⟩) e1 g1), CO_tr (CO_tr (CO_tr a2 c1) e2) g2, g3⟩
    · obtain ⟨d, rfl, hd2⟩ := mm_dS (show 35 + 1 ≤ d by omega)
      obtain ⟨h1, a1, a2, a3, a4, a5⟩ := i2 w hM d h q (by omega) hA hq
      obtain ⟨h2, b1, b2, b3⟩ := E_M_wrong (d := d) (by omega) hM a3.1
      obtain ⟨c1, c2⟩ := MG_mo a3.2.1 b2 b3
      obtain ⟨z1, z2⟩ := m0 hM (d := d) (by omega) hA
      refine ⟨h2, (N_M5 (by omega) hM z1 z2 a1 rfl).2 h2 (fun x => cs ?_) b1, Mq_tr a2 c1, c2⟩
      rcases x with x | x | x
      · exact Or.inl ((MA_k a3 (by decide)).mp x)
      · exact Or.inr (Or.inl ((MA_k a3 (by decide)).mp x))
      · exact Or.inr (Or.inr ((MA_k a3 (by decide)).mp x))
  have k0 : tK B n p' ≠ 0 := by omega
  have ks : tK B n p' ∈ sgs := by rcases cs with c | c | c <;> (rw [c]; decide)
  have l2 := tE_lt t2 k0
  have l3 := tE_le (B := B) t2
  rcases ih (tE B n p') (by omega) l3.2.1 with ⟨f, j1, j2⟩ | ⟨U, p2, ⟨u1, u2, u3, u4, u5, u6⟩, j1, j2⟩
  · refine Or.inl ⟨f, fun d h q hd hA hq => ?_, fun w hM d h q hd hA hq => ?_⟩
    · obtain ⟨d, rfl, hd2⟩ := mm_dS (show 35 + 1 ≤ d by omega)
      obtain ⟨d, rfl, hd3⟩ := mm_dS (show 34 + 1 ≤ d by omega)
      obtain ⟨d, rfl, hd4⟩ := mm_dS (show 33 + 1 ≤ d by omega)
      obtain ⟨d, rfl, hd5⟩ := mm_dS (show 32 + 1 ≤ d by omega)
      obtain ⟨h1, a1, a2, a3, a4, a5⟩ := i1 d h q (by omega) hA hq
      obtain ⟨h2, b1, b2, b3⟩ := E_adv (d := d) (by omega) hW.1 a3.2.1.2.2.1 a3.1
      obtain ⟨c1, c2, c3⟩ := CA_to a3 b2 b3
      obtain ⟨h3, e1, e2, e3⟩ := j1 d h2 (q + lenC T) (by omega) c2 (by omega)
      obtain ⟨h5, g1, g2, g3⟩ := E_emitF (d := d) (by omega) hW e3 (tK B n p')
      exact ⟨h5, N_C3 (by omega) hW hA hk hk2 (N_C5 (by omega) hW a1 a3.2.1.1 (CA_k a3) (Or.inl ⟨cs, b1⟩) e1 g1), CO_tr (CO_tr (CO_tr a2 c1) e2) g2, g3⟩
    · obtain ⟨d, rfl, hd2⟩ := mm_dS (show 35 + 1 ≤ d by omega)
      obtain ⟨h1, a1, a2, a3, a4, a5⟩ := i2 w hM d h q (by omega) hA hq
      obtain ⟨h2, b1, b2, b3⟩ := E_M_nextA (d := d) (by omega) hM a3.2.1.1 a3.1
      obtain ⟨c1, c2, c3⟩ := MA_mo a3 b2 b3
      obtain ⟨h3, e1, e2, e3⟩ := j2 w hM d h2 (q + lenM T) (by omega) c2 (by omega)
      obtain ⟨z1, z2⟩ := m0 hM (d := d) (by omega) hA
      exact ⟨h3, (N_M5 (by omega) hM z1 z2 a1 ((MA_k a3 (Or.inr (Or.inr (Or.inr ks)))).mpr rfl)).1 h2 h3 h3 cs b1 e1 (E_M_writesF (by omega) hM e3.1 _), Mq_tr (Mq_tr a2 c1) e2, e3⟩
  · obtain ⟨z1, z2, z3, z4, z5, z6⟩ := mkC_all cs T U
    refine Or.inr ⟨mkC (tK B n p') T U, p2, ⟨by omega, u2, z6.mpr ⟨t3, u3⟩, by rw [z2]; omega, by rw [z1]; omega, by rw [z3]; omega⟩, fun d h q hd hA hq => ?_, fun w hM d h q hd hA hq => ?_⟩
    · have hn := CA_n hA
      obtain ⟨d, rfl, hd2⟩ := mm_dS (show 35 + 1 ≤ d by omega)
      obtain ⟨d, rfl, hd3⟩ := mm_dS (show 34 + 1 ≤ d by omega)
      obtain ⟨d, rfl, hd4⟩ := mm_dS (show 33 + 1 ≤ d by omega)
      obtain ⟨d, rfl, hd5⟩ := mm_dS (show 32 + 1 ≤ d by omega)
      obtain ⟨h1, a1, a2, a3, a4, a5⟩ := i1 d h q (by omega) hA hq
      obtain ⟨h2, b1, b2, b3⟩ := E_adv (d := d) (by omega) hW.1 a3.2.1.2.2.1 a3.1
      obtain ⟨c1, c2, c3⟩ := CA_to a3 b2 b3
      obtain ⟨h3, e1, e2, e3, e4, e5⟩ := j1 d h2 (q + lenC T) (by omega) c2 (by omega)
      obtain ⟨h5, g1, g2, g3, g4, g5⟩ := E_emit (d := d) (by omega) hW e3 (by omega) (tK B n p')
      refine ⟨h5, N_C3 (by omega) hW hA hk hk2 (N_C5 (by omega) hW a1 a3.2.1.1 (CA_k a3) (Or.inl ⟨cs, b1⟩) e1 g1), CO_tr (CO_tr (CO_tr a2 c1) e2) g2, ?_, ?_, fun j hj => by rw [g5 j (by omega), e5 j (by omega), c3, a5 j hj]⟩
      · rw [z1, show q + (lenC T + lenC U + 1) = q + lenC T + lenC U + 1 by omega]; exact g3
      · have lT := compC_len T q
        have lU := compC_len U (q + lenC T)
        rw [z4]
        refine Seg_app.mpr ⟨Seg_fr a4 (e := ((q + lenC T : Nat) : Int)) (by omega) (fun j _ hj => by rw [g5 j (by omega), e5 j (by omega), c3]), Seg_app.mpr ⟨?_, Seg_cons.mpr ⟨by rw [lT, lU]; exact g4, Seg_nil⟩⟩⟩
        rw [lT]
        exact Seg_fr e4 (e := ((q + lenC T + lenC U : Nat) : Int)) (by omega) (fun j _ hj => g5 j (by omega))
    · have hn := MA_n hA
      obtain ⟨d, rfl, hd2⟩ := mm_dS (show 35 + 1 ≤ d by omega)
      obtain ⟨h1, a1, a2, a3, a4, a5⟩ := i2 w hM d h q (by omega) hA hq
      obtain ⟨h2, b1, b2, b3⟩ := E_M_nextA (d := d) (by omega) hM a3.2.1.1 a3.1
      obtain ⟨c1, c2, c3⟩ := MA_mo a3 b2 b3
      obtain ⟨h3, e1, e2, e3, e4, e5⟩ := j2 w hM d h2 (q + lenM T) (by omega) c2 (by omega)
      obtain ⟨h5, g1, g2, g3, g4, g5⟩ := E_M_wr (d := d) (by omega) hM e3 (by omega) (opC (tK B n p'))
      obtain ⟨y1, y2⟩ := m0 hM (d := d) (by omega) hA
      refine ⟨h5, (N_M5 (by omega) hM y1 y2 a1 ((MA_k a3 (Or.inr (Or.inr (Or.inr ks)))).mpr rfl)).1 h2 h3 h5 cs b1 e1 g1, Mq_tr (Mq_tr (Mq_tr a2 c1) e2) g2, ?_, ?_, fun j hj => by rw [g5 j (by omega), e5 j (by omega), c3, a5 j hj]⟩
      · rw [z2, show q + (lenM T + lenM U + 1) = q + lenM T + lenM U + 1 by omega]; exact g3
      · have lT := compM_len T q
        have lU := compM_len U (q + lenM T)
        rw [z5]
        refine Seg_app.mpr ⟨Seg_fr a4 (e := ((q + lenM T : Nat) : Int)) (by omega) (fun j _ hj => by rw [g5 j (by omega), e5 j (by omega), c3]), Seg_app.mpr ⟨?_, Seg_cons.mpr ⟨by rw [lT, lU]; exact g4, Seg_nil⟩⟩⟩
        rw [lT]
        exact Seg_fr e4 (e := ((q + lenM T + lenM U : Nat) : Int)) (by omega) (fun j _ hj => g5 j (by omega))
/-- what not stands before -/
theorem RD_2 (hW : CW w) (hM : MW w) {op : Int} (ho : 0 ≤ op ∧ op ≤ 4) (hp : 0 ≤ p ∧ p ≤ n) (h4 : RD w B n 4 op p) (ih : ∀ m op' p' : Int, 0 ≤ m → m ≤ 6 → m ≠ 3 → 0 ≤ op' → op' ≤ 4 → p < p' → p' ≤ n → RD w B n m op' p') : RD w B n 2 op p := by
  have l1 := tS_le (B := B) hp.2
  have l3 := tE_le (B := B) hp.2
  have deep : (tWd B n p = [110, 111, 116] ∨ tK B n p = 91) → op = 4 → RD w B n 2 op p := by
    rintro hk rfl
    refine Or.inl ⟨tS B n p, fun d h q hd hA hq => ?_, fun w hM d h q hd hA hq => ?_⟩
    · obtain ⟨d, rfl, hd2⟩ := mm_dS (show 35 + 1 ≤ d by omega)
      obtain ⟨d, rfl, hd3⟩ := mm_dS (show 34 + 1 ≤ d by omega)
      exact N_C4 (by omega) hW hA hk
    · obtain ⟨d, rfl, hd2⟩ := mm_dS (show 35 + 1 ≤ d by omega)
      exact N_M4 (by omega) hM hA hk
  by_cases k1 : tWd B n p = [110, 111, 116]
  · have l2 := tE_lt hp.2 (show tK B n p ≠ 0 by have := tWd_k k1 (by decide); omega)
    by_cases c : op = 4
    · exact deep (Or.inl k1) c
    · exact N_not hW hM (by omega) hp k1 (ih 2 (op + 1) _ (by decide) (by decide) (by decide) (by omega) (by omega) l2.1 l3.2.1)
  by_cases k2 : tK B n p = 91
  · have l2 := tE_lt hp.2 (show tK B n p ≠ 0 by omega)
    by_cases c : op = 4
    · exact deep (Or.inr k2) c
    · exact N_br hW hM (by omega) hp k2 (ih 0 (op + 1) _ (by decide) (by decide) (by decide) (by omega) (by omega) l2.1 l3.2.1)
  exact N_cmp hW hM ho hp k1 k2 h4 (fun p' a b => ih 4 op p' (by decide) (by decide) (by decide) ho.1 ho.2 a b)
end PU
