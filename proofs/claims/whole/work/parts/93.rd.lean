/-! PURE: conditions are read on both sides: the ground. -/
def Seg (h : mm_H) (a : Int) (q : Nat) (L : List Int) : Prop := ∀ i : Nat, i < L.length → h a ((q : Int) + i) = L.getD i 0
theorem Seg_nil {h : mm_H} {a : Int} {q : Nat} : Seg h a q [] := fun i hi => absurd hi (Nat.not_lt_zero _)
theorem Seg_app {h : mm_H} {a : Int} {q : Nat} {L M : List Int} : Seg h a q (L ++ M) ↔ Seg h a q L ∧ Seg h a (q + L.length) M := by
  constructor
  · intro s
    refine ⟨fun i hi => ?_, fun i hi => ?_⟩
    · rw [s i (by rw [List.length_append]; omega)]
      simp [List.getD, List.getElem?_append, hi]
    · have := s (L.length + i) (by rw [List.length_append]; omega)
      rw [show (((q + L.length : Nat) : Int)) + (i : Int) = (q : Int) + ((L.length + i : Nat) : Int) by omega, this]
      rw [List.getD_eq_getElem?_getD, List.getD_eq_getElem?_getD, List.getElem?_append_right (by omega), Nat.add_sub_cancel_left]
  · rintro ⟨s1, s2⟩ i hi
    rw [List.length_append] at hi
    by_cases c : i < L.length
    · rw [s1 i c]
      simp [List.getD, List.getElem?_append, c]
    · have := s2 (i - L.length) (by omega)
      rw [show (((q + L.length : Nat) : Int)) + ((i - L.length : Nat) : Int) = (q : Int) + (i : Int) by omega] at this
      rw [this]
      simp [List.getD, List.getElem?_append, c]
theorem Seg_cons {h : mm_H} {a : Int} {q : Nat} {x : Int} {M : List Int} : Seg h a q (x :: M) ↔ h a q = x ∧ Seg h a (q + 1) M := by
  rw [show x :: M = [x] ++ M from rfl, Seg_app]
  constructor
  · rintro ⟨s1, s2⟩
    refine ⟨?_, s2⟩
    have := s1 0 (by simp)
    simpa using this
  · rintro ⟨s1, s2⟩
    refine ⟨fun i hi => ?_, s2⟩
    have e : i = 0 := by simp at hi; omega
    rw [e]
    simpa using s1
theorem Seg_fr {h h' : mm_H} {a : Int} {q : Nat} {L : List Int} (s : Seg h a q L) {e : Int} (he : (q : Int) + L.length ≤ e) (hf : ∀ j : Int, q ≤ j → j < e → h' a j = h a j) : Seg h' a q L := fun i hi => by
  rw [hf _ (by omega) (by omega)]; exact s i hi
/-- while the class reads -/
def CO (h h' : mm_H) : Prop := (∀ b : Int, b ≠ 461 → b ≠ 463 → b ≠ 464 → h' b = h b) ∧ (h' 461 0 = h 461 0 ∧ h' 461 1 = h 461 1) ∧ (h' 463 0 = h 463 0 ∧ h' 463 1 = h 463 1)
theorem CO_rf (h : mm_H) : CO h h := ⟨fun _ _ _ _ => rfl, ⟨rfl, rfl⟩, rfl, rfl⟩
theorem CO_tr {a b c : mm_H} (x : CO a b) (y : CO b c) : CO a c := ⟨fun q h1 h2 h3 => (y.1 q h1 h2 h3).trans (x.1 q h1 h2 h3), ⟨y.2.1.1.trans x.2.1.1, y.2.1.2.trans x.2.1.2⟩, y.2.2.1.trans x.2.2.1, y.2.2.2.trans x.2.2.2⟩
theorem CO_to {h h' : mm_H} (o : TO h h') : CO h h' := ⟨fun b h1 _ _ => o.1 b h1, o.2, by rw [o.1 463 (by decide)], by rw [o.1 463 (by decide)]⟩
/-- the reader's objects -/
def CW (w : mm_W) : Prop := TW w ∧ w.1 463 = (1, 3) ∧ w.1 464 = (50, 600)
def CH (w : mm_W) (h : mm_H) : Prop := h 463 0 = 461 ∧ h 463 1 = 464 ∧ SW w h
theorem CO_CH {w : mm_W} {h h' : mm_H} (o : CO h h') (c : CH w h) : CH w h' := ⟨by rw [o.2.2.1]; exact c.1, by rw [o.2.2.2]; exact c.2.1, SW_fr c.2.2 (fun b hb => o.1 b (by omega) (by omega) (by omega))⟩
def CA (w : mm_W) (h : mm_H) (B : Int → Int) (n p : Int) (q : Nat) : Prop := TA h B n p ∧ CH w h ∧ h 463 2 = (q : Int)
def CF (w : mm_W) (h : mm_H) (B : Int → Int) (n f : Int) : Prop := TF h B n f ∧ CH w h
/-- while the reference reads -/
def Mq (h h' : mm_H) : Prop := (∀ b : Int, b ≠ 483 → b ≠ 491 → h' b = h b) ∧ ∀ i : Int, ¬ (16 ≤ i ∧ i < 24 ∧ i ≠ 21) → h' 483 i = h 483 i
theorem Mq_rf (h : mm_H) : Mq h h := ⟨fun _ _ _ => rfl, fun _ _ => rfl⟩
theorem Mq_tr {a b c : mm_H} (x : Mq a b) (y : Mq b c) : Mq a c := ⟨fun q h1 h2 => (y.1 q h1 h2).trans (x.1 q h1 h2), fun i hi => (y.2 i hi).trans (x.2 i hi)⟩
theorem Mq_mo {h h' : mm_H} (o : MO h h') : Mq h h' := ⟨fun b h1 _ => o.1 b h1, fun i hi => o.2 i (by omega) (by omega)⟩
theorem Mq_MH {h h' : mm_H} (o : Mq h h') (c : MH h) : MH h' := MH_fr c (fun i hi => o.2 i (by unfold mRef at hi; omega))
theorem Mq_MB {h h' : mm_H} {B : Int → Int} {n : Int} (o : Mq h h') (c : MB h B n) : MB h' B n := by
  obtain ⟨t1, t2, t3, t4⟩ := c
  exact ⟨by rw [o.2 15 (by omega)]; exact t1, t2, by rw [o.1 490 (by decide) (by decide)]; exact t3, t4⟩
/-- the reference's row of names -/
def mNam (h : mm_H) : Prop := h 492 0 = 23114405 ∧ h 492 1 = 18935 ∧ h 492 2 = 116807086 ∧ h 492 3 = 398548 ∧ h 492 4 = 1130181 ∧ h 492 5 = 20141 ∧ h 492 6 = 441972 ∧ h 492 7 = 12748404 ∧ h 492 8 = 402789 ∧ h 492 9 = 8125468850
theorem mNam_fr {h h' : mm_H} (c : mNam h) (e : h' 492 = h 492) : mNam h' := by unfold mNam at c ⊢; rw [e]; exact c
def MA (h : mm_H) (B : Int → Int) (n p op : Int) (q : Nat) : Prop := MT h B n p ∧ (MH h ∧ mNam h) ∧ h 483 20 = op ∧ h 483 22 = (q : Int)
def MG (h : mm_H) (B : Int → Int) (n f : Int) : Prop := MF h B n f ∧ MH h ∧ mNam h
/-- a name's number -/
def nmO (W : List Int) : Option Nat := if W = [118, 97, 108, 117, 101] then some 0 else if W = [114, 111, 119] then some 1 else if W = [99, 111, 108, 117, 109, 110] then some 2 else if W = [108, 101, 102, 116] then some 3 else if W = [97, 98, 111, 118, 101] then some 4 else if W = [115, 117, 109] then some 5 else if W = [109, 111, 115, 116] then some 6 else if W = [108, 101, 97, 115, 116] then some 7 else if W = [108, 105, 107, 101] then some 8 else if W = [103, 114, 101, 97, 116, 101, 114] then some 9 else none
theorem pick_nm (W : List Int) : pick W [118, 97, 108, 117, 101, 32, 114, 111, 119, 32, 99, 111, 108, 117, 109, 110, 32, 108, 101, 102, 116, 32, 97, 98, 111, 118, 101, 32, 115, 117, 109, 32, 109, 111, 115, 116, 32, 108, 101, 97, 115, 116, 32, 108, 105, 107, 101, 32, 103, 114, 101, 97, 116, 101, 114] 55 0 0 0 = nmO W := pick_C W
theorem nmO_le {W : List Int} {i : Nat} (h : nmO W = some i) : i ≤ 9 := by
  unfold nmO at h
  repeat' split at h
  all_goals first | (cases h; done) | (have := Option.some.inj h; omega)
section PU
variable {d : Nat} {w : mm_W} {h : mm_H} {B : Int → Int} {n p : Int}
theorem CA_to {h' : mm_H} {q : Nat} {p' : Int} (hA : CA w h B n p q) (o : TO h h') (t : TA h' B n p') : CO h h' ∧ CA w h' B n p' q ∧ h' 464 = h 464 := ⟨CO_to o, ⟨t, CO_CH (CO_to o) hA.2.1, by rw [o.1 463 (by decide)]; exact hA.2.2⟩, o.1 464 (by decide)⟩
theorem CF_to {h' : mm_H} {f : Int} (hA : CH w h) (o : TO h h') (t : TF h' B n f) : CO h h' ∧ CF w h' B n f := ⟨CO_to o, t, CO_CH (CO_to o) hA⟩
theorem TA_fr {h' : mm_H} (hA : TA h B n p) (e1 : h' 461 = h 461) (e2 : h' 462 = h 462) : TA h' B n p := by
  obtain ⟨⟨t1, t2, t3, t4, t5, t6⟩, a2, a3, a4, a5, a6⟩ := hA
  exact ⟨⟨by rw [e1]; exact t1, by rw [e1]; exact t2, t3, by rw [e2]; exact t4, t5, by rw [e2]; exact t6⟩, by rw [e1]; exact a2, by rw [e1]; exact a3, by rw [e1]; exact a4, by rw [e1]; exact a5, a6⟩
theorem TF_fr {h' : mm_H} {f : Int} (hA : TF h B n f) (e1 : h' 461 = h 461) (e2 : h' 462 = h 462) : TF h' B n f := by
  obtain ⟨⟨t1, t2, t3, t4, t5, t6⟩, a2, a3, a4⟩ := hA
  exact ⟨⟨by rw [e1]; exact t1, by rw [e1]; exact t2, t3, by rw [e2]; exact t4, t5, by rw [e2]; exact t6⟩, by rw [e1]; exact a2, a3, by rw [e1]; exact a4⟩
theorem E_emit0 (hd : 2 ≤ d) (hW : CW w) (hH : CH w h) (v : Int) : ∃ h', mm_P d 11 [(2, 463), (0, v)] w h = some ((9, 0), w, h') ∧ CO h h' ∧ h' 461 = h 461 ∧ ∀ q : Nat, h 463 2 = (q : Int) → q < 600 → h' 463 2 = ((q + 1 : Nat) : Int) ∧ h' 464 q = v ∧ ∀ j : Int, j ≠ q → h' 464 j = h 464 j := by
  obtain ⟨d, rfl, hd2⟩ := mm_dS hd; clear hd; have hd := hd2; clear hd2
  have hw : (w.1 463).1 = 1 := by rw [hW.2.1]
  rw [P_Cr_emit, mF_t hw, mF_t hw, hH.2.1, E_poke hd hW.2.2 (by decide), mC_s, mF_t hw, mF_t hw]
  try dsimp only
  have e : ∀ b : Int, b ≠ 464 → (if 0 ≤ h 463 2 ∧ h 463 2 < 600 then mUp h 464 (h 463 2) v else h) b = h b := fun b hb => by
    split
    · exact mUp_row hb
    · rfl
  refine ⟨_, rfl, ⟨fun b b1 b2 b3 => by rw [mUp_row b2, e b b3], ⟨by rw [mUp_row (by decide), e 461 (by decide)], by rw [mUp_row (by decide), e 461 (by decide)]⟩, by rw [mUp_n (Or.inr (by decide)), e 463 (by decide)], by rw [mUp_n (Or.inr (by decide)), e 463 (by decide)]⟩, by rw [mUp_row (by decide), e 461 (by decide)], fun q hq q6 => ?_⟩
  rw [e 463 (by decide), hq, if_pos (by omega), mI_id (by omega) (by omega)]
  exact ⟨by rw [mUp_s]; omega, by rw [mUp_row (by decide), mUp_s], fun j hj => by rw [mUp_row (by decide), mUp_n (Or.inr hj)]⟩
theorem E_emit (hd : 2 ≤ d) (hW : CW w) {q : Nat} (hA : CA w h B n p q) (hq : q < 600) (v : Int) : ∃ h', mm_P d 11 [(2, 463), (0, v)] w h = some ((9, 0), w, h') ∧ CO h h' ∧ CA w h' B n p (q + 1) ∧ h' 464 q = v ∧ ∀ j : Int, j ≠ q → h' 464 j = h 464 j := by
  obtain ⟨h', g1, g2, g3, g4⟩ := E_emit0 (d := d) hd hW hA.2.1 v
  obtain ⟨k1, k2, k3⟩ := g4 q hA.2.2 hq
  exact ⟨h', g1, g2, ⟨TA_fr hA.1 g3 (g2.1 462 (by decide) (by decide) (by decide)), CO_CH g2 hA.2.1, k1⟩, k2, k3⟩
theorem E_emitF (hd : 2 ≤ d) (hW : CW w) {f : Int} (hA : CF w h B n f) (v : Int) : ∃ h', mm_P d 11 [(2, 463), (0, v)] w h = some ((9, 0), w, h') ∧ CO h h' ∧ CF w h' B n f := by
  obtain ⟨h', g1, g2, g3, g4⟩ := E_emit0 (d := d) hd hW hA.2 v
  exact ⟨h', g1, g2, TF_fr hA.1 g3 (g2.1 462 (by decide) (by decide) (by decide)), CO_CH g2 hA.2⟩
theorem E_emitWith (hd : 3 ≤ d) (hW : CW w) {q : Nat} (hA : CA w h B n p q) (hq : q + 1 < 600) (v u : Int) : ∃ h', mm_P d 12 [(2, 463), (0, v), (0, u)] w h = some ((0, ((q + 1 : Nat) : Int)), w, h') ∧ CO h h' ∧ CA w h' B n p (q + 2) ∧ h' 464 q = v ∧ h' 464 ((q + 1 : Nat) : Int) = u ∧ ∀ j : Int, j ≠ q → j ≠ ((q + 1 : Nat) : Int) → h' 464 j = h 464 j := by
  obtain ⟨d, rfl, hd2⟩ := mm_dS hd; clear hd; have hd := hd2; clear hd2
  have hw : (w.1 463).1 = 1 := by rw [hW.2.1]
  obtain ⟨h1, a1, a2, a3, a4, a5⟩ := E_emit (d := d) hd hW hA (by omega) v
  obtain ⟨h2, b1, b2, b3, b4, b5⟩ := E_emit (d := d) hd hW a3 (by omega) u
  rw [P_Cr_emitWith, mF_t hw, a1, mC_s, mF_t hw, b1, mC_s, mF_t hw, b3.2.2, mI_id (by omega) (by omega)]
  refine ⟨h2, ?_, CO_tr a2 b2, b3, by rw [b5 _ (by omega)]; exact a4, b4, fun j j1 j2 => by rw [b5 j j2, a5 j j1]⟩
  rw [show ((q + 1 + 1 : Nat) : Int) - 1 = ((q + 1 : Nat) : Int) by omega]
theorem E_emitWithF (hd : 3 ≤ d) (hW : CW w) {f : Int} (hA : CF w h B n f) (v u : Int) : ∃ (h' : mm_H) (z : Int), mm_P d 12 [(2, 463), (0, v), (0, u)] w h = some ((0, z), w, h') ∧ CO h h' ∧ CF w h' B n f := by
  obtain ⟨d, rfl, hd2⟩ := mm_dS hd; clear hd; have hd := hd2; clear hd2
  have hw : (w.1 463).1 = 1 := by rw [hW.2.1]
  obtain ⟨h1, a1, a2, a3⟩ := E_emitF (d := d) hd hW hA v
  obtain ⟨h2, b1, b2, b3⟩ := E_emitF (d := d) hd hW a3 u
  rw [P_Cr_emitWith, mF_t hw, a1, mC_s, mF_t hw, b1, mC_s, mF_t hw]
  exact ⟨h2, _, rfl, CO_tr a2 b2, b3⟩
/-- a name's row in the class's code -/
theorem E_emitWord (hd : 4 ≤ d) (hW : CW w) {q : Nat} (hA : CA w h B n p q) (hq : q + 1 < 600) {i : Nat} (hi : i ≤ 9) : ∃ h', mm_P d 10 [(2, 463), (0, (i : Int))] w h = some ((9, 0), w, h') ∧ CO h h' ∧ CA w h' B n p (q + lenC (.index i)) ∧ Seg h' 464 q (compC (.index i) q) ∧ ∀ j : Int, j < q → h' 464 j = h 464 j := by
  obtain ⟨d, rfl, hd2⟩ := mm_dS hd; clear hd; have hd := hd2; clear hd2
  have hw : (w.1 463).1 = 1 := by rw [hW.2.1]
  rw [P_Cr_emitWord]
  unfold lenC compC
  by_cases c8 : i = 8
  · obtain ⟨h1, a1, a2, a3, a4, a5⟩ := E_emit (d := d) (by omega) hW hA (by omega) 3
    rw [mEq_t (by omega), mF_t hw, a1, mC_s, if_neg (by omega), if_neg (by omega), if_pos c8]
    exact ⟨h1, rfl, a2, a3, Seg_cons.mpr ⟨a4, Seg_nil⟩, fun j hj => a5 j (by omega)⟩
  rw [mEq_f (by omega)]
  by_cases c9 : i = 9
  · obtain ⟨h1, a1, a2, a3, a4, a5⟩ := E_emit (d := d) (by omega) hW hA (by omega) 4
    rw [mEq_t (by omega), mF_t hw, a1, mC_s, if_neg (by omega), if_neg (by omega), if_neg c8]
    exact ⟨h1, rfl, a2, a3, Seg_cons.mpr ⟨a4, Seg_nil⟩, fun j hj => a5 j (by omega)⟩
  obtain ⟨h1, a1, a2, a3, a4, a5, a6⟩ := E_emitWith (d := d) (by omega) hW hA (by omega) 2 (i : Int)
  rw [mEq_f (by omega), mF_t hw, a1, mC_s, if_pos (by omega), if_pos (by omega)]
  exact ⟨h1, rfl, a2, a3, Seg_cons.mpr ⟨a4, Seg_cons.mpr ⟨a5, Seg_nil⟩⟩, fun j hj => a6 j (by omega) (by omega)⟩
theorem E_opens (hd : 6 ≤ d) (hW : CW w) {q : Nat} (hA : CA w h B n p q) {op : Int} (ho : op < 4) : ∃ h', mm_P d 9 [(2, 463), (0, op)] w h = some ((0, 1), w, h') ∧ CO h h' ∧ CA w h' B n (tE B n p) q ∧ h' 464 = h 464 := by
  obtain ⟨d, rfl, hd2⟩ := mm_dS hd; clear hd; have hd := hd2; clear hd2
  have hw : (w.1 463).1 = 1 := by rw [hW.2.1]
  have hw2 : (w.1 461).1 = 10 := by rw [hW.1.1]
  obtain ⟨h', g1, g2, g3⟩ := E_adv (d := d) (by omega) hW.1 hA.2.1.2.2.1 hA.1
  obtain ⟨k1, k2, k3⟩ := CA_to hA g2 g3
  rw [P_Cr_opens, mLe_f (by omega), mEq_f (by decide), mF_t hw, hA.2.1.1, mF_t hw2, g1, mC_s, mZ_1]
  exact ⟨h', rfl, k1, k2, k3⟩
theorem E_opens4 (hd : 2 ≤ d) (hW : CW w) {q : Nat} (hA : CA w h B n p q) {op : Int} (ho : 4 ≤ op) : ∃ h', mm_P d 9 [(2, 463), (0, op)] w h = some ((0, 0), w, h') ∧ CO h h' ∧ CF w h' B n (tS B n p) := by
  obtain ⟨d, rfl, hd2⟩ := mm_dS hd; clear hd; have hd := hd2; clear hd2
  have hw : (w.1 463).1 = 1 := by rw [hW.2.1]
  have hw2 : (w.1 461).1 = 10 := by rw [hW.1.1]
  obtain ⟨h', g1, g2, g3⟩ := E_refuse (d := d) (by omega) hW.1 hA.1
  obtain ⟨k1, k2⟩ := CF_to hA.2.1 g2 g3
  rw [P_Cr_opens, mLe_t ho, mEq_t rfl, mF_t hw, hA.2.1.1, mF_t hw2, g1, mC_s, mZ_0]
  exact ⟨h', rfl, k1, k2⟩
theorem MA_mo {h' : mm_H} {p' op : Int} {q : Nat} (hA : MA h B n p op q) (o : MO h h') (t : MT h' B n p') : Mq h h' ∧ MA h' B n p' op q ∧ h' 491 = h 491 := ⟨Mq_mo o, ⟨t, ⟨MO_MH o hA.2.1.1, mNam_fr hA.2.1.2 (o.1 492 (by decide))⟩, by rw [o.2 20 (by omega) (by omega)]; exact hA.2.2.1, by rw [o.2 22 (by omega) (by omega)]; exact hA.2.2.2⟩, o.1 491 (by decide)⟩
theorem MG_mo {h' : mm_H} {f : Int} (hH : MH h ∧ mNam h) (o : MO h h') (t : MF h' B n f) : Mq h h' ∧ MG h' B n f := ⟨Mq_mo o, t, MO_MH o hH.1, mNam_fr hH.2 (o.1 492 (by decide))⟩
theorem E_M_wr (hd : 1 ≤ d) (hW : MW w) {op : Int} {q : Nat} (hA : MA h B n p op q) (hq : q < 400) (v : Int) : ∃ h', mm_P d 266 [(2, 483), (0, v)] w h = some ((9, 0), w, h') ∧ Mq h h' ∧ MA h' B n p op (q + 1) ∧ h' 491 q = v ∧ ∀ j : Int, j ≠ q → h' 491 j = h 491 j := by
  refine ⟨_, E_M_writes hd hW hA.2.1.1 hA.1.2.1 hA.2.2.2 (by omega) (by omega) v, ?_, ?_, by rw [mUp_row (by decide), mUp_s], fun j hj => by rw [mUp_row (by decide), mUp_n (Or.inr hj)]⟩
  · exact ⟨fun b b1 b2 => by rw [mUp_row b1, mUp_row b2], fun i hi => by rw [mUp_n (Or.inr (by omega)), mUp_n (Or.inl (by decide))]⟩
  · have e : ∀ i : Int, i ≠ 22 → mUp (mUp h 491 q v) 483 22 ((q : Int) + 1) 483 i = h 483 i := fun i hi => by rw [mUp_n (Or.inr hi), mUp_n (Or.inl (by decide))]
    have e2 : ∀ b : Int, b ≠ 483 → b ≠ 491 → mUp (mUp h 491 q v) 483 22 ((q : Int) + 1) b = h b := fun b b1 b2 => by rw [mUp_row b1, mUp_row b2]
    obtain ⟨⟨⟨t1, t2, t3, t4⟩, a2, a3, a4, a5, a6, a7⟩, m1, m2, m3⟩ := hA
    refine ⟨⟨⟨by rw [e 15 (by decide)]; exact t1, t2, by rw [e2 490 (by decide) (by decide)]; exact t3, t4⟩, by rw [e 19 (by decide)]; exact a2, by rw [e 18 (by decide)]; exact a3, by rw [e 16 (by decide)]; exact a4, by rw [e 17 (by decide)]; exact a5, by rw [e 23 (by decide)]; exact a6, a7⟩, ⟨MH_fr m1.1 (fun i hi => e i (by unfold mRef at hi; omega)), mNam_fr m1.2 (e2 492 (by decide) (by decide))⟩, by rw [e 20 (by decide)]; exact m2, by rw [mUp_s]; omega⟩
theorem E_M_opens (hd : 4 ≤ d) (hW : MW w) {op : Int} {q : Nat} (hA : MA h B n p op q) (ho : 0 ≤ op ∧ op < 4) : ∃ h', mm_P d 267 [(2, 483)] w h = some ((0, 1), w, h') ∧ Mq h h' ∧ MA h' B n (tE B n p) (op + 1) q ∧ h' 491 = h 491 := by
  obtain ⟨d, rfl, hd2⟩ := mm_dS hd; clear hd; have hd := hd2; clear hd2
  have hw : (w.1 483).1 = 13 := by rw [hW.1]
  rw [P_M_opens, mF_t hw, hA.2.2.1, mEq_f (by omega), mF_t hw, mF_t hw]
  try dsimp only
  rw [mI_id (by omega) (by omega), mF_t hw]
  generalize hg : mUp h 483 20 (op + 1) = h1
  have e : ∀ i : Int, i ≠ 20 → h1 483 i = h 483 i := fun i hi => by rw [← hg]; exact mUp_n (Or.inr hi)
  have e2 : ∀ b : Int, b ≠ 483 → h1 b = h b := fun b hb => by rw [← hg]; exact mUp_row hb
  have q1 : Mq h h1 := ⟨fun b b1 _ => e2 b b1, fun i hi => e i (by omega)⟩
  have A1 : MA h1 B n p (op + 1) q := by
    obtain ⟨⟨⟨t1, t2, t3, t4⟩, a2, a3, a4, a5, a6, a7⟩, m1, m2, m3⟩ := hA
    refine ⟨⟨⟨by rw [e 15 (by decide)]; exact t1, t2, by rw [e2 490 (by decide)]; exact t3, t4⟩, by rw [e 19 (by decide)]; exact a2, by rw [e 18 (by decide)]; exact a3, by rw [e 16 (by decide)]; exact a4, by rw [e 17 (by decide)]; exact a5, by rw [e 23 (by decide)]; exact a6, a7⟩, ⟨MH_fr m1.1 (fun i hi => e i (by unfold mRef at hi; omega)), mNam_fr m1.2 (e2 492 (by decide))⟩, by rw [← hg]; exact mUp_s, by rw [e 22 (by decide)]; exact m3⟩
  obtain ⟨h', g1, g2, g3⟩ := E_M_nextA (d := d) (by omega) hW A1.2.1.1 A1.1
  obtain ⟨k1, k2, k3⟩ := MA_mo A1 g2 g3
  rw [g1, mC_s, mZ_1]
  exact ⟨h', rfl, Mq_tr q1 k1, k2, by rw [k3, e2 491 (by decide)]⟩
theorem E_M_opens4 (hd : 2 ≤ d) (hW : MW w) {q : Nat} (hA : MA h B n p 4 q) : ∃ h', mm_P d 267 [(2, 483)] w h = some ((0, 0), w, h') ∧ Mq h h' ∧ MG h' B n (tS B n p) := by
  obtain ⟨d, rfl, hd2⟩ := mm_dS hd; clear hd; have hd := hd2; clear hd2
  have hw : (w.1 483).1 = 13 := by rw [hW.1]
  obtain ⟨h', g1, g2, g3⟩ := E_M_wrong (d := d) (by omega) hW hA.1
  obtain ⟨k1, k2⟩ := MG_mo hA.2.1 g2 g3
  rw [P_M_opens, mF_t hw, hA.2.2.1, mEq_t rfl, mF_t hw, g1, mC_s, mZ_0]
  exact ⟨h', rfl, k1, k2⟩
/-- an open one is closed -/
theorem MA_close {h' : mm_H} {op : Int} {q : Nat} (hA : MA h B n p (op + 1) q) : h' = mUp h 483 20 op → Mq h h' ∧ MA h' B n p op q ∧ h' 491 = h 491 := by
  intro hg
  have e : ∀ i : Int, i ≠ 20 → h' 483 i = h 483 i := fun i hi => by rw [hg]; exact mUp_n (Or.inr hi)
  have e2 : ∀ b : Int, b ≠ 483 → h' b = h b := fun b hb => by rw [hg]; exact mUp_row hb
  refine ⟨⟨fun b b1 _ => e2 b b1, fun i hi => e i (by omega)⟩, ?_, e2 491 (by decide)⟩
  obtain ⟨⟨⟨t1, t2, t3, t4⟩, a2, a3, a4, a5, a6, a7⟩, m1, m2, m3⟩ := hA
  exact ⟨⟨⟨by rw [e 15 (by decide)]; exact t1, t2, by rw [e2 490 (by decide)]; exact t3, t4⟩, by rw [e 19 (by decide)]; exact a2, by rw [e 18 (by decide)]; exact a3, by rw [e 16 (by decide)]; exact a4, by rw [e 17 (by decide)]; exact a5, by rw [e 23 (by decide)]; exact a6, a7⟩, ⟨MH_fr m1.1 (fun i hi => e i (by unfold mRef at hi; omega)), mNam_fr m1.2 (e2 492 (by decide))⟩, by rw [hg]; exact mUp_s, by rw [e 22 (by decide)]; exact m3⟩
theorem MG_up {f : Int} (hA : MG h B n f) {b i z : Int} (hb : b = 491 ∨ (b = 483 ∧ (i = 20 ∨ i = 22))) : Mq h (mUp h b i z) ∧ MG (mUp h b i z) B n f := by
  have q1 : Mq h (mUp h b i z) := by
    refine ⟨fun c c1 c2 => mUp_row (by omega), fun j hj => mUp_n ?_⟩
    rcases hb with rfl | ⟨rfl, hb⟩
    · exact Or.inl (by decide)
    · exact Or.inr (by omega)
  have e : ∀ j : Int, j ≠ 20 → j ≠ 22 → mUp h b i z 483 j = h 483 j := fun j j1 j2 => mUp_n (by omega)
  obtain ⟨⟨a1, a2, a3, a4, a5, a6⟩, m1, m2⟩ := hA
  exact ⟨q1, ⟨Mq_MB q1 a1, by rw [e 19 (by decide) (by decide)]; exact a2, a3, by rw [e 18 (by decide) (by decide)]; exact a4, by rw [e 16 (by decide) (by decide)]; exact a5, by rw [e 17 (by decide) (by decide)]; exact a6⟩, Mq_MH q1 m1, mNam_fr m2 (mUp_row (by omega))⟩
end PU
