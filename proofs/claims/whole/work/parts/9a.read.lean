/-! PURE: a whole condition is read on both sides. -/
/-- a world grown by code rows -/
def GW (w w' : mm_W) (h h' : mm_H) : Prop := (∀ b : Int, b < w.2.1 → w'.1 b = w.1 b) ∧ CS w w' h h'
theorem GW_rf (w : mm_W) (h : mm_H) : GW w w h h := ⟨fun _ _ => rfl, CS_rf w h⟩
theorem GW_tr {w1 w2 w3 : mm_W} {h1 h2 h3 : mm_H} (a : GW w1 w2 h1 h2) (b : GW w2 w3 h2 h3) : GW w1 w3 h1 h3 := ⟨fun x hx => (b.1 x (Int.lt_of_lt_of_le hx a.2.1)).trans (a.1 x hx), CS_tr a.2 b.2⟩
theorem GW_h {w w' : mm_W} {h h1 h2 : mm_H} (g : GW w w' h h1) (e : ∀ b : Int, 506 ≤ b → h2 b = h1 b) : GW w w' h h2 := ⟨g.1, g.2.1, fun a a0 a1 => ⟨(g.2.2 a a0 a1).1, by rw [e a a0]; exact (g.2.2 a a0 a1).2⟩⟩
theorem GW_s {w : mm_W} {h h2 : mm_H} (e : ∀ b : Int, 506 ≤ b → h2 b = h b) : GW w w h h2 := GW_h (GW_rf w h) e
section PU
variable {d : Nat} {w w' : mm_W} {h h' : mm_H} {B : Int → Int} {n p : Int}
theorem ShW_up {S : Int} (hW : ShW w S) (hS : S + 13 ≤ 506) (e : ∀ b : Int, b < 506 → w'.1 b = w.1 b) : ShW w' S := by
  obtain ⟨a0, a1, a2, a3, a4, a5, a6, a7, a8⟩ := hW
  refine ⟨a0, ?_, ?_, ?_, ?_, ?_, ?_, ?_, fun i i0 i1 => ?_⟩
  all_goals first | (rw [e _ (by omega)]; assumption) | skip
  rw [e _ (by omega)]; exact a8 i i0 i1
theorem TW_up (hW : TW w) (e : ∀ b : Int, b < 506 → w'.1 b = w.1 b) : TW w' := ⟨by rw [e _ (by decide)]; exact hW.1, by rw [e _ (by decide)]; exact hW.2⟩
theorem WK_up (hW : WK w) (e : ∀ b : Int, b < 506 → w'.1 b = w.1 b) (h5 : 506 ≤ w'.2.1) : WK w' := by
  obtain ⟨⟨a1, a2, a3, a4, a5, a6, a7, a8⟩, ⟨b1, b2, b3, b4, b5, b6, b7⟩, ⟨c1, c2, c3, c4, c5, c6, c7⟩, ⟨d1, d2, d3⟩, t, ⟨e1, e2, e3, e4, e5, e6, e7⟩, f1, f2, f3, f4⟩ := hW
  refine ⟨⟨?_, ?_, ?_, ?_, ?_, ?_, ?_, ?_⟩, ⟨?_, ?_, ?_, ?_, ?_, ?_, ?_⟩, ⟨?_, ?_, ?_, ?_, ?_, ?_, ?_⟩, ⟨?_, fun i i0 i1 => ?_, ?_⟩, TW_up t e, ⟨?_, ?_, ?_, ?_, ?_, ?_, ?_⟩, fun k k0 k1 => ShW_up (f1 k k0 k1) (by omega) e, ShW_up f2 (by decide) e, ShW_up f3 (by decide) e, h5⟩
  all_goals first | (rw [e _ (by decide)]; assumption) | skip
  rw [e _ (by omega)]; exact d2 i i0 i1
theorem SW_up (hS : SW w h) (e : ∀ b : Int, b < 506 → w'.1 b = w.1 b) : SW w' h := by
  obtain ⟨a1, a2, a3, a4, a5, a6, a7, a8, a9, a10, a11, a12⟩ := hS
  have g : ∀ {a : Int} {cs : List Int}, StrAt w h a cs → a < 0 → StrAt w' h a cs := fun ⟨s1, s2, s3, s4, s5, s6, s7⟩ ha => ⟨by rw [e _ (by omega)]; exact s1, s2, s3, by rw [e _ (by omega)]; exact s4, s5, s6, s7⟩
  exact ⟨g a1 (by decide), g a2 (by decide), g a3 (by decide), g a4 (by decide), g a5 (by decide), g a6 (by decide), g a7 (by decide), g a8 (by decide), g a9 (by decide), g a10 (by decide), g a11 (by decide), g a12 (by decide)⟩
theorem MW_up (hW : MW w) (e : ∀ b : Int, b < 506 → w'.1 b = w.1 b) : MW w' := by
  unfold MW at hW ⊢
  obtain ⟨a1, a2, a3, a4, a5, a6, a7, a8, a9, a10, a11, a12, a13, a14, a15, a16, a17, a18, a19, a20, a21, a22, a23⟩ := hW
  refine ⟨?_, ?_, ?_, ?_, ?_, ?_, ?_, ?_, ?_, ?_, ?_, ?_, ?_, ?_, ?_, ?_, ?_, ?_, ?_, ?_, ?_, ?_, ?_⟩ <;> (rw [e _ (by decide)]; assumption)
theorem WK_CW (hW : WK w) : CW w := ⟨hW.2.2.2.2.1, hW.2.2.2.2.2.1.1, hW.2.2.2.2.2.1.2.1⟩
/-- a row copied, its first part -/
theorem E_copyOf (hd : 1 ≤ d) {a z : Int} (ha : w.1 a = (50, z)) (h0 : 0 < a ∧ a < w.2.1) {m : Int} (hm : 0 ≤ m ∧ m < z) (hz : z ≤ 1000000) : ∃ h', mm_P d 353 [(2, a), (0, m)] w h = some ((2, w.2.1), mNew w 50 m, h') ∧ (∀ b : Int, b ≠ w.2.1 → h' b = h b) ∧ ∀ j : Int, 0 ≤ j → j < m → h' w.2.1 j = h a j := by
  obtain ⟨d, rfl, hd2⟩ := mm_dS hd; clear hd; have hd := hd2; clear hd2
  have e1 : (mNew w 50 m).1 a = (50, z) := by
    show (if a = w.2.1 then _ else w.1 a) = _
    rw [if_neg (by omega)]; exact ha
  have e2 : (mNew w 50 m).1 w.2.1 = (50, m) := by
    show (if w.2.1 = w.2.1 then _ else w.1 w.2.1) = _
    rw [if_pos rfl]
  have e3 : mMin z m = m := if_neg (by omega)
  rw [P_Arr_copyOf, mN_t ha (by decide), ha, mEq_f (show m ≠ z by omega)]
  have e4 : ∀ {α : Type} (x y : α), mM m x y = y := fun x y => if_pos ⟨by omega, by omega⟩
  rw [e4]
  try dsimp only
  rw [mN_t e1 (by decide), e1, e3]
  have e5 : ∀ {α : Type} (x y : α), mCy (mNew w 50 m) a 0 w.2.1 0 m x y = y := fun x y => if_pos ⟨by rw [e1], by rw [e2], by omega, by omega, by decide, by decide, by omega, by rw [e1]; show 0 + m ≤ z; omega, by rw [e2]; show 0 + m ≤ m; omega⟩
  rw [e5]
  refine ⟨_, rfl, fun b hb => ?_, fun j j0 j1 => ?_⟩
  · funext i
    show (if b = w.2.1 ∧ _ then _ else (if b = w.2.1 then 0 else h b i)) = h b i
    rw [if_neg (fun x => hb x.1), if_neg hb]
  · show (if w.2.1 = w.2.1 ∧ 0 ≤ j ∧ j < 0 + m then (if a = w.2.1 then 0 else h a (0 + (j - 0))) else _) = _
    rw [if_pos ⟨rfl, j0, by omega⟩, if_neg (by omega), show 0 + (j - 0) = j by omega]
theorem mNew_up (m : Int) (k : Nat) : (∀ b : Int, b < w.2.1 → (mNew w k m).1 b = w.1 b) ∧ (mNew w k m).1 w.2.1 = (k, m) ∧ (mNew w k m).2.1 = w.2.1 + 1 ∧ (mNew w k m).2.2 = w.2.2 + m := by
  refine ⟨fun b hb => ?_, ?_, rfl, rfl⟩
  · show (if b = w.2.1 then _ else w.1 b) = _
    rw [if_neg (by omega)]
  · show (if w.2.1 = w.2.1 then _ else w.1 w.2.1) = _
    rw [if_pos rfl]
/-- the class's reader, whole: a fault, or a row -/
def RWF (w : mm_W) (B : Int → Int) (n f : Int) : Prop := ∀ (d : Nat) (h : mm_H), 300 ≤ d → TB h B n → CH w h → ∃ h', mm_P d 1 [(2, 463)] w h = some ((2, 0), w, h') ∧ CO h h' ∧ TB h' B n ∧ h' 461 3 = f ∧ f ≠ -1
def RWT (w : mm_W) (B : Int → Int) (n : Int) (T : Term) : Prop := ∀ (d : Nat) (h : mm_H), 300 ≤ d → TB h B n → CH w h → ∃ h', mm_P d 1 [(2, 463)] w h = some ((2, w.2.1), mNew w 50 ((lenC T : Nat) : Int), h') ∧ (∀ b : Int, b ≠ 461 → b ≠ 463 → b ≠ 464 → b ≠ w.2.1 → h' b = h b) ∧ CH w h' ∧ TB h' B n ∧ h' 461 3 = -1 ∧ Seg h' w.2.1 0 (compC T 0)
/-- the reference's -/
def RMF (w : mm_W) (B : Int → Int) (n f : Int) : Prop := ∀ w : mm_W, MW w → ∀ (d : Nat) (h : mm_H), 300 ≤ d → MB h B n → MH h → mNam h → ∃ h1 h2 h3, mm_P d 259 [(2, 483)] w h = some ((9, 0), w, h1) ∧ mm_P d 268 [(2, 483)] w h1 = some ((9, 0), w, h2) ∧ (h2 483 18 = 0 ∧ h3 = h2 ∨ h2 483 18 ≠ 0 ∧ mm_P d 260 [(2, 483)] w h2 = some ((9, 0), w, h3)) ∧ Mq h h3 ∧ h3 483 19 = f ∧ f ≠ -1
def RMT (w : mm_W) (B : Int → Int) (n : Int) (T : Term) : Prop := ∀ w : mm_W, MW w → ∀ (d : Nat) (h : mm_H), 300 ≤ d → MB h B n → MH h → mNam h → ∃ h1 h2, mm_P d 259 [(2, 483)] w h = some ((9, 0), w, h1) ∧ mm_P d 268 [(2, 483)] w h1 = some ((9, 0), w, h2) ∧ h2 483 18 = 0 ∧ Mq h h2 ∧ h2 483 19 = -1 ∧ h2 483 22 = ((lenM T : Nat) : Int) ∧ Seg h2 491 0 (compM T 0)
theorem E_M_starts (hd : 4 ≤ d) (hW : MW w) (hH : MH h) (hn : mNam h) (hT : MB h B n) : ∃ h', mm_P d 259 [(2, 483)] w h = some ((9, 0), w, h') ∧ Mq h h' ∧ MA h' B n 0 0 0 := by
  obtain ⟨d, rfl, hd2⟩ := mm_dS hd; clear hd; have hd := hd2; clear hd2
  have hw : (w.1 483).1 = 13 := by rw [hW.1]
  rw [P_M_starts]
  simp only [mF_t hw]
  generalize hg : mUp (mUp (mUp (mUp h 483 17 0) 483 19 (-1)) 483 20 0) 483 22 0 = h1
  have e : ∀ i : Int, i ≠ 17 → i ≠ 19 → i ≠ 20 → i ≠ 22 → h1 483 i = h 483 i := fun i i1 i2 i3 i4 => by rw [← hg, mUp_n (Or.inr i4), mUp_n (Or.inr i3), mUp_n (Or.inr i2), mUp_n (Or.inr i1)]
  have e2 : ∀ b : Int, b ≠ 483 → h1 b = h b := fun b hb => by rw [← hg, mUp_row hb, mUp_row hb, mUp_row hb, mUp_row hb]
  have q1 : Mq h h1 := ⟨fun b b1 _ => e2 b b1, fun i hi => e i (by omega) (by omega) (by omega) (by omega)⟩
  have v17 : h1 483 17 = 0 := by rw [← hg]; simp [mUp]
  have v19 : h1 483 19 = -1 := by rw [← hg]; simp [mUp]
  have v20 : h1 483 20 = 0 := by rw [← hg]; simp [mUp]
  have v22 : h1 483 22 = 0 := by rw [← hg]; simp [mUp]
  obtain ⟨h2, g1, g2, g3, g4⟩ := E_M_next (d := d) (p := 0) (by omega) hW (Mq_MH q1 hH) (Mq_MB q1 hT) v17 (by decide) hT.2.1.1
  rw [g1, mC_s]
  refine ⟨h2, rfl, Mq_tr q1 (Mq_mo g2), ⟨MB_to (Mq_MB q1 hT) g2, by rw [g3]; exact v19, g4⟩, ⟨MO_MH g2 (Mq_MH q1 hH), mNam_fr hn (by rw [g2.1 492 (by decide), e2 492 (by decide)])⟩, by rw [g2.2 20 (by omega) (by omega)]; exact v20, by rw [g2.2 22 (by omega) (by omega)]; exact v22⟩
theorem TB_fr {h' : mm_H} (hT : TB h B n) (e1 : h' 461 = h 461) (e2 : h' 462 = h 462) : TB h' B n := by
  obtain ⟨t1, t2, t3, t4, t5, t6⟩ := hT
  exact ⟨by rw [e1]; exact t1, by rw [e1]; exact t2, t3, by rw [e2]; exact t4, t5, by rw [e2]; exact t6⟩
theorem E_Cr_begin (hd : 8 ≤ d) (hW : CW w) (hH : CH w h) (hT : TB h B n) : ∃ h1, mm_P d 111 [(2, 461)] w (mUp h 463 2 0) = some ((9, 0), w, h1) ∧ CO h h1 ∧ CA w h1 B n 0 0 := by
  have e : ∀ b : Int, b ≠ 463 → mUp h 463 2 0 b = h b := fun b hb => mUp_row hb
  have o : CO h (mUp h 463 2 0) := ⟨fun b _ b2 _ => e b b2, ⟨by rw [e 461 (by decide)], by rw [e 461 (by decide)]⟩, mUp_n (Or.inr (by decide)), mUp_n (Or.inr (by decide))⟩
  have T1 : TB (mUp h 463 2 0) B n := TB_fr hT (e 461 (by decide)) (e 462 (by decide))
  have H1 : CH w (mUp h 463 2 0) := CO_CH o hH
  obtain ⟨h1, g1, g2, g3⟩ := E_rewind (d := d) (by omega) hW.1 H1.2.2.1 T1
  exact ⟨h1, g1, CO_tr o (CO_to g2), g3, CO_CH (CO_to g2) H1, by rw [g2.1 463 (by decide)]; exact mUp_s⟩
theorem RW_all (hW : CW w) (hM : MW w) (hn : 0 ≤ n ∧ n ≤ 200) (h461 : 506 ≤ w.2.1) : (∃ f, RWF w B n f ∧ RMF w B n f) ∨ ∃ T, okT T ∧ lenC T ≤ 400 ∧ RWT w B n T ∧ RMT w B n T := by
  have hw : (w.1 463).1 = 1 := by rw [hW.2.1]
  have hw2 : (w.1 461).1 = 10 := by rw [hW.1.1]
  have T0 : ∀ (h : mm_H) (f : Int), TF h B n f → TB h B n := fun h f x => x.1
  -- the end of the class's read, with a fault
  have finF : ∀ (d : Nat) (h h1 h2 h3 : mm_H) (f : Int), 1 ≤ d → h 463 0 = 461 → mm_P d 111 [(2, 461)] w (mUp h 463 2 0) = some ((9, 0), w, h1) → mm_P d 2 [(2, 463), (0, 0), (0, 0)] w h1 = some ((9, 0), w, h2) → h2 463 0 = 461 → mm_P d 118 [(2, 461), (0, 0)] w h2 = some ((9, 0), w, h3) → h3 463 0 = 461 → h3 461 3 = f → f ≠ -1 → mm_P (d + 1) 1 [(2, 463)] w h = some ((2, 0), w, h3) := by
    intro d h h1 h2 h3 f hd e0 e1 e2 e3 e4 e5 e6 e7
    rw [P_Cr_read]
    simp only [mF_t hw]
    rw [mUp_n (Or.inr (by decide)), e0, mF_t hw2, e1, mC_s, mF_t hw, e2, mC_s, mF_t hw, e3, mF_t hw2, e4, mC_s, mF_t hw, e5, mF_t hw2, e6, mEq_f e7, mEq_t rfl]
  rcases RD_all (B := B) hW hM n.toNat 0 0 0 (by omega) (by decide) (by decide) (by decide) (by decide) (by decide) (by decide) hn.1 with ⟨f, i1, i2⟩ | ⟨T, p', ht, i1, i2⟩
  · -- a fault inside
    have hf : ∀ (d : Nat) (h : mm_H), 300 ≤ d → TB h B n → CH w h → ∃ h', mm_P d 1 [(2, 463)] w h = some ((2, 0), w, h') ∧ CO h h' ∧ TF h' B n f := by
      intro d h hd hT hH
      obtain ⟨d, rfl, hd2⟩ := mm_dS (show 299 + 1 ≤ d by omega)
      obtain ⟨h1, a1, a2, a3⟩ := E_Cr_begin (d := d) (by omega) hW hH hT
      obtain ⟨h2, b1, b2, b3⟩ := i1 d h1 0 (by omega) a3 (by omega)
      obtain ⟨h3, c1, c2, c3⟩ := E_needSign_f (d := d) (by omega) hW.1 b3.2.2.2.1 b3.1 0
      have o := CO_tr (CO_tr a2 b2) (CO_to c2)
      exact ⟨h3, finF d h h1 h2 h3 f (by omega) hH.1 a1 b1 b3.2.1 c1 (CO_CH o hH).1 c3.2.1 c3.2.2.1, o, c3⟩
    have hf2 : ∀ w : mm_W, MW w → ∀ (d : Nat) (h : mm_H), 300 ≤ d → MB h B n → MH h → mNam h → ∃ h1 h2, mm_P d 259 [(2, 483)] w h = some ((9, 0), w, h1) ∧ mm_P d 268 [(2, 483)] w h1 = some ((9, 0), w, h2) ∧ Mq h h2 ∧ MG h2 B n f := by
      intro w hM d h hd hT hH hN
      obtain ⟨h1, a1, a2, a3⟩ := E_M_starts (d := d) (by omega) hM hH hN hT
      obtain ⟨h2, b1, b2, b3⟩ := i2 w hM d h1 0 (by omega) a3 (by omega)
      exact ⟨h1, h2, a1, b1, Mq_tr a2 b2, b3⟩
    refine Or.inl ⟨f, fun d h hd hT hH => ?_, fun w hM d h hd hT hH hN => ?_⟩
    · obtain ⟨h', g1, g2, g3⟩ := hf d h hd hT hH
      exact ⟨h', g1, g2, g3.1, g3.2.1, g3.2.2.1⟩
    · obtain ⟨h1, h2, a1, b1, b2, b3⟩ := hf2 w hM d h hd hT hH hN
      exact ⟨h1, h2, h2, a1, b1, Or.inl ⟨b3.1.2.2.2.1, rfl⟩, b2, b3.1.2.1, b3.1.2.2.1⟩
  · obtain ⟨t1, t2, t3, t4, t5, t6⟩ := ht
    by_cases k0 : tK B n p' = 0
    · refine Or.inr ⟨T, ⟨t3, by omega, by omega⟩, by omega, fun d h hd hT hH => ?_, fun w hM d h hd hT hH hN => ?_⟩
      · obtain ⟨d, rfl, hd2⟩ := mm_dS (show 299 + 1 ≤ d by omega)
        obtain ⟨h1, a1, a2, a3⟩ := E_Cr_begin (d := d) (by omega) hW hH hT
        obtain ⟨h2, b1, b2, b3, b4, b5⟩ := i1 d h1 0 (by omega) a3 (by omega)
        obtain ⟨h3, c1, c2, c3⟩ := E_needSign (d := d) (by omega) hW.1 b3.2.1.2.2.1 b3.1 0
        have c3 : TA h3 B n (tE B n p') := by
          rcases c3 with ⟨_, c3⟩ | ⟨c3, _⟩
          · exact c3
          · exact absurd k0 c3
        obtain ⟨e1, e2, e3⟩ := CA_to b3 c2 c3
        have o := CO_tr (CO_tr a2 b2) e1
        have sz : h3 463 2 = ((lenC T : Nat) : Int) := by rw [e2.2.2, Nat.zero_add]
        obtain ⟨h4, g1, g2, g3⟩ := E_copyOf (d := d) (h := h3) (by omega) hW.2.2 (by omega) (m := ((lenC T : Nat) : Int)) (by omega) (by decide)
        have q1 : h4 461 = h3 461 := g2 461 (by omega)
        have q2 : h4 462 = h3 462 := g2 462 (by omega)
        have q3 : h4 463 = h3 463 := g2 463 (by omega)
        refine ⟨h4, ?_, fun b x1 x2 x3 x4 => by rw [g2 b x4, o.1 b x1 x2 x3], ⟨by rw [q3]; exact e2.2.1.1, by rw [q3]; exact e2.2.1.2.1, SW_fr e2.2.1.2.2 (fun b hb => g2 b (by omega))⟩, TB_fr e2.1.1 q1 q2, by rw [q1]; exact e2.1.2.1, fun i hi => ?_⟩
        · rw [P_Cr_read]
          simp only [mF_t hw]
          rw [mUp_n (Or.inr (by decide)), hH.1, mF_t hw2, a1, mC_s, mF_t hw, b1, mC_s, mF_t hw, b3.2.1.1, mF_t hw2, c1, mC_s, mF_t hw, e2.2.1.1, mF_t hw2, e2.1.2.1, mEq_t rfl]
          simp only [mF_t hw]
          rw [sz, mLt_f (by omega), e2.2.1.2.1, mN_t hW.2.2 (by decide), hW.2.2, mLt_f (show ((lenC T : Nat) : Int) ≤ 600 by omega), mEq_f (by decide), g1, mC_s]
        · have hl := compC_len T 0
          have := b4 i hi
          rw [show ((0 : Nat) : Int) + (i : Int) = (i : Int) by omega] at this ⊢
          rw [g3 (i : Int) (by omega) (by omega), e3, this]
      · obtain ⟨h1, a1, a2, a3⟩ := E_M_starts (d := d) (by omega) hM hH hN hT
        obtain ⟨h2, b1, b2, b3, b4, b5⟩ := i2 w hM d h1 0 (by omega) a3 (by omega)
        exact ⟨h1, h2, a1, b1, (MA_k b3 (Or.inl rfl)).mpr k0, Mq_tr a2 b2, b3.1.2.1, by rw [b3.2.2.2, Nat.zero_add], b4⟩
    · refine Or.inl ⟨tS B n p', fun d h hd hT hH => ?_, fun w hM d h hd hT hH hN => ?_⟩
      · obtain ⟨d, rfl, hd2⟩ := mm_dS (show 299 + 1 ≤ d by omega)
        obtain ⟨h1, a1, a2, a3⟩ := E_Cr_begin (d := d) (by omega) hW hH hT
        obtain ⟨h2, b1, b2, b3, b4, b5⟩ := i1 d h1 0 (by omega) a3 (by omega)
        obtain ⟨h3, c1, c2, c3⟩ := E_needSign (d := d) (by omega) hW.1 b3.2.1.2.2.1 b3.1 0
        have c3 : TF h3 B n (tS B n p') := by
          rcases c3 with ⟨c3, _⟩ | ⟨_, c3⟩
          · exact absurd c3 k0
          · exact c3
        have o := CO_tr (CO_tr a2 b2) (CO_to c2)
        exact ⟨h3, finF d h h1 h2 h3 _ (by omega) hH.1 a1 b1 b3.2.1.1 c1 (CO_CH o hH).1 c3.2.1 c3.2.2.1, o, c3.1, c3.2.1, c3.2.2.1⟩
      · obtain ⟨h1, a1, a2, a3⟩ := E_M_starts (d := d) (by omega) hM hH hN hT
        obtain ⟨h2, b1, b2, b3, b4, b5⟩ := i2 w hM d h1 0 (by omega) a3 (by omega)
        obtain ⟨h3, c1, c2, c3⟩ := E_M_wrong (d := d) (by omega) hM b3.1
        exact ⟨h1, h2, h3, a1, b1, Or.inr ⟨fun x => k0 ((MA_k b3 (Or.inl rfl)).mp x), c1⟩, Mq_tr (Mq_tr a2 b2) (Mq_mo c2), c3.2.1, c3.2.2.1⟩
end PU
