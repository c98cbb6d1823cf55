/-! PURE: what holds between two requests: the class and the reference stand at the same A. -/
/-- what a request of the class leaves alone -/
def GX (w : mm_W) (h : mm_H) (A : aG) : Prop := SW w h ∧ cImg w h A ∧ shl h 469 468 A ∧ TB h (gT A) (gTn A) ∧ cPr w h A
def GC (w : mm_W) (h : mm_H) (A : aG) : Prop := WK w ∧ HK h ∧ cHist w h A ∧ cFr h A ∧ GX w h A
/-- what a request of the reference leaves alone -/
def GY (h : mm_H) (A : aG) : Prop := mNam h ∧ brd h ∧ mImg h A ∧ mTB h A ∧ shl h 503 502 A ∧ mPr h A
def GM (w : mm_W) (h : mm_H) (A : aG) : Prop := MW w ∧ MH h ∧ mHis h A ∧ RM (h 484) (gNow A) ∧ mFr h (gNow A) ∧ GY h A
theorem gNow_acc {A : aG} (hd : gD A ≤ 30) (s : aS) : gNow (gAcc A s) = s := by
  unfold gAcc
  by_cases c : gD A < 30
  · rw [if_pos c, if_pos c]
    exact if_neg (by show ¬ gD A + 1 ≤ gD A; omega)
  · rw [if_neg c, if_neg c]
    exact if_neg (by show ¬ gD A < 30; exact c)
section PU
variable {w w' : mm_W} {h h' : mm_H} {A A' : aG}
theorem GX_fr (hx : GX w h A) (e : A'.2.2 = A.2.2) (ew : ∀ b : Int, b < 506 → w'.1 b = w.1 b) (cs : CS w w' h h') (o : ∀ b : Int, b < 0 ∨ b = 461 ∨ b = 462 ∨ (467 ≤ b ∧ b < 483) → h' b = h b) (e14 : h' 1 14 = h 1 14) (e16 : h' 1 16 = h 1 16) : GX w' h' A' := by
  obtain ⟨x1, x2, x3⟩ := A
  obtain ⟨y1, y2, y3⟩ := A'
  obtain rfl : y3 = x3 := e
  obtain ⟨a1, a2, a3, a4, a5⟩ := hx
  refine ⟨SW_up (SW_fr a1 (fun b hb => o b (Or.inl hb))) ew, ⟨by rw [e14]; exact a2.1, a2.2.1, fun z => ?_⟩, fun k k0 k1 => ?_, TB_fr a4 (o 461 (by omega)) (o 462 (by omega)), by rw [e16]; exact a5.1, a5.2.1, fun k k0 k1 => ?_⟩
  · obtain ⟨q1, q2⟩ := a2.2.2 z
    exact ⟨RC_fr q1 q2 cs (fun b b0 b1 => o b (by omega)), q2⟩
  · rw [o 469 (by omega), o 468 (by omega)]
    exact a3 k k0 k1
  · obtain ⟨q1, q2⟩ := a5.2.2 k k0 k1
    rw [o 467 (by omega)]
    exact ⟨PC_gr q1 cs, q2⟩
theorem CS_s (e : ∀ b : Int, 506 ≤ b → h' b = h b) : CS w w h h' := ⟨Int.le_refl _, fun b b0 _ => ⟨rfl, e b b0⟩⟩
theorem GC_QS (g : GC w h A) : QS w h A := ⟨g.1, g.2.1, g.2.2.1, g.2.2.2.1⟩
theorem GC_ask (g : GC w h A) (q : QS w h' A) (o : CN h h') : GC w h' A := ⟨q.1, q.2.1, q.2.2.1, q.2.2.2, GX_fr g.2.2.2.2 rfl (fun _ _ => rfl) (CS_s (fun b b0 => o.1 b (by omega) (by omega) (by omega))) (fun b hb => o.1 b (by omega) (by omega) (by omega)) (o.2 14 (by decide)) (o.2 16 (by decide))⟩
theorem GC_same (g : GC w h A) (hs : cSame w h h' A) : GC w h' A := by
  obtain ⟨c, k, o⟩ := hs
  have e1 : h' 1 = h 1 := o 1 (by omega) (by omega)
  refine ⟨g.1, k, c, ?_, GX_fr g.2.2.2.2 rfl (fun _ _ => rfl) (CS_s (fun b b0 => o b (by omega) (by omega))) (fun b hb => o b (by omega) (by omega)) (by rw [e1]) (by rw [e1])⟩
  rcases g.2.2.2.1 with x | ⟨x, y⟩
  · exact Or.inl (by rw [e1]; exact x)
  · exact Or.inr ⟨by rw [e1]; exact x, cVw_fr y (fun b b0 b1 => o b (by omega) (by omega))⟩
theorem GC_fin (g : GC w h A) (e : A'.2.2 = A.2.2) (c : cHist w h' A') (k : HK h') (e15 : h' 1 15 = 1) (ei : ∀ i : Int, i ≠ 15 → h' 1 i = h 1 i) (o : ∀ b : Int, b ≠ 1 → b ≠ 2 → ¬ (4 ≤ b ∧ b < 420) → ¬ (421 ≤ b ∧ b < 436) → h' b = h b) : GC w h' A' := ⟨g.1, k, c, Or.inl e15, GX_fr g.2.2.2.2 e (fun _ _ => rfl) (CS_s (fun b b0 => o b (by omega) (by omega) (by omega) (by omega))) (fun b hb => o b (by omega) (by omega) (by omega) (by omega)) (ei 14 (by decide)) (ei 16 (by decide))⟩
theorem GC_done {s' : aS} (g : GC w h A) (hd : cDone w h h' A s') : GC w h' (gAcc A s') := GC_fin g rfl hd.1 hd.2.1 hd.2.2.1 hd.2.2.2.1 (fun b b1 b2 b3 b4 => hd.2.2.2.2 b b1 b2 b3 (by omega))
/-- the reference works: the class keeps -/
theorem GC_x (g : GC w h A) (o : ∀ b : Int, ¬ (483 ≤ b ∧ b < 506) → h' b = h b) : GC w h' A := by
  obtain ⟨a1, a2, a3, a4, a5⟩ := g
  have e1 : h' 1 = h 1 := o 1 (by omega)
  have sh : ∀ S : Int, S + 13 ≤ 483 → ShH h S → ShH h' S := fun S z q => ShH_fr q (fun i _ _ => by rw [o S (by omega)]) (o _ (by omega))
  refine ⟨a1, HK_fr a2 (fun b i hb => ?_) (fun k k0 k1 => sh _ (by omega) (a2.2.2.2.2.2.1 k k0 k1)) (sh _ (by decide) a2.2.2.2.2.2.2.1) (sh _ (by decide) a2.2.2.2.2.2.2.2), cHist_gr a3 (CS_s (fun b b0 => o b (by omega))) (fun b _ _ => o b (by omega)) (o 2 (by omega)), ?_, GX_fr a5 rfl (fun _ _ => rfl) (CS_s (fun b b0 => o b (by omega))) (fun b hb => o b (by omega)) (by rw [e1]) (by rw [e1])⟩
  · unfold kSl at hb
    rw [o b (by omega)]
  · rcases a4 with x | ⟨x, y⟩
    · exact Or.inl (by rw [e1]; exact x)
    · exact Or.inr ⟨by rw [e1]; exact x, cVw_fr y (fun b b0 b1 => o b (by omega))⟩
theorem GY_fr (hx : GY h A) (e : A'.2.2 = A.2.2) (o : ∀ b : Int, b = 486 ∨ b = 490 ∨ b = 492 ∨ b = 497 ∨ (502 ≤ b ∧ b < 506) → h' b = h b) (e6 : h' 483 6 = h 483 6) (e15 : h' 483 15 = h 483 15) (e43 : h' 483 43 = h 483 43) : GY h' A' := by
  obtain ⟨x1, x2, x3⟩ := A
  obtain ⟨y1, y2, y3⟩ := A'
  obtain rfl : y3 = x3 := e
  obtain ⟨a1, a2, a3, a4, a5, a6⟩ := hx
  refine ⟨mNam_fr a1 (o 492 (by omega)), fun j j0 j1 => by rw [o 497 (by omega)]; exact a2 j j0 j1, ⟨by rw [e6]; exact a3.1, a3.2.1, fun z => by rw [o 486 (by omega)]; exact a3.2.2 z⟩, ⟨by rw [e15]; exact a4.1, a4.2.1, fun j j0 j1 => by rw [o 490 (by omega)]; exact a4.2.2 j j0 j1⟩, fun k k0 k1 => by rw [o 503 (by omega), o 502 (by omega)]; exact a5 k k0 k1, by rw [e43]; exact a6.1, a6.2.1, fun k k0 k1 => by rw [o 504 (by omega), o 505 (by omega)]; exact a6.2.2 k k0 k1⟩
theorem GM_QT (g : GM w h A) : QT w h A := ⟨g.1, g.2.1, ⟨g.2.2.1, g.2.2.2.2.2.2.1⟩, g.2.2.2.1, g.2.2.2.2.1⟩
theorem brd_of (hx : mHib h A) : brd h := hx.2
theorem GM_ask (g : GM w h A) (q : QT w h' A) (o : MN h h') : GM w h' A := by
  obtain ⟨a1, a2, a3, a4, a5, b1, b2, b3, b4, b5, b6⟩ := g
  obtain ⟨q1, q2, q3, q4, q5⟩ := q
  have oo : ∀ b : Int, b = 486 ∨ b = 490 ∨ b = 492 ∨ (502 ≤ b ∧ b < 506) → h' b = h b := fun b hb => o.1 b (by unfold qRow; omega) (by omega) (by omega)
  exact ⟨q1, q2, q3.1, q4, q5, mNam_fr b1 (oo 492 (by omega)), q3.2, ⟨by rw [o.2 6 (by unfold qFd; omega)]; exact b3.1, b3.2.1, fun z => by rw [oo 486 (by omega)]; exact b3.2.2 z⟩, ⟨by rw [o.2 15 (by unfold qFd; omega)]; exact b4.1, b4.2.1, fun j j0 j1 => by rw [oo 490 (by omega)]; exact b4.2.2 j j0 j1⟩, fun k k0 k1 => by rw [oo 503 (by omega), oo 502 (by omega)]; exact b5 k k0 k1, by rw [o.2 43 (by unfold qFd; omega)]; exact b6.1, b6.2.1, fun k k0 k1 => by rw [oo 504 (by omega), oo 505 (by omega)]; exact b6.2.2 k k0 k1⟩
theorem GM_sm (g : GM w h A) (o : mSm h h') : GM w h' A := by
  obtain ⟨a1, a2, a3, a4, a5, a6⟩ := g
  refine ⟨a1, mSm_MH o a2, mHis_fr a3 (fun i hi => o.2 i (by omega)) (o.1 485 (by decide)), by rw [o.1 484 (by decide)]; exact a4, fun z => ?_, GY_fr a6 rfl (fun b hb => o.1 b (by omega)) (o.2 6 (by omega)) (o.2 15 (by omega)) (o.2 43 (by omega))⟩
  rw [o.2 4 (by omega)] at z
  have q := a5 z
  unfold HCs HC at q ⊢
  rw [o.1 494 (by decide)]
  exact q
theorem GM_fin (g : GM w h A) (e : A'.2.2 = A.2.2) (c : mHis h' A') (r : RM (h' 484) (gNow A')) (o : ∀ b : Int, b ≠ 483 → b ≠ 484 → b ≠ 485 → b ≠ 487 → b ≠ 488 → b ≠ 489 → b ≠ 493 → h' b = h b) (ei : ∀ i : Int, i ≠ 2 → i ≠ 3 → i ≠ 4 → ¬ (8 ≤ i ∧ i < 12) → ¬ (46 ≤ i ∧ i < 51) → h' 483 i = h 483 i) (e4 : h' 483 4 = 0) : GM w h' A' := ⟨g.1, MH_fr g.2.1 (fun i hi => ei i (by unfold mRef at hi; omega) (by unfold mRef at hi; omega) (by unfold mRef at hi; omega) (by unfold mRef at hi; omega) (by unfold mRef at hi; omega)), c, r, fun x => absurd e4 x, GY_fr g.2.2.2.2.2 e (fun b hb => o b (by omega) (by omega) (by omega) (by omega) (by omega) (by omega) (by omega)) (ei 6 (by decide) (by decide) (by decide) (by decide) (by decide)) (ei 15 (by decide) (by decide) (by decide) (by decide) (by decide)) (ei 43 (by decide) (by decide) (by decide) (by decide) (by decide))⟩
theorem GM_dn {s' : aS} (g : GM w h A) (x : mDn h h' A s') : GM w h' (gAcc A s') := GM_fin g rfl x.1 (by rw [gNow_acc (by have := g.2.2.1.2.2.1; omega)]; exact x.2.1) x.2.2.1 x.2.2.2.1 x.2.2.2.2
/-- the class works: the reference keeps -/
theorem GM_x (g : GM w h A) (ew : ∀ b : Int, b < 506 → w'.1 b = w.1 b) (o : ∀ b : Int, 483 ≤ b → b < 506 → h' b = h b) : GM w' h' A := by
  obtain ⟨a1, a2, a3, a4, a5, a6⟩ := g
  have e3 : h' 483 = h 483 := o 483 (by decide) (by decide)
  refine ⟨MW_up a1 ew, MH_fr a2 (fun i _ => by rw [e3]), mHis_fr a3 (fun i _ => by rw [e3]) (o 485 (by decide) (by decide)), by rw [o 484 (by decide) (by decide)]; exact a4, fun z => ?_, GY_fr a6 rfl (fun b hb => o b (by omega) (by omega)) (by rw [e3]) (by rw [e3]) (by rw [e3])⟩
  rw [e3] at z
  have q := a5 z
  unfold HCs HC at q ⊢
  rw [o 494 (by decide) (by decide)]
  exact q
end PU
