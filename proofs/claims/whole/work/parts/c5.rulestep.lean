/-! PURE: one step of the law: a rule. -/
section PU
variable {d : Nat} {w w' : mm_W} {h h' : mm_H} {A A' : aG} {x1 x2 x3 x4 : Int}
/-- the tape is cleared, all else that a request leaves alone stands -/
theorem GX_clr (hx : GX w h A) (e : A'.2.2 = (gClr A).2.2) (ew : ∀ b : Int, b < 506 → w'.1 b = w.1 b) (cs : CS w w' h h') (t0 : TB h' (gT A) 0) (o : ∀ b : Int, b < 0 ∨ (467 ≤ b ∧ b < 483) → h' b = h b) (e14 : h' 1 14 = h 1 14) (e16 : h' 1 16 = h 1 16) : GX w' h' A' := by
  obtain ⟨z1, z2, z3⟩ := A
  obtain ⟨y1, y2, y3⟩ := A'
  have e : y3 = (z3.1, (0, z3.2.1.2), z3.2.2) := e
  subst e
  obtain ⟨a1, a2, a3, a4, a5⟩ := hx
  refine ⟨SW_up (SW_fr a1 (fun b hb => o b (Or.inl hb))) ew, ⟨by rw [e14]; exact a2.1, a2.2.1, fun z => ?_⟩, fun k k0 k1 => ?_, t0, by rw [e16]; exact a5.1, a5.2.1, fun k k0 k1 => ?_⟩
  · obtain ⟨q1, q2⟩ := a2.2.2 z
    exact ⟨RC_fr q1 q2 cs (fun b b0 b1 => o b (by omega)), q2⟩
  · rw [o 469 (by omega), o 468 (by omega)]
    exact a3 k k0 k1
  · obtain ⟨q1, q2⟩ := a5.2.2 k k0 k1
    rw [o 467 (by omega)]
    exact ⟨PC_gr q1 cs, q2⟩
theorem GY_clr (hx : GY h A) (e : A'.2.2 = (gClr A).2.2) (o : ∀ b : Int, b = 486 ∨ b = 492 ∨ b = 497 ∨ (502 ≤ b ∧ b < 506) → h' b = h b) (e6 : h' 483 6 = h 483 6) (e15 : h' 483 15 = 0) (e43 : h' 483 43 = h 483 43) : GY h' A' := by
  obtain ⟨z1, z2, z3⟩ := A
  obtain ⟨y1, y2, y3⟩ := A'
  have e : y3 = (z3.1, (0, z3.2.1.2), z3.2.2) := e
  subst e
  obtain ⟨a1, a2, a3, a4, a5, a6⟩ := hx
  exact ⟨mNam_fr a1 (o 492 (by omega)), fun j j0 j1 => by rw [o 497 (by omega)]; exact a2 j j0 j1, ⟨by rw [e6]; exact a3.1, a3.2.1, fun z => by rw [o 486 (by omega)]; exact a3.2.2 z⟩, ⟨e15, (by decide : (0 : Int) ≤ 0 ∧ (0 : Int) ≤ 200), fun j j0 j1 => absurd (show j < 0 from j1) (by omega)⟩, fun k k0 k1 => by rw [o 503 (by omega), o 502 (by omega)]; exact a5 k k0 k1, by rw [e43]; exact a6.1, a6.2.1, fun k k0 k1 => by rw [o 504 (by omega), o 505 (by omega)]; exact a6.2.2 k k0 k1⟩
theorem J_10 (hd : 700 ≤ d) (g : GJ w h A) (i2 : i32 x2) : JS d 150 275 [(0, x1), (0, x2), (0, x3), (0, x4)] w h A := by
  have hT := g.1.2.2.2.2.2.2.2.1
  have h506 : 506 ≤ w.2.1 := g.1.1.2.2.2.2.2.2.2.2.2
  have M := fun (w' : mm_W) (hx : mm_H) (gx : GM w' hx A) => E_M_rule (d := d) (by omega) gx.1 gx.2.1 gx.2.2.2.2.2.1 gx.2.2.1 (GM_I gx) gx.2.2.2.1 (GJ_MB g.1 gx) x1 x3 x4 i2.2
  rcases E_F_rule (d := d) (by omega) g.1.1 g.1.2.1 g.1.2.2.2.2.1 g.1.2.2.1 hT x1 x3 x4 i2.2 with ⟨z, h1, c1, c2⟩ | ⟨z, h1, c1, c2⟩ | ⟨z, eF, eT⟩
  · refine JS_no g c1 c2 (fun g1 => ?_)
    rcases M w h1 g1 with ⟨_, y⟩ | ⟨y, _⟩ | ⟨y, _⟩
    · exact y
    · exact absurd y.1 z
    · exact absurd y.1 z
  · refine JS_no g c1 c2 (fun g1 => ?_)
    rcases M w h1 g1 with ⟨y, _⟩ | ⟨_, y⟩ | ⟨y, _⟩
    · exact absurd z.1 y
    · exact y
    · exfalso; have a := z.2; have b := y.2; omega
  · rcases RW_all (B := gT A) (WK_CW g.1.1) g.2.1 hT.2.2.1 h506 with ⟨f, f1, f2⟩ | ⟨T, t1, t2, t3, t4⟩
    · obtain ⟨h1, c1, c2, c3, c4, c5⟩ := eF f f1
      have e1 : h1 1 = h 1 := c5 1 (by omega) (by decide) (by decide) (by decide)
      have g1 : GM w h1 A := GM_x g.2 (fun _ _ => rfl) (fun b _ _ => c5 b (by omega) (by omega) (by omega) (by omega))
      rcases M w h1 g1 with ⟨y, _⟩ | ⟨y, _⟩ | ⟨y, mF, _⟩
      · exact absurd z.1 y
      · exfalso; have a := z.2; have b := y.2; omega
      · obtain ⟨h2, m1, m2, m3, m4⟩ := mF f f2
        have gc : GC w h1 (gClr A) := by
          refine ⟨g.1.1, c3, c2, ?_, GX_clr g.1.2.2.2.2 rfl (fun _ _ => rfl) (CS_s (fun b b0 => c5 b (by omega) (by omega) (by omega) (by omega))) c4 (fun b hb => c5 b (by omega) (by omega) (by omega) (by omega)) (by rw [e1]) (by rw [e1])⟩
          rcases g.1.2.2.2.1 with x | ⟨x, y⟩
          · exact Or.inl (by rw [e1]; exact x)
          · exact Or.inr ⟨by rw [e1]; exact x, cVw_fr y (fun b b0 b1 => c5 b (by omega) (by omega) (by omega) (by omega))⟩
        have gm : GM w h2 (gClr A) := by
          refine ⟨g1.1, MH_fr g1.2.1 (fun i hi => m3 i (by unfold mRef at hi; omega) (by unfold mRef at hi; omega)), mHis_fr g1.2.2.1 (fun i hi => m3 i (by omega) (by omega)) (m2 485 (by decide) (by decide)), by rw [m2 484 (by decide) (by decide)]; exact g1.2.2.2.1, fun q => ?_, GY_clr g1.2.2.2.2.2 rfl (fun b hb => m2 b (by omega) (by omega)) (m3 6 (by decide) (by decide)) m4 (m3 43 (by decide) (by decide))⟩
          rw [m3 4 (by decide) (by decide)] at q
          have q2 := g1.2.2.2.2.1 q
          unfold HCs HC at q2 ⊢
          rw [m2 494 (by decide) (by decide)]
          exact q2
        exact JS_s c1 m1 gc gm (c5 (-1) (by decide) (by decide) (by decide) (by decide)) (fun b hb => m2 b (by omega) (by omega))
    · obtain ⟨w1, h1, c1, c2, c3, c4, c5, c6, c7, c8, c9⟩ := eT T t1 t2 t3
      have ew : ∀ b : Int, b < 506 → w1.1 b = w.1 b := fun b hb => c2.1 b (by omega)
      have g1 : GM w1 h1 A := GM_x g.2 ew (fun b _ _ => c9 b (by omega) (by omega) (by omega) (by omega) (by omega) (by omega) (by omega) (by omega))
      rcases M w1 h1 g1 with ⟨y, _⟩ | ⟨y, _⟩ | ⟨y, _, mT⟩
      · exact absurd z.1 y
      · exfalso; have a := z.2; have b := y.2; omega
      · obtain ⟨h2, m1, m2, m3, m4, m5, m6, m7⟩ := mT T t1 t4
        have h5 : 506 ≤ w1.2.1 := by omega
        have ro : ∀ b : Int, b < 0 ∨ (467 ≤ b ∧ b < 483) → h1 b = h b := fun b hb => c9 b (by omega) (by omega) (by omega) (by omega) (by omega) (by omega) (by omega) (by omega)
        have gc : GC w1 h1 (gAcc (gClr A) (F_rule (gNow A) x1 x2 x3 x4 T)) := ⟨WK_up g.1.1 ew h5, c5, c4, Or.inl c7, GX_clr g.1.2.2.2.2 rfl ew c2.2 c6 ro (c8 14 (by decide)) (c8 16 (by decide))⟩
        have gd : gD A ≤ 30 := by have := g.2.2.2.1.2.2.1; omega
        have gm : GM w1 h2 (gAcc (gClr A) (F_rule (gNow A) x1 x2 x3 x4 T)) := ⟨g1.1, MH_fr g1.2.1 (fun i hi => m5 i (by unfold mRef at hi; omega) (by unfold mRef at hi; omega) (by unfold mRef at hi; omega) (by unfold mRef at hi; omega) (by unfold mRef at hi; omega)), m2, by rw [gNow_acc (A := gClr A) gd]; exact m3, fun q => absurd m6 q, GY_clr g1.2.2.2.2.2 rfl (fun b hb => m4 b (by omega) (by omega) (by omega) (by omega)) (m5 6 (by decide) (by decide) (by decide) (by decide) (by decide)) m7 (m5 43 (by decide) (by decide) (by decide) (by decide) (by decide))⟩
        exact JS_mk c1 m1 gc gm (ro (-1) (by decide)) (fun b hb => m4 b (by omega) (by omega) (by omega) (by omega)) ew ⟨by omega, by omega, by omega⟩
end PU
