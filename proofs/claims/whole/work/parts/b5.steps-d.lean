/-! PURE: one step of the law: a program is read. -/
section PU
variable {d : Nat} {w w' : mm_W} {h h' : mm_H} {A A' : aG} {x1 x2 x3 x4 : Int}
theorem GJ_MB (gc : GC w h A) {hx : mm_H} (gm : GM w' hx A) : MB hx (gT A) (gTn A) := ⟨gm.2.2.2.2.2.2.2.2.1.1, gm.2.2.2.2.2.2.2.2.1.2.1, gm.2.2.2.2.2.2.2.2.1.2.2, gc.2.2.2.2.2.2.2.1.2.2.2.2.1⟩
theorem J_43 (hd : 700 ≤ d) (g : GJ w h A) : JS d 183 331 [] w h A := by
  have hN : h 1 16 = gPn A := g.1.2.2.2.2.2.2.2.2.1
  have n4 : 0 ≤ gPn A ∧ gPn A ≤ 4 := g.1.2.2.2.2.2.2.2.2.2.1
  have hT := g.1.2.2.2.2.2.2.2.1
  have h506 : 506 ≤ w.2.1 := g.1.1.2.2.2.2.2.2.2.2.2
  obtain ⟨b1, b2, b3, b4, b5⟩ := g.1.2.2.2.2
  rcases E_F_text (d := d) (by omega) g.1.1 g.1.2.1 g.1.2.2.2.2.1 hT hN n4 with ⟨z, c1⟩ | ⟨z, f, t1, h1, c1, c2, c3, c4⟩ | ⟨z, P, t1, w1, h1, c1, c2, c3, c4, c5, c6, c7, c8, c9, c10, c11⟩
  · rcases E_M_text (d := d) (by omega) g.2.1 g.2.2.1 g.2.2.2.2.2.2.1 (GJ_MB g.1 g.2) g.2.2.2.2.2.2.2.2.2.2.2.1 n4 with ⟨_, m1⟩ | ⟨y, _⟩ | ⟨y, _⟩
    · exact JS_0 g c1 m1
    all_goals (exfalso; omega)
  · have g1 : GM w h1 A := GM_x g.2 (fun _ _ => rfl) (fun b _ _ => c4 b (by omega) (by omega) (by omega))
    rcases E_M_text (d := d) (by omega) g1.1 g1.2.1 g1.2.2.2.2.2.1 (GJ_MB g.1 g1) g1.2.2.2.2.2.2.2.2.2.2.1 n4 with ⟨y, _⟩ | ⟨_, f', t2, h2, m1, m2, m3, m4, m5, m6⟩ | ⟨_, P', t2, _⟩
    · exfalso; omega
    · rw [t1] at t2
      obtain rfl : f = f' := Sum.inl.inj t2
      have e1 : h1 1 = h 1 := c4 1 (by decide) (by decide) (by decide)
      have cs : CS w w h h1 := CS_s (fun b b0 => c4 b (by omega) (by omega) (by omega))
      have gc : GC w h1 (gClr A) := GC_hd g.1 c2 ⟨SW_fr b1 (fun b hb => c4 b (by omega) (by omega) (by omega)), ⟨by rw [e1]; exact b2.1, b2.2.1, fun z => ⟨RC_fr (b2.2.2 z).1 (b2.2.2 z).2 cs (fun b b0 b1 => c4 b (by omega) (by omega) (by omega)), (b2.2.2 z).2⟩⟩, fun k k0 k1 => by rw [c4 469 (by decide) (by decide) (by decide), c4 468 (by decide) (by decide) (by decide)]; exact b3 k k0 k1, c3, by rw [e1]; exact b5.1, b5.2.1, fun k k0 k1 => by rw [c4 467 (by decide) (by decide) (by decide)]; exact ⟨PC_gr (b5.2.2 k k0 k1).1 cs, (b5.2.2 k k0 k1).2⟩⟩ ⟨rfl, rfl⟩ (fun _ _ => rfl) cs (fun b _ _ => c4 b (by omega) (by omega) (by omega)) (by rw [e1])
      obtain ⟨f1, f2, f3, f4, f5, f6⟩ := g1.2.2.2.2.2
      have oo : ∀ b : Int, b ≠ 483 → b ≠ 491 → b ≠ 504 → b ≠ 505 → h2 b = h1 b := m2.1
      have gm : GM w h2 (gClr A) := GM_hd g1 ⟨rfl, rfl⟩ ⟨mNam_fr f1 (oo 492 (by decide) (by decide) (by decide) (by decide)), fun j j0 j1 => by rw [oo 497 (by decide) (by decide) (by decide) (by decide)]; exact f2 j j0 j1, ⟨by rw [m2.2 6 (by decide) (by decide)]; exact f3.1, f3.2.1, fun z => by rw [oo 486 (by decide) (by decide) (by decide) (by decide)]; exact f3.2.2 z⟩, ⟨m3, (by decide : (0 : Int) ≤ 0 ∧ (0 : Int) ≤ 200), fun j j0 j1 => absurd (show j < 0 from j1) (by omega)⟩, fun k k0 k1 => by rw [oo 503 (by decide) (by decide) (by decide) (by decide), oo 502 (by decide) (by decide) (by decide) (by decide)]; exact f5 k k0 k1, by rw [m4]; rfl, f6.2.1, fun k k0 k1 => by rw [m5, m6]; exact f6.2.2 k k0 k1⟩ (fun i _ i2 i3 => m2.2 i i2 i3) ⟨oo 484 (by decide) (by decide) (by decide) (by decide), oo 485 (by decide) (by decide) (by decide) (by decide), oo 494 (by decide) (by decide) (by decide) (by decide)⟩
      exact JS_s c1 m1 gc gm (c4 (-1) (by decide) (by decide) (by decide)) (fun b hb => oo b (by omega) (by omega) (by omega) (by omega))
    · rw [t1] at t2; cases t2
  · have ew : ∀ b : Int, b < 506 → w1.1 b = w.1 b := fun b hb => c2.1 b (by omega)
    have g1 : GM w1 h1 A := GM_x g.2 ew (fun b _ _ => c11 b (by omega) (by omega) (by omega) (by omega) (by omega) (by omega))
    rcases E_M_text (d := d) (by omega) g1.1 g1.2.1 g1.2.2.2.2.2.1 (GJ_MB g.1 g1) g1.2.2.2.2.2.2.2.2.2.2.1 n4 with ⟨y, _⟩ | ⟨_, f', t2, _⟩ | ⟨_, P', t2, h2, m1, m2, m3, m4, m5, m6, m7, m8⟩
    · exfalso; omega
    · rw [t1] at t2; cases t2
    · rw [t1] at t2
      obtain rfl : P = P' := Sum.inr.inj t2
      have ok : prO P := txT_ok hT.2.2.1 t1
      have cs : CS w w1 h h1 := c2.2
      have ro : ∀ b : Int, b ≠ 1 → b < 461 ∨ b = 462 ∨ (468 ≤ b ∧ b < 506) → h1 b = h b := fun b q1 q2 => c11 b q1 (by omega) (by omega) (by omega) (by omega) (by omega)
      have gc : GC w1 h1 (gAdd A P) := GC_hd g.1 c4 ⟨SW_up (SW_fr b1 (fun b hb => ro b (by omega) (by omega))) ew, ⟨by rw [c7 14 (by decide)]; exact b2.1, b2.2.1, fun z => ⟨RC_fr (b2.2.2 z).1 (b2.2.2 z).2 cs (fun b b0 b1 => ro b (by omega) (by omega)), (b2.2.2 z).2⟩⟩, fun k k0 k1 => by rw [ro 469 (by decide) (by omega), ro 468 (by decide) (by omega)]; exact b3 k k0 k1, c5, c6, ⟨show 0 ≤ gPn A + 1 by omega, show gPn A + 1 ≤ 4 by omega⟩, fun k k0 k1 => by
        have k1 : k < gPn A + 1 := k1
        show PC w1 h1 (h1 467 k) (if k = gPn A then P else gP A k) ∧ prO (if k = gPn A then P else gP A k)
        by_cases e : k = gPn A
        · rw [if_pos e, e, c8]
          exact ⟨c10, ok⟩
        · rw [if_neg e, c9 k e]
          have q := b5.2.2 k k0 (by omega)
          exact ⟨PC_gr q.1 cs, q.2⟩⟩ ⟨rfl, rfl⟩ ew cs (fun b q1 q2 => ro b q1 (by omega)) (c7 15 (by decide))
      obtain ⟨f1, f2, f3, f4, f5, f6⟩ := g1.2.2.2.2.2
      have oo : ∀ b : Int, b ≠ 483 → b ≠ 491 → b ≠ 504 → b ≠ 505 → h2 b = h1 b := m2.1
      have gm : GM w1 h2 (gAdd A P) := GM_hd g1 ⟨rfl, rfl⟩ ⟨mNam_fr f1 (oo 492 (by decide) (by decide) (by decide) (by decide)), fun j j0 j1 => by rw [oo 497 (by decide) (by decide) (by decide) (by decide)]; exact f2 j j0 j1, ⟨by rw [m2.2 6 (by decide) (by decide)]; exact f3.1, f3.2.1, fun z => by rw [oo 486 (by decide) (by decide) (by decide) (by decide)]; exact f3.2.2 z⟩, ⟨m3, (by decide : (0 : Int) ≤ 0 ∧ (0 : Int) ≤ 200), fun j j0 j1 => absurd (show j < 0 from j1) (by omega)⟩, fun k k0 k1 => by rw [oo 503 (by decide) (by decide) (by decide) (by decide), oo 502 (by decide) (by decide) (by decide) (by decide)]; exact f5 k k0 k1, m4, ⟨show 0 ≤ gPn A + 1 by omega, show gPn A + 1 ≤ 4 by omega⟩, fun k k0 k1 => by
        have k1 : k < gPn A + 1 := k1
        show PM (fun j => h2 504 (400 * k + j)) (h2 505 k) (if k = gPn A then P else gP A k) ∧ prO (if k = gPn A then P else gP A k)
        by_cases e : k = gPn A
        · rw [if_pos e, e]
          exact ⟨m6, ok⟩
        · rw [if_neg e, m8 k e]
          obtain ⟨q1, q2⟩ := f6.2.2 k k0 (by omega)
          have cl := wfP_clo _ _ _ q2.1
          have lw := q2.2.1
          exact ⟨⟨q1.1, rfP_row (h := fun _ j => h1 504 (400 * k + j)) (a := 0) (gP A k) 0 cl (fun j j0 j1 => m7 _ (by omega)) q1.2⟩, q2⟩⟩ (fun i _ i2 i3 => m2.2 i i2 i3) ⟨oo 484 (by decide) (by decide) (by decide) (by decide), oo 485 (by decide) (by decide) (by decide) (by decide), oo 494 (by decide) (by decide) (by decide) (by decide)⟩
      exact JS_mk c1 m1 gc gm (ro (-1) (by decide) (by decide)) (fun b hb => oo b (by omega) (by omega) (by omega) (by omega)) ew ⟨by omega, by omega, c3.2⟩
end PU
