/-! PURE: one step of the law: shelves, the tape, the image. -/
/-- the tape is empty -/
def gClr (A : aG) : aG := (A.1, A.2.1, A.2.2.1, (0, gT A), A.2.2.2.2)
/-- one more program, the tape is empty -/
def gAdd (A : aG) (P : List (List Int)) : aG := (A.1, A.2.1, (gPn A + 1, fun k => if k = gPn A then P else gP A k), (0, gT A), A.2.2.2.2)
section PU
variable {d : Nat} {w w' : mm_W} {h h' : mm_H} {A A' : aG} {x1 x2 x3 x4 : Int}
theorem GC_hd (g : GC w h A) (k : HK h') (gx : GX w' h' A') (e : A'.1 = A.1 ∧ A'.2.1 = A.2.1) (ew : ∀ b : Int, b < 506 → w'.1 b = w.1 b) (cs : CS w w' h h') (o : ∀ b : Int, b ≠ 1 → b < 461 → h' b = h b) (e15 : h' 1 15 = h 1 15) : GC w' h' A' := by
  obtain ⟨z1, z2, z3⟩ := A
  obtain ⟨y1, y2, y3⟩ := A'
  obtain ⟨rfl, rfl⟩ : y1 = z1 ∧ y2 = z2 := e
  obtain ⟨a1, a2, a3, a4, a5⟩ := g
  have h5 : 506 ≤ w'.2.1 := Int.le_trans a1.2.2.2.2.2.2.2.2.2 cs.1
  refine ⟨WK_up a1 ew h5, k, cHist_gr (A := (y1, y2, z3)) a3 cs (fun b b0 b1 => o b (by omega) (by omega)) (o 2 (by decide) (by decide)), ?_, gx⟩
  rcases a4 with x | ⟨x, y⟩
  · exact Or.inl (by rw [e15]; exact x)
  · exact Or.inr ⟨by rw [e15]; exact x, cVw_fr y (fun b b0 b1 => o b (by omega) (by omega))⟩
theorem GM_hd (g : GM w h A) (e : A'.1 = A.1 ∧ A'.2.1 = A.2.1) (gy : GY h' A') (ei : ∀ i : Int, i ≠ 6 → ¬ (15 ≤ i ∧ i < 24 ∧ i ≠ 21) → ¬ (43 ≤ i ∧ i < 46) → h' 483 i = h 483 i) (o : h' 484 = h 484 ∧ h' 485 = h 485 ∧ h' 494 = h 494) : GM w h' A' := by
  obtain ⟨z1, z2, z3⟩ := A
  obtain ⟨y1, y2, y3⟩ := A'
  obtain ⟨rfl, rfl⟩ : y1 = z1 ∧ y2 = z2 := e
  obtain ⟨a1, a2, a3, a4, a5, a6⟩ := g
  refine ⟨a1, MH_fr a2 (fun i hi => ei i (by unfold mRef at hi; omega) (by unfold mRef at hi; omega) (by unfold mRef at hi; omega)), mHis_fr (A := (y1, y2, z3)) a3 (fun i hi => ei i (by omega) (by omega) (by omega)) o.2.1, by rw [o.1]; exact a4, fun z => ?_, gy⟩
  rw [ei 4 (by decide) (by decide) (by decide)] at z
  have q := a5 z
  unfold HCs HC at q ⊢
  rw [o.2.2]
  exact q
theorem HK_shv (hK : HK h) (o : ∀ b : Int, b ≠ 468 → b ≠ 469 → h' b = h b) : HK h' := by
  have sh : ∀ S : Int, S + 13 ≤ 468 ∨ S = 470 → ShH h S → ShH h' S := fun S z q => ShH_fr q (fun i _ _ => by rw [o S (by omega) (by omega)]) (o _ (by omega) (by omega))
  refine HK_fr hK (fun b i hb => ?_) (fun k k0 k1 => sh _ (by omega) (hK.2.2.2.2.2.1 k k0 k1)) (sh _ (by decide) hK.2.2.2.2.2.2.1) (sh _ (by decide) hK.2.2.2.2.2.2.2)
  unfold kSl at hb
  rw [o b (by omega) (by omega)]
theorem GC_shl {sz : Int → Int} {sh : Int → Int → Int} (g : GC w h A) (s : shl h' 469 468 (gShl A sz sh)) (o : ∀ b : Int, b ≠ 468 → b ≠ 469 → h' b = h b) : GC w h' (gShl A sz sh) := by
  obtain ⟨b1, b2, b3, b4, b5⟩ := g.2.2.2.2
  have e1 : h' 1 = h 1 := o 1 (by decide) (by decide)
  have cs : CS w w h h' := CS_s (fun b b0 => o b (by omega) (by omega))
  exact GC_hd g (HK_shv g.2.1 o) ⟨SW_fr b1 (fun b hb => o b (by omega) (by omega)), ⟨by rw [e1]; exact b2.1, b2.2.1, fun z => ⟨RC_fr (b2.2.2 z).1 (b2.2.2 z).2 cs (fun b b0 b1 => o b (by omega) (by omega)), (b2.2.2 z).2⟩⟩, s, TB_fr b4 (o 461 (by decide) (by decide)) (o 462 (by decide) (by decide)), by rw [e1]; exact b5.1, b5.2.1, fun k k0 k1 => by rw [o 467 (by decide) (by decide)]; exact ⟨PC_gr (b5.2.2 k k0 k1).1 cs, (b5.2.2 k k0 k1).2⟩⟩ ⟨rfl, rfl⟩ (fun _ _ => rfl) cs (fun b _ _ => o b (by omega) (by omega)) (by rw [e1])
theorem GM_shl {sz : Int → Int} {sh : Int → Int → Int} (g : GM w h A) (s : shl h' 503 502 (gShl A sz sh)) (o : ∀ b : Int, b ≠ 502 → b ≠ 503 → h' b = h b) : GM w h' (gShl A sz sh) := by
  obtain ⟨b1, b2, b3, b4, b5, b6⟩ := g.2.2.2.2.2
  have e3 : h' 483 = h 483 := o 483 (by decide) (by decide)
  exact GM_hd g ⟨rfl, rfl⟩ ⟨mNam_fr b1 (o 492 (by decide) (by decide)), fun j j0 j1 => by rw [o 497 (by decide) (by decide)]; exact b2 j j0 j1, ⟨by rw [e3]; exact b3.1, b3.2.1, fun z => by rw [o 486 (by decide) (by decide)]; exact b3.2.2 z⟩, ⟨by rw [e3]; exact b4.1, b4.2.1, fun j j0 j1 => by rw [o 490 (by decide) (by decide)]; exact b4.2.2 j j0 j1⟩, s, by rw [e3]; exact b6.1, b6.2.1, fun k k0 k1 => by rw [o 504 (by decide) (by decide), o 505 (by decide) (by decide)]; exact b6.2.2 k k0 k1⟩ (fun i _ _ _ => by rw [e3]) ⟨o 484 (by decide) (by decide), o 485 (by decide) (by decide), o 494 (by decide) (by decide)⟩
theorem J_38 (hd : 700 ≤ d) (g : GJ w h A) : JS d 178 315 [(0, x1), (0, x2)] w h A := by
  rcases E_F_shelfRow (d := d) (by omega) g.1.1 g.1.2.1 g.1.2.2.2.2.2.2.1 x1 x2 with ⟨z, c1⟩ | ⟨z, c1⟩ | ⟨z, h1, c1, c2, c3⟩
  · rcases E_M_row (d := d) (by omega) g.2.1 g.2.2.1 g.2.2.2.2.2.2.2.2.2.2.1 x1 x2 with ⟨_, m1⟩ | ⟨y, _⟩ | ⟨y, _⟩
    · exact JS_0 g c1 m1
    · exfalso; omega
    · exfalso; omega
  · rcases E_M_row (d := d) (by omega) g.2.1 g.2.2.1 g.2.2.2.2.2.2.2.2.2.2.1 x1 x2 with ⟨y, _⟩ | ⟨_, m1⟩ | ⟨y, _⟩
    · exfalso; omega
    · exact JS_0 g c1 m1
    · exfalso; omega
  · have g1 : GM w h1 A := GM_x g.2 (fun _ _ => rfl) (fun b _ _ => c3 b (by omega) (by omega))
    rcases E_M_row (d := d) (by omega) g1.1 g1.2.1 g1.2.2.2.2.2.2.2.2.2.1 x1 x2 with ⟨y, _⟩ | ⟨y, _⟩ | ⟨_, h2, m1, m2, m3⟩
    · exfalso; omega
    · exfalso; omega
    · exact JS_s c1 m1 (GC_shl g.1 c2 c3) (GM_shl g1 m2 m3) (c3 (-1) (by decide) (by decide)) (fun b hb => m3 b (by omega) (by omega))
theorem J_39 (hd : 700 ≤ d) (g : GJ w h A) : JS d 179 317 [(0, x1), (0, x2), (0, x3)] w h A := by
  rcases E_F_shelfPut (d := d) (by omega) g.1.1 g.1.2.1 g.1.2.2.2.2.2.2.1 x1 x2 x3 with ⟨z, c1⟩ | ⟨z, c1⟩ | ⟨z, c1⟩ | ⟨z, h1, c1, c2, c3⟩
  · rcases E_M_put (d := d) (by omega) g.2.1 g.2.2.1 g.2.2.2.2.2.2.2.2.2.2.1 x1 x2 x3 with ⟨_, m1⟩ | ⟨y, _⟩ | ⟨y, _⟩ | ⟨y, _⟩
    · exact JS_0 g c1 m1
    all_goals (exfalso; omega)
  · rcases E_M_put (d := d) (by omega) g.2.1 g.2.2.1 g.2.2.2.2.2.2.2.2.2.2.1 x1 x2 x3 with ⟨y, _⟩ | ⟨_, m1⟩ | ⟨y, _⟩ | ⟨y, _⟩
    rotate_left
    · exact JS_0 g c1 m1
    all_goals (exfalso; omega)
  · rcases E_M_put (d := d) (by omega) g.2.1 g.2.2.1 g.2.2.2.2.2.2.2.2.2.2.1 x1 x2 x3 with ⟨y, _⟩ | ⟨y, _⟩ | ⟨_, m1⟩ | ⟨y, _⟩
    rotate_left 2
    · exact JS_0 g c1 m1
    all_goals (exfalso; omega)
  · have g1 : GM w h1 A := GM_x g.2 (fun _ _ => rfl) (fun b _ _ => c3 b (by omega))
    rcases E_M_put (d := d) (by omega) g1.1 g1.2.1 g1.2.2.2.2.2.2.2.2.2.1 x1 x2 x3 with ⟨y, _⟩ | ⟨y, _⟩ | ⟨y, _⟩ | ⟨_, h2, m1, m2, m3⟩
    rotate_left 3
    · exact JS_s c1 m1 (GC_shl g.1 c2 (fun b b1 _ => c3 b b1)) (GM_shl g1 m2 (fun b b1 _ => m3 b b1)) (c3 (-1) (by decide)) (fun b hb => m3 b (by omega))
    all_goals (exfalso; omega)
theorem J_40 (hd : 700 ≤ d) (g : GJ w h A) : JS d 180 318 [(0, x1), (0, x2)] w h A := JS_0 g (E_F_element (d := d) (by omega) g.1.1 g.1.2.1 g.1.2.2.2.2.2.2.1 x1 x2) (E_M_element (d := d) (by omega) g.2.1 g.2.2.1 g.2.2.2.2.2.2.2.2.2.2.1 x1 x2)
theorem J_41 (hd : 700 ≤ d) (g : GJ w h A) (i4 : i32 x4) : JS d 181 319 [(0, x1), (0, x2), (0, x3), (0, x4)] w h A := by
  obtain ⟨h1, c1, q, c2, c3⟩ := E_F_clip (d := d) (by omega) (GC_QS g.1) g.1.2.2.2.2.2.2.1 x1 x2 x3 i4.2
  have g1 : GM w h1 A := GM_x g.2 (fun _ _ => rfl) (fun b _ _ => c3 b (by omega) (by omega))
  obtain ⟨h2, m1, r, m2, m3⟩ := E_M_clip (d := d) (by omega) (GM_QT g1) g1.2.2.2.2.2.2.2.2.2.1 x1 x2 x3 i4.2
  obtain ⟨b1, b2, b3, b4, b5⟩ := g.1.2.2.2.2
  have e1 : h1 1 = h 1 := c3 1 (by decide) (by decide)
  have cs : CS w w h h1 := CS_s (fun b b0 => c3 b (by omega) (by omega))
  have gc : GC w h1 (gClip A x1 x2 x3 x4) := ⟨q.1, q.2.1, q.2.2.1, q.2.2.2, SW_fr b1 (fun b hb => c3 b (by omega) (by omega)), ⟨by rw [e1]; exact b2.1, b2.2.1, fun z => ⟨RC_fr (b2.2.2 z).1 (b2.2.2 z).2 cs (fun b b0 b1 => c3 b (by omega) (by omega)), (b2.2.2 z).2⟩⟩, c2, TB_fr b4 (c3 461 (by decide) (by decide)) (c3 462 (by decide) (by decide)), by rw [e1]; exact b5.1, b5.2.1, fun k k0 k1 => by rw [c3 467 (by decide) (by decide)]; exact ⟨PC_gr (b5.2.2 k k0 k1).1 cs, (b5.2.2 k k0 k1).2⟩⟩
  obtain ⟨f1, f2, f3, f4, f5, f6⟩ := g1.2.2.2.2.2
  have oo : ∀ b : Int, b = 486 ∨ b = 490 ∨ b = 492 ∨ (503 ≤ b ∧ b < 506) → h2 b = h1 b := fun b hb => m3.1 b (by unfold qRow; omega) (by omega) (by omega) (by omega)
  have gm : GM w h2 (gClip A x1 x2 x3 x4) := ⟨r.1, r.2.1, r.2.2.1.1, r.2.2.2.1, r.2.2.2.2, mNam_fr f1 (oo 492 (by omega)), r.2.2.1.2, ⟨by rw [m3.2 6 (by unfold qFd; omega)]; exact f3.1, f3.2.1, fun z => by rw [oo 486 (by omega)]; exact f3.2.2 z⟩, ⟨by rw [m3.2 15 (by unfold qFd; omega)]; exact f4.1, f4.2.1, fun j j0 j1 => by rw [oo 490 (by omega)]; exact f4.2.2 j j0 j1⟩, m2, by rw [m3.2 43 (by unfold qFd; omega)]; exact f6.1, f6.2.1, fun k k0 k1 => by rw [oo 504 (by omega), oo 505 (by omega)]; exact f6.2.2 k k0 k1⟩
  exact JS_s c1 m1 gc gm (c3 (-1) (by decide) (by decide)) (fun b hb => m3.1 b (by unfold qRow; omega) (by omega) (by omega) (by omega))
theorem J_42 (hd : 700 ≤ d) (g : GJ w h A) : JS d 182 255 [(0, x1), (0, x2)] w h A := by
  rcases E_F_feed (d := d) (by omega) g.1.1 g.1.2.1 g.1.2.2.2.2.2.2.2.1 x1 x2 with ⟨z, c1⟩ | ⟨z, c1⟩ | ⟨z, h1, c1, c2, c3, c4⟩
  · rcases E_M_feed (d := d) (by omega) g.2.1 g.2.2.1 g.2.2.2.2.2.2.2.2.2.1 x1 x2 with ⟨_, m1⟩ | ⟨y, _⟩ | ⟨y, _⟩
    · exact JS_0 g c1 m1
    all_goals (exfalso; omega)
  · rcases E_M_feed (d := d) (by omega) g.2.1 g.2.2.1 g.2.2.2.2.2.2.2.2.2.1 x1 x2 with ⟨y, _⟩ | ⟨_, m1⟩ | ⟨y, _⟩
    rotate_left
    · exact JS_0 g c1 m1
    all_goals (exfalso; omega)
  · have g1 : GM w h1 A := GM_x g.2 (fun _ _ => rfl) (fun b _ _ => c3 b (by omega) (by omega))
    rcases E_M_feed (d := d) (by omega) g1.1 g1.2.1 g1.2.2.2.2.2.2.2.2.1 x1 x2 with ⟨y, _⟩ | ⟨y, _⟩ | ⟨_, h2, m1, m2, m3, m4⟩
    rotate_left 2
    · obtain ⟨b1, b2, b3, b4, b5⟩ := g.1.2.2.2.2
      have e1 : h1 1 = h 1 := c3 1 (by decide) (by decide)
      have cs : CS w w h h1 := CS_s (fun b b0 => c3 b (by omega) (by omega))
      have hK := g.1.2.1
      have k1 : HK h1 := by
        have sh : ∀ S : Int, S + 13 ≤ 461 ∨ S = 470 → ShH h S → ShH h1 S := fun S z q => ShH_fr q (fun i _ _ => by rw [c3 S (by omega) (by omega)]) (c3 _ (by omega) (by omega))
        refine HK_fr hK (fun b i hb => ?_) (fun k k0 k1 => sh _ (by omega) (hK.2.2.2.2.2.1 k k0 k1)) (sh _ (by decide) hK.2.2.2.2.2.2.1) (sh _ (by decide) hK.2.2.2.2.2.2.2)
        unfold kSl at hb
        by_cases e : b = 461
        · rw [e, c4 i (by omega)]
        · rw [c3 b (by omega) (by omega)]
      have gc : GC w h1 (gFeed A x1 x2) := GC_hd g.1 k1 ⟨SW_fr b1 (fun b hb => c3 b (by omega) (by omega)), ⟨by rw [e1]; exact b2.1, b2.2.1, fun z => ⟨RC_fr (b2.2.2 z).1 (b2.2.2 z).2 cs (fun b b0 b1 => c3 b (by omega) (by omega)), (b2.2.2 z).2⟩⟩, fun k k0 k1 => by rw [c3 469 (by decide) (by decide), c3 468 (by decide) (by decide)]; exact b3 k k0 k1, c2, by rw [e1]; exact b5.1, b5.2.1, fun k k0 k1 => by rw [c3 467 (by decide) (by decide)]; exact ⟨PC_gr (b5.2.2 k k0 k1).1 cs, (b5.2.2 k k0 k1).2⟩⟩ ⟨rfl, rfl⟩ (fun _ _ => rfl) cs (fun b _ _ => c3 b (by omega) (by omega)) (by rw [e1])
      obtain ⟨f1, f2, f3, f4, f5, f6⟩ := g1.2.2.2.2.2
      have gm : GM w h2 (gFeed A x1 x2) := GM_hd g1 ⟨rfl, rfl⟩ ⟨mNam_fr f1 (m3 492 (by decide) (by decide)), fun j j0 j1 => by rw [m3 497 (by decide) (by decide)]; exact f2 j j0 j1, ⟨by rw [m4 6 (by decide)]; exact f3.1, f3.2.1, fun z => by rw [m3 486 (by decide) (by decide)]; exact f3.2.2 z⟩, m2, fun k k0 k1 => by rw [m3 503 (by decide) (by decide), m3 502 (by decide) (by decide)]; exact f5 k k0 k1, by rw [m4 43 (by decide)]; exact f6.1, f6.2.1, fun k k0 k1 => by rw [m3 504 (by decide) (by decide), m3 505 (by decide) (by decide)]; exact f6.2.2 k k0 k1⟩ (fun i _ i2 _ => m4 i (by omega)) ⟨m3 484 (by decide) (by decide), m3 485 (by decide) (by decide), m3 494 (by decide) (by decide)⟩
      exact JS_s c1 m1 gc gm (c3 (-1) (by decide) (by decide)) (fun b hb => m3 b (by omega) (by omega))
    all_goals (exfalso; omega)
theorem J_45 (hd : 700 ≤ d) (g : GJ w h A) : JS d 185 221 [] w h A := by
  obtain ⟨h1, c1, c2, c3, c4, c5, c6⟩ := E_F_image (d := d) (by omega) g.1.1 g.1.2.1 g.1.2.2.1
  have g1 : GM w h1 A := GM_x g.2 (fun _ _ => rfl) (fun b _ _ => c6 b (by omega) (by omega))
  obtain ⟨h2, m1, m2, m3, m4, m5⟩ := E_M_image (d := d) (by omega) g1.1 g1.2.1
  obtain ⟨b1, b2, b3, b4, b5⟩ := g.1.2.2.2.2
  have cs : CS w w h h1 := CS_s (fun b b0 => c6 b (by omega) (by omega))
  have gc : GC w h1 (gImg A) := GC_hd g.1 c4 ⟨SW_fr b1 (fun b hb => c6 b (by omega) (by omega)), c3, fun k k0 k1 => by rw [c6 469 (by decide) (by decide), c6 468 (by decide) (by decide)]; exact b3 k k0 k1, TB_fr b4 (c6 461 (by decide) (by decide)) (c6 462 (by decide) (by decide)), by rw [c5 16 (by decide)]; exact b5.1, b5.2.1, fun k k0 k1 => by rw [c6 467 (by decide) (by decide)]; exact ⟨PC_gr (b5.2.2 k k0 k1).1 cs, (b5.2.2 k k0 k1).2⟩⟩ ⟨rfl, rfl⟩ (fun _ _ => rfl) cs (fun b b1 _ => c6 b b1 (by omega)) (c5 15 (by decide))
  obtain ⟨f1, f2, f3, f4, f5, f6⟩ := g1.2.2.2.2.2
  have R1 : RM (h2 486) (gNow A) := RM_ext (GM_I g1) g1.2.2.2.1 m5
  have gm : GM w h2 (gImg A) := GM_hd g1 ⟨rfl, rfl⟩ ⟨mNam_fr f1 (m2 492 (by decide) (by decide)), fun j j0 j1 => by rw [m2 497 (by decide) (by decide)]; exact f2 j j0 j1, ⟨m4, Or.inr rfl, fun _ => ⟨R1, GM_I g1⟩⟩, ⟨by rw [m3 15 (by decide)]; exact f4.1, f4.2.1, fun j j0 j1 => by rw [m2 490 (by decide) (by decide)]; exact f4.2.2 j j0 j1⟩, fun k k0 k1 => by rw [m2 503 (by decide) (by decide), m2 502 (by decide) (by decide)]; exact f5 k k0 k1, by rw [m3 43 (by decide)]; exact f6.1, f6.2.1, fun k k0 k1 => by rw [m2 504 (by decide) (by decide), m2 505 (by decide) (by decide)]; exact f6.2.2 k k0 k1⟩ (fun i i1 _ _ => m3 i i1) ⟨m2 484 (by decide) (by decide), m2 485 (by decide) (by decide), m2 494 (by decide) (by decide)⟩
  exact JS_s c1 m1 gc gm (c6 (-1) (by decide) (by decide)) (fun b hb => m2 b (by omega) (by omega))
theorem J_46 (hd : 700 ≤ d) (g : GJ w h A) : JS d 186 222 [] w h A := by
  rcases E_F_back (d := d) (by omega) g.1.1 g.1.2.1 g.1.2.2.1 g.1.2.2.2.2.2.1 with ⟨z, c1⟩ | ⟨z, h1, c1, c2, c3, c4, c5, c6⟩
  · rcases E_M_back (d := d) (by omega) g.2.1 g.2.2.1 g.2.2.2.2.2.2.2.2.1 with ⟨_, m1⟩ | ⟨y, _⟩
    · exact JS_0 g c1 m1
    · exfalso; omega
  · have g1 : GM w h1 A := GM_x g.2 (fun _ _ => rfl) (fun b _ _ => c6 b (by omega) (by omega) (by omega))
    rcases E_M_back (d := d) (by omega) g1.1 g1.2.1 g1.2.2.2.2.2.2.2.1 with ⟨y, _⟩ | ⟨_, h2, m1, m2, m3, m4, m5, m6⟩
    · exfalso; omega
    · exact JS_s c1 m1 (GC_fin (A' := gBack A) g.1 rfl c2 c3 c4 c5 (fun b b1 b2 b3 _ => c6 b b1 b2 (by omega))) (GM_fin (A' := gBack A) g1 rfl m2 m3 (fun b b1 b2 b3 _ _ _ _ => m4 b b1 b2 b3) (fun i i1 i2 i3 _ _ => m5 i i1 i2 i3) m6) (c6 (-1) (by decide) (by decide) (by decide)) (fun b hb => m4 b (by omega) (by omega) (by omega))
end PU
