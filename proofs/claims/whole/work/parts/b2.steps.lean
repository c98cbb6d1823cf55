/-! PURE: one step of the law: both answer alike, both go on alike. -/
def GJ (w : mm_W) (h : mm_H) (A : aG) : Prop := GC w h A ∧ GM w h A
def JS (d n1 n2 : Nat) (l : List mm_V) (w : mm_W) (h : mm_H) (A : aG) : Prop := ∃ (a : Int) (w' : mm_W) (h1 h2 : mm_H) (A' : aG), mm_P d n1 ((2, 1) :: l) w h = some ((0, a), w', h1) ∧ mm_P d n2 ((2, 483) :: l) w' h1 = some ((0, a), w', h2) ∧ GJ w' h2 A' ∧ h1 (-1) = h (-1) ∧ h2 (-1) = h (-1) ∧ (∀ b : Int, b < 506 → w'.1 b = w.1 b) ∧ w.2.1 ≤ w'.2.1 ∧ w'.2.1 ≤ w.2.1 + 1 ∧ w'.2.2 ≤ w.2.2 + 1800
section PU
variable {d n1 n2 : Nat} {l : List mm_V} {w w' : mm_W} {h h1 h2 : mm_H} {A A' : aG} {a b : Int} {P Q R : Prop} {s' : aS}
theorem JS_mk (c1 : mm_P d n1 ((2, 1) :: l) w h = some ((0, a), w', h1)) (c2 : mm_P d n2 ((2, 483) :: l) w' h1 = some ((0, a), w', h2)) (gc : GC w' h1 A') (gm : GM w' h2 A') (o1 : h1 (-1) = h (-1)) (o2 : ∀ b : Int, ¬ (483 ≤ b ∧ b < 506) → h2 b = h1 b) (ew : ∀ b : Int, b < 506 → w'.1 b = w.1 b) (ws : w.2.1 ≤ w'.2.1 ∧ w'.2.1 ≤ w.2.1 + 1 ∧ w'.2.2 ≤ w.2.2 + 1800) : JS d n1 n2 l w h A := ⟨a, w', h1, h2, A', c1, c2, ⟨GC_x gc o2, gm⟩, o1, by rw [o2 (-1) (by decide)]; exact o1, ew, ws⟩
theorem JS_s (c1 : mm_P d n1 ((2, 1) :: l) w h = some ((0, a), w, h1)) (c2 : mm_P d n2 ((2, 483) :: l) w h1 = some ((0, a), w, h2)) (gc : GC w h1 A') (gm : GM w h2 A') (o1 : h1 (-1) = h (-1)) (o2 : ∀ b : Int, ¬ (483 ≤ b ∧ b < 506) → h2 b = h1 b) : JS d n1 n2 l w h A := JS_mk c1 c2 gc gm o1 o2 (fun _ _ => rfl) ⟨Int.le_refl _, by omega, by omega⟩
/-- nothing moves -/
theorem JS_0 (g : GJ w h A) (c1 : mm_P d n1 ((2, 1) :: l) w h = some ((0, a), w, h)) (c2 : mm_P d n2 ((2, 483) :: l) w h = some ((0, a), w, h)) : JS d n1 n2 l w h A := JS_s c1 c2 g.1 g.2 rfl (fun _ _ => rfl)
theorem JS_ask (g : GJ w h A) (hc : ∃ h', mm_P d n1 ((2, 1) :: l) w h = some ((0, a), w, h') ∧ QS w h' A ∧ CN h h') (hm : ∀ hx : mm_H, GM w hx A → ∃ h', mm_P d n2 ((2, 483) :: l) w hx = some ((0, a), w, h') ∧ QT w h' A ∧ MN hx h') : JS d n1 n2 l w h A := by
  obtain ⟨h1, c1, c2, c3⟩ := hc
  have g1 : GM w h1 A := GM_x g.2 (fun _ _ => rfl) (fun b b0 b1 => c3.1 b (by omega) (by omega) (by omega))
  obtain ⟨h2, m1, m2, m3⟩ := hm h1 g1
  exact JS_s c1 m1 (GC_ask g.1 c2 c3) (GM_ask g1 m2 m3) (c3.1 (-1) (by decide) (by decide) (by decide)) (fun b hb => m3.1 b (by unfold qRow; omega) (by omega) (by omega))
theorem MT_0 (g : GM w h A) {x : Option mm_R} (e : x = some ((0, a), w, h)) : ∃ h', x = some ((0, a), w, h') ∧ QT w h' A ∧ MN h h' := ⟨h, e, GM_QT g, MN_rf h⟩
theorem mD_o (x : mDn h h2 A s') : ∀ b : Int, ¬ (483 ≤ b ∧ b < 506) → h2 b = h b := fun b hb => x.2.2.1 b (by omega) (by omega) (by omega) (by omega) (by omega) (by omega) (by omega)
theorem cS_r (x : cSame w h h1 A) : (∀ b : Int, 483 ≤ b → b < 506 → h1 b = h b) ∧ h1 (-1) = h (-1) := ⟨fun b _ _ => x.2.2 b (by omega) (by omega), x.2.2 (-1) (by decide) (by decide)⟩
theorem cD_r (x : cDone w h h1 A s') : (∀ b : Int, 483 ≤ b → b < 506 → h1 b = h b) ∧ h1 (-1) = h (-1) := ⟨fun b _ _ => x.2.2.2.2 b (by omega) (by omega) (by omega) (by omega), x.2.2.2.2 (-1) (by decide) (by decide) (by decide) (by decide)⟩
theorem JS_no (g : GJ w h A) (c1 : mm_P d n1 ((2, 1) :: l) w h = some ((0, b), w, h1)) (c2 : cSame w h h1 A) (hm : GM w h1 A → ∃ h', mm_P d n2 ((2, 483) :: l) w h1 = some ((0, b), w, h') ∧ mSm h1 h') : JS d n1 n2 l w h A := by
  have o := cS_r c2
  have g1 : GM w h1 A := GM_x g.2 (fun _ _ => rfl) o.1
  obtain ⟨h2, m1, m2⟩ := hm g1
  exact JS_s c1 m1 (GC_same g.1 c2) (GM_sm g1 m2) o.2 (fun b hb => m2.1 b (by omega))
theorem JS_yes (g : GJ w h A) (c1 : mm_P d n1 ((2, 1) :: l) w h = some ((0, a), w, h1)) (c2 : cDone w h h1 A s') (hm : GM w h1 A → ∃ h', mm_P d n2 ((2, 483) :: l) w h1 = some ((0, a), w, h') ∧ mDn h1 h' A s') : JS d n1 n2 l w h A := by
  have o := cD_r c2
  have g1 : GM w h1 A := GM_x g.2 (fun _ _ => rfl) o.1
  obtain ⟨h2, m1, m2⟩ := hm g1
  exact JS_s c1 m1 (GC_done g.1 c2) (GM_dn g1 m2) o.2 (mD_o m2)
theorem JS_sd (g : GJ w h A) (hc : (¬ P ∧ ∃ h', mm_P d n1 ((2, 1) :: l) w h = some ((0, b), w, h') ∧ cSame w h h' A) ∨ (P ∧ ∃ h', mm_P d n1 ((2, 1) :: l) w h = some ((0, a), w, h') ∧ cDone w h h' A s')) (hm : ∀ hx : mm_H, GM w hx A → (¬ P ∧ ∃ h', mm_P d n2 ((2, 483) :: l) w hx = some ((0, b), w, h') ∧ mSm hx h') ∨ (P ∧ ∃ h', mm_P d n2 ((2, 483) :: l) w hx = some ((0, a), w, h') ∧ mDone hx h' A s')) : JS d n1 n2 l w h A := by
  rcases hc with ⟨z, h1, c1, c2⟩ | ⟨z, h1, c1, c2⟩
  · refine JS_no g c1 c2 (fun g1 => ?_)
    rcases hm h1 g1 with ⟨_, y⟩ | ⟨y, _⟩
    · exact y
    · exact absurd y z
  · refine JS_yes g c1 c2 (fun g1 => ?_)
    rcases hm h1 g1 with ⟨y, _⟩ | ⟨_, h2, y1, y2⟩
    · exact absurd z y
    · exact ⟨h2, y1, mDn_of y2⟩
theorem r_sm {x : Option mm_R} (z : (¬ P ∧ x = some ((0, b), w, h)) ∨ Q) : (¬ P ∧ ∃ h', x = some ((0, b), w, h') ∧ mSm h h') ∨ Q := z.imp (fun y => ⟨y.1, h, y.2, mSm_rf h⟩) id
theorem JS_s3 {e1 e2 : Int} (g : GJ w h A) (nq : Q → R → False) (hc : (¬ P ∧ ∃ h', mm_P d n1 ((2, 1) :: l) w h = some ((0, e1), w, h') ∧ cSame w h h' A) ∨ ((P ∧ Q) ∧ ∃ h', mm_P d n1 ((2, 1) :: l) w h = some ((0, e2), w, h') ∧ cSame w h h' A) ∨ ((P ∧ R) ∧ ∃ h', mm_P d n1 ((2, 1) :: l) w h = some ((0, a), w, h') ∧ cDone w h h' A s')) (hm : ∀ hx : mm_H, GM w hx A → (¬ P ∧ mm_P d n2 ((2, 483) :: l) w hx = some ((0, e1), w, hx)) ∨ ((P ∧ Q) ∧ mm_P d n2 ((2, 483) :: l) w hx = some ((0, e2), w, hx)) ∨ ((P ∧ R) ∧ ∃ h', mm_P d n2 ((2, 483) :: l) w hx = some ((0, a), w, h') ∧ mDone hx h' A s')) : JS d n1 n2 l w h A := by
  rcases hc with ⟨z, h1, c1, c2⟩ | ⟨z, h1, c1, c2⟩ | ⟨z, h1, c1, c2⟩
  · refine JS_no g c1 c2 (fun g1 => ?_)
    rcases hm h1 g1 with ⟨_, y⟩ | ⟨y, _⟩ | ⟨y, _⟩
    · exact ⟨h1, y, mSm_rf h1⟩
    · exact absurd y.1 z
    · exact absurd y.1 z
  · refine JS_no g c1 c2 (fun g1 => ?_)
    rcases hm h1 g1 with ⟨y, _⟩ | ⟨_, y⟩ | ⟨y, _⟩
    · exact absurd z.1 y
    · exact ⟨h1, y, mSm_rf h1⟩
    · exact absurd y.2 (fun r => nq z.2 r)
  · refine JS_yes g c1 c2 (fun g1 => ?_)
    rcases hm h1 g1 with ⟨y, _⟩ | ⟨y, _⟩ | ⟨_, h2, y1, y2⟩
    · exact absurd z.1 y
    · exact absurd z.2 (fun r => nq y.2 r)
    · exact ⟨h2, y1, mDn_of y2⟩
theorem GM_I (g : GM w h A) : aI (gNow A) := QT_I (GM_QT g)
end PU
section PU
variable {d : Nat} {w : mm_W} {h : mm_H} {A : aG} {x1 x2 x3 x4 x5 : Int}
theorem J_0 (hd : 700 ≤ d) (g : GJ w h A) (i3 : i32 x3) : JS d 140 235 [(0, x1), (0, x2), (0, x3)] w h A := JS_sd g (E_F_paint (d := d) (by omega) g.1.1 g.1.2.1 g.1.2.2.1 x1 x2 i3.2) (fun hx gx => E_M_paint (d := d) (by omega) gx.1 gx.2.1 gx.2.2.1 (GM_I gx) gx.2.2.2.1 x1 x2 i3.2)
theorem J_1 (hd : 700 ≤ d) (g : GJ w h A) (i4 : i32 x4) : JS d 141 237 [(0, x1), (0, x2), (0, x3), (0, x4)] w h A := JS_sd g (E_F_lines (d := d) (by omega) g.1.1 g.1.2.1 g.1.2.2.1 x1 x2 x3 i4.2) (fun hx gx => r_sm (E_M_lines (d := d) (by omega) gx.1 gx.2.1 gx.2.2.1 (GM_I gx) gx.2.2.2.1 x1 x2 x3 i4.2))
theorem J_2 (hd : 700 ≤ d) (g : GJ w h A) : JS d 142 238 [(0, x1), (0, x2)] w h A := JS_sd g (E_F_ground (d := d) (by omega) g.1.1 g.1.2.1 g.1.2.2.1 x1 x2) (fun hx gx => r_sm (E_M_ground (d := d) (by omega) gx.1 gx.2.1 gx.2.2.1 (GM_I gx) gx.2.2.2.1 x1 x2))
theorem J_3 (hd : 700 ≤ d) (g : GJ w h A) (i1 : i32 x1) : JS d 143 239 [(0, x1), (0, x2)] w h A := JS_sd g (E_F_value (d := d) (by omega) g.1.1 g.1.2.1 g.1.2.2.1 x2 i1.2) (fun hx gx => r_sm (E_M_value (d := d) (by omega) gx.1 gx.2.1 gx.2.2.1 (GM_I gx) gx.2.2.2.1 x2 i1.2))
theorem J_4 (hd : 700 ≤ d) (g : GJ w h A) (i3 : i32 x3) : JS d 144 242 [(0, x1), (0, x2), (0, x3)] w h A := JS_s3 g (fun q r => by omega) (E_F_insert (d := d) (by omega) g.1.1 g.1.2.1 g.1.2.2.1 x1 x2 x3 i3) (fun hx gx => E_M_insert (d := d) (by omega) gx.1 gx.2.1 gx.2.2.1 (GM_I gx) gx.2.2.2.1 x1 x2 x3 i3)
theorem J_5 (hd : 700 ≤ d) (g : GJ w h A) (i2 : i32 x2) : JS d 145 245 [(0, x1), (0, x2)] w h A := JS_s3 g (fun q r => by omega) (E_F_remove (d := d) (by omega) g.1.1 g.1.2.1 g.1.2.2.1 x1 i2.2) (fun hx gx => E_M_remove (d := d) (by omega) gx.1 gx.2.1 gx.2.2.1 (GM_I gx) gx.2.2.2.1 x1 i2.2)
theorem J_6 (hd : 700 ≤ d) (g : GJ w h A) (i1 : i32 x1) (i2 : i32 x2) : JS d 146 250 [(0, x1), (0, x2), (0, x3)] w h A := JS_sd g (E_F_copy (d := d) (by omega) g.1.1 g.1.2.1 g.1.2.2.1 x3 i1.2 i2.2) (fun hx gx => E_M_copy (d := d) (by omega) gx.1 gx.2.1 gx.2.2.1 (GM_I gx) gx.2.2.2.1 x3 i1.2 i2.2)
theorem J_7 (hd : 700 ≤ d) (g : GJ w h A) (i1 : i32 x1) : JS d 147 247 [(0, x1), (0, x2), (0, x3)] w h A := by
  rcases E_F_sort (d := d) (by omega) g.1.1 g.1.2.1 g.1.2.2.1 x2 x3 i1.2 with z | ⟨⟨z1, z2⟩, z⟩
  · exact JS_sd g (Or.inl z) (fun hx gx => r_sm (D_M_sort (d := d) (by omega) gx.1 gx.2.1 gx.2.2.1 (GM_I gx) gx.2.2.2.1 i1.2 (fun y => absurd y z.1)))
  · exact JS_sd g (Or.inr ⟨z1, z⟩) (fun hx gx => r_sm (D_M_sort (d := d) (by omega) gx.1 gx.2.1 gx.2.2.1 (GM_I gx) gx.2.2.2.1 i1.2 (fun _ => z2)))
theorem J_8 (hd : 700 ≤ d) (g : GJ w h A) (i2 : i32 x2) : JS d 148 248 [(0, x1), (0, x2), (0, x3)] w h A := JS_sd g (E_F_move (d := d) (by omega) g.1.1 g.1.2.1 g.1.2.2.1 x1 x3 i2.2) (fun hx gx => r_sm (D_M_move (d := d) (by omega) gx.1 gx.2.1 gx.2.2.1 (GM_I gx) gx.2.2.2.1 i2.2))
theorem J_9 (hd : 700 ≤ d) (g : GJ w h A) : JS d 149 254 [(0, x1)] w h A := JS_sd g (E_F_tidy (d := d) (by omega) g.1.1 g.1.2.1 g.1.2.2.1 x1) (fun hx gx => r_sm (E_M_tidy (d := d) (by omega) gx.1 gx.2.1 gx.2.2.1 (GM_I gx) gx.2.2.2.1 x1))
theorem J_11 (hd : 700 ≤ d) (g : GJ w h A) : JS d 151 277 [(0, x1)] w h A := JS_sd g (E_F_drop (d := d) (by omega) g.1.1 g.1.2.1 g.1.2.2.1 x1) (fun hx gx => r_sm (D_M_drop (d := d) (by omega) gx.1 gx.2.1 gx.2.2.1 (GM_I gx) gx.2.2.2.1 x1))
theorem J_12 (hd : 700 ≤ d) (g : GJ w h A) : JS d 152 278 [(0, x1), (0, x2)] w h A := JS_sd g (E_F_bring (d := d) (by omega) g.1.1 g.1.2.1 g.1.2.2.1 x1 x2) (fun hx gx => r_sm (D_M_bring (d := d) (by omega) gx.1 gx.2.1 gx.2.2.1 (GM_I gx) gx.2.2.2.1 x1 x2))
theorem J_13 (hd : 700 ≤ d) (g : GJ w h A) (i3 : i32 x3) (i5 : i32 x5) : JS d 153 321 [(0, x1), (0, x2), (0, x3), (0, x4), (0, x5)] w h A := JS_sd g (E_F_paste (d := d) (by omega) g.1.1 g.1.2.1 g.1.2.2.1 g.1.2.2.2.2.2.2.1 x1 x2 x3 x4 i3.2 i5.2) (fun hx gx => r_sm (E_M_paste (d := d) (by omega) (GM_QT gx) gx.2.2.2.2.2.2.2.2.2.1 x1 x2 x3 x4 i5.2))
theorem J_14 (hd : 700 ≤ d) (g : GJ w h A) : JS d 154 337 [(0, x1)] w h A := by
  rcases E_F_run (d := d) (by omega) g.1.1 g.1.2.1 g.1.2.2.1 g.1.2.2.2.2.2.2.2.2 x1 with ⟨z, h1, c1, c2, c3, c4⟩ | ⟨z, h1, c1, c2, c3, c4, c5, c6⟩
  · have g1 : GM w h1 A := GM_x g.2 (fun _ _ => rfl) (fun b _ _ => c4 b (by omega) (by omega))
    have e1 : h1 1 = h 1 := c4 1 (by omega) (by omega)
    have gc : GC w h1 A := by
      refine ⟨g.1.1, c3, c2, ?_, GX_fr g.1.2.2.2.2 rfl (fun _ _ => rfl) (CS_s (fun b b0 => c4 b (by omega) (by omega))) (fun b hb => c4 b (by omega) (by omega)) (by rw [e1]) (by rw [e1])⟩
      rcases g.1.2.2.2.1 with x | ⟨x, y⟩
      · exact Or.inl (by rw [e1]; exact x)
      · exact Or.inr ⟨by rw [e1]; exact x, cVw_fr y (fun b b0 b1 => c4 b (by omega) (by omega))⟩
    rcases E_M_run (d := d) (by omega) (GM_QT g1) g1.2.2.2.2.2.2.2.2.2.2 x1 with ⟨_, h2, m1, m2, m3⟩ | ⟨y, _⟩
    · exact JS_s c1 m1 gc (GM_ask g1 m2 m3) (c4 (-1) (by decide) (by decide)) (fun b hb => m3.1 b (by unfold qRow; omega) (by omega) (by omega))
    · exact absurd y z
  · have g1 : GM w h1 A := GM_x g.2 (fun _ _ => rfl) (fun b _ _ => c6 b (by omega) (by omega) (by omega) (by omega))
    rcases E_M_run (d := d) (by omega) (GM_QT g1) g1.2.2.2.2.2.2.2.2.2.2 x1 with ⟨y, _⟩ | ⟨_, h2, m1, m2⟩
    · exact absurd z y
    · exact JS_s c1 m1 (GC_fin (A' := gAcc A (ruS (gP A x1) (gNow A))) g.1 rfl c2 c3 c4 c5 (fun b b1 b2 b3 b4 => c6 b b1 b2 b3 b4)) (GM_dn g1 m2) (c6 (-1) (by decide) (by decide) (by decide) (by decide)) (mD_o m2)
end PU
