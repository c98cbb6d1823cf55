/-! PURE: one step of the law: what was done is taken back, the questions. -/
section PU
variable {d : Nat} {w : mm_W} {h : mm_H} {A : aG} {x1 x2 x3 x4 : Int}
theorem J_15 (hd : 700 ≤ d) (g : GJ w h A) : JS d 155 219 [] w h A := by
  rcases E_F_undo (d := d) (by omega) g.1.1 g.1.2.1 g.1.2.2.1 with ⟨z, c1⟩ | ⟨z, h1, c1, c2, c3, c4, c5, c6⟩
  · rcases E_M_undo (d := d) (by omega) g.2.1 g.2.2.1 g.2.2.2.1 with ⟨_, m1⟩ | ⟨y, _⟩
    · exact JS_0 g c1 m1
    · exact absurd z y
  · have g1 : GM w h1 A := GM_x g.2 (fun _ _ => rfl) (fun b _ _ => c6 b (by omega) (by omega))
    rcases E_M_undo (d := d) (by omega) g1.1 g1.2.1 g1.2.2.1 with ⟨y, _⟩ | ⟨_, h2, m1, m2, m3, m4, m5, m6⟩
    · exact absurd y z
    · exact JS_s c1 m1 (GC_fin (A' := gUndo A) g.1 rfl c2 c3 c4 c5 (fun b b1 b2 _ _ => c6 b b1 b2)) (GM_fin (A' := gUndo A) g1 rfl m2 m3 (fun b b1 b2 _ _ _ _ _ => m4 b b1 b2) (fun i i1 _ i3 _ _ => m5 i i1 i3) m6) (c6 (-1) (by decide) (by decide)) (fun b hb => m4 b (by omega) (by omega))
theorem J_16 (hd : 700 ≤ d) (g : GJ w h A) : JS d 156 220 [] w h A := by
  rcases E_F_redo (d := d) (by omega) g.1.1 g.1.2.1 g.1.2.2.1 with ⟨z, c1⟩ | ⟨z, h1, c1, c2, c3, c4, c5, c6⟩
  · rcases E_M_redo (d := d) (by omega) g.2.1 g.2.2.1 g.2.2.2.1 with ⟨_, m1⟩ | ⟨y, _⟩
    · exact JS_0 g c1 m1
    · exact absurd z y
  · have g1 : GM w h1 A := GM_x g.2 (fun _ _ => rfl) (fun b _ _ => c6 b (by omega) (by omega))
    rcases E_M_redo (d := d) (by omega) g1.1 g1.2.1 g1.2.2.1 with ⟨y, _⟩ | ⟨_, h2, m1, m2, m3, m4, m5, m6⟩
    · exact absurd y z
    · exact JS_s c1 m1 (GC_fin (A' := gRedo A) g.1 rfl c2 c3 c4 c5 (fun b b1 b2 _ _ => c6 b b1 b2)) (GM_fin (A' := gRedo A) g1 rfl m2 m3 (fun b b1 b2 _ _ _ _ _ => m4 b b1 b2) (fun i i1 _ i3 _ _ => m5 i i1 i3) m6) (c6 (-1) (by decide) (by decide)) (fun b hb => m4 b (by omega) (by omega))
theorem J_17 (hd : 700 ≤ d) (g : GJ w h A) (i2 : i32 x2) : JS d 157 288 [(0, x1), (0, x2), (0, x3)] w h A := JS_ask g (E_F_before (d := d) (by omega) (GC_QS g.1) i2.2 x1 x3) (fun hx gx => E_M_before (d := d) (by omega) (GM_QT gx) i2.2 x1 x3)
theorem J_18 (hd : 700 ≤ d) (g : GJ w h A) (i1 : i32 x1) : JS d 158 287 [(0, x1), (0, x2)] w h A := JS_ask g (E_F_shown (d := d) (by omega) (GC_QS g.1) i1.2 x2) (fun hx gx => E_M_shown (d := d) (by omega) (GM_QT gx) i1.2 x2)
theorem J_19 (hd : 700 ≤ d) (g : GJ w h A) (i1 : i32 x1) : JS d 159 289 [(0, x1), (0, x2), (0, x3)] w h A := JS_ask g (E_F_under (d := d) (by omega) (GC_QS g.1) i1.2 x2 x3) (fun hx gx => MT_0 gx (E_M_under (d := d) (by omega) (GM_QT gx) i1.2 x2 x3))
theorem J_20 (hd : 700 ≤ d) (g : GJ w h A) (i1 : i32 x1) : JS d 160 290 [(0, x1), (0, x2)] w h A := JS_ask g (E_F_by (d := d) (by omega) (GC_QS g.1) i1.2 x2) (fun hx gx => E_M_by (d := d) (by omega) (GM_QT gx) i1.2 x2)
theorem J_21 (hd : 700 ≤ d) (g : GJ w h A) (i1 : i32 x1) : JS d 161 291 [(0, x1)] w h A := JS_ask g (E_F_valueAt (d := d) (by omega) (GC_QS g.1) i1.2) (fun hx gx => MT_0 gx (E_M_valueAt (d := d) (by omega) (GM_QT gx) i1.2))
theorem J_22 (hd : 700 ≤ d) (g : GJ w h A) (i2 : i32 x2) : JS d 162 292 [(0, x1), (0, x2)] w h A := JS_ask g (E_F_holds (d := d) (by omega) (GC_QS g.1) i2.2 x1) (fun hx gx => E_M_holds (d := d) (by omega) (GM_QT gx) i2.2 x1)
theorem J_23 (hd : 700 ≤ d) (g : GJ w h A) : JS d 163 293 [(0, x1), (0, x2)] w h A := JS_ask g (E_F_ruleOf (d := d) (by omega) (GC_QS g.1) x1 x2) (fun hx gx => E_M_ruleOf (d := d) (by omega) (GM_QT gx) x1 x2)
theorem J_24 (hd : 700 ≤ d) (g : GJ w h A) : JS d 164 294 [] w h A := JS_ask g (E_F_idle (d := d) (by omega) (GC_QS g.1)) (fun hx gx => E_M_idle (d := d) (by omega) (GM_QT gx))
theorem J_25 (hd : 700 ≤ d) (g : GJ w h A) : JS d 165 297 [(0, x1)] w h A := JS_ask g (E_F_rects (d := d) (by omega) (GC_QS g.1) x1) (fun hx gx => E_M_rects (d := d) (by omega) (GM_QT gx) x1)
theorem J_26 (hd : 700 ≤ d) (g : GJ w h A) : JS d 166 298 [(0, x1), (0, x2), (0, x3)] w h A := JS_ask g (E_F_rect (d := d) (by omega) (GC_QS g.1) x1 x2 x3) (fun hx gx => E_M_rect (d := d) (by omega) (GM_QT gx) x1 x2 x3)
theorem J_27 (hd : 700 ≤ d) (g : GJ w h A) (i1 : i32 x1) : JS d 167 299 [(0, x1), (0, x2)] w h A := JS_ask g (E_F_lies (d := d) (by omega) (GC_QS g.1) i1.2 x2) (fun hx gx => E_M_lies (d := d) (by omega) (GM_QT gx) i1.2 x2)
theorem J_28 (hd : 700 ≤ d) (g : GJ w h A) (i3 : i32 x3) : JS d 168 300 [(0, x1), (0, x2), (0, x3)] w h A := JS_ask g (E_F_would (d := d) (by omega) (GC_QS g.1) i3.2 x1 x2) (fun hx gx => E_M_would (d := d) (by omega) (GM_QT gx) i3.2 x1 x2)
theorem J_29 (hd : 700 ≤ d) (g : GJ w h A) : JS d 169 302 [(0, x1), (0, x2), (0, x3), (0, x4)] w h A := JS_ask g (E_F_drawn (d := d) (by omega) (GC_QS g.1) x1 x2 x3 x4) (fun hx gx => E_M_drawn (d := d) (by omega) (GM_QT gx) x1 x2 x3 x4)
theorem J_30 (hd : 700 ≤ d) (g : GJ w h A) (i2 : i32 x2) : JS d 170 303 [(0, x1), (0, x2)] w h A := JS_ask g (E_F_all (d := d) (by omega) (GC_QS g.1) i2.2 x1) (fun hx gx => E_M_all (d := d) (by omega) (GM_QT gx) i2.2 x1)
theorem J_31 (hd : 700 ≤ d) (g : GJ w h A) (i3 : i32 x3) : JS d 171 305 [(0, x1), (0, x2), (0, x3)] w h A := JS_ask g (E_F_many (d := d) (by omega) (GC_QS g.1) i3.2 x1 x2) (fun hx gx => E_M_many (d := d) (by omega) (GM_QT gx) i3.2 x1 x2)
theorem J_32 (hd : 700 ≤ d) (g : GJ w h A) : JS d 172 307 [(0, x1), (0, x2), (0, x3)] w h A := JS_ask g (E_F_greatest (d := d) (by omega) (GC_QS g.1) x1 x2 x3) (fun hx gx => E_M_greatest (d := d) (by omega) (GM_QT gx) x1 x2 x3)
theorem J_33 (hd : 700 ≤ d) (g : GJ w h A) (i1 : i32 x1) : JS d 173 309 [(0, x1)] w h A := JS_ask g (E_F_alike (d := d) (by omega) (GC_QS g.1) i1.2) (fun hx gx => E_M_alike (d := d) (by omega) (GM_QT gx) i1.2)
theorem J_34 (hd : 700 ≤ d) (g : GJ w h A) : JS d 174 310 [] w h A := JS_ask g (E_F_looks (d := d) (by omega) (GC_QS g.1)) (fun hx gx => E_M_looks (d := d) (by omega) (GM_QT gx))
theorem J_35 (hd : 700 ≤ d) (g : GJ w h A) : JS d 175 311 [(0, x1)] w h A := JS_ask g (E_F_stripes (d := d) (by omega) (GC_QS g.1) x1) (fun hx gx => E_M_stripes (d := d) (by omega) (GM_QT gx) x1)
theorem J_36 (hd : 700 ≤ d) (g : GJ w h A) : JS d 176 312 [(0, x1), (0, x2)] w h A := JS_ask g (E_F_strokes (d := d) (by omega) (GC_QS g.1) x1 x2) (fun hx gx => E_M_strokes (d := d) (by omega) (GM_QT gx) x1 x2)
theorem J_37 (hd : 700 ≤ d) (g : GJ w h A) : JS d 177 252 [(0, x1)] w h A := JS_0 g (E_F_needless (d := d) (by omega) g.1.1 g.1.2.1 g.1.2.2.1 x1) (E_M_needless (d := d) (by omega) g.2.1 g.2.2.1 (GM_I g.2) g.2.2.2.2.1 x1)
theorem J_44 (hd : 700 ≤ d) (g : GJ w h A) : JS d 184 338 [(0, x1), (0, x2)] w h A := JS_ask g (E_F_tests (d := d) (by omega) (GC_QS g.1) g.1.2.2.2.2.2.2.2.2 x1 x2) (fun hx gx => E_M_tests (d := d) (by omega) (GM_QT gx) gx.2.2.2.2.2.2.2.2.2.2 x1 x2)
theorem J_47 (hd : 700 ≤ d) (g : GJ w h A) : JS d 187 313 [] w h A := JS_ask g (E_F_differs (d := d) (by omega) (GC_QS g.1) g.1.2.2.2.2.2.1) (fun hx gx => E_M_differs (d := d) (by omega) (GM_QT gx) gx.2.2.2.2.2.2.2.1)
theorem J_48 (hd : 700 ≤ d) (g : GJ w h A) : JS d 188 339 [(0, x1)] w h A := JS_0 g (E_F_count (d := d) (by omega) g.1.1 g.1.2.1 g.1.2.2.1 g.1.2.2.2.2.2.2.2.2.1 g.1.2.2.2.2.2.2.2.1.2.1 x1) (E_M_count (d := d) (by omega) g.2.1 g.2.2.1 g.2.2.2.1 g.2.2.2.2.1 g.2.2.2.2.2.2.2.2.2.2.2.1 g.2.2.2.2.2.2.2.2.2.1.1 x1)
end PU
