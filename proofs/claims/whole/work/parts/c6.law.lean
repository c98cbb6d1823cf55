/-! PURE: the law, whole. -/
section PU
variable {w w' : mm_W} {h h' : mm_H}
theorem SW_ng (hS : SW w h) (e : ∀ b : Int, b < 0 → w'.1 b = w.1 b) : SW w' h := by
  obtain ⟨a1, a2, a3, a4, a5, a6, a7, a8, a9, a10, a11, a12⟩ := hS
  have g : ∀ {a : Int} {cs : List Int}, StrAt w h a cs → a < 0 → StrAt w' h a cs := fun ⟨s1, s2, s3, s4, s5, s6, s7⟩ ha => ⟨by rw [e _ (by omega)]; exact s1, s2, s3, by rw [e _ (by omega)]; exact s4, s5, s6, s7⟩
  exact ⟨g a1 (by decide), g a2 (by decide), g a3 (by decide), g a4 (by decide), g a5 (by decide), g a6 (by decide), g a7 (by decide), g a8 (by decide), g a9 (by decide), g a10 (by decide), g a11 (by decide), g a12 (by decide)⟩
theorem law_all {n : Int} {f : Int → Int} (hn : 0 ≤ n ∧ n ≤ 3072) (hf : ∀ j : Int, i32 (f j)) (n1 : w.2.1 = 1) (z1 : w.2.2 = 0) (wa : w.1 (-1) = (50, n)) (ha : h (-1) = f) (hS : SW w h) : ∃ (w' : mm_W) (h' : mm_H), mm_run (mm_P 800) q_Law [(2, -1)] w h = some ((0, 1), w', h') ∧ w'.2.1 ≤ 600001 ∧ w'.2.2 ≤ 7302250 := by
  have e0 : (mNew w 12 17).1 1 = (12, 17) := nW_e 12 17 n1.symm
  have s0 : (mNew w 12 17).2.2 = w.2.2 + 17 := rfl
  obtain ⟨w4, h5, a1, a2, a3, a4, a5, a6⟩ := E_F_init (d := 800) (w0 := mNew w 12 17) (h0 := mZero h 1) (by decide) (by rw [nW_n, n1]; rfl) e0 (mZ_s 14) (mZ_s 16)
  have e1 : (mNew w4 13 51).1 483 = (13, 51) := nW_e 13 51 a2.symm
  have s1 : (mNew w4 13 51).2.2 = w4.2.2 + 51 := rfl
  obtain ⟨w9, h10, b1, b2, b3, b4, b5, b6⟩ := E_M_init (d := 800) (w0 := mNew w4 13 51) (h0 := mZero h5 483) (by decide) (by rw [nW_n, a2]; rfl) e1 (fun i => mZ_s i)
  have ow : ∀ b : Int, b < 483 → w9.1 b = w4.1 b := fun b hb => by rw [b4 b (by omega)]; exact nW_o 13 51 (by omega)
  have oh : ∀ b : Int, b < 483 → h10 b = h5 b := fun b hb => by rw [b5 b hb]; exact mZ_o (by omega)
  have ow0 : ∀ b : Int, b < 1 → w9.1 b = w.1 b := fun b hb => by rw [ow b (by omega), a4 b (by omega)]; exact nW_o 12 17 (by omega)
  have oh0 : ∀ b : Int, b < 1 → h10 b = h b := fun b hb => by rw [oh b (by omega), a5 b hb]; exact mZ_o (by omega)
  have S9 : SW w9 h10 := SW_ng (SW_fr hS (fun b hb => oh0 b (by omega))) (fun b hb => ow0 b (by omega))
  have gc : GC w9 h10 A00 := a6 w9 h10 ow (by omega) oh S9
  obtain ⟨w', h', i', y1, y2, y3⟩ := L_law (d := 800) (fun hd g i => J_10 hd g i) (by decide) hn.2 hf 513 0 w9 h10 A00 ⟨⟨gc, b6⟩, by rw [ow0 (-1) (by decide)]; exact wa, by rw [oh0 (-1) (by decide)]; exact ha⟩ (by decide) (by omega) (by omega)
  rw [P_Law]
  dsimp only
  rw [n1, mF_t (by rw [e0]), a1, mC_s, a2, mF_t (by rw [e1]), b1, mC_s, y1, mK_r, if_pos rfl, mZ_1]
  exact ⟨w', h', rfl, by omega, by omega⟩
end PU
