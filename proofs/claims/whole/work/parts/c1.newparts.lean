/-! PURE: constructors: the class's parts. -/
section PU
variable {d : Nat} {w : mm_W} {h : mm_H} {a b : Int}
/-- what a constructor that makes n objects and z slots may change -/
def NO (w w' : mm_W) (h h' : mm_H) (a n z : Int) : Prop := w'.2.1 = w.2.1 + n ∧ w'.2.2 = w.2.2 + z ∧ (∀ b : Int, b ≤ a → w'.1 b = w.1 b) ∧ ∀ b : Int, b < a → h' b = h b
theorem E_Pr_init (hd : 1 ≤ d) (ha : 0 < a) (hN : w.2.1 = a + 1) (hw : (w.1 a).1 = 5) : ∃ (w' : mm_W) (h' : mm_H), mm_P d 51 [(2, a)] w h = some ((9, 0), w', h') ∧ NO w w' h h' a 1 200 ∧ w'.1 (a + 1) = (50, 200) ∧ h' a 0 = a + 1 := by
  obtain ⟨d, rfl, hd2⟩ := mm_dS hd
  rw [P_Pr_init]
  dsimp only
  simp (disch := (first | omega | (simp only [nW_n, hN]; first | done | omega))) only [mM_t, mF, nW_o, nW_e, nW_n, hN, hw, mLe_t, ↓reduceIte]
  refine ⟨_, _, rfl, ⟨rfl, rfl, fun b hb => ?_, fun b hb => funext fun j => ?_⟩, ?_, ?_⟩ <;> simp (disch := (first | omega | (simp only [nW_n, hN]; first | done | omega))) only [nW_o, nW_e, nW_n, hN, mZ_o, mUp_n, mUp_s]
theorem E_Ta_init (hd : 1 ≤ d) (ha : 0 < a) (hN : w.2.1 = a + 1) (hw : (w.1 a).1 = 10) : ∃ (w' : mm_W) (h' : mm_H), mm_P d 108 [(2, a)] w h = some ((9, 0), w', h') ∧ NO w w' h h' a 1 200 ∧ w'.1 (a + 1) = (50, 200) ∧ h' a 0 = a + 1 ∧ h' a 1 = h a 1 ∧ ∀ j : Int, h' (a + 1) j = 0 := by
  obtain ⟨d, rfl, hd2⟩ := mm_dS hd
  rw [P_Ta_init]
  dsimp only
  simp (disch := (first | omega | (simp only [nW_n, hN]; first | done | omega))) only [mM_t, mF, nW_o, nW_e, nW_n, hN, hw, mLe_t, ↓reduceIte]
  refine ⟨_, _, rfl, ⟨rfl, rfl, fun b hb => ?_, fun b hb => funext fun j => ?_⟩, ?_, ?_, ?_, fun j => ?_⟩ <;> simp (disch := (first | omega | (simp only [nW_n, hN]; first | done | omega))) only [nW_o, nW_e, nW_n, hN, mZ_o, mZ_s, mUp_n, mUp_s]
theorem E_Cr_init (hd : 1 ≤ d) (ha : 0 < a) (hN : w.2.1 = a + 1) (hw : (w.1 a).1 = 1) (hb : 0 ≤ b) : ∃ (w' : mm_W) (h' : mm_H), mm_P d 0 [(2, a), (2, b)] w h = some ((9, 0), w', h') ∧ NO w w' h h' a 1 600 ∧ w'.1 (a + 1) = (50, 600) ∧ h' a 0 = b ∧ h' a 1 = a + 1 := by
  obtain ⟨d, rfl, hd2⟩ := mm_dS hd
  rw [P_Cr_init]
  dsimp only
  simp (disch := (first | omega | (simp only [nW_n, hN]; first | done | omega))) only [mM_t, mF, nW_o, nW_e, nW_n, hN, hw, mLe_t, ↓reduceIte]
  refine ⟨_, _, rfl, ⟨rfl, rfl, fun b hb => ?_, fun b hb => funext fun j => ?_⟩, ?_, ?_, ?_⟩ <;> simp (disch := (first | omega | (simp only [nW_n, hN]; first | done | omega))) only [nW_o, nW_e, nW_n, hN, mZ_o, mUp_n, mUp_s]
theorem E_Pg_init (hd : 1 ≤ d) (ha : 0 < a) (hN : w.2.1 = a + 1) (hw : (w.1 a).1 = 6) (hb : 0 ≤ b) : ∃ (w' : mm_W) (h' : mm_H), mm_P d 61 [(2, a), (2, b)] w h = some ((9, 0), w', h') ∧ NO w w' h h' a 1 1800 ∧ w'.1 (a + 1) = (50, 1800) ∧ h' a 0 = b ∧ h' a 1 = a + 1 := by
  obtain ⟨d, rfl, hd2⟩ := mm_dS hd
  rw [P_Pg_init]
  dsimp only
  simp (disch := (first | omega | (simp only [nW_n, hN]; first | done | omega))) only [mM_t, mF, nW_o, nW_e, nW_n, hN, hw, mLe_t, ↓reduceIte]
  refine ⟨_, _, rfl, ⟨rfl, rfl, fun b hb => ?_, fun b hb => funext fun j => ?_⟩, ?_, ?_, ?_⟩ <;> simp (disch := (first | omega | (simp only [nW_n, hN]; first | done | omega))) only [nW_o, nW_e, nW_n, hN, mZ_o, mUp_n, mUp_s]
theorem E_Rn_init (hd : 1 ≤ d) (hw : (w.1 a).1 = 8) (hb : 0 ≤ b) : mm_P d 78 [(2, a), (2, b)] w h = some ((9, 0), w, mUp h a 0 b) := by
  obtain ⟨d, rfl, hd2⟩ := mm_dS hd
  rw [P_Rn_init, mF_t hw, mF_t hw, mLe_t hb]
theorem E_Vw_init (hd : 1 ≤ d) (ha : 0 < a) (hN : w.2.1 = a + 1) (hw : (w.1 a).1 = 11) : ∃ (w' : mm_W) (h' : mm_H), mm_P d 122 [(2, a)] w h = some ((9, 0), w', h') ∧ NO w w' h h' a 6 3129 ∧ (w'.1 (a + 1) = (50, 256) ∧ w'.1 (a + 2) = (50, 1024) ∧ w'.1 (a + 3) = (50, 1024) ∧ w'.1 (a + 4) = (50, 256) ∧ w'.1 (a + 5) = (50, 313) ∧ w'.1 (a + 6) = (50, 256)) ∧ ∀ i : Int, 0 ≤ i → i < 6 → h' a i = a + 1 + i := by
  obtain ⟨d, rfl, hd2⟩ := mm_dS hd
  rw [P_Vw_init]
  dsimp only
  simp (disch := (first | omega | (simp only [nW_n, hN]; first | done | omega))) only [mM_t, mF, nW_o, nW_e, nW_n, hN, hw, mLe_t, ↓reduceIte]
  refine ⟨_, _, rfl, ⟨by simp only [nW_n]; omega, by simp only [nW_z]; omega, fun b hb => ?_, fun b hb => funext fun j => ?_⟩, ⟨?_, ?_, ?_, ?_, ?_, ?_⟩, fun i i0 i1 => ?_⟩
  rotate_right
  · rcases (show i = 0 ∨ i = 1 ∨ i = 2 ∨ i = 3 ∨ i = 4 ∨ i = 5 by omega) with rfl | rfl | rfl | rfl | rfl | rfl <;> simp (disch := omega) only [mZ_o, mUp_n, mUp_s] <;> omega
  all_goals simp (disch := (first | omega | (simp only [nW_n, hN]; first | done | omega))) only [nW_o, nW_e, nW_n, hN, mZ_o, mUp_n, mUp_s]
theorem E_Cv_init (hd : 1 ≤ d) (ha : 0 < a) (hN : w.2.1 = a + 1) (hw : (w.1 a).1 = 2) : ∃ (w' : mm_W) (h' : mm_H), mm_P d 13 [(2, a)] w h = some ((9, 0), w', h') ∧ NO w w' h h' a 8 2098 ∧ ((∀ i : Int, 0 ≤ i → i < 7 → w'.1 (a + 1 + i) = (50, 256)) ∧ w'.1 (a + 8) = (50, 306)) ∧ ∀ i : Int, 0 ≤ i → i < 8 → h' a i = a + 1 + i := by
  obtain ⟨d, rfl, hd2⟩ := mm_dS hd
  rw [P_Cv_init]
  dsimp only
  simp (disch := (first | omega | (simp only [nW_n, hN]; first | done | omega))) only [mM_t, mF, nW_o, nW_e, nW_n, hN, hw, mLe_t, ↓reduceIte]
  refine ⟨_, _, rfl, ⟨by simp only [nW_n]; omega, by simp only [nW_z]; omega, fun b hb => ?_, fun b hb => funext fun j => ?_⟩, ⟨fun i i0 i1 => ?_, ?_⟩, fun i i0 i1 => ?_⟩
  rotate_right
  · rcases (show i = 0 ∨ i = 1 ∨ i = 2 ∨ i = 3 ∨ i = 4 ∨ i = 5 ∨ i = 6 ∨ i = 7 by omega) with rfl | rfl | rfl | rfl | rfl | rfl | rfl | rfl <;> simp (disch := omega) only [mZ_o, mUp_n, mUp_s] <;> omega
  rotate_right 2
  · rcases (show i = 0 ∨ i = 1 ∨ i = 2 ∨ i = 3 ∨ i = 4 ∨ i = 5 ∨ i = 6 by omega) with rfl | rfl | rfl | rfl | rfl | rfl | rfl <;> simp (disch := (first | omega | (simp only [nW_n, hN]; first | done | omega))) only [nW_o, nW_e, nW_n, hN]
  all_goals simp (disch := (first | omega | (simp only [nW_n, hN]; first | done | omega))) only [nW_o, nW_e, nW_n, hN, mZ_o, mUp_n, mUp_s]
theorem E_Ed_init (hd : 10 ≤ d) (ha : 0 < a) (hN : w.2.1 = a + 1) (hw : (w.1 a).1 = 3) : ∃ (w' : mm_W) (h' : mm_H), mm_P d 29 [(2, a)] w h = some ((9, 0), w', h') ∧ NO w w' h h' a 14 1499 ∧ ShW w' (a + 1) ∧ ShH h' (a + 1) ∧ w'.1 (a + 14) = (50, 16) ∧ h' a 0 = a + 1 ∧ h' a 1 = a + 14 := by
  obtain ⟨d, rfl, hd2⟩ := mm_dS hd
  have e1 : (mNew w 9 9).1 (a + 1) = (9, 9) := nW_e 9 9 (by omega)
  obtain ⟨w1, h1, g1, g2, g3, g4, g5, g6, g7⟩ := E_Sh_init (d := d) (w := mNew w 9 9) (h := mZero h (a + 1)) (S := a + 1) (by omega) (by omega) (by rw [nW_n, hN]) e1 (mZ_s 2)
  have w1a : w1.1 a = w.1 a := by rw [g4 a (by omega)]; exact nW_o 9 9 (by omega)
  rw [P_Ed_init]
  dsimp only
  rw [mF_t hw, hN, mF_t (by rw [e1]), g1, mC_s, mF_t (by rw [w1a]; exact hw), mLe_t (by omega)]
  try dsimp only
  have hN1 : w1.2.1 = a + 14 := by omega
  have hw1 : (w1.1 a).1 = 3 := by rw [w1a]; exact hw
  simp (disch := (first | omega | (simp only [nW_n, hN1]; first | done | omega))) only [mM_t, mF, nW_o, nW_e, nW_n, hN1, hw1, mLe_t, ↓reduceIte]
  have hz : (mNew w 9 9).2.2 = w.2.2 + 9 := rfl
  refine ⟨_, _, rfl, ⟨by simp only [nW_n, hN1]; omega, by simp only [nW_z]; omega, fun b hb => ?_, fun b hb => funext fun j => ?_⟩, ?_, ?_, nW_e 50 16 (by omega), by simp (disch := omega) only [mZ_o, mUp_n, mUp_s], by simp (disch := omega) only [mUp_s]⟩
  · rw [nW_o 50 16 (by omega), g4 b (by omega), nW_o 9 9 (by omega)]
  · rw [mUp_row (by omega), mZ_o (by omega), mUp_row (by omega), g6 b (by omega), mZ_o (by omega)]
  · obtain ⟨z0, z1, z2, z3, z4, z5, z6, z7, z8⟩ := g5
    have o : ∀ b : Int, b < a + 14 → (mNew w1 50 16).1 b = w1.1 b := fun b hb => nW_o 50 16 (by omega)
    exact ⟨z0, by rw [o _ (by omega)]; exact z1, by rw [o _ (by omega)]; exact z2, by rw [o _ (by omega)]; exact z3, by rw [o _ (by omega)]; exact z4, by rw [o _ (by omega)]; exact z5, by rw [o _ (by omega)]; exact z6, by rw [o _ (by omega)]; exact z7, fun i i0 i1 => by rw [o _ (by omega)]; exact z8 i i0 i1⟩
  · exact ShH_fr g7.1 (fun i _ _ => by rw [mUp_row (by omega), mZ_o (by omega), mUp_row (by omega)]) (by rw [mUp_row (by omega), mZ_o (by omega), mUp_row (by omega)])
end PU
