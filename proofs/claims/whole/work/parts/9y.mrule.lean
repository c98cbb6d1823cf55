/-! PURE: the reference is asked of its rules and looks. -/
section PU
variable {d : Nat} {w : mm_W} {h : mm_H} {s : aS} {A : aG}
theorem from_src {p r c k : Int} (hk : 0 ≤ k) : (fromA s p r c = 4 + k) ↔ srcA s p r c = k := by
  unfold fromA frm
  split
  · omega
  · repeat' split
    all_goals omega
theorem L_mro1 (hd : 2 ≤ d) (hW : MW w) (hI : aI s) (hK : KQ h s) (hF : mFs h s) {k q : Int} (hk : 0 ≤ k ∧ k < aN s) (hq : q = 4 ∨ q = 5) {f : Int → Int → Int} (hf : f = if q = 4 then (fun r c => bI (hldA s k r c)) else fun r c => bI (fromA s (aRul s k 4) r c = 4 + k)) {r : Int} (hr : 0 ≤ r ∧ r < aHi s) : ∀ (m : Nat) (c acc : Int), 0 ≤ c → c + m = aWi s → 0 ≤ acc → acc + m < 1000 → l_M_ruleOf_1 (mm_P d) 483 k q (1415 + 408 * k) acc r c w h = some (.inr (208, [(2, 483), (0, k), (0, q), (0, 1415 + 408 * k), (0, acc + sumN (fun c => f r c) m c), (0, r), (0, aWi s), (9, 0)], w, h)) := by
  have hw : (w.1 483).1 = 13 := by rw [hW.1]
  have i1 := hI.1; have i2 := hI.2.1; have n6 := hI.2.2.1
  have hH := hK.1; have hR := hK.2.1
  have f4 := RM_f hR hk 4 (by decide) (by decide)
  have hp4 := (hI.2.2.2.2.2.2.2.2 k hk.1 hk.2).2.2.1
  intro m
  induction m with
  | zero =>
    intro c acc a1 a2 a3 a4
    rw [l_M_ruleOf_1_eq, mF_t hw, hH.1, mA_t hW.2.1 (by omega) (by omega), hR.1.2.1, mLe_t (by omega)]
    have e : sumN (fun c => f r c) 0 c = 0 := rfl
    rw [e, show c = aWi s by omega, show acc + 0 = acc by omega]
  | succ m ih =>
    intro c acc a1 a2 a3 a4
    have e : sumN (fun c => f r c) (m + 1) c = f r c + sumN (fun c => f r c) m (c + 1) := rfl
    rw [l_M_ruleOf_1_eq, mF_t hw, hH.1, mA_t hW.2.1 (by omega) (by omega), hR.1.2.1, mLe_f (by omega), e]
    have e1 : mI (c + 1) = c + 1 := mI_id (by omega) (by omega)
    have e2 : mI (acc + 1) = acc + 1 := mI_id (by omega) (by omega)
    have e3 : mI (acc + 0) = acc := by rw [Int.add_zero]; exact mI_id (by omega) (by omega)
    rcases hq with rfl | rfl
    · have hv : h 494 (256 * k + (16 * r + c)) = bI (hldA s k r c) := by rw [← Int.add_assoc]; exact hF.2 k r c hk.1 hk.2 hr.1 hr.2 a1 (by omega)
      have ef : f r c = bI (hldA s k r c) := by rw [hf]; rfl
      rw [mEq_t rfl, mF_t hw, E_M_grid (by omega) (by omega) (by omega) (by omega) (by omega), mC_s, MH_26 hH, mI_id (x := 256 * k) (by omega) (by omega), mI_id (x := 256 * k + (16 * r + c)) (by omega) (by omega), mAb_t (MW_494 hW) (Or.inl rfl) (by omega) (by omega), hv, ef]
      try dsimp only
      rw [e1, e2, e3]
      by_cases g : hldA s k r c
      · rw [bI_t g, mEq_f (by decide), ih (c + 1) (acc + 1) (by omega) (by omega) (by omega) (by omega), Int.add_assoc]
      · rw [bI_f g, mEq_t rfl, ih (c + 1) acc (by omega) (by omega) (by omega) (by omega), Int.zero_add]
    · have ef : f r c = bI (fromA s (aRul s k 4) r c = 4 + k) := by rw [hf]; rfl
      rw [mEq_f (by decide), mF_t hw, mI_id (x := 1415 + 408 * k + 4) (by omega) (by omega), mA_t hW.2.1 (by omega) (by omega), mF_t hw, f4, E_M_showing_s hd hW hI hH hR hF hr (c := c) (by omega), mC_s, mEq_f (show (1 : Int) ≠ 0 by decide), mEq_t rfl, ef]
      try dsimp only
      rw [e1, e2, e3]
      by_cases g : srcA s (aRul s k 4) r c = k
      · rw [bI_t ((from_src hk.1).mpr g), mEq_t g, ih (c + 1) (acc + 1) (by omega) (by omega) (by omega) (by omega), Int.add_assoc]
      · rw [bI_f (fun x => g ((from_src hk.1).mp x)), mEq_f g, ih (c + 1) acc (by omega) (by omega) (by omega) (by omega), Int.zero_add]
theorem L_mro0 (hd : 2 ≤ d) (hW : MW w) (hI : aI s) (hK : KQ h s) (hF : mFs h s) {k q : Int} (hk : 0 ≤ k ∧ k < aN s) (hq : q = 4 ∨ q = 5) {f : Int → Int → Int} (hf : f = if q = 4 then (fun r c => bI (hldA s k r c)) else fun r c => bI (fromA s (aRul s k 4) r c = 4 + k)) : ∀ (m : Nat) (r acc : Int), 0 ≤ r → r + m = aHi s → 0 ≤ acc → acc + 16 * m < 900 → l_M_ruleOf_0 (mm_P d) 483 k q (1415 + 408 * k) acc r w h = some (.inr (214, [(2, 483), (0, k), (0, q), (0, 1415 + 408 * k), (0, acc + sumN (fun r => sumN (fun c => f r c) (aWi s).toNat 0) m r), (0, aHi s), (9, 0), (9, 0)], w, h)) := by
  have hw : (w.1 483).1 = 13 := by rw [hW.1]
  have i1 := hI.1; have i2 := hI.2.1
  intro m
  induction m with
  | zero =>
    intro r acc a1 a2 a3 a4
    rw [l_M_ruleOf_0_eq, mF_t hw, hK.1.1, mA_t hW.2.1 (by omega) (by omega), hK.2.1.1.1, mLe_t (by omega)]
    have e : sumN (fun r => sumN (fun c => f r c) (aWi s).toNat 0) 0 r = 0 := rfl
    rw [e, show r = aHi s by omega, show acc + 0 = acc by omega]
  | succ m ih =>
    intro r acc a1 a2 a3 a4
    have e : sumN (fun r => sumN (fun c => f r c) (aWi s).toNat 0) (m + 1) r = sumN (fun c => f r c) (aWi s).toNat 0 + sumN (fun r => sumN (fun c => f r c) (aWi s).toNat 0) m (r + 1) := rfl
    have b := sumN_le (f := fun c => f r c) (a := 0) (b := 1) (aWi s).toNat 0 (fun c _ _ => by
      rw [hf]
      split <;> exact bI_le _)
    rw [l_M_ruleOf_0_eq, mF_t hw, hK.1.1, mA_t hW.2.1 (by omega) (by omega), hK.2.1.1.1, mLe_f (by omega), L_mro1 hd hW hI hK hF hk hq hf (r := r) (by omega) (aWi s).toNat 0 acc (Int.le_refl _) (by omega) a3 (by omega), mK_r, if_pos rfl]
    simp only [mP_0, mP_1, mP_2, mP_3, mP_4, mP_5]
    rw [mI_id (x := r + 1) (by omega) (by omega), ih (r + 1) _ (by omega) (by omega) (by omega) (by omega), e, Int.add_assoc]
theorem E_M_ruleOf (hd : 29 ≤ d) (hT : QT w h A) (k q : Int) : ∃ h', mm_P d 293 [(2, 483), (0, k), (0, q)] w h = some ((0, fRuleOf A k q), w, h') ∧ QT w h' A ∧ MN h h' := by
  obtain ⟨d, rfl, hd2⟩ := mm_dS (show 28 + 1 ≤ d by omega)
  have hw : (w.1 483).1 = 13 := by rw [hT.1.1]
  have hI := QT_I hT
  have hW := hT.1
  have hH := hT.2.1
  have hR := hT.2.2.2.1
  have i1 := hI.1; have i2 := hI.2.1; have n6 := hI.2.2.1
  unfold fRuleOf
  rw [P_M_ruleOf, mF_t hw, E_M_isRule (by omega) hW hH k (by rw [hR.1.2.2]; omega), mC_s, hR.1.2.2]
  by_cases ck : 0 ≤ k ∧ k < aN (gNow A)
  rotate_left
  · rw [bI_f ck, mEq_t rfl, iC_f (fun x => ck x.1)]
    exact ⟨h, rfl, hT, MN_rf h⟩
  rw [bI_t ck, mEq_f (by decide), E_M_in (by omega), mC_s]
  by_cases cq : 0 ≤ q ∧ q ≤ 5
  rotate_left
  · rw [bI_f cq, mEq_t rfl, iC_f (fun x => cq x.2)]
    exact ⟨h, rfl, hT, MN_rf h⟩
  have hb := rul_b hI ck
  rw [bI_t cq, mEq_f (by decide), mI_id (x := 408 * k) (by omega) (by omega), mI_id (x := 1415 + 408 * k) (by omega) (by omega), iC_t ⟨ck, cq⟩]
  try dsimp only
  unfold ruA
  by_cases q0 : q = 0
  · have f0 := RM_f hR ck 0 (by decide) (by decide)
    have f1 := RM_f hR ck 1 (by decide) (by decide)
    have f2 := RM_f hR ck 2 (by decide) (by decide)
    have f3 := RM_f hR ck 3 (by decide) (by decide)
    rw [Int.add_zero] at f0
    rw [mEq_t q0, if_pos q0]
    simp only [mF_t hw]
    rw [hH.1, mA_t hW.2.1 (by omega) (by omega), mI_id (x := 1415 + 408 * k + 1) (by omega) (by omega), mA_t hW.2.1 (by omega) (by omega), mI_id (x := 1415 + 408 * k + 2) (by omega) (by omega), mA_t hW.2.1 (by omega) (by omega), mI_id (x := 1415 + 408 * k + 3) (by omega) (by omega), mA_t hW.2.1 (by omega) (by omega), f0, f1, f2, f3]
    unfold rectC
    rw [if_pos (by omega), mI_id (x := 1000000 * _) (by omega) (by omega), mI_id (x := 10000 * _) (by omega) (by omega), mI_id (x := 100 * _) (by omega) (by omega), mI_id (x := 1000000 * _ + _) (by omega) (by omega), mI_id (x := 1000000 * _ + _ + _) (by omega) (by omega), mI_id (by omega) (by omega)]
    exact ⟨h, rfl, hT, MN_rf h⟩
  rw [mEq_f q0, if_neg q0]
  by_cases q4 : 4 ≤ q
  rotate_left
  · have fq := RM_f hR ck (3 + q) (by omega) (by omega)
    rw [mLe_f (by omega), mF_t hw, hH.1, mI_id (x := 1415 + 408 * k + 4) (by omega) (by omega), mI_id (x := 1415 + 408 * k + 4 + q) (by omega) (by omega), mI_id (x := 1415 + 408 * k + 4 + q - 1) (by omega) (by omega), mA_t hW.2.1 (by omega) (by omega), show 1415 + 408 * k + 4 + q - 1 = 1415 + 408 * k + (3 + q) by omega, fq]
    refine ⟨h, ?_, hT, MN_rf h⟩
    rcases (show q = 1 ∨ q = 2 ∨ q = 3 by omega) with rfl | rfl | rfl <;> rfl
  obtain ⟨h1, x1, x2, x3⟩ := E_M_freshen (d := d) (by omega) hW hI hH hR hT.2.2.2.2
  have T1 := QT_FQ hT x2 x3
  rw [mLe_t q4, mF_t hw, x1, mC_s, L_mro0 (by omega) hW hI (QT_KQ T1) x3 ck (show q = 4 ∨ q = 5 by omega) rfl (aHi (gNow A)).toNat 0 0 (Int.le_refl _) (by omega) (Int.le_refl _) (by omega), mK_r, if_pos rfl]
  simp only [mP_4]
  refine ⟨h1, ?_, T1, MN_FQ x2⟩
  rw [Int.zero_add]
  rcases (show q = 4 ∨ q = 5 by omega) with rfl | rfl <;> rfl
theorem L_midle (hd : 29 ≤ d) : ∀ (m k : Nat) (h : mm_H), QT w h A → (k : Int) + m = aN (gNow A) → ∃ h', l_M_idle_0 (mm_P d) 483 (idlA (gNow A) k) (k : Int) w h = some (.inr (39, [(2, 483), (0, idlA (gNow A) (aN (gNow A)).toNat), (0, aN (gNow A))], w, h')) ∧ QT w h' A ∧ MN h h' := by
  intro m
  induction m with
  | zero =>
    intro k h hT hk
    have hw : (w.1 483).1 = 13 := by rw [hT.1.1]
    rw [l_M_idle_0_eq, mF_t hw, hT.2.1.1, mA_t hT.1.2.1 (by omega) (by omega), hT.2.2.2.1.1.2.2, mLe_t (by omega), show (k : Int) = aN (gNow A) by omega, show (aN (gNow A)).toNat = k by omega]
    exact ⟨h, rfl, hT, MN_rf h⟩
  | succ m ih =>
    intro k h hT hk
    have hw : (w.1 483).1 = 13 := by rw [hT.1.1]
    have n6 := (QT_I hT).2.2.1
    obtain ⟨h1, x1, x2, x3⟩ := E_M_ruleOf hd hT (k : Int) 5
    have ev : fRuleOf A (k : Int) 5 = shbN (gNow A) (k : Int) := by unfold fRuleOf; rw [iC_t (by omega)]; rfl
    have hin := idlA_in (gNow A) k (by omega)
    obtain ⟨n, hn⟩ : ∃ n : Nat, idlA (gNow A) k = (n : Int) := ⟨(idlA (gNow A) k).toNat, by omega⟩
    have hn2 : n < 64 := by
      have h2 : (2 : Int) ^ k ≤ 32 := by
        rcases (show k = 0 ∨ k = 1 ∨ k = 2 ∨ k = 3 ∨ k = 4 ∨ k = 5 by omega) with rfl | rfl | rfl | rfl | rfl | rfl <;> decide
      omega
    have e : idlA (gNow A) (k + 1) = if shbN (gNow A) (k : Int) = 0 then mOr (idlA (gNow A) k) (mShl 1 (k : Int)) else idlA (gNow A) k := rfl
    obtain ⟨h2, y1, y2, y3⟩ := ih (k + 1) h1 x2 (by omega)
    rw [l_M_idle_0_eq, mF_t hw, hT.2.1.1, mA_t hT.1.2.1 (by omega) (by omega), hT.2.2.2.1.1.2.2, mLe_f (by omega), mF_t hw, x1, mC_s, ev]
    try dsimp only
    rw [mI_id (by omega) (by omega), show (k : Int) + 1 = ((k + 1 : Nat) : Int) by omega]
    refine ⟨h2, ?_, y2, MN_tr x3 y3⟩
    by_cases c : shbN (gNow A) (k : Int) = 0
    · rw [mEq_t c, ← y1, e, if_pos c]
    · rw [mEq_f c, ← y1, e, if_neg c, hn, or_0 n hn2]
theorem E_M_idle (hd : 30 ≤ d) (hT : QT w h A) : ∃ h', mm_P d 294 [(2, 483)] w h = some ((0, idlA (gNow A) (aN (gNow A)).toNat), w, h') ∧ QT w h' A ∧ MN h h' := by
  obtain ⟨d, rfl, hd2⟩ := mm_dS (show 29 + 1 ≤ d by omega)
  have n6 := (QT_I hT).2.2.1
  obtain ⟨h1, x1, x2, x3⟩ := L_midle hd2 (aN (gNow A)).toNat 0 h hT (by omega)
  have x1 : l_M_idle_0 (mm_P d) 483 0 0 w h = _ := x1
  rw [P_M_idle, x1, mK_r, if_pos rfl]
  simp only [mP_1]
  exact ⟨h1, rfl, x2, x3⟩
end PU
