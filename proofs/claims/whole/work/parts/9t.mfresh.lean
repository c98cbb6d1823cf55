/-! PURE: the reference works its conditions out for every cell. -/
def qRow (b : Int) : Prop := b ≠ 483 ∧ b ≠ 487 ∧ b ≠ 489 ∧ (b < 494 ∨ b = 497 ∨ 502 ≤ b)
def qFd (i : Int) : Prop := i ≠ 4 ∧ (i < 8 ∨ 11 < i) ∧ (i < 28 ∨ 30 < i) ∧ i ≠ 32 ∧ i ≠ 33 ∧ (i < 46 ∨ 50 < i)
/-- only what the reference's questions use has changed -/
def QM (h h' : mm_H) : Prop := (∀ b : Int, qRow b → h' b = h b) ∧ ∀ i : Int, qFd i → h' 483 i = h 483 i
theorem QM_rf (h : mm_H) : QM h h := ⟨fun _ _ => rfl, fun _ _ => rfl⟩
theorem QM_tr {a b c : mm_H} (x : QM a b) (y : QM b c) : QM a c := ⟨fun q hq => (y.1 q hq).trans (x.1 q hq), fun i hi => (y.2 i hi).trans (x.2 i hi)⟩
theorem QM_row {h : mm_H} {b i z : Int} (hb : ¬ qRow b) (h3 : b ≠ 483) : QM h (mUp h b i z) := ⟨fun q hq => mUp_row (fun e => hb (e ▸ hq)), fun j _ => mUp_n (Or.inl (Ne.symm h3))⟩
theorem QM_fld {h : mm_H} {i z : Int} (hi : ¬ qFd i) : QM h (mUp h 483 i z) := ⟨fun q hq => mUp_row hq.1, fun j hj => mUp_n (Or.inr (fun e => hi (e ▸ hj)))⟩
theorem QM_MH {h h' : mm_H} (o : QM h h') (hM : MH h) : MH h' := MH_fr hM (fun i hi => o.2 i (by unfold mRef at hi; unfold qFd; omega))
theorem QM_484 {h h' : mm_H} (o : QM h h') : h' 484 = h 484 := o.1 484 (by unfold qRow; omega)
theorem QM_RM {h h' : mm_H} {s : aS} (o : QM h h') (hR : RM (h 484) s) : RM (h' 484) s := by rw [QM_484 o]; exact hR
def HC (h : mm_H) (s : aS) (k r c : Int) : Prop := h 494 (256 * k + 16 * r + c) = bI (hldA s k r c)
def HCs (h : mm_H) (s : aS) : Prop := ∀ k r c : Int, 0 ≤ k → k < aN s → 0 ≤ r → r < aHi s → 0 ≤ c → c < aWi s → HC h s k r c
def mFs (h : mm_H) (s : aS) : Prop := h 483 4 ≠ 0 ∧ HCs h s
def mFr (h : mm_H) (s : aS) : Prop := h 483 4 ≠ 0 → HCs h s
theorem mx_start {f : Int → Int → Int} {b m : Nat} {l i : Int} (hm : 1 ≤ m) (hb : 1 ≤ b) (hf : -999 ≤ f i l ∧ f i l ≤ 999) : mx2 f b l m i (-1000) = mx2 f b l m i (-999) ∧ mn2 f b l m i 1000 = mn2 f b l m i 999 := by
  obtain ⟨m, rfl⟩ : ∃ n, m = n + 1 := ⟨m - 1, by omega⟩
  obtain ⟨b, rfl⟩ : ∃ n, b = n + 1 := ⟨b - 1, by omega⟩
  have e1 : mMax (-1000) (f i l) = mMax (-999) (f i l) := by unfold mMax; split <;> split <;> omega
  have e2 : mMin 1000 (f i l) = mMin 999 (f i l) := by unfold mMin; split <;> split <;> omega
  constructor
  · show mx2 f (b + 1) l m (i + 1) (mxN (f i) b (l + 1) (mMax (-1000) (f i l))) = mx2 f (b + 1) l m (i + 1) (mxN (f i) b (l + 1) (mMax (-999) (f i l)))
    rw [e1]
  · show mn2 f (b + 1) l m (i + 1) (mnN (f i) b (l + 1) (mMin 1000 (f i l))) = mn2 f (b + 1) l m (i + 1) (mnN (f i) b (l + 1) (mMin 999 (f i l)))
    rw [e2]
def SNo (h h' : mm_H) : Prop := (∀ b : Int, b ≠ 483 → h' b = h b) ∧ ∀ i : Int, i ≠ 28 → i ≠ 29 → i ≠ 30 → h' 483 i = h 483 i
theorem SNo_tr {a b c : mm_H} (x : SNo a b) (y : SNo b c) : SNo a c := ⟨fun q hq => (y.1 q hq).trans (x.1 q hq), fun i a b c => (y.2 i a b c).trans (x.2 i a b c)⟩
theorem SNo_up {h : mm_H} {i z : Int} (hi : i = 28 ∨ i = 29 ∨ i = 30) : SNo h (mUp h 483 i z) := ⟨fun b hb => mUp_row hb, fun j a b c => mUp_n (Or.inr (by omega))⟩
theorem SNo_MH {h h' : mm_H} (o : SNo h h') (hM : MH h) : MH h' := MH_fr hM (fun i hi => o.2 i (by unfold mRef at hi; omega) (by unfold mRef at hi; omega) (by unfold mRef at hi; omega))
theorem SNo_RM {h h' : mm_H} {s : aS} (o : SNo h h') (hR : RM (h 484) s) : RM (h' 484) s := by rw [o.1 484 (by decide)]; exact hR
theorem SNo_QM {h h' : mm_H} (o : SNo h h') : QM h h' := ⟨fun b hb => o.1 b hb.1, fun i hi => o.2 i (by unfold qFd at hi; omega) (by unfold qFd at hi; omega) (by unfold qFd at hi; omega)⟩
section PU
variable {d : Nat} {w : mm_W} {s : aS} {k : Int}
theorem MW_494 (hW : MW w) : w.1 494 = (52, 1536) := hW.2.2.2.2.2.2.2.2.2.2.2.1
theorem MH_26 {h : mm_H} (hH : MH h) : h 483 26 = 494 := hH.2.2.2.2.2.2.2.2.2.2.1
theorem L_fr2 (hd : 2 ≤ d) (hW : MW w) (hI : aI s) (hk : 0 ≤ k ∧ k < aN s) {r : Int} (hr : 0 ≤ r ∧ r < aHi s) : ∀ (m : Nat) (c : Int) (h : mm_H), MH h → RM (h 484) s → aRul s k 1 ≤ c → c + m = aRul s k 3 + 1 → (-900000 + 1000 * m ≤ h 483 28 ∧ h 483 28 ≤ 900000 - 1000 * m) → ∃ h', l_M_freshen_2 (mm_P d) 483 k (1415 + 408 * k) r c w h = some (.inr (154, [(2, 483), (0, k), (0, 1415 + 408 * k), (0, r), (0, aRul s k 3 + 1), (9, 0)], w, h')) ∧ SNo h h' ∧ h' 483 28 = h 483 28 + sumN (fun j => aVal s r j) m c ∧ h' 483 29 = mxN (fun j => aVal s r j) m c (h 483 29) ∧ h' 483 30 = mnN (fun j => aVal s r j) m c (h 483 30) := by
  have hw : (w.1 483).1 = 13 := by rw [hW.1]
  have hb := rul_b hI hk
  have hn := hI.2.2.1
  intro m
  induction m with
  | zero =>
    intro c h hH hR a1 a2 a3
    have f3 := RM_f hR hk 3 (by decide) (by decide)
    rw [l_M_freshen_2_eq, mF_t hw, hH.1, mI_id (x := 1415 + 408 * k + 3) (by omega) (by omega), mA_t hW.2.1 (by omega) (by omega), f3, mLt_t (by omega), show c = aRul s k 3 + 1 by omega]
    exact ⟨h, rfl, ⟨fun _ _ => rfl, fun _ _ _ _ => rfl⟩, by unfold sumN; omega, rfl, rfl⟩
  | succ m ih =>
    intro c h hH hR a1 a2 a3
    have f3 := RM_f hR hk 3 (by decide) (by decide)
    have hv := hI.2.2.2.1 r c hr.1 hr.2 (by omega) (by omega)
    rw [l_M_freshen_2_eq, mF_t hw, hH.1, mI_id (x := 1415 + 408 * k + 3) (by omega) (by omega), mA_t hW.2.1 (by omega) (by omega), f3, mLt_f (by omega)]
    simp only [mF_t hw]
    rw [E_M_val hd hW hH hI hR hr (by omega), mC_s]
    try dsimp only
    rw [mI_id (x := h 483 28 + aVal s r c) (by omega) (by omega)]
    generalize hg1 : mUp h 483 28 (h 483 28 + aVal s r c) = h1
    have o1 : SNo h h1 := by rw [← hg1]; exact SNo_up (by decide)
    rw [E_M_val hd hW (SNo_MH o1 hH) hI (SNo_RM o1 hR) hr (by omega), mC_s]
    try dsimp only
    simp only [mF_t hw]
    generalize hg2 : mUp h1 483 29 (mMax (h1 483 29) (aVal s r c)) = h2
    have o2 : SNo h h2 := by rw [← hg2]; exact SNo_tr o1 (SNo_up (by decide))
    rw [E_M_val hd hW (SNo_MH o2 hH) hI (SNo_RM o2 hR) hr (by omega), mC_s]
    try dsimp only
    simp only [mF_t hw]
    rw [mI_id (x := c + 1) (by omega) (by omega)]
    generalize hg3 : mUp h2 483 30 (mMin (h2 483 30) (aVal s r c)) = h3
    have o3 : SNo h h3 := by rw [← hg3]; exact SNo_tr o2 (SNo_up (by decide))
    have z2 : h3 483 28 = h 483 28 + aVal s r c := by rw [← hg3, ← hg2, ← hg1]; simp [mUp]
    have z3 : h3 483 29 = mMax (h 483 29) (aVal s r c) := by rw [← hg3, ← hg2, ← hg1]; simp [mUp]
    have z4 : h3 483 30 = mMin (h 483 30) (aVal s r c) := by rw [← hg3, ← hg2, ← hg1]; simp [mUp]
    obtain ⟨h', g1, g2, g3, g4, g5⟩ := ih (c + 1) h3 (SNo_MH o3 hH) (SNo_RM o3 hR) (by omega) (by omega) (by omega)
    refine ⟨h', g1, SNo_tr o3 g2, ?_, ?_, ?_⟩
    · rw [g3, z2]
      show _ = h 483 28 + (aVal s r c + sumN (fun j => aVal s r j) m (c + 1))
      omega
    · rw [g4, z3]; rfl
    · rw [g5, z4]; rfl
theorem L_fr1 (hd : 2 ≤ d) (hW : MW w) (hI : aI s) (hk : 0 ≤ k ∧ k < aN s) : ∀ (m : Nat) (r : Int) (h : mm_H), MH h → RM (h 484) s → aRul s k 0 ≤ r → r + m = aRul s k 2 + 1 → (-300000 + 16000 * m ≤ h 483 28 ∧ h 483 28 ≤ 300000 - 16000 * m) → ∃ h', l_M_freshen_1 (mm_P d) 483 k (1415 + 408 * k) r w h = some (.inr (160, [(2, 483), (0, k), (0, 1415 + 408 * k), (0, aRul s k 2 + 1), (9, 0), (9, 0)], w, h')) ∧ SNo h h' ∧ h' 483 28 = h 483 28 + sumN (fun r => sumN (fun j => aVal s r j) (rW s k) (aRul s k 1)) m r ∧ h' 483 29 = mx2 (aVal s) (rW s k) (aRul s k 1) m r (h 483 29) ∧ h' 483 30 = mn2 (aVal s) (rW s k) (aRul s k 1) m r (h 483 30) := by
  have hw : (w.1 483).1 = 13 := by rw [hW.1]
  have hb := rul_b hI hk
  have hn := hI.2.2.1
  have hwb : aRul s k 1 + (rW s k : Int) = aRul s k 3 + 1 := by unfold rW; omega
  have hw16 : rW s k ≤ 16 := by unfold rW; omega
  intro m
  induction m with
  | zero =>
    intro r h hH hR a1 a2 a3
    have f2 := RM_f hR hk 2 (by decide) (by decide)
    rw [l_M_freshen_1_eq, mF_t hw, hH.1, mI_id (x := 1415 + 408 * k + 2) (by omega) (by omega), mA_t hW.2.1 (by omega) (by omega), f2, mLt_t (by omega), show r = aRul s k 2 + 1 by omega]
    exact ⟨h, rfl, ⟨fun _ _ => rfl, fun _ _ _ _ => rfl⟩, by unfold sumN; omega, rfl, rfl⟩
  | succ m ih =>
    intro r h hH hR a1 a2 a3
    have f2 := RM_f hR hk 2 (by decide) (by decide)
    have f1 := RM_f hR hk 1 (by decide) (by decide)
    rw [l_M_freshen_1_eq, mF_t hw, hH.1, mI_id (x := 1415 + 408 * k + 2) (by omega) (by omega), mA_t hW.2.1 (by omega) (by omega), f2, mLt_f (by omega), mF_t hw, mI_id (x := 1415 + 408 * k + 1) (by omega) (by omega), mA_t hW.2.1 (by omega) (by omega), f1]
    try dsimp only
    obtain ⟨h1, g1, g2, g3, g4, g5⟩ := L_fr2 hd hW hI hk (r := r) (by omega) (rW s k) (aRul s k 1) h hH hR (Int.le_refl _) hwb (by omega)
    rw [g1, mK_r, if_pos rfl]
    simp only [mP_0, mP_1, mP_2, mP_3]
    have b := sumN_le (f := fun j => aVal s r j) (a := -999) (b := 999) (rW s k) (aRul s k 1) (fun j j0 j1 => hI.2.2.2.1 r j (by omega) (by omega) (by omega) (by omega))
    rw [mI_id (x := r + 1) (by omega) (by omega)]
    obtain ⟨h2, y1, y2, y3, y4, y5⟩ := ih (r + 1) h1 (SNo_MH g2 hH) (SNo_RM g2 hR) (by omega) (by omega) (by omega)
    refine ⟨h2, y1, SNo_tr g2 y2, ?_, ?_, ?_⟩
    · rw [y3, g3]
      show _ = h 483 28 + (sumN (fun j => aVal s r j) (rW s k) (aRul s k 1) + sumN (fun r => sumN (fun j => aVal s r j) (rW s k) (aRul s k 1)) m (r + 1))
      omega
    · rw [y4, g4]; rfl
    · rw [y5, g5]; rfl
end PU
