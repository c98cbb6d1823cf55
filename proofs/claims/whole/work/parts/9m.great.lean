/-! PURE: the greatest alike rectangle, asked of a view. -/
/-- how far a number goes on in a row -/
noncomputable def rnA (s : aS) (p v r : Int) : Nat → Int → Int
  | 0, _ => 0
  | m + 1, c => if numA s p r c = v then rnA s p v r m (c + 1) + 1 else 0
noncomputable def runA (s : aS) (p v r c : Int) : Int := rnA s p v r (aWi s - c).toNat c
theorem rnA_in {s : aS} {p v r : Int} : ∀ (m : Nat) (c : Int), 0 ≤ rnA s p v r m c ∧ rnA s p v r m c ≤ m := by
  intro m
  induction m with
  | zero => intro c; exact ⟨Int.le_refl _, Int.le_refl _⟩
  | succ m ih =>
    intro c
    have := ih (c + 1)
    unfold rnA
    split <;> omega
/-- how wide a rectangle from (t, l) down over m rows may be -/
noncomputable def wdA (s : aS) (p v t l : Int) : Nat → Int
  | 0 => 16
  | m + 1 => mMin (wdA s p v t l m) (runA s p v (t + m) l)
theorem wdA_in {s : aS} (hI : aI s) {p v t l : Int} (hl : 0 ≤ l ∧ l < aWi s) : ∀ m : Nat, 0 ≤ wdA s p v t l m ∧ wdA s p v t l m ≤ 16 ∧ (1 ≤ m → wdA s p v t l m ≤ aWi s - l) := by
  intro m
  have i2 := hI.2.1
  induction m with
  | zero => exact ⟨(by decide : (0 : Int) ≤ 16), Int.le_refl _, fun h => by omega⟩
  | succ m ih =>
    have := rnA_in (s := s) (p := p) (v := v) (r := t + m) (aWi s - l).toNat l
    have e : wdA s p v t l (m + 1) = mMin (wdA s p v t l m) (runA s p v (t + m) l) := rfl
    rw [e]
    unfold runA mMin
    split <;> (refine ⟨by omega, by omega, fun _ => by omega⟩)
theorem wdA_0 {s : aS} {p v t l : Int} {m : Nat} (h : wdA s p v t l m ≤ 0) : ∀ k : Nat, wdA s p v t l (m + k) ≤ 0 := by
  intro k
  induction k with
  | zero => exact h
  | succ k ih =>
    show mMin (wdA s p v t l (m + k)) _ ≤ 0
    unfold mMin
    split <;> omega
/-- the greatest so far (how many cells, which rectangle), down from (t, l) -/
noncomputable def gB (s : aS) (p v t l : Int) : Nat → Int × Int → Int × Int
  | 0, x => x
  | m + 1, x => if (gB s p v t l m x).1 < wdA s p v t l (m + 1) * ((m : Int) + 1) then (wdA s p v t l (m + 1) * ((m : Int) + 1), rectC t l (t + m) (l + wdA s p v t l (m + 1) - 1)) else gB s p v t l m x
theorem gB_in {s : aS} (hI : aI s) {p v t l : Int} (hl : 0 ≤ l ∧ l < aWi s) : ∀ (m : Nat) (x : Int × Int), m ≤ 16 → 0 ≤ x.1 ∧ x.1 ≤ 256 → 0 ≤ (gB s p v t l m x).1 ∧ (gB s p v t l m x).1 ≤ 256 := by
  intro m
  induction m with
  | zero => intro x _ h; exact h
  | succ m ih =>
    intro x hm h
    have h1 := ih x (by omega) h
    have h2 := wdA_in hI (p := p) (v := v) (t := t) hl (m + 1)
    unfold gB
    split
    · have : wdA s p v t l (m + 1) * ((m : Int) + 1) ≤ 16 * 16 := Int.mul_le_mul h2.2.1 (by omega) (by omega) (by decide)
      exact ⟨by omega, this⟩
    · exact h1
theorem gB_stop {s : aS} {p v t l : Int} {m : Nat} (h : wdA s p v t l m ≤ 0) {x : Int × Int} (hx : 0 ≤ (gB s p v t l m x).1) : ∀ k : Nat, gB s p v t l (m + k) x = gB s p v t l m x := by
  intro k
  induction k with
  | zero => rfl
  | succ k ih =>
    have hw := wdA_0 h (k + 1)
    have hw : wdA s p v t l (m + k + 1) ≤ 0 := hw
    have e : gB s p v t l (m + (k + 1)) x = if (gB s p v t l (m + k) x).1 < wdA s p v t l (m + k + 1) * (((m + k : Nat) : Int) + 1) then (wdA s p v t l (m + k + 1) * (((m + k : Nat) : Int) + 1), rectC t l (t + ((m + k : Nat) : Int)) (l + wdA s p v t l (m + k + 1) - 1)) else gB s p v t l (m + k) x := rfl
    have hz : wdA s p v t l (m + k + 1) * (((m + k : Nat) : Int) + 1) ≤ 0 := Int.mul_nonpos_of_nonpos_of_nonneg hw (by omega)
    rw [e, ih, if_neg (by omega)]
noncomputable def ggL (s : aS) (p v t : Int) : Nat → Int × Int → Int × Int
  | 0, x => x
  | m + 1, x => gB s p v t (m : Int) (aHi s - t).toNat (ggL s p v t m x)
noncomputable def ggT (s : aS) (p v : Int) : Nat → Int × Int → Int × Int
  | 0, x => x
  | m + 1, x => ggL s p v (m : Int) (aWi s).toNat (ggT s p v m x)
noncomputable def grA (s : aS) (p v : Int) : Int × Int := ggT s p v (aHi s).toNat (0, -1)
theorem ggL_in {s : aS} (hI : aI s) {p v t : Int} (ht : 0 ≤ t) : ∀ (m : Nat) (x : Int × Int), (m : Int) ≤ aWi s → 0 ≤ x.1 ∧ x.1 ≤ 256 → 0 ≤ (ggL s p v t m x).1 ∧ (ggL s p v t m x).1 ≤ 256 := by
  intro m
  have i1 := hI.1
  induction m with
  | zero => intro x _ h; exact h
  | succ m ih => intro x hm h; exact gB_in hI (by omega) _ _ (by omega) (ih x (by omega) h)
section PU
variable {d : Nat} {w : mm_W} {h : mm_H} {s : aS} {V : Int}
theorem L_grun1 (hd : 2 ≤ d) (hV : vOk V) (hVW : VW w V) (hI : aI s) {p v r : Int} (hp : 0 ≤ p ∧ p < 4) (hr : 0 ≤ r ∧ r < aHi s) : ∀ (m : Nat) (h : mm_H), VH h V → cVw h V s → (m : Int) ≤ aWi s → (∀ c : Int, (m : Int) ≤ c → c < aWi s → h (V + 6) (16 * r + c) = runA s p v r c) → ∃ h', l_Vw_findGreatest_1 (mm_P d) V p v r ((m : Int) - 1) w h = some (.inr (104, [(2, V), (0, p), (0, v), (0, r), (0, -1), (9, 0)], w, h')) ∧ (∀ b : Int, b ≠ V + 6 → h' b = h b) ∧ (∀ c : Int, 0 ≤ c → c < aWi s → h' (V + 6) (16 * r + c) = runA s p v r c) ∧ ∀ j : Int, ¬ (16 * r ≤ j ∧ j < 16 * r + 16) → h' (V + 6) j = h (V + 6) j := by
  have wV : (w.1 V).1 = 11 := by rw [hVW.1]
  have i1 := hI.1; have i2 := hI.2.1
  intro m
  induction m with
  | zero =>
    intro h hH hC hm hc
    rw [l_Vw_findGreatest_1_eq, mLt_t (by decide)]
    exact ⟨h, rfl, fun _ _ => rfl, fun c c0 c1 => hc c (by omega) c1, fun _ _ => rfl⟩
  | succ m ih =>
    intro h hH hC hm hc
    have e1 : ((m + 1 : Nat) : Int) - 1 = (m : Int) := by omega
    have hrun : runA s p v r (m : Int) = if numA s p r (m : Int) = v then runA s p v r ((m : Int) + 1) + 1 else 0 := by
      unfold runA
      rw [show (aWi s - (m : Int)).toNat = (aWi s - ((m : Int) + 1)).toNat + 1 by omega]
      rfl
    have hin := rnA_in (s := s) (p := p) (v := v) (r := r) (aWi s - ((m : Int) + 1)).toNat ((m : Int) + 1)
    have fin : ∀ z : Int, z = runA s p v r (m : Int) → ∃ h', l_Vw_findGreatest_1 (mm_P d) V p v r ((m : Int) - 1) w (mUp h (V + 6) (16 * r + (m : Int)) z) = some (.inr (104, [(2, V), (0, p), (0, v), (0, r), (0, -1), (9, 0)], w, h')) ∧ (∀ b : Int, b ≠ V + 6 → h' b = h b) ∧ (∀ c : Int, 0 ≤ c → c < aWi s → h' (V + 6) (16 * r + c) = runA s p v r c) ∧ ∀ j : Int, ¬ (16 * r ≤ j ∧ j < 16 * r + 16) → h' (V + 6) j = h (V + 6) j := by
      intro z hz
      have f1 : ∀ b : Int, b ≠ V + 6 → mUp h (V + 6) (16 * r + (m : Int)) z b = h b := fun b hb => mUp_row hb
      obtain ⟨h', g1, g2, g3, g4⟩ := ih (mUp h (V + 6) (16 * r + (m : Int)) z) (fun i x0 x1 => by rw [f1 V (by omega)]; exact hH i x0 x1) (cVw_fr hC (fun b b0 b1 => f1 b (by omega))) (by omega) (fun c c0 c1 => by
        by_cases e : c = (m : Int)
        · rw [e, mUp_s, hz]
        · rw [mUp_n (Or.inr (by omega))]; exact hc c (by omega) c1)
      exact ⟨h', g1, fun b hb => by rw [g2 b hb, f1 b hb], g3, fun j hj => by rw [g4 j hj, mUp_n (Or.inr (by omega))]⟩
    rw [e1, l_Vw_findGreatest_1_eq, mLt_f (by omega), mF_t wV, hC.1.2, mI_id (x := (m : Int) + 1) (by omega) (by omega)]
    by_cases c1 : (m : Int) + 1 < aWi s
    rotate_left
    · have z0 : runA s p v r ((m : Int) + 1) = 0 := by
        unfold runA
        rw [show (aWi s - ((m : Int) + 1)).toNat = 0 by omega]
        rfl
      rw [mLe_t (by omega), mF_t wV, E_placeOf (by omega) (by omega) (by omega) (by omega) (by omega), mC_s, mF_t wV, E_vNumber hd hV hVW hH hI hC hp hr (c := (m : Int)) (by omega), mC_s, hH 5 (by decide) (by decide), show V + 1 + 5 = V + 6 by omega]
      by_cases c2 : numA s p r (m : Int) = v
      · rw [mEq_t c2, E_poke_t (by omega) hVW.2.2.2.2.2.2 (by unfold vOk at hV; omega) (by omega) (by omega), mC_s]
        try dsimp only
        rw [mI_id (x := (m : Int) + -1) (by omega) (by omega), show (m : Int) + -1 = (m : Int) - 1 by omega]
        exact fin _ (by rw [hrun, if_pos c2, z0]; rfl)
      · rw [mEq_f c2, E_poke_t (by omega) hVW.2.2.2.2.2.2 (by unfold vOk at hV; omega) (by omega) (by omega), mC_s]
        try dsimp only
        rw [mI_id (x := (m : Int) + -1) (by omega) (by omega), show (m : Int) + -1 = (m : Int) - 1 by omega]
        exact fin _ (by rw [hrun, if_neg c2])
    · have zr : h (V + 6) (16 * r + ((m : Int) + 1)) = runA s p v r ((m : Int) + 1) := hc _ (by omega) c1
      have hin' : 0 ≤ runA s p v r ((m : Int) + 1) ∧ runA s p v r ((m : Int) + 1) ≤ 100 := by unfold runA; omega
      rw [mLe_f c1, mF_t wV, E_placeOf (by omega) (by omega) (by omega) (by omega) (by omega), mC_s, hH 5 (by decide) (by decide), show V + 1 + 5 = V + 6 by omega, E_peek_t (by omega) hVW.2.2.2.2.2.2 (by omega) (by omega), mC_s, zr, mF_t wV, E_placeOf (by omega) (by omega) (by omega) (by omega) (by omega), mC_s, mF_t wV, E_vNumber hd hV hVW hH hI hC hp hr (c := (m : Int)) (by omega), mC_s, hH 5 (by decide) (by decide), show V + 1 + 5 = V + 6 by omega]
      by_cases c2 : numA s p r (m : Int) = v
      · rw [mEq_t c2, E_poke_t (by omega) hVW.2.2.2.2.2.2 (by unfold vOk at hV; omega) (by omega) (by omega), mC_s]
        try dsimp only
        rw [mI_id (x := (m : Int) + -1) (by omega) (by omega), show (m : Int) + -1 = (m : Int) - 1 by omega]
        exact fin _ (by rw [hrun, if_pos c2, mI_id (by omega) (by omega)])
      · rw [mEq_f c2, E_poke_t (by omega) hVW.2.2.2.2.2.2 (by unfold vOk at hV; omega) (by omega) (by omega), mC_s]
        try dsimp only
        rw [mI_id (x := (m : Int) + -1) (by omega) (by omega), show (m : Int) + -1 = (m : Int) - 1 by omega]
        exact fin _ (by rw [hrun, if_neg c2])
theorem L_grun0 (hd : 2 ≤ d) (hV : vOk V) (hVW : VW w V) (hI : aI s) {p v : Int} (hp : 0 ≤ p ∧ p < 4) : ∀ (m : Nat) (r : Int) (h : mm_H), VH h V → cVw h V s → 0 ≤ r → r + m = aHi s → (∀ i c : Int, 0 ≤ i → i < r → 0 ≤ c → c < aWi s → h (V + 6) (16 * i + c) = runA s p v i c) → ∃ h', l_Vw_findGreatest_0 (mm_P d) V p v r w h = some (.inr (110, [(2, V), (0, p), (0, v), (0, aHi s), (9, 0), (9, 0)], w, h')) ∧ (∀ b : Int, b ≠ V + 6 → h' b = h b) ∧ ∀ i c : Int, 0 ≤ i → i < aHi s → 0 ≤ c → c < aWi s → h' (V + 6) (16 * i + c) = runA s p v i c := by
  have wV : (w.1 V).1 = 11 := by rw [hVW.1]
  have i1 := hI.1; have i2 := hI.2.1
  intro m
  induction m with
  | zero =>
    intro r h hH hC r0 hm hc
    rw [l_Vw_findGreatest_0_eq, mF_t wV, hC.1.1, mLe_t (by omega), show r = aHi s by omega]
    exact ⟨h, rfl, fun _ _ => rfl, fun i c a b => hc i c a (by omega)⟩
  | succ m ih =>
    intro r h hH hC r0 hm hc
    obtain ⟨h1, b1, b2, b3, b4⟩ := L_grun1 hd hV hVW hI (v := v) hp (r := r) (by omega) (aWi s).toNat h hH hC (by omega) (fun c c0 c1 => by omega)
    rw [show (((aWi s).toNat : Nat) : Int) - 1 = aWi s - 1 by omega] at b1
    rw [l_Vw_findGreatest_0_eq, mF_t wV, hC.1.1, mLe_f (by omega), mF_t wV, hC.1.2]
    try dsimp only
    rw [mI_id (x := aWi s - 1) (by omega) (by omega), b1, mK_r, if_pos rfl]
    simp only [mP_0, mP_1, mP_2, mP_3]
    rw [mI_id (x := r + 1) (by omega) (by omega)]
    obtain ⟨h', g1, g2, g3⟩ := ih (r + 1) h1 (fun i x0 x1 => by rw [b2 V (by omega)]; exact hH i x0 x1) (cVw_fr hC (fun b b0 b1 => b2 b (by omega))) (by omega) (by omega) (fun i c i0 i1 c0 c1 => by
      by_cases e : i = r
      · rw [e]; exact b3 c c0 c1
      · rw [b4 _ (by omega)]; exact hc i c i0 (by omega) c0 c1)
    exact ⟨h', g1, fun b hb => by rw [g2 b hb, b2 b hb], g3⟩
/-- the runs are there -/
def rnK (h : mm_H) (V : Int) (s : aS) (p v : Int) : Prop := (∀ i c : Int, 0 ≤ i → i < aHi s → 0 ≤ c → c < aWi s → h (V + 6) (16 * i + c) = runA s p v i c) ∧ h V 6 = aHi s ∧ h V 7 = aWi s ∧ VH h V
theorem rnK_up {p v i z : Int} (hK : rnK h V s p v) (hi : i = 8 ∨ i = 9) : rnK (mUp h V i z) V s p v := ⟨fun a b a0 a1 b0 b1 => by rw [mUp_row (by omega)]; exact hK.1 a b a0 a1 b0 b1, by rw [mUp_n (Or.inr (by omega))]; exact hK.2.1, by rw [mUp_n (Or.inr (by omega))]; exact hK.2.2.1, fun j j0 j1 => by rw [mUp_n (Or.inr (by omega))]; exact hK.2.2.2 j j0 j1⟩
/-- only what was found has changed -/
def FO (V : Int) (h h' : mm_H) : Prop := (∀ b : Int, b ≠ V → h' b = h b) ∧ ∀ i : Int, i ≠ 8 → i ≠ 9 → h' V i = h V i
theorem FO_rf (V : Int) (h : mm_H) : FO V h h := ⟨fun _ _ => rfl, fun _ _ _ => rfl⟩
theorem FO_tr {V : Int} {a b c : mm_H} (x : FO V a b) (y : FO V b c) : FO V a c := ⟨fun q hq => (y.1 q hq).trans (x.1 q hq), fun i hi hj => (y.2 i hi hj).trans (x.2 i hi hj)⟩
theorem L_from (hd : 3 ≤ d) (hV : vOk V) (hVW : VW w V) (hI : aI s) {p v t l : Int} (ht : 0 ≤ t ∧ t < aHi s) (hl : 0 ≤ l ∧ l < aWi s) (x : Int × Int) (hx : 0 ≤ x.1 ∧ x.1 ≤ 256) : ∀ (m k : Nat) (h : mm_H), rnK h V s p v → (k : Int) + m = aHi s - t → (h V 8, h V 9) = gB s p v t l k x → ∃ (h' : mm_H) (L : List mm_V), l_Vw_findGreatestFrom_0 (mm_P d) V t l (wdA s p v t l k) (t + k) w h = some (.inr (84, L, w, h')) ∧ FO V h h' ∧ rnK h' V s p v ∧ (h' V 8, h' V 9) = gB s p v t l (aHi s - t).toNat x := by
  have wV : (w.1 V).1 = 11 := by rw [hVW.1]
  have i1 := hI.1; have i2 := hI.2.1
  intro m
  induction m with
  | zero =>
    intro k h hK hk hg
    rw [l_Vw_findGreatestFrom_0_eq, mF_t wV, hK.2.1, mLe_t (by omega)]
    exact ⟨h, _, rfl, FO_rf V h, hK, by rw [hg, show (aHi s - t).toNat = k by omega]⟩
  | succ m ih =>
    intro k h hK hk hg
    have hwk := wdA_in hI (p := p) (v := v) (t := t) hl k
    have hwk1 := wdA_in hI (p := p) (v := v) (t := t) hl (k + 1)
    have hgi := gB_in hI (p := p) (v := v) (t := t) hl k x (by omega) hx
    have g8 : h V 8 = (gB s p v t l k x).1 := congrArg Prod.fst hg
    rw [l_Vw_findGreatestFrom_0_eq, mF_t wV, hK.2.1, mLe_f (by omega)]
    by_cases c0 : wdA s p v t l k ≤ 0
    · rw [mLe_t c0]
      refine ⟨h, _, rfl, FO_rf V h, hK, ?_⟩
      rw [hg, show (aHi s - t).toNat = k + (m + 1) by omega, gB_stop c0 hgi.1]
    · have hmul : wdA s p v t l (k + 1) * ((k : Int) + 1) ≤ 16 * 16 := Int.mul_le_mul hwk1.2.1 (by omega) (by omega) (by decide)
      have hmul0 : 0 ≤ wdA s p v t l (k + 1) * ((k : Int) + 1) := Int.mul_nonneg hwk1.1 (by omega)
      have ew : mMin (wdA s p v t l k) (runA s p v (t + k) l) = wdA s p v t l (k + 1) := rfl
      rw [mLe_f (by omega), mF_t wV, E_placeOf (by omega) (by omega) (by omega) (by omega) (by omega), mC_s, hK.2.2.2 5 (by decide) (by decide), show V + 1 + 5 = V + 6 by omega, E_peek_t (by omega) hVW.2.2.2.2.2.2 (by omega) (by omega), mC_s, hK.1 (t + k) l (by omega) (by omega) hl.1 hl.2]
      try dsimp only
      simp only [mF_t wV]
      rw [ew, show t + (k : Int) - t = (k : Int) by omega, mI_id (x := (k : Int)) (by omega) (by omega), mI_id (x := (k : Int) + 1) (by omega) (by omega), mI_id (x := wdA s p v t l (k + 1) * ((k : Int) + 1)) (by omega) (by omega), mI_id (x := t + (k : Int) + 1) (by omega) (by omega), show t + (k : Int) + 1 = t + ((k + 1 : Nat) : Int) by omega, g8]
      have eg : gB s p v t l (k + 1) x = if (gB s p v t l k x).1 < wdA s p v t l (k + 1) * ((k : Int) + 1) then (wdA s p v t l (k + 1) * ((k : Int) + 1), rectC t l (t + k) (l + wdA s p v t l (k + 1) - 1)) else gB s p v t l k x := rfl
      by_cases c1 : (gB s p v t l k x).1 < wdA s p v t l (k + 1) * ((k : Int) + 1)
      · rw [mLe_f c1, mI_id (x := l + wdA s p v t l (k + 1)) (by omega) (by omega), mI_id (x := l + wdA s p v t l (k + 1) - 1) (by omega) (by omega), E_rectCode (by omega), mC_s]
        simp only [mF_t wV]
        generalize hq : wdA s p v t l (k + 1) * ((k : Int) + 1) = q at *
        generalize hq2 : rectC t l (t + (k : Int)) (l + wdA s p v t l (k + 1) - 1) = q2 at *
        have K1 := rnK_up (i := 9) (z := q2) (rnK_up (i := 8) (z := q) hK (Or.inl rfl)) (Or.inr rfl)
        obtain ⟨h', L, g1, g2, g3, g4⟩ := ih (k + 1) (mUp (mUp h V 8 q) V 9 q2) K1 (by omega) (by rw [eg, if_pos c1, mUp_s, mUp_n (Or.inr (by decide)), mUp_s])
        exact ⟨h', L, g1, FO_tr ⟨fun b hb => by rw [mUp_row hb, mUp_row hb], fun i i8 i9 => by rw [mUp_n (Or.inr i9), mUp_n (Or.inr i8)]⟩ g2, g3, g4⟩
      · rw [mLe_t (by omega)]
        exact ih (k + 1) h hK (by omega) (by rw [eg, if_neg c1]; exact hg)
theorem E_from (hd : 4 ≤ d) (hV : vOk V) (hVW : VW w V) (hI : aI s) {p v t l : Int} (ht : 0 ≤ t ∧ t < aHi s) (hl : 0 ≤ l ∧ l < aWi s) (x : Int × Int) (hx : 0 ≤ x.1 ∧ x.1 ≤ 256) (hK : rnK h V s p v) (hg : (h V 8, h V 9) = x) : ∃ h', mm_P d 138 [(2, V), (0, t), (0, l)] w h = some ((9, 0), w, h') ∧ FO V h h' ∧ rnK h' V s p v ∧ (h' V 8, h' V 9) = gB s p v t l (aHi s - t).toNat x := by
  obtain ⟨d, rfl, hd2⟩ := mm_dS hd; clear hd; have hd := hd2; clear hd2
  obtain ⟨h', L, g1, g2, g3, g4⟩ := L_from (d := d) hd hV hVW hI (p := p) (v := v) ht hl x hx (aHi s - t).toNat 0 h hK (by omega) hg
  have g1 : l_Vw_findGreatestFrom_0 (mm_P d) V t l 16 (t + ((0 : Nat) : Int)) w h = some (.inr (84, L, w, h')) := g1
  rw [show t + ((0 : Nat) : Int) = t by omega] at g1
  rw [P_Vw_findGreatestFrom, g1, mK_r, if_pos rfl]
  exact ⟨h', rfl, g2, g3, g4⟩
theorem L_great3 (hd : 4 ≤ d) (hV : vOk V) (hVW : VW w V) (hI : aI s) {p v t : Int} (ht : 0 ≤ t ∧ t < aHi s) (x : Int × Int) (hx : 0 ≤ x.1 ∧ x.1 ≤ 256) : ∀ (m k : Nat) (h : mm_H), rnK h V s p v → (k : Int) + m = aWi s → (h V 8, h V 9) = ggL s p v t k x → ∃ h', l_Vw_findGreatest_3 (mm_P d) V p v t k w h = some (.inr (145, [(2, V), (0, p), (0, v), (0, t), (0, aWi s), (9, 0)], w, h')) ∧ FO V h h' ∧ rnK h' V s p v ∧ (h' V 8, h' V 9) = ggL s p v t (aWi s).toNat x := by
  have wV : (w.1 V).1 = 11 := by rw [hVW.1]
  have i1 := hI.1; have i2 := hI.2.1
  intro m
  induction m with
  | zero =>
    intro k h hK hk hg
    rw [l_Vw_findGreatest_3_eq, mF_t wV, hK.2.2.1, mLe_t (by omega), show (k : Int) = aWi s by omega]
    exact ⟨h, rfl, FO_rf V h, hK, by rw [hg, show (aWi s).toNat = k by omega]⟩
  | succ m ih =>
    intro k h hK hk hg
    obtain ⟨h1, b1, b2, b3, b4⟩ := E_from hd hV hVW hI ht (l := (k : Int)) (by omega) (ggL s p v t k x) (ggL_in hI ht.1 k x (by omega) hx) hK hg
    rw [l_Vw_findGreatest_3_eq, mF_t wV, hK.2.2.1, mLe_f (by omega), mF_t wV, b1, mC_s]
    try dsimp only
    rw [mI_id (by omega) (by omega), show (k : Int) + 1 = ((k + 1 : Nat) : Int) by omega]
    obtain ⟨h', g1, g2, g3, g4⟩ := ih (k + 1) h1 b3 (by omega) b4
    exact ⟨h', g1, FO_tr b2 g2, g3, g4⟩
theorem ggT_in {s : aS} (hI : aI s) {p v : Int} : ∀ (m : Nat) (x : Int × Int), 0 ≤ x.1 ∧ x.1 ≤ 256 → 0 ≤ (ggT s p v m x).1 ∧ (ggT s p v m x).1 ≤ 256 := by
  intro m
  have i2 := hI.2.1
  induction m with
  | zero => intro x h; exact h
  | succ m ih => intro x h; exact ggL_in hI (by omega) _ _ (by omega) (ih x h)
theorem L_great2 (hd : 4 ≤ d) (hV : vOk V) (hVW : VW w V) (hI : aI s) {p v : Int} (x : Int × Int) (hx : 0 ≤ x.1 ∧ x.1 ≤ 256) : ∀ (m k : Nat) (h : mm_H), rnK h V s p v → (k : Int) + m = aHi s → (h V 8, h V 9) = ggT s p v k x → ∃ h', l_Vw_findGreatest_2 (mm_P d) V p v k w h = some (.inr (151, [(2, V), (0, p), (0, v), (0, aHi s), (9, 0), (9, 0)], w, h')) ∧ FO V h h' ∧ (h' V 8, h' V 9) = ggT s p v (aHi s).toNat x := by
  have wV : (w.1 V).1 = 11 := by rw [hVW.1]
  have i1 := hI.1; have i2 := hI.2.1
  intro m
  induction m with
  | zero =>
    intro k h hK hk hg
    rw [l_Vw_findGreatest_2_eq, mF_t wV, hK.2.1, mLe_t (by omega), show (k : Int) = aHi s by omega]
    exact ⟨h, rfl, FO_rf V h, by rw [hg, show (aHi s).toNat = k by omega]⟩
  | succ m ih =>
    intro k h hK hk hg
    obtain ⟨h1, b1, b2, b3, b4⟩ := L_great3 hd hV hVW hI (t := (k : Int)) (by omega) (ggT s p v k x) (ggT_in hI k x hx) (aWi s).toNat 0 h hK (by omega) hg
    have b1 : l_Vw_findGreatest_3 (mm_P d) V p v (k : Int) 0 w h = _ := b1
    rw [l_Vw_findGreatest_2_eq, mF_t wV, hK.2.1, mLe_f (by omega), b1, mK_r, if_pos rfl]
    simp only [mP_0, mP_1, mP_2, mP_3]
    rw [mI_id (by omega) (by omega), show (k : Int) + 1 = ((k + 1 : Nat) : Int) by omega]
    obtain ⟨h', g1, g2, g3⟩ := ih (k + 1) h1 b3 (by omega) b4
    exact ⟨h', g1, FO_tr b2 g2, g3⟩
theorem E_great (hd : 5 ≤ d) (hV : vOk V) (hVW : VW w V) (hI : aI s) {p v : Int} (hp : 0 ≤ p ∧ p < 4) (hH : VH h V) (hC : cVw h V s) : ∃ h', mm_P d 137 [(2, V), (0, p), (0, v)] w h = some ((9, 0), w, h') ∧ (∀ b : Int, b ≠ V → b ≠ V + 6 → h' b = h b) ∧ (∀ i : Int, i ≠ 8 → i ≠ 9 → h' V i = h V i) ∧ h' V 8 = (grA s p v).1 ∧ h' V 9 = (grA s p v).2 := by
  obtain ⟨d, rfl, hd2⟩ := mm_dS hd; clear hd; have hd := hd2; clear hd2
  have wV : (w.1 V).1 = 11 := by rw [hVW.1]
  have i1 := hI.1
  rw [P_Vw_findGreatest]
  simp only [mF_t wV]
  generalize hg : mUp (mUp h V 8 0) V 9 (-1) = h1
  have o1 : FO V h h1 := by rw [← hg]; exact ⟨fun b hb => by rw [mUp_row hb, mUp_row hb], fun i i8 i9 => by rw [mUp_n (Or.inr i9), mUp_n (Or.inr i8)]⟩
  have z8 : h1 V 8 = 0 := by rw [← hg, mUp_n (Or.inr (by decide)), mUp_s]
  have z9 : h1 V 9 = -1 := by rw [← hg, mUp_s]
  have H1 : VH h1 V := fun i x0 x1 => by rw [o1.2 i (by omega) (by omega)]; exact hH i x0 x1
  have C1 : cVw h1 V s := by
    have e1 := o1.1 (V + 1) (by omega)
    have e2 := o1.1 (V + 2) (by omega)
    have e3 := o1.1 (V + 3) (by omega)
    have e4 := o1.1 (V + 4) (by omega)
    refine ⟨⟨by rw [o1.2 6 (by decide) (by decide)]; exact hC.1.1, by rw [o1.2 7 (by decide) (by decide)]; exact hC.1.2⟩, fun i j a b c d => by rw [e1]; exact hC.2.1 i j a b c d, fun i j a b c d => ?_⟩
    have := hC.2.2 i j a b c d
    unfold VC at this ⊢
    rw [e2, e3, e4]
    exact this
  obtain ⟨h2, b1, b2, b3⟩ := L_grun0 (d := d) (by omega) hV hVW hI (v := v) hp (aHi s).toNat 0 h1 H1 C1 (Int.le_refl _) (by omega) (fun i c x0 x1 _ _ => by omega)
  have K2 : rnK h2 V s p v := ⟨b3, by rw [b2 V (by omega)]; exact C1.1.1, by rw [b2 V (by omega)]; exact C1.1.2, fun i x0 x1 => by rw [b2 V (by omega)]; exact H1 i x0 x1⟩
  obtain ⟨h3, c1, c2, c3⟩ := L_great2 (d := d) (by omega) hV hVW hI (p := p) (v := v) (0, -1) (by decide) (aHi s).toNat 0 h2 K2 (by omega) (by rw [b2 V (by omega), z8, z9]; rfl)
  have c1 : l_Vw_findGreatest_2 (mm_P d) V p v 0 w h2 = _ := c1
  rw [b1, mK_r, if_pos rfl]
  simp only [mP_0, mP_1, mP_2]
  rw [c1, mK_r, if_pos rfl]
  have c8 : h3 V 8 = (grA s p v).1 := congrArg Prod.fst c3
  have c9 : h3 V 9 = (grA s p v).2 := congrArg Prod.snd c3
  exact ⟨h3, rfl, fun b x1 x2 => by rw [c2.1 b x1, b2 b x2, o1.1 b x1], fun i x1 x2 => by rw [c2.2 i x1 x2, b2 V (by omega), o1.2 i x1 x2], c8, c9⟩
end PU
