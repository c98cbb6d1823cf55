/-! PURE: the fewest strokes of a row: the reference. -/
section PU
variable {d : Nat} {w : mm_W} {h : mm_H} {A : aG} {s : aS}
theorem MH_36 (hH : MH h) : h 483 36 = 499 := hH.2.2.2.2.2.2.2.2.2.2.2.2.2.2.2.1
theorem MH_37 (hH : MH h) : h 483 37 = 500 := hH.2.2.2.2.2.2.2.2.2.2.2.2.2.2.2.2.1
theorem MW_499 (hW : MW w) : w.1 499 = (50, 17) := hW.2.2.2.2.2.2.2.2.2.2.2.2.2.2.2.2.1
theorem MW_500 (hW : MW w) : w.1 500 = (50, 324) := hW.2.2.2.2.2.2.2.2.2.2.2.2.2.2.2.2.2.1
theorem L_mst0 (hd : 2 ≤ d) (hW : MW w) (hI : aI s) {r p : Int} (hp : 0 ≤ p ∧ p < 4) (hr : 0 ≤ r ∧ r < aHi s) : ∀ (m : Nat) (j : Int) (h : mm_H), MH h → RM (h 484) s → 1 ≤ j → j + m = aWi s + 1 → (∀ a : Int, 0 ≤ a → a < j → h 499 a = edg (aCel s p) r a) → ∃ h', l_M_strokes_0 (mm_P d) 483 r p (aWi s + 1) 18 j w h = some (.inr (80, [(2, 483), (0, r), (0, p), (0, aWi s + 1), (0, 18), (0, aWi s + 1), (9, 0), (9, 0), (9, 0), (9, 0)], w, h')) ∧ (∀ b : Int, b ≠ 499 → h' b = h b) ∧ ∀ a : Int, 0 ≤ a → a < aWi s + 1 → h' 499 a = edg (aCel s p) r a := by
  have hw : (w.1 483).1 = 13 := by rw [hW.1]
  have i1 := hI.1; have i2 := hI.2.1
  intro m
  induction m with
  | zero =>
    intro j h hH hR j1 hm hs
    have e : j = aWi s + 1 := by omega
    subst e
    rw [l_M_strokes_0_eq, mLe_t (Int.le_refl _)]
    exact ⟨h, rfl, fun _ _ => rfl, hs⟩
  | succ m ih =>
    intro j h hH hR j1 hm hs
    have eu : ∀ b : Int, b ≠ 499 → mUp h 499 j (aCel s p r (j - 1)) b = h b := fun b hb => mUp_row hb
    obtain ⟨h', x1, x2, x3⟩ := ih (j + 1) (mUp h 499 j (aCel s p r (j - 1))) (MH_fr hH (fun i _ => by rw [eu 483 (by decide)])) (by rw [eu 484 (by decide)]; exact hR) (by omega) (by omega) (fun a a0 a1 => by
      by_cases q : a = j
      · rw [q, mUp_s]; unfold edg; rw [if_neg (by omega)]
      · rw [mUp_n (Or.inr q)]; exact hs a a0 (by omega))
    rw [l_M_strokes_0_eq, mLe_f (by omega), mF_t hw, mF_t hw, mI_id (x := j - 1) (by omega) (by omega), T_own hd hW hI hH hR hp hr (j := j - 1) (by omega), mC_s, MH_36 hH, mAw_t (MW_499 hW) (by omega) (by omega) (by decide)]
    try dsimp only
    rw [mI_id (x := j + 1) (by omega) (by omega), x1]
    exact ⟨h', rfl, fun b hb => by rw [x2 b hb, eu b hb], x3⟩
/-- the strip, and what is known of the stretches: all shorter ones, those as long that start ahead of i -/
def mvK (h : mm_H) (x : Int → Int) (n z i : Int) : Prop := (∀ a : Int, 0 ≤ a → a < n → h 499 a = x a) ∧ ∀ a e : Int, 0 ≤ a → a < e → e ≤ n → (e - a < z ∨ e - a = z ∧ a < i) → h 500 (18 * a + e) = sv x (e - a).toNat a
theorem L_ms3 (hW : MW w) (hH : MH h) {x : Int → Int} {n r p z i e : Int} (hn : n ≤ 17) (hi : 0 ≤ i ∧ i < e ∧ e ≤ n ∧ e = i + z) (hk : mvK h x n z i) : ∀ (m kk : Nat) (k b : Int), 1 ≤ kk → k = i + kk → k + m = e → 0 ≤ b → b ≤ 100 → l_M_strokes_3 (mm_P d) 483 r p n 18 z i e b k w h = some (.inr (222, [(2, 483), (0, r), (0, p), (0, n), (0, 18), (0, z), (0, i), (0, e), (0, svk x (sv x) z.toNat i m kk b), (0, e)], w, h)) := by
  have hw : (w.1 483).1 = 13 := by rw [hW.1]
  intro m
  induction m with
  | zero =>
    intro kk k b h1 h2 h3 h4 h5
    rw [l_M_strokes_3_eq, mLe_t (by omega), show k = e by omega]
    rfl
  | succ m ih =>
    intro kk k b h1 h2 h3 h4 h5
    have u : svk x (sv x) z.toNat i (m + 1) kk b = svk x (sv x) z.toNat i m (kk + 1) (if x (i + (kk : Int)) = x i then mMin b (sv x (kk - 1) (i + 1) + sv x (z.toNat - kk) (i + (kk : Int))) else b) := rfl
    have s1 := hk.1 k (by omega) (by omega)
    have s2 := hk.1 i hi.1 (by omega)
    have v1 := sv_i (x := x) (kk - 1) (i + 1)
    have v2 := sv_i (x := x) (z.toNat - kk) k
    have t2 := hk.2 k e (by omega) (by omega) hi.2.2.1 (Or.inl (by omega))
    rw [show (e - k).toNat = z.toNat - kk by omega] at t2
    have q2 := mMin_in (a := b) (b := sv x (kk - 1) (i + 1) + sv x (z.toNat - kk) k)
    rw [l_M_strokes_3_eq, mLe_f (by omega), mF_t hw, MH_36 hH, mA_t (MW_499 hW) (by omega) (by omega), mF_t hw, mA_t (MW_499 hW) hi.1 (by omega), s1, s2, u, ← h2]
    by_cases q : x k = x i
    · rw [mEq_t q, if_pos q, mI_id (x := i + 1) (by omega) (by omega)]
      by_cases c : k = i + 1
      · have e0 : sv x (kk - 1) (i + 1) = 0 := by rw [show kk - 1 = 0 by omega, sv_0]
        rw [mEq_t c, mF_t hw, MH_37 hH, mI_id (x := 18 * k) (by omega) (by omega), mI_id (x := 18 * k + e) (by omega) (by omega), mA_t (MW_500 hW) (by omega) (by omega), t2]
        rw [e0] at q2 ⊢
        try dsimp only
        rw [mI_id (x := 0 + sv x (z.toNat - kk) k) (by omega) (by omega), mI_id (x := k + 1) (by omega) (by omega)]
        exact ih (kk + 1) (k + 1) _ (by omega) (by omega) (by omega) (by omega) (by omega)
      · have t1 := hk.2 (i + 1) k (by omega) (by omega) (by omega) (Or.inl (by omega))
        rw [show (k - (i + 1)).toNat = kk - 1 by omega] at t1
        rw [mEq_f c, mF_t hw, MH_37 hH, mI_id (x := 18 * (i + 1)) (by omega) (by omega), mI_id (x := 18 * (i + 1) + k) (by omega) (by omega), mA_t (MW_500 hW) (by omega) (by omega), mF_t hw, mI_id (x := 18 * k) (by omega) (by omega), mI_id (x := 18 * k + e) (by omega) (by omega), mA_t (MW_500 hW) (by omega) (by omega), t1, t2]
        try dsimp only
        rw [mI_id (x := sv x (kk - 1) (i + 1) + sv x (z.toNat - kk) k) (by omega) (by omega), mI_id (x := k + 1) (by omega) (by omega)]
        exact ih (kk + 1) (k + 1) _ (by omega) (by omega) (by omega) (by omega) (by omega)
    · rw [mEq_f q, if_neg q]
      try dsimp only
      rw [mI_id (x := k + 1) (by omega) (by omega)]
      exact ih (kk + 1) (k + 1) b (by omega) (by omega) (by omega) h4 h5
theorem L_ms2 (hW : MW w) {x : Int → Int} {n r p z : Int} (hn : 1 ≤ n ∧ n ≤ 17) (hz : 1 ≤ z ∧ z ≤ n) : ∀ (m : Nat) (i : Int) (h : mm_H), MH h → 0 ≤ i → i + m = n - z + 1 → mvK h x n z i → ∃ h', l_M_strokes_2 (mm_P d) 483 r p n 18 z i w h = some (.inr (243, [(2, 483), (0, r), (0, p), (0, n), (0, 18), (0, z), (0, n - z + 1), (9, 0), (9, 0), (9, 0)], w, h')) ∧ (∀ b : Int, b ≠ 500 → h' b = h b) ∧ mvK h' x n z (n - z + 1) := by
  have hw : (w.1 483).1 = 13 := by rw [hW.1]
  intro m
  induction m with
  | zero =>
    intro i h hH i0 hm hk
    have e : i = n - z + 1 := by omega
    subst e
    rw [l_M_strokes_2_eq, mI_id (by omega) (by omega), mLt_t (by omega)]
    exact ⟨h, rfl, fun _ _ => rfl, hk⟩
  | succ m ih =>
    intro i h hH i0 hm hk
    have b1 := sv_i (x := x) (z.toNat - 1) (i + 1)
    have g := L_ms3 (d := d) (r := r) (p := p) hW hH hn.2 (i := i) (e := i + z) ⟨i0, by omega, by omega, rfl⟩ hk (z.toNat - 1) 1 (i + 1) (1 + sv x (z.toNat - 1) (i + 1)) (Nat.le_refl _) (by omega) (by omega) (by omega) (by omega)
    have e0 : svk x (sv x) z.toNat i (z.toNat - 1) 1 (1 + sv x (z.toNat - 1) (i + 1)) = sv x z.toNat i := by
      obtain ⟨q, hq⟩ : ∃ q : Nat, z.toNat = q + 1 := ⟨z.toNat - 1, by omega⟩
      rw [hq, sv_s, Nat.add_sub_cancel]
    rw [e0] at g
    have eu : ∀ b : Int, b ≠ 500 → mUp h 500 (18 * i + (i + z)) (sv x z.toNat i) b = h b := fun b hb => mUp_row hb
    have hk2 : mvK (mUp h 500 (18 * i + (i + z)) (sv x z.toNat i)) x n z (i + 1) := ⟨fun a a0 a1 => by rw [eu 499 (by decide)]; exact hk.1 a a0 a1, fun a e a0 a1 a2 a3 => by
      by_cases q : a = i ∧ e = i + z
      · rw [q.1, q.2, mUp_s, show i + z - i = z by omega]
      · rw [mUp_n (Or.inr (by omega))]; exact hk.2 a e a0 a1 a2 (by omega)⟩
    obtain ⟨h', y1, y2, y3⟩ := ih (i + 1) _ (MH_fr hH (fun j _ => by rw [eu 483 (by decide)])) (by omega) (by omega) hk2
    have fin : mF w 483 13 none (mAw w (h 483 37) (mI (mI (18 * i) + (i + z))) none (l_M_strokes_2 (mm_P d) 483 r p n 18 z (mI (i + 1)) w (mUp h (h 483 37) (mI (mI (18 * i) + (i + z))) (sv x z.toNat i)))) = some (.inr (243, [(2, 483), (0, r), (0, p), (0, n), (0, 18), (0, z), (0, n - z + 1), (9, 0), (9, 0), (9, 0)], w, h')) := by
      rw [mF_t hw, MH_37 hH, mI_id (x := 18 * i) (by omega) (by omega), mI_id (x := 18 * i + (i + z)) (by omega) (by omega), mAw_t (MW_500 hW) (by omega) (by omega) (by decide), mI_id (x := i + 1) (by omega) (by omega), y1]
    refine ⟨h', ?_, fun b hb => by rw [y2 b hb, eu b hb], y3⟩
    rw [l_M_strokes_2_eq, mI_id (x := i + z) (by omega) (by omega), mLt_f (by omega)]
    try dsimp only
    by_cases c : z = 1
    · have e1 : sv x (z.toNat - 1) (i + 1) = 0 := by rw [show z.toNat - 1 = 0 by omega, sv_0]
      rw [e1] at g
      rw [mEq_t c, mI_id (x := i + 1) (by omega) (by omega), mI_id (x := 1 + 0) (by decide) (by decide), g, mK_r, if_pos rfl]
      simp only [mP_0, mP_1, mP_2, mP_3, mP_4, mP_5, mP_6, mP_7, mP_8]
      exact fin
    · have t := hk.2 (i + 1) (i + z) (by omega) (by omega) (by omega) (Or.inl (by omega))
      rw [show (i + z - (i + 1)).toNat = z.toNat - 1 by omega] at t
      rw [mEq_f c, mF_t hw, MH_37 hH, mI_id (x := i + 1) (by omega) (by omega), mI_id (x := 18 * (i + 1)) (by omega) (by omega), mI_id (x := 18 * (i + 1) + (i + z)) (by omega) (by omega), mA_t (MW_500 hW) (by omega) (by omega), t]
      try dsimp only
      rw [mI_id (x := 1 + sv x (z.toNat - 1) (i + 1)) (by omega) (by omega), g, mK_r, if_pos rfl]
      simp only [mP_0, mP_1, mP_2, mP_3, mP_4, mP_5, mP_6, mP_7, mP_8]
      exact fin
theorem L_ms1 (hW : MW w) {x : Int → Int} {n r p : Int} (hn : 1 ≤ n ∧ n ≤ 17) : ∀ (m : Nat) (z : Int) (h : mm_H), MH h → 1 ≤ z → z + m = n + 1 → mvK h x n z 0 → ∃ h', l_M_strokes_1 (mm_P d) 483 r p n 18 z w h = some (.inr (249, [(2, 483), (0, r), (0, p), (0, n), (0, 18), (0, n + 1), (9, 0), (9, 0), (9, 0), (9, 0)], w, h')) ∧ (∀ b : Int, b ≠ 500 → h' b = h b) ∧ mvK h' x n (n + 1) 0 := by
  intro m
  induction m with
  | zero =>
    intro z h hH z1 hm hk
    have e : z = n + 1 := by omega
    subst e
    rw [l_M_strokes_1_eq, mLt_t (by omega)]
    exact ⟨h, rfl, fun _ _ => rfl, hk⟩
  | succ m ih =>
    intro z h hH z1 hm hk
    obtain ⟨h1, x1, x2, x3⟩ := L_ms2 (d := d) (r := r) (p := p) hW hn (z := z) (by omega) (n - z + 1).toNat 0 h hH (Int.le_refl _) (by omega) hk
    obtain ⟨h', y1, y2, y3⟩ := ih (z + 1) h1 (MH_fr hH (fun j _ => by rw [x2 483 (by decide)])) (by omega) (by omega) ⟨x3.1, fun a e a0 a1 a2 a3 => x3.2 a e a0 a1 a2 (by omega)⟩
    rw [l_M_strokes_1_eq, mLt_f (by omega), x1, mK_r, if_pos rfl]
    simp only [mP_0, mP_1, mP_2, mP_3, mP_4, mP_5]
    rw [mI_id (x := z + 1) (by omega) (by omega), y1]
    exact ⟨h', rfl, fun b hb => by rw [y2 b hb, x2 b hb], y3⟩
theorem E_M_strokes (hd : 30 ≤ d) (hT : QT w h A) (r p : Int) : ∃ h', mm_P d 312 [(2, 483), (0, r), (0, p)] w h = some ((0, fStrokes A r p), w, h') ∧ QT w h' A ∧ MN h h' := by
  obtain ⟨d, rfl, hd2⟩ := mm_dS (show 29 + 1 ≤ d by omega)
  have hw : (w.1 483).1 = 13 := by rw [hT.1.1]
  have hI := QT_I hT
  have i1 := hI.1; have i2 := hI.2.1
  unfold fStrokes
  rw [P_M_strokes, mF_t hw, hT.2.1.1, mA_t hT.1.2.1 (by omega) (by omega), hT.2.2.2.1.1.1, mI_id (x := aHi (gNow A) - 1) (by omega) (by omega), E_M_in (by omega), mC_s]
  by_cases c1 : 0 ≤ r ∧ r < aHi (gNow A)
  rotate_left
  · rw [bI_f (by omega), mEq_t rfl, iC_f (fun x => c1 x.1)]
    exact ⟨h, rfl, hT, MN_rf h⟩
  rw [bI_t (by omega), mEq_f (by decide), E_M_isProperty (by omega), mC_s]
  by_cases c2 : 0 ≤ p ∧ p < 4
  rotate_left
  · rw [bI_f c2, mEq_t rfl, iC_f (fun x => c2 x.2)]
    exact ⟨h, rfl, hT, MN_rf h⟩
  rw [bI_t c2, mEq_f (by decide), mF_t hw, hT.2.1.1, mA_t hT.1.2.1 (by omega) (by omega), hT.2.2.2.1.1.2.1]
  try dsimp only
  rw [mF_t hw, MH_36 hT.2.1, mAw_t (MW_499 hT.1) (by decide) (by decide) (by decide), mI_id (x := aWi (gNow A) + 1) (by omega) (by omega)]
  have eu : ∀ b : Int, b ≠ 499 → mUp h 499 0 (-1) b = h b := fun b hb => mUp_row hb
  obtain ⟨h1, x1, x2, x3⟩ := L_mst0 (d := d) (by omega) hT.1 hI c2 c1 (aWi (gNow A)).toNat 1 (mUp h 499 0 (-1)) (MH_fr hT.2.1 (fun j _ => by rw [eu 483 (by decide)])) (by rw [eu 484 (by decide)]; exact hT.2.2.2.1) (Int.le_refl _) (by omega) (fun a a0 a1 => by rw [show a = 0 by omega, mUp_s]; rfl)
  have H1 : MH h1 := MH_fr hT.2.1 (fun j _ => by rw [x2 483 (by decide), eu 483 (by decide)])
  obtain ⟨h2, y1, y2, y3⟩ := L_ms1 (d := d) (x := edg (aCel (gNow A) p) r) (r := r) (p := p) hT.1 (n := aWi (gNow A) + 1) (by omega) (aWi (gNow A) + 1).toNat 1 h1 H1 (Int.le_refl _) (by omega) ⟨x3, fun a e a0 a1 a2 a3 => by omega⟩
  have H2 : MH h2 := MH_fr H1 (fun j _ => by rw [y2 483 (by decide)])
  have t := y3.2 0 (aWi (gNow A) + 1) (Int.le_refl _) (by omega) (Int.le_refl _) (Or.inl (by omega))
  have b := sv_i (x := edg (aCel (gNow A) p) r) (aWi (gNow A) + 1).toNat 0
  rw [show 18 * 0 + (aWi (gNow A) + 1) = aWi (gNow A) + 1 by omega, show (aWi (gNow A) + 1 - 0).toNat = (aWi (gNow A) + 1).toNat by omega] at t
  rw [x1, mK_r, if_pos rfl]
  simp only [mP_0, mP_1, mP_2, mP_3, mP_4, mP_5]
  rw [y1, mK_r, if_pos rfl]
  simp only [mP_0, mP_1, mP_2, mP_3, mP_4, mP_5]
  rw [mF_t hw, MH_37 H2, mA_t (MW_500 hT.1) (by omega) (by omega), t, mI_id (by omega) (by omega), iC_t ⟨c1, c2⟩]
  have e : ∀ q : Int, q ≠ 499 → q ≠ 500 → h2 q = h q := fun q q1 q2 => by rw [y2 q q2, x2 q q1, eu q q1]
  have o : QM h h2 := ⟨fun q hq => e q (by unfold qRow at hq; omega) (by unfold qRow at hq; omega), fun i _ => by rw [e 483 (by decide) (by decide)]⟩
  refine ⟨h2, rfl, QT_QM hT o ?_, MN_QM o⟩
  have h3 := hT.2.2.2.2
  unfold mFr HCs HC at h3 ⊢
  rw [e 483 (by decide) (by decide), e 494 (by decide) (by decide)]
  exact h3
end PU
