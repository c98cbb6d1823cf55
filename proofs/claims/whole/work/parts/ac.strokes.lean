/-! PURE: the fewest strokes of a row: what they come to; the class. -/
section ST
variable {x : Int → Int}
/-- the best of the places where a stroke may go on -/
def svk (x : Int → Int) (T : Nat → Int → Int) (n : Nat) (i : Int) : Nat → Nat → Int → Int
  | 0, _, b => b
  | m + 1, k, b => svk x T n i m (k + 1) (if x (i + (k : Int)) = x i then mMin b (T (k - 1) (i + 1) + T (n - k) (i + (k : Int))) else b)
def svT (x : Int → Int) : Nat → Nat → Int → Int
  | 0 => fun _ _ => 0
  | N + 1 => fun n i => if n = N + 1 then svk x (svT x N) n i N 1 (1 + svT x N N (i + 1)) else svT x N n i
/-- the fewest strokes of n cells from i on -/
def sv (x : Int → Int) (n : Nat) (i : Int) : Int := svT x n n i
theorem svT_up (n : Nat) (i : Int) : ∀ k : Nat, svT x (n + k) n i = sv x n i := by
  intro k
  induction k with
  | zero => rfl
  | succ k ih =>
    show (if n = n + k + 1 then svk x (svT x (n + k)) n i (n + k) 1 (1 + svT x (n + k) (n + k) (i + 1)) else svT x (n + k) n i) = _
    rw [if_neg (by omega), ih]
theorem sv_0 (i : Int) : sv x 0 i = 0 := rfl
theorem svk_T {n : Nat} {i : Int} : ∀ (m k : Nat) (b : Int), 1 ≤ k → k + m = n + 1 → svk x (svT x n) (n + 1) i m k b = svk x (sv x) (n + 1) i m k b := by
  intro m
  induction m with
  | zero => intro k b _ _; rfl
  | succ m ih =>
    intro k b hk hm
    have e1 : svT x n (k - 1) (i + 1) = sv x (k - 1) (i + 1) := by
      have := svT_up (x := x) (k - 1) (i + 1) (n - (k - 1))
      rw [show k - 1 + (n - (k - 1)) = n by omega] at this
      exact this
    have e2 : svT x n (n + 1 - k) (i + (k : Int)) = sv x (n + 1 - k) (i + (k : Int)) := by
      have := svT_up (x := x) (n + 1 - k) (i + (k : Int)) (n - (n + 1 - k))
      rw [show n + 1 - k + (n - (n + 1 - k)) = n by omega] at this
      exact this
    show svk x (svT x n) (n + 1) i m (k + 1) (if x (i + (k : Int)) = x i then mMin b (svT x n (k - 1) (i + 1) + svT x n (n + 1 - k) (i + (k : Int))) else b) = svk x (sv x) (n + 1) i m (k + 1) (if x (i + (k : Int)) = x i then mMin b (sv x (k - 1) (i + 1) + sv x (n + 1 - k) (i + (k : Int))) else b)
    rw [e1, e2]
    exact ih (k + 1) _ (by omega) (by omega)
theorem sv_s (n : Nat) (i : Int) : sv x (n + 1) i = svk x (sv x) (n + 1) i n 1 (1 + sv x n (i + 1)) := by
  rw [← svk_T n 1 _ (Nat.le_refl _) (by omega)]
  show (if n + 1 = n + 1 then svk x (svT x n) (n + 1) i n 1 (1 + svT x n n (i + 1)) else svT x n (n + 1) i) = _
  rw [if_pos rfl]
  rfl
theorem mMin_in {a b : Int} : (mMin a b = a ∨ mMin a b = b) ∧ mMin a b ≤ a := by unfold mMin; split <;> omega
theorem svk_in {T : Nat → Int → Int} {n : Nat} {i : Int} (hT : ∀ (q : Nat) (j : Int), q < n → 0 ≤ T q j) : ∀ (m k : Nat) (b : Int), 1 ≤ k → k + m ≤ n → 0 ≤ b → 0 ≤ svk x T n i m k b ∧ svk x T n i m k b ≤ b := by
  intro m
  induction m with
  | zero => intro k b _ _ hb; exact ⟨hb, Int.le_refl _⟩
  | succ m ih =>
    intro k b hk hm hb
    have t1 := hT (k - 1) (i + 1) (by omega)
    have t2 := hT (n - k) (i + (k : Int)) (by omega)
    have q := mMin_in (a := b) (b := T (k - 1) (i + 1) + T (n - k) (i + (k : Int)))
    have g := ih (k + 1) (if x (i + (k : Int)) = x i then mMin b (T (k - 1) (i + 1) + T (n - k) (i + (k : Int))) else b) (by omega) (by omega) (by split <;> omega)
    refine ⟨g.1, Int.le_trans g.2 ?_⟩
    split <;> omega
theorem sv_in : ∀ (N n : Nat) (i : Int), n ≤ N → 0 ≤ sv x n i ∧ sv x n i ≤ n := by
  intro N
  induction N with
  | zero => intro n i h; rw [show n = 0 by omega, sv_0]; exact ⟨Int.le_refl _, Int.le_refl _⟩
  | succ N ih =>
    intro n i h
    cases n with
    | zero => rw [sv_0]; exact ⟨Int.le_refl _, Int.le_refl _⟩
    | succ n =>
      rw [sv_s]
      have b := ih n (i + 1) (by omega)
      have g := svk_in (x := x) (T := sv x) (n := n + 1) (i := i) (fun q j hq => (ih q j (by omega)).1) n 1 (1 + sv x n (i + 1)) (Nat.le_refl _) (by omega) (by omega)
      omega
theorem sv_i (n : Nat) (i : Int) : 0 ≤ sv x n i ∧ sv x n i ≤ n := sv_in n n i (Nat.le_refl _)
end ST
/-- a row with a cell of nothing ahead of it -/
def edg (f : Int → Int → Int) (r : Int) : Int → Int := fun a => if a = 0 then -1 else f r (a - 1)
section PU
variable {d : Nat} {w : mm_W} {h : mm_H} {A : aG} {s : aS} {f : Int → Int → Int} {wi hi : Int}
theorem E_withEdge (hd : 3 ≤ d) (hW : VcW w) (hc : VcH h) (hl : LY h f wi hi) (hs : hi ≤ 16 ∧ wi ≤ 16) {r a : Int} (hr : 0 ≤ r ∧ r < hi) (ha : 0 ≤ a ∧ a ≤ wi) : mm_P d 27 [(2, 452), (0, r), (0, a)] w h = some ((0, edg f r a), w, h) := by
  obtain ⟨d, rfl, hd2⟩ := mm_dS hd; clear hd; have hd := hd2; clear hd2
  unfold edg
  rw [P_Cv_withEdge]
  by_cases c : a = 0
  · rw [mEq_t c, if_pos c]
  · rw [mEq_f c, if_neg c, mF_t (VcW_4 hW), mI_id (x := a - 1) (by omega) (by omega), E_fAt hd hW hc hl hs hr (by omega), mC_s]
theorem E_leastOf (hd : 2 ≤ d) (hW : VcW w) (hc : VcH h) {x : Int → Int} {a b : Int} (ha : 0 ≤ a ∧ a ≤ 17) (hb : b ≤ 16) (ht : a ≤ b → h 460 (17 * a + b) = sv x (b - a + 1).toNat a) : mm_P d 28 [(2, 452), (0, a), (0, b)] w h = some ((0, sv x (b - a + 1).toNat a), w, h) := by
  obtain ⟨d, rfl, hd2⟩ := mm_dS hd; clear hd; have hd := hd2; clear hd2
  rw [P_Cv_leastOf]
  by_cases c : a ≤ b
  · rw [mLe_t c, mF_t (VcW_4 hW), hc 7 (by decide) (by decide), mI_id (x := a * 17) (by omega) (by omega), mI_id (x := a * 17 + b) (by omega) (by omega), show (453 : Int) + 7 = 460 by decide, E_peek_t hd hW.2.2 (by omega) (by omega), mC_s, show a * 17 + b = 17 * a + b by omega, ht c]
  · rw [mLe_f (by omega), show (b - a + 1).toNat = 0 by omega, sv_0]
/-- what is known of the stretches: all behind F, those of F shorter than to L -/
def svK (h : mm_H) (x : Int → Int) (wi F L : Int) : Prop := (∀ a b : Int, F < a → a ≤ b → b ≤ wi → h 460 (17 * a + b) = sv x (b - a + 1).toNat a) ∧ ∀ b : Int, F ≤ b → b < L → h 460 (17 * F + b) = sv x (b - F + 1).toNat F
theorem L_fs2 (hd : 3 ≤ d) (hW : VcW w) (hc : VcH h) (hl : LY h f wi hi) (hs : hi ≤ 16 ∧ wi ≤ 16) {r F L : Int} (hr : 0 ≤ r ∧ r < hi) (hF : 0 ≤ F ∧ F ≤ L ∧ L ≤ wi) (hk : svK h (edg f r) wi F L) : ∀ (m kk : Nat) (k b : Int), 1 ≤ kk → k = F + kk → k + m = L + 1 → 0 ≤ b → b ≤ 100 → l_Cv_fewestStrokes_2 (mm_P d) 452 r F L b k w h = some (.inr (90, [(2, 452), (0, r), (0, F), (0, L), (0, svk (edg f r) (sv (edg f r)) (L - F + 1).toNat F m kk b), (0, L + 1)], w, h)) := by
  have w4 := VcW_4 hW
  intro m
  induction m with
  | zero =>
    intro kk k b h1 h2 h3 h4 h5
    rw [l_Cv_fewestStrokes_2_eq, mLt_t (by omega), show k = L + 1 by omega]
    rfl
  | succ m ih =>
    intro kk k b h1 h2 h3 h4 h5
    have u : svk (edg f r) (sv (edg f r)) (L - F + 1).toNat F (m + 1) kk b = svk (edg f r) (sv (edg f r)) (L - F + 1).toNat F m (kk + 1) (if edg f r (F + (kk : Int)) = edg f r F then mMin b (sv (edg f r) (kk - 1) (F + 1) + sv (edg f r) ((L - F + 1).toNat - kk) (F + (kk : Int))) else b) := rfl
    rw [l_Cv_fewestStrokes_2_eq, mLt_f (by omega), mF_t w4, E_withEdge (by omega) hW hc hl hs hr (a := k) (by omega), mC_s, mF_t w4, E_withEdge (by omega) hW hc hl hs hr (a := F) (by omega), mC_s, u, ← h2]
    by_cases q : edg f r k = edg f r F
    · have v1 := sv_i (x := edg f r) (kk - 1) (F + 1)
      have v2 := sv_i (x := edg f r) ((L - F + 1).toNat - kk) k
      have q2 := mMin_in (a := b) (b := sv (edg f r) (kk - 1) (F + 1) + sv (edg f r) ((L - F + 1).toNat - kk) k)
      have l1 := E_leastOf (d := d) (h := h) (x := edg f r) (by omega) hW hc (a := F + 1) (b := k - 1) (by omega) (by omega) (fun z => hk.1 _ _ (by omega) z (by omega))
      have l2 := E_leastOf (d := d) (h := h) (x := edg f r) (by omega) hW hc (a := k) (b := L) (by omega) (by omega) (fun z => hk.1 _ _ (by omega) z (by omega))
      rw [show (k - 1 - (F + 1) + 1).toNat = kk - 1 by omega] at l1
      rw [show (L - k + 1).toNat = (L - F + 1).toNat - kk by omega] at l2
      rw [mEq_t q, if_pos q, mF_t w4, mI_id (x := F + 1) (by omega) (by omega), mI_id (x := k - 1) (by omega) (by omega), l1, mC_s, mF_t w4, l2, mC_s]
      try dsimp only
      rw [mI_id (x := sv (edg f r) (kk - 1) (F + 1) + sv (edg f r) ((L - F + 1).toNat - kk) k) (by omega) (by omega), mI_id (x := k + 1) (by omega) (by omega)]
      exact ih (kk + 1) (k + 1) _ (by omega) (by omega) (by omega) (by omega) (by omega)
    · rw [mEq_f q, if_neg q]
      try dsimp only
      rw [mI_id (x := k + 1) (by omega) (by omega)]
      exact ih (kk + 1) (k + 1) b (by omega) (by omega) (by omega) h4 h5
theorem L_fs1 (hd : 3 ≤ d) (hW : VcW w) (hs : hi ≤ 16 ∧ wi ≤ 16) {r F : Int} (hr : 0 ≤ r ∧ r < hi) (hF : 0 ≤ F ∧ F ≤ wi) : ∀ (m : Nat) (L : Int) (h : mm_H), VcH h → LY h f wi hi → F ≤ L → L + m = wi + 1 → svK h (edg f r) wi F L → ∃ h', l_Cv_fewestStrokes_1 (mm_P d) 452 r F L w h = some (.inr (111, [(2, 452), (0, r), (0, F), (0, wi + 1), (9, 0), (9, 0)], w, h')) ∧ (∀ o : Int, o ≠ 460 → h' o = h o) ∧ svK h' (edg f r) wi F (wi + 1) := by
  have w4 := VcW_4 hW
  intro m
  induction m with
  | zero =>
    intro L h hc hl h1 h2 hk
    have e : L = wi + 1 := by omega
    subst e
    rw [l_Cv_fewestStrokes_1_eq, mF_t w4, hl.1.2, mLt_t (by omega)]
    exact ⟨h, rfl, fun _ _ => rfl, hk⟩
  | succ m ih =>
    intro L h hc hl h1 h2 hk
    have l1 := E_leastOf (d := d) (h := h) (x := edg f r) (by omega) hW hc (a := F + 1) (b := L) (by omega) (by omega) (fun z => hk.1 _ _ (by omega) z (by omega))
    have b1 := sv_i (x := edg f r) (L - (F + 1) + 1).toNat (F + 1)
    have g := L_fs2 (d := d) hd hW hc hl hs hr (F := F) (L := L) ⟨hF.1, h1, by omega⟩ hk (L - F).toNat 1 (F + 1) (1 + sv (edg f r) (L - (F + 1) + 1).toNat (F + 1)) (Nat.le_refl _) (by omega) (by omega) (by omega) (by omega)
    have e0 : svk (edg f r) (sv (edg f r)) (L - F + 1).toNat F (L - F).toNat 1 (1 + sv (edg f r) (L - (F + 1) + 1).toNat (F + 1)) = sv (edg f r) (L - F + 1).toNat F := by
      rw [show (L - F + 1).toNat = (L - F).toNat + 1 by omega, sv_s, show (L - (F + 1) + 1).toNat = (L - F).toNat by omega]
    rw [e0] at g
    have hk2 : svK (mUp h 460 (F * 17 + L) (sv (edg f r) (L - F + 1).toNat F)) (edg f r) wi F (L + 1) := ⟨fun a b a0 a1 a2 => by rw [mUp_n (Or.inr (by omega))]; exact hk.1 a b a0 a1 a2, fun b b0 b1 => by
      by_cases q : b = L
      · rw [q, show 17 * F + L = F * 17 + L by omega, mUp_s]
      · rw [mUp_n (Or.inr (by omega))]; exact hk.2 b b0 (by omega)⟩
    obtain ⟨h', y1, y2, y3⟩ := ih (L + 1) (mUp h 460 (F * 17 + L) (sv (edg f r) (L - F + 1).toNat F)) (VcH_up hc (by decide)) ⟨by rw [mUp_row (by decide)]; exact hl.1, fun a b a0 a1 b0 b1 => by rw [mUp_row (by decide)]; exact hl.2 a b a0 a1 b0 b1⟩ (by omega) (by omega) hk2
    rw [l_Cv_fewestStrokes_1_eq, mF_t w4, hl.1.2, mLt_f (by omega), mF_t w4, mI_id (x := F + 1) (by omega) (by omega), l1, mC_s]
    try dsimp only
    rw [mI_id (x := 1 + sv (edg f r) (L - (F + 1) + 1).toNat (F + 1)) (by omega) (by omega), g, mK_r, if_pos rfl]
    simp only [mP_0, mP_1, mP_2, mP_3, mP_4]
    rw [mF_t w4, hc 7 (by decide) (by decide), mI_id (x := F * 17) (by omega) (by omega), mI_id (x := F * 17 + L) (by omega) (by omega), show (453 : Int) + 7 = 460 by decide, E_poke_t (by omega) hW.2.2 (by decide) (by omega) (by omega), mC_s]
    try dsimp only
    rw [mI_id (x := L + 1) (by omega) (by omega), y1]
    exact ⟨h', rfl, fun o ho => by rw [y2 o ho, mUp_row ho], y3⟩
theorem L_fs0 (hd : 3 ≤ d) (hW : VcW w) (hs : hi ≤ 16 ∧ wi ≤ 16) {r : Int} (hr : 0 ≤ r ∧ r < hi) : ∀ (m : Nat) (F : Int) (h : mm_H), VcH h → LY h f wi hi → F + 1 = m → F ≤ wi → (∀ a b : Int, F < a → a ≤ b → b ≤ wi → h 460 (17 * a + b) = sv (edg f r) (b - a + 1).toNat a) → ∃ h', l_Cv_fewestStrokes_0 (mm_P d) 452 r F w h = some (.inr (117, [(2, 452), (0, r), (0, -1), (9, 0), (9, 0), (9, 0)], w, h')) ∧ (∀ o : Int, o ≠ 460 → h' o = h o) ∧ ∀ a b : Int, 0 ≤ a → a ≤ b → b ≤ wi → h' 460 (17 * a + b) = sv (edg f r) (b - a + 1).toNat a := by
  have w4 := VcW_4 hW
  intro m
  induction m with
  | zero =>
    intro F h hc hl h1 h2 hk
    have e : F = -1 := by omega
    subst e
    rw [l_Cv_fewestStrokes_0_eq, mLt_t (by omega)]
    exact ⟨h, rfl, fun _ _ => rfl, fun a b a0 a1 a2 => hk a b (by omega) a1 a2⟩
  | succ m ih =>
    intro F h hc hl h1 h2 hk
    obtain ⟨h1', x1, x2, x3⟩ := L_fs1 (d := d) hd hW hs hr (F := F) ⟨by omega, h2⟩ (wi + 1 - F).toNat F h hc hl (Int.le_refl _) (by omega) ⟨hk, fun b b0 b1 => by omega⟩
    obtain ⟨h', y1, y2, y3⟩ := ih (F - 1) h1' (fun j j0 j1 => by rw [x2 452 (by decide)]; exact hc j j0 j1) ⟨by rw [x2 452 (by decide)]; exact hl.1, fun a b a0 a1 b0 b1 => by rw [x2 459 (by decide)]; exact hl.2 a b a0 a1 b0 b1⟩ (by omega) (by omega) (fun a b a0 a1 a2 => by
      by_cases q : a = F
      · rw [q]; exact x3.2 b (by omega) (by omega)
      · exact x3.1 a b (by omega) a1 a2)
    rw [l_Cv_fewestStrokes_0_eq, mLt_f (by omega), x1, mK_r, if_pos rfl]
    simp only [mP_0, mP_1, mP_2]
    rw [mI_id (x := F + (-1)) (by omega) (by omega), show F + (-1) = F - 1 by omega, y1]
    exact ⟨h', rfl, fun o ho => by rw [y2 o ho, x2 o ho], y3⟩
theorem E_fewest (hd : 4 ≤ d) (hW : VcW w) (hc : VcH h) (hl : LY h f wi hi) (hs : hi ≤ 16 ∧ 1 ≤ wi ∧ wi ≤ 16) {r : Int} (hr : 0 ≤ r ∧ r < hi) : ∃ h', mm_P d 26 [(2, 452), (0, r)] w h = some ((0, sv (edg f r) (wi + 1).toNat 0 - 1), w, h') ∧ VQ h h' := by
  obtain ⟨d, rfl, hd2⟩ := mm_dS hd; clear hd; have hd := hd2; clear hd2
  have w4 := VcW_4 hW
  obtain ⟨h', y1, y2, y3⟩ := L_fs0 (d := d) (by omega) hW ⟨hs.1, hs.2.2⟩ hr (wi + 1).toNat wi h hc hl (by omega) (Int.le_refl _) (fun a b a0 a1 a2 => by omega)
  have hc' : VcH h' := fun j j0 j1 => by rw [y2 452 (by decide)]; exact hc j j0 j1
  have e10 : h' 452 10 = wi := by rw [y2 452 (by decide)]; exact hl.1.2
  have b := sv_i (x := edg f r) (wi + 1).toNat 0
  have l := E_leastOf (d := d) (h := h') (x := edg f r) (by omega) hW hc' (a := 0) (b := wi) (by omega) (by omega) (fun z => y3 _ _ (by omega) z (by omega))
  rw [show (wi - 0 + 1).toNat = (wi + 1).toNat by omega] at l
  rw [P_Cv_fewestStrokes, mF_t w4, hl.1.2]
  try dsimp only
  rw [y1, mK_r, if_pos rfl]
  simp only [mP_0]
  rw [mF_t w4, mF_t w4, e10, l, mC_s, mI_id (by omega) (by omega)]
  exact ⟨h', rfl, fun o ho => y2 o (by omega), fun i _ => by rw [y2 452 (by decide)]⟩
noncomputable def fStrokes (A : aG) (r p : Int) : Int := iC ((0 ≤ r ∧ r < aHi (gNow A)) ∧ 0 ≤ p ∧ p < 4) (sv (edg (aCel (gNow A) p) r) (aWi (gNow A) + 1).toNat 0 - 1) (-2)
theorem E_F_strokes (hd : 30 ≤ d) (hQ : QS w h A) (r p : Int) : ∃ h', mm_P d 176 [(2, 1), (0, r), (0, p)] w h = some ((0, fStrokes A r p), w, h') ∧ QS w h' A ∧ CN h h' := by
  obtain ⟨d, rfl, hd2⟩ := mm_dS (show 29 + 1 ≤ d by omega)
  obtain ⟨n1, n2, n3⟩ := Q_now hQ
  have hW := hQ.1
  have hK := hQ.2.1
  have w1 : (w.1 1).1 = 12 := by rw [hW.1.1]
  have w4 := VcW_4 (WK_Vc hW)
  have wS : (w.1 (gAt (h 2 2) (gD A))).1 = 9 := by rw [n1.2.1]
  have i1 := n3.1; have i2 := n3.2.1
  unfold fStrokes
  rw [P_F_strokes]
  by_cases c0 : 0 ≤ r
  rotate_left
  · rw [mLt_t (by omega), iC_f (fun x => c0 x.1.1)]
    exact ⟨h, rfl, hQ, CN_rf h⟩
  rw [mLt_f c0, mF_t w1, E_now (by omega) hW hK hQ.2.2.1, mC_s, mF_t wS, n2.2.1.1]
  by_cases c1 : r < aHi (gNow A)
  rotate_left
  · rw [mLe_t (by omega), iC_f (fun x => c1 x.1.2)]
    exact ⟨h, rfl, hQ, CN_rf h⟩
  rw [mLe_f c1, E_isProperty (by omega), mC_s]
  by_cases c2 : 0 ≤ p ∧ p < 4
  rotate_left
  · rw [bI_f c2, mEq_t rfl, iC_f (fun x => c2 x.2)]
    exact ⟨h, rfl, hQ, CN_rf h⟩
  obtain ⟨h1, x1, x2, x3⟩ := E_copyLayer (d := d) (by omega) (WK_Vc hW) (HK_Vc hK) (gAt_ok (base := h 2 2) (k := gD A)) n1 n3 n2 c2
  have k1 : h1 1 6 = 452 := by rw [x2.1 1 (by decide)]; exact HK_16 hK
  obtain ⟨h2, y1, y2⟩ := E_fewest (d := d) (by omega) (WK_Vc hW) (VQ_H x2 (HK_Vc hK)) x3 ⟨i1.2, i2.1, i2.2⟩ (r := r) ⟨c0, c1⟩
  rw [bI_t c2, mEq_f (by decide), mF_t w1, mF_t w1, E_now (by omega) hW hK hQ.2.2.1, mC_s, HK_16 hK, mF_t w4, x1, mC_s, mF_t w1, k1, mF_t w4, y1, mC_s, iC_t ⟨⟨c0, c1⟩, c2⟩]
  exact ⟨h2, rfl, QS_cv hQ (VQ_tr x2 y2)⟩
end PU
