/-! PURE: the reference's cover. -/
section PU
variable {d : Nat} {w : mm_W} {h : mm_H} {s : aS} {A : aG} {p : Int}
theorem MH_31 (hH : MH h) : h 483 31 = 496 := hH.2.2.2.2.2.2.2.2.2.2.2.2.1
theorem MW_496 (hW : MW w) : w.1 496 = (50, 1280) := hW.2.2.2.2.2.2.2.2.2.2.2.2.2.1
theorem T_own (hd : 2 ≤ d) (hW : MW w) (hI : aI s) (hH : MH h) (hR : RM (h 484) s) (hp : 0 ≤ p ∧ p < 4) {i j : Int} (hi : 0 ≤ i ∧ i < aHi s) (hj : 0 ≤ j ∧ j < aWi s) : mm_P d 232 [(2, 483), (0, p), (0, i), (0, j)] w h = some ((0, aCel s p i j), w, h) := by
  have i1 := hI.1; have i2 := hI.2.1
  rw [E_M_own hd hW hH hp (by omega) (by omega), hR.2.2.1 p i j hp.1 hp.2 hi.1 hi.2 hj.1 hj.2]
theorem L_mir (hd : 2 ≤ d) (hW : MW w) (hI : aI s) (hH : MH h) (hR : RM (h 484) s) (hp : 0 ≤ p ∧ p < 4) {i a b v : Int} (hi : 0 ≤ i ∧ i < aHi s) (ha : 0 ≤ a) (hb : b < aWi s) : ∀ (m : Nat) (c : Int), a ≤ c → c + m = b + 1 → ((∀ j : Int, c ≤ j → j ≤ b → aCel s p i j = v) → l_M_isRun_0 (mm_P d) 483 p i a b v c w h = some (.inr (31, [(2, 483), (0, p), (0, i), (0, a), (0, b), (0, v), (0, b + 1)], w, h))) ∧ (¬ (∀ j : Int, c ≤ j → j ≤ b → aCel s p i j = v) → l_M_isRun_0 (mm_P d) 483 p i a b v c w h = some (.inl ((0, 0), w, h))) := by
  have hw : (w.1 483).1 = 13 := by rw [hW.1]
  have i2 := hI.2.1
  intro m
  induction m with
  | zero =>
    intro c hc hm
    rw [l_M_isRun_0_eq, mLt_t (by omega), show c = b + 1 by omega]
    exact ⟨fun _ => rfl, fun x => absurd (fun j j0 j1 => by omega) x⟩
  | succ m ih =>
    intro c hc hm
    obtain ⟨g1, g2⟩ := ih (c + 1) (by omega) (by omega)
    rw [l_M_isRun_0_eq, mLt_f (by omega), mF_t hw, T_own hd hW hI hH hR hp hi (j := c) (by omega), mC_s, mI_id (x := c + 1) (by omega) (by omega)]
    try dsimp only
    by_cases q : aCel s p i c = v
    · rw [mEq_t q]
      refine ⟨fun x => g1 (fun j j0 j1 => x j (by omega) j1), fun x => g2 (fun y => x (fun j j0 j1 => ?_))⟩
      by_cases e : j = c
      · rw [e]; exact q
      · exact y j (by omega) j1
    · rw [mEq_f q, mZ_0]
      exact ⟨fun x => absurd (x c (Int.le_refl _) (by omega)) q, fun _ => rfl⟩
theorem E_M_isRun (hd : 3 ≤ d) (hW : MW w) (hI : aI s) (hH : MH h) (hR : RM (h 484) s) (hp : 0 ≤ p ∧ p < 4) {i a b v : Int} (hi : 0 ≤ i ∧ i < aHi s) (hab : 0 ≤ a ∧ a ≤ b ∧ b < aWi s) : mm_P d 295 [(2, 483), (0, p), (0, i), (0, a), (0, b), (0, v)] w h = some ((0, bI (irn (aCel s p) (aWi s) i a b v)), w, h) := by
  obtain ⟨d, rfl, hd2⟩ := mm_dS hd; clear hd; have hd := hd2; clear hd2
  have hw : (w.1 483).1 = 13 := by rw [hW.1]
  have i1 := hI.1; have i2 := hI.2.1
  obtain ⟨g1, g2⟩ := L_mir hd hW hI hH hR hp (v := v) hi hab.1 hab.2.2 (b + 1 - a).toNat a (Int.le_refl _) (by omega)
  rw [P_M_isRun]
  by_cases q : ∀ j : Int, a ≤ j → j ≤ b → aCel s p i j = v
  rotate_left
  · rw [g2 q, mK_l, bI_f (fun x => q x.1)]
  rw [g1 q, mK_r, if_pos rfl]
  simp only [mP_0, mP_1, mP_2, mP_3, mP_4, mP_5]
  have rt : (mF w 483 13 none (mA w (h 483 0) 1 50 none (mEq b (mI ((h (h 483 0) 1) - 1)) (mZ 1 none (some ((0, 1), w, h))) (mF w 483 13 none (mC ((mm_P d) 232 [(2, 483), (0, p), (0, i), (0, mI (b + 1))] w h) 0 none (fun v5 w6 h7 => mEq v5 v (mZ 0 none (some ((0, 0), w6, h7))) (mZ 1 none (some ((0, 1), w6, h7))))))))) = some ((0, bI (b = aWi s - 1 ∨ aCel s p i (b + 1) ≠ v)), w, h) := by
    rw [mF_t hw, hH.1, mA_t hW.2.1 (by omega) (by omega), hR.1.2.1, mI_id (x := aWi s - 1) (by omega) (by omega), mZ_1]
    by_cases e : b = aWi s - 1
    · rw [mEq_t e, bI_t (Or.inl e)]
    · rw [mEq_f e, mF_t hw, mI_id (x := b + 1) (by omega) (by omega), T_own hd hW hI hH hR hp hi (j := b + 1) (by omega), mC_s, mZ_0, mZ_1]
      by_cases e2 : aCel s p i (b + 1) = v
      · rw [mEq_t e2, bI_f (fun x => x.elim e (fun y => y e2))]
      · rw [mEq_f e2, bI_t (Or.inr e2)]
  by_cases e : a = 0
  · rw [mEq_t e, rt]
    rw [bI_eq (P := b = aWi s - 1 ∨ aCel s p i (b + 1) ≠ v) (Q := irn (aCel s p) (aWi s) i a b v) ⟨fun x => ⟨q, Or.inl e, x⟩, fun x => x.2.2⟩]
  · rw [mEq_f e, mF_t hw, mI_id (x := a - 1) (by omega) (by omega), T_own hd hW hI hH hR hp hi (j := a - 1) (by omega), mC_s]
    by_cases e2 : aCel s p i (a - 1) = v
    · rw [mEq_t e2, mZ_0, bI_f (fun x => x.2.1.elim e (fun y => y e2))]
    · rw [mEq_f e2, rt]
      rw [bI_eq (P := b = aWi s - 1 ∨ aCel s p i (b + 1) ≠ v) (Q := irn (aCel s p) (aWi s) i a b v) ⟨fun x => ⟨q, Or.inr e2, x⟩, fun x => x.2.2⟩]
theorem L_mco3 (hd : 3 ≤ d) (hW : MW w) (hI : aI s) (hH : MH h) (hR : RM (h 484) s) (hp : 0 ≤ p ∧ p < 4) {i j b v : Int} : ∀ (m : Nat) (x : Int), 0 ≤ x → x + m = aHi s - 1 → isR (aCel s p) (aWi s) x j b → aCel s p x j = v → l_M_coversOf_3 (mm_P d) 483 p i b j v x w h = some (.inr (146, [(2, 483), (0, p), (0, i), (0, b), (0, j), (0, v), (0, dwn (aCel s p) (aWi s) (aHi s) x j)], w, h)) := by
  have hw : (w.1 483).1 = 13 := by rw [hW.1]
  have i1 := hI.1; have i2 := hI.2.1
  intro m
  induction m with
  | zero =>
    intro x x0 hm hRn hv
    rw [l_M_coversOf_3_eq, mF_t hw, hH.1, mA_t hW.2.1 (by omega) (by omega), hR.1.1, mI_id (x := x + 1) (by omega) (by omega), mLe_t (by omega), dwn_f (by omega) (fun y => by omega)]
  | succ m ih =>
    intro x x0 hm hRn hv
    have hb := (isR_bg hRn).2
    rw [l_M_coversOf_3_eq, mF_t hw, hH.1, mA_t hW.2.1 (by omega) (by omega), hR.1.1, mI_id (x := x + 1) (by omega) (by omega), mLe_f (by omega), mF_t hw, E_M_isRun hd hW hI hH hR hp (by omega) hRn.1, mC_s]
    by_cases q : irn (aCel s p) (aWi s) (x + 1) j b v
    · obtain ⟨y1, y2⟩ := irn_isR hRn.1 q
      rw [bI_t q, mEq_f (by decide)]
      try dsimp only
      rw [ih (x + 1) (by omega) (by omega) y1 y2, dwn_t (i := x) (by omega) (by rw [← hb, hv]; exact q)]
    · rw [bI_f q, mEq_t rfl, dwn_f (by omega) (fun y => q (by have := y.2; rw [← hb, hv] at this; exact this))]
theorem L_mco2 (hd : 2 ≤ d) (hW : MW w) (hI : aI s) (hH : MH h) (hR : RM (h 484) s) (hp : 0 ≤ p ∧ p < 4) {i j v : Int} (hi : 0 ≤ i ∧ i < aHi s) : ∀ (m : Nat) (x : Int), 0 ≤ x → x + m = aWi s - 1 → aCel s p i x = v → l_M_coversOf_2 (mm_P d) 483 p i x j v w h = some (.inr (78, [(2, 483), (0, p), (0, i), (0, reN (aCel s p) i m x), (0, j), (0, v), (9, 0)], w, h)) := by
  have hw : (w.1 483).1 = 13 := by rw [hW.1]
  have i1 := hI.1; have i2 := hI.2.1
  intro m
  induction m with
  | zero =>
    intro x x0 hm hv
    rw [l_M_coversOf_2_eq, mF_t hw, hH.1, mA_t hW.2.1 (by omega) (by omega), hR.1.2.1, mI_id (x := x + 1) (by omega) (by omega), mLe_t (by omega)]
    rfl
  | succ m ih =>
    intro x x0 hm hv
    rw [l_M_coversOf_2_eq, mF_t hw, hH.1, mA_t hW.2.1 (by omega) (by omega), hR.1.2.1, mI_id (x := x + 1) (by omega) (by omega), mLe_f (by omega), mF_t hw, T_own hd hW hI hH hR hp hi (j := x + 1) (by omega), mC_s]
    unfold reN
    by_cases q : aCel s p i (x + 1) = v
    · rw [mEq_t q, if_pos (by rw [q, hv])]
      try dsimp only
      rw [ih (x + 1) (by omega) (by omega) q]
    · rw [mEq_f q, if_neg (by rw [hv]; exact q)]
/-- the rectangles that start ahead of n are there -/
def CMs (h : mm_H) (s : aS) (p : Int) (n : Nat) : Prop := h 483 32 = cnQ (aCel s p) (aWi s) n ∧ ∀ q : Nat, q < n → stG (aCel s p) (aWi s) (q : Int) = 1 → ∀ e : Int, 0 ≤ e → e < 5 → h 496 (5 * cnQ (aCel s p) (aWi s) q + e) = cvD (aCel s p) (aWi s) (aHi s) q e
/-- only the cover has changed -/
def CQ (h h' : mm_H) : Prop := (∀ b : Int, b ≠ 483 → b ≠ 496 → h' b = h b) ∧ ∀ i : Int, i ≠ 32 → h' 483 i = h 483 i
theorem CQ_rf (h : mm_H) : CQ h h := ⟨fun _ _ _ => rfl, fun _ _ => rfl⟩
theorem CQ_tr {a b c : mm_H} (x : CQ a b) (y : CQ b c) : CQ a c := ⟨fun q h1 h2 => (y.1 q h1 h2).trans (x.1 q h1 h2), fun i a => (y.2 i a).trans (x.2 i a)⟩
theorem CQ_MH {h h' : mm_H} (o : CQ h h') (hM : MH h) : MH h' := MH_fr hM (fun i hi => o.2 i (by unfold mRef at hi; omega))
theorem CQ_RM {h h' : mm_H} (o : CQ h h') (hR : RM (h 484) s) : RM (h' 484) s := by rw [o.1 484 (by decide) (by decide)]; exact hR
theorem CQ_QM {h h' : mm_H} (o : CQ h h') : QM h h' := ⟨fun b hb => o.1 b hb.1 (by unfold qRow at hb; omega), fun i hi => o.2 i (by unfold qFd at hi; omega)⟩
theorem CMs_skip {n k : Nat} (hC : CMs h s p n) (hz : ∀ j : Nat, j < k → stG (aCel s p) (aWi s) ((n + j : Nat) : Int) = 0) : CMs h s p (n + k) := by
  refine ⟨by rw [cnQ_skip k hz]; exact hC.1, fun q hq hs => ?_⟩
  by_cases c : q < n
  · exact hC.2 q c hs
  · have := hz (q - n) (by omega)
    rw [show n + (q - n) = q by omega] at this
    omega
theorem run_zero {f : Int → Int → Int} {wi i j b : Int} {k : Nat} (hR : isR f wi i j b) (hi : 0 ≤ i) (hw : wi ≤ 16) (hk : (k : Int) = 16 * i + j) {x : Nat} (h1 : 1 ≤ x) (hx : (x : Int) ≤ b - j) : stG f wi ((k + x : Nat) : Int) = 0 := by
  have h0 := hR.1
  rw [show ((k + x : Nat) : Int) = 16 * i + (j + (x : Int)) by omega, stG_at (by omega)]
  refine bI_f (fun y => ?_)
  rcases y.2.2.1 with e | e
  · omega
  · exact e (by rw [hR.2.1 (j + (x : Int) - 1) (by omega) (by omega), hR.2.1 (j + (x : Int)) (by omega) (by omega)])
theorem L_mco1 (hd : 4 ≤ d) (hW : MW w) (hI : aI s) (hp : 0 ≤ p ∧ p < 4) {i : Int} (hi : 0 ≤ i ∧ i < aHi s) : ∀ (m : Nat) (j t : Int) (h : mm_H), MH h → RM (h 484) s → 0 ≤ j → j ≤ aWi s → aWi s - j ≤ m → (j < aWi s → bg (aCel s p) i j) → CMs h s p (16 * i + j).toNat → ∃ (h' : mm_H) (t' : Int), l_M_coversOf_1 (mm_P d) 483 p i t j w h = some (.inr (235, [(2, 483), (0, p), (0, i), (0, t'), (0, aWi s), (9, 0), (9, 0)], w, h')) ∧ CQ h h' ∧ CMs h' s p (16 * i + aWi s).toNat := by
  have hw : (w.1 483).1 = 13 := by rw [hW.1]
  have i1 := hI.1; have i2 := hI.2.1
  intro m
  induction m with
  | zero =>
    intro j t h hH hR j0 j1 hm hb hC
    have e : j = aWi s := by omega
    rw [l_M_coversOf_1_eq, mF_t hw, hH.1, mA_t hW.2.1 (by omega) (by omega), hR.1.2.1, mLe_t (by omega), e]
    rw [e] at hC
    exact ⟨h, t, rfl, CQ_rf h, hC⟩
  | succ m ih =>
    intro j t h hH hR j0 j1 hm hb hC
    by_cases cj : j = aWi s
    · rw [l_M_coversOf_1_eq, mF_t hw, hH.1, mA_t hW.2.1 (by omega) (by omega), hR.1.2.1, mLe_t (by omega), cj]
      rw [cj] at hC
      exact ⟨h, t, rfl, CQ_rf h, hC⟩
    have hj : 0 ≤ j ∧ j < aWi s := by omega
    have hRn := bg_isR (wi := aWi s) hj (hb hj.2)
    generalize hbb : re (aCel s p) (aWi s) i j = b at hRn
    have hbr := hRn.1
    have hC0 := hC
    obtain ⟨kN, hk⟩ : ∃ kN : Nat, (kN : Int) = 16 * i + j := ⟨(16 * i + j).toNat, by omega⟩
    rw [show (16 * i + j).toNat = kN by omega] at hC
    have hz : ∀ x : Nat, 1 ≤ x → (x : Int) ≤ b - j → stG (aCel s p) (aWi s) ((kN + x : Nat) : Int) = 0 := fun x x0 x1 => run_zero hRn hi.1 i2.2 hk x0 x1
    have hbnext : b + 1 < aWi s → bg (aCel s p) i (b + 1) := fun hlt => Or.inr (by
      rcases hRn.2.2.2 with e | e
      · omega
      · rw [show b + 1 - 1 = b by omega, hRn.2.1 b hbr.2.1 (Int.le_refl _)]
        exact fun x => e x.symm)
    have e2 : reN (aCel s p) i (aWi s - 1 - j).toNat j = b := hbb
    rw [l_M_coversOf_1_eq, mF_t hw, hH.1, mA_t hW.2.1 (by omega) (by omega), hR.1.2.1, mLe_f (by omega), mF_t hw, T_own (by omega) hW hI hH hR hp hi hj, mC_s, L_mco2 (by omega) hW hI hH hR hp hi (aWi s - 1 - j).toNat j j0 (by omega) rfl, e2, mK_r, if_pos rfl]
    simp only [mP_0, mP_1, mP_2, mP_3, mP_4, mP_5]
    have bl : -2147483648 ≤ b + 1 := by omega
    have bu : b + 1 < 2147483648 := by omega
    have sk0 : stG (aCel s p) (aWi s) (kN : Int) = 0 → ∃ (h' : mm_H) (t' : Int), l_M_coversOf_1 (mm_P d) 483 p i b (b + 1) w h = some (.inr (235, [(2, 483), (0, p), (0, i), (0, t'), (0, aWi s), (9, 0), (9, 0)], w, h')) ∧ CQ h h' ∧ CMs h' s p (16 * i + aWi s).toNat := fun z => by
      have c2 := CMs_skip (k := (b + 1 - j).toNat) hC (fun x hx => by
        cases x with
        | zero => exact z
        | succ x => exact hz (x + 1) (by omega) (by omega))
      exact ih (b + 1) b h hH hR (by omega) (by omega) (by omega) hbnext (by rw [show (16 * i + (b + 1)).toNat = kN + (b + 1 - j).toNat by omega]; exact c2)
    have st0 : stG (aCel s p) (aWi s) (kN : Int) = bI (j < aWi s ∧ St (aCel s p) (aWi s) i j) := by rw [hk]; exact stG_at (by omega)
    by_cases cv : aCel s p i j = -1
    · rw [mEq_t cv, mI_id bl bu]
      exact sk0 (by rw [st0]; exact bI_f (fun y => y.2.1 cv))
    rw [mEq_f cv]
    have dn3 : ∀ h : mm_H, MH h → RM (h 484) s → l_M_coversOf_3 (mm_P d) 483 p i b j (aCel s p i j) i w h = some (.inr (146, [(2, 483), (0, p), (0, i), (0, b), (0, j), (0, aCel s p i j), (0, dwn (aCel s p) (aWi s) (aHi s) i j)], w, h)) := fun h hH hR => L_mco3 (by omega) hW hI hH hR hp (aHi s - 1 - i).toNat i hi.1 (by omega) hRn rfl
    have kb := cnQ_in (f := aCel s p) (wi := aWi s) kN
    have hK : h 483 32 = cnQ (aCel s p) (aWi s) kN := hC.1
    -- the entry is written
    have wr : St (aCel s p) (aWi s) i j → ∃ (h' : mm_H) (t' : Int), l_M_coversOf_1 (mm_P d) 483 p i b (b + 1) w (mUp (mUp (mUp (mUp (mUp (mUp h 496 (5 * cnQ (aCel s p) (aWi s) kN) i) 496 (5 * cnQ (aCel s p) (aWi s) kN + 1) j) 496 (5 * cnQ (aCel s p) (aWi s) kN + 2) (dwn (aCel s p) (aWi s) (aHi s) i j)) 496 (5 * cnQ (aCel s p) (aWi s) kN + 3) b) 496 (5 * cnQ (aCel s p) (aWi s) kN + 4) (aCel s p i j)) 483 32 (cnQ (aCel s p) (aWi s) kN + 1)) = some (.inr (235, [(2, 483), (0, p), (0, i), (0, t'), (0, aWi s), (9, 0), (9, 0)], w, h')) ∧ CQ h h' ∧ CMs h' s p (16 * i + aWi s).toNat := fun hS => by
      have z1 : stG (aCel s p) (aWi s) (kN : Int) = 1 := by rw [st0]; exact bI_t ⟨hj.2, hS⟩
      have ek := cnQ_s (f := aCel s p) (wi := aWi s) kN
      generalize hKK : cnQ (aCel s p) (aWi s) kN = K at *
      generalize hg : mUp (mUp (mUp (mUp (mUp (mUp h 496 (5 * K) i) 496 (5 * K + 1) j) 496 (5 * K + 2) (dwn (aCel s p) (aWi s) (aHi s) i j)) 496 (5 * K + 3) b) 496 (5 * K + 4) (aCel s p i j)) 483 32 (K + 1) = h1
      have o1 : CQ h h1 := by
        rw [← hg]
        exact ⟨fun q h1 h2 => by rw [mUp_row h1, mUp_row h2, mUp_row h2, mUp_row h2, mUp_row h2, mUp_row h2], fun q hq => by rw [mUp_n (Or.inr hq), mUp_row (by decide), mUp_row (by decide), mUp_row (by decide), mUp_row (by decide), mUp_row (by decide)]⟩
      have r0 : ∀ q : Int, q < 5 * K → h1 496 q = h 496 q := fun q hq => by
        rw [← hg, mUp_row (by decide), mUp_n (Or.inr (by omega)), mUp_n (Or.inr (by omega)), mUp_n (Or.inr (by omega)), mUp_n (Or.inr (by omega)), mUp_n (Or.inr (by omega))]
      have n16 : (kN : Int) / 16 = i := by omega
      have m16 : (kN : Int) % 16 = j := by omega
      have rn : ∀ e : Int, 0 ≤ e → e < 5 → h1 496 (5 * K + e) = cvD (aCel s p) (aWi s) (aHi s) kN e := fun e e0 e1 => by
        unfold cvD
        rw [n16, m16, hbb, ← hg, mUp_row (by decide)]
        rcases (show e = 0 ∨ e = 1 ∨ e = 2 ∨ e = 3 ∨ e = 4 by omega) with rfl | rfl | rfl | rfl | rfl
        · rw [Int.add_zero, mUp_n (Or.inr (by omega)), mUp_n (Or.inr (by omega)), mUp_n (Or.inr (by omega)), mUp_n (Or.inr (by omega)), mUp_s]; rfl
        · rw [mUp_n (Or.inr (by omega)), mUp_n (Or.inr (by omega)), mUp_n (Or.inr (by omega)), mUp_s]; rfl
        · rw [mUp_n (Or.inr (by omega)), mUp_n (Or.inr (by omega)), mUp_s]; rfl
        · rw [mUp_n (Or.inr (by omega)), mUp_s]; rfl
        · rw [mUp_s]; rfl
      have C1 : CMs h1 s p (kN + 1) := by
        refine ⟨by rw [ek, z1, ← hg, mUp_s], fun q hq hs e e0 e1 => ?_⟩
        by_cases c : q = kN
        · rw [c, hKK]; exact rn e e0 e1
        · have lt := cnQ_lt (f := aCel s p) (wi := aWi s) (show q < kN by omega) hs
          rw [r0 _ (by omega)]
          exact hC.2 q (by omega) hs e e0 e1
      have C2 := CMs_skip (k := (b - j).toNat) C1 (fun x hx => by
        have := hz (x + 1) (by omega) (by omega)
        rw [show kN + 1 + x = kN + (x + 1) by omega]
        exact this)
      obtain ⟨h2, t2, y1, y2, y3⟩ := ih (b + 1) b h1 (CQ_MH o1 hH) (CQ_RM o1 hR) (by omega) (by omega) (by omega) hbnext (by rw [show (16 * i + (b + 1)).toNat = kN + 1 + (b - j).toNat by omega]; exact C2)
      exact ⟨h2, t2, y1, CQ_tr o1 y2, y3⟩
    have u : ∀ (g : mm_H) (a z x : Int), mUp g 496 a z 483 x = g 483 x := fun g a z x => mUp_n (Or.inl (by decide))
    by_cases ci : i ≤ 0
    · have hS : St (aCel s p) (aWi s) i j := ⟨cv, hb hj.2, fun x => by omega⟩
      rw [mLe_t ci]
      rw [dn3 h hH hR, mK_r, if_pos rfl]
      simp only [mP_0, mP_1, mP_2, mP_3, mP_4, mP_5, mP_6, mF_t hw, u, MH_31 hH, hK]
      rw [mI_id (x := 5 * cnQ (aCel s p) (aWi s) kN) (by omega) (by omega), mI_id (x := 5 * cnQ (aCel s p) (aWi s) kN + 1) (by omega) (by omega), mI_id (x := 5 * cnQ (aCel s p) (aWi s) kN + 2) (by omega) (by omega), mI_id (x := 5 * cnQ (aCel s p) (aWi s) kN + 3) (by omega) (by omega), mI_id (x := 5 * cnQ (aCel s p) (aWi s) kN + 4) (by omega) (by omega), mI_id (x := cnQ (aCel s p) (aWi s) kN + 1) (by omega) (by omega), mAw_t (MW_496 hW) (by omega) (by omega) (by decide), mAw_t (MW_496 hW) (by omega) (by omega) (by decide), mAw_t (MW_496 hW) (by omega) (by omega) (by decide), mAw_t (MW_496 hW) (by omega) (by omega) (by decide), mAw_t (MW_496 hW) (by omega) (by omega) (by decide), mI_id bl bu]
      exact wr hS
    rw [mLe_f (by omega), mF_t hw, mI_id (x := i - 1) (by omega) (by omega), E_M_isRun (by omega) hW hI hH hR hp (i := i - 1) (by omega) hbr, mC_s]
    by_cases cr : irn (aCel s p) (aWi s) (i - 1) j b (aCel s p i j)
    · rw [bI_t cr, mEq_f (by decide), mI_id bl bu]
      exact sk0 (by rw [st0]; exact bI_f (fun y => y.2.2.2 ⟨by omega, by rw [hbb]; exact cr⟩))
    · have hS : St (aCel s p) (aWi s) i j := ⟨cv, hb hj.2, fun x => cr (by have := x.2; rw [hbb] at this; exact this)⟩
      rw [bI_f cr, mEq_t rfl]
      rw [dn3 h hH hR, mK_r, if_pos rfl]
      simp only [mP_0, mP_1, mP_2, mP_3, mP_4, mP_5, mP_6, mF_t hw, u, MH_31 hH, hK]
      rw [mI_id (x := 5 * cnQ (aCel s p) (aWi s) kN) (by omega) (by omega), mI_id (x := 5 * cnQ (aCel s p) (aWi s) kN + 1) (by omega) (by omega), mI_id (x := 5 * cnQ (aCel s p) (aWi s) kN + 2) (by omega) (by omega), mI_id (x := 5 * cnQ (aCel s p) (aWi s) kN + 3) (by omega) (by omega), mI_id (x := 5 * cnQ (aCel s p) (aWi s) kN + 4) (by omega) (by omega), mI_id (x := cnQ (aCel s p) (aWi s) kN + 1) (by omega) (by omega), mAw_t (MW_496 hW) (by omega) (by omega) (by decide), mAw_t (MW_496 hW) (by omega) (by omega) (by decide), mAw_t (MW_496 hW) (by omega) (by omega) (by decide), mAw_t (MW_496 hW) (by omega) (by omega) (by decide), mAw_t (MW_496 hW) (by omega) (by omega) (by decide), mI_id bl bu]
      exact wr hS
theorem L_mco0 (hd : 4 ≤ d) (hW : MW w) (hI : aI s) (hp : 0 ≤ p ∧ p < 4) : ∀ (m : Nat) (i : Int) (h : mm_H), MH h → RM (h 484) s → 0 ≤ i → i + m = aHi s → CMs h s p (16 * i).toNat → ∃ h', l_M_coversOf_0 (mm_P d) 483 p i w h = some (.inr (241, [(2, 483), (0, p), (0, aHi s), (9, 0), (9, 0), (9, 0), (9, 0)], w, h')) ∧ CQ h h' ∧ CMs h' s p (16 * aHi s).toNat := by
  have hw : (w.1 483).1 = 13 := by rw [hW.1]
  have i1 := hI.1; have i2 := hI.2.1
  intro m
  induction m with
  | zero =>
    intro i h hH hR i0 hm hC
    have e : i = aHi s := by omega
    rw [l_M_coversOf_0_eq, mF_t hw, hH.1, mA_t hW.2.1 (by omega) (by omega), hR.1.1, mLe_t (by omega), e]
    rw [e] at hC
    exact ⟨h, rfl, CQ_rf h, hC⟩
  | succ m ih =>
    intro i h hH hR i0 hm hC
    obtain ⟨h1, t1, x1, x2, x3⟩ := L_mco1 hd hW hI hp (i := i) (by omega) (aWi s).toNat 0 0 h hH hR (Int.le_refl _) (by omega) (by omega) (fun _ => Or.inl rfl) (by rw [Int.add_zero]; exact hC)
    have c2 := CMs_skip (k := (16 - aWi s).toNat) x3 (fun x hx => by
      rw [show (((16 * i + aWi s).toNat + x : Nat) : Int) = 16 * i + (aWi s + (x : Int)) by omega, stG_at (by omega)]
      exact bI_f (fun y => by omega))
    rw [l_M_coversOf_0_eq, mF_t hw, hH.1, mA_t hW.2.1 (by omega) (by omega), hR.1.1, mLe_f (by omega), x1, mK_r, if_pos rfl]
    simp only [mP_0, mP_1, mP_2]
    rw [mI_id (x := i + 1) (by omega) (by omega)]
    obtain ⟨h2, y1, y2, y3⟩ := ih (i + 1) h1 (CQ_MH x2 hH) (CQ_RM x2 hR) (by omega) (by omega) (by rw [show (16 * (i + 1)).toNat = (16 * i + aWi s).toNat + (16 - aWi s).toNat by omega]; exact c2)
    exact ⟨h2, y1, CQ_tr x2 y2, y3⟩
/-- the cover is there -/
def CMd (h : mm_H) (s : aS) (p : Int) : Prop := h 483 32 = cvN (aCel s p) (aWi s) (aHi s) ∧ ∀ k : Int, 0 ≤ k → k < cvN (aCel s p) (aWi s) (aHi s) → ∀ e : Int, 0 ≤ e → e < 5 → h 496 (5 * k + e) = cvD (aCel s p) (aWi s) (aHi s) (kSt (aCel s p) (aWi s) k) e
theorem E_M_coversOf (hd : 5 ≤ d) (hW : MW w) (hI : aI s) (hp : 0 ≤ p ∧ p < 4) (hH : MH h) (hR : RM (h 484) s) : ∃ h', mm_P d 296 [(2, 483), (0, p)] w h = some ((9, 0), w, h') ∧ CQ h h' ∧ CMd h' s p := by
  obtain ⟨d, rfl, hd2⟩ := mm_dS hd; clear hd; have hd := hd2; clear hd2
  have hw : (w.1 483).1 = 13 := by rw [hW.1]
  have i1 := hI.1
  have o1 : CQ h (mUp h 483 32 0) := ⟨fun q h1 _ => mUp_row h1, fun q hq => mUp_n (Or.inr hq)⟩
  obtain ⟨h1, x1, x2, x3, x4⟩ := L_mco0 hd hW hI hp (aHi s).toNat 0 (mUp h 483 32 0) (CQ_MH o1 hH) (CQ_RM o1 hR) (Int.le_refl _) (by omega) ⟨mUp_s, fun q hq => absurd hq (Nat.not_lt_zero q)⟩
  rw [P_M_coversOf, mF_t hw]
  try dsimp only
  rw [x1, mK_r, if_pos rfl]
  refine ⟨h1, rfl, CQ_tr o1 x2, x3, fun k k0 k1 e e0 e1 => ?_⟩
  obtain ⟨n, n1, n2, n3⟩ := cnQ_ex k0 (16 * aHi s).toNat k1
  rw [kSt_eq n2 n3, ← n3]
  exact x4 n n1 n2 e e0 e1
end PU
