/-! PURE: a view is taken. -/
noncomputable def lookA (s : aS) (r c : Int) : Int := 1000 * numA s 0 r c + 100 * numA s 1 r c + 10 * numA s 2 r c + numA s 3 r c
noncomputable def lkA (s : aS) (r c : Int) : Nat → Int
  | 0 => 0
  | m + 1 => 10 * lkA s r c m + numA s (m : Int) r c
theorem lkA_4 (s : aS) (r c : Int) : lkA s r c 4 = lookA s r c := by
  have e : lkA s r c 4 = 10 * (10 * (10 * (10 * 0 + numA s ((0 : Nat) : Int) r c) + numA s ((1 : Nat) : Int) r c) + numA s ((2 : Nat) : Int) r c) + numA s ((3 : Nat) : Int) r c := rfl
  have e0 : ((0 : Nat) : Int) = 0 := rfl
  have e1 : ((1 : Nat) : Int) = 1 := rfl
  have e2 : ((2 : Nat) : Int) = 2 := rfl
  have e3 : ((3 : Nat) : Int) = 3 := rfl
  rw [e, e0, e1, e2, e3]
  unfold lookA
  omega
theorem num_in {s : aS} (hI : aI s) {p r c k : Int} (hp : 0 ≤ p ∧ p < 4) (hr : 0 ≤ r ∧ r < aHi s) (hc : 0 ≤ c ∧ c < aWi s) (hk : -1 ≤ k ∧ k < aN s) : 0 ≤ num s p r c k ∧ num s p r c k ≤ 9 := by
  have h1 := hI.2.2.2.2.1 p r c hp.1 hp.2 hr.1 hr.2 hc.1 hc.2
  have h2 := aBen_in hI hp hr hc
  unfold num
  split
  · rename_i h0
    exact (hI.2.2.2.2.2.2.2.2 k h0 hk.2).2.2.2.1
  · split <;> omega
theorem srcA_in {s : aS} (hI : aI s) (p r c : Int) : -1 ≤ srcA s p r c ∧ srcA s p r c < aN s := by
  have hn := hI.2.2.1
  have := srcR_in (H := fun k => hldA s k r c) (s := s) (p := p) (aN s).toNat 0 (Int.le_refl _)
  unfold srcA
  omega
theorem numA_in {s : aS} (hI : aI s) {p r c : Int} (hp : 0 ≤ p ∧ p < 4) (hr : 0 ≤ r ∧ r < aHi s) (hc : 0 ≤ c ∧ c < aWi s) : 0 ≤ numA s p r c ∧ numA s p r c ≤ 9 := num_in hI hp hr hc (srcA_in hI p r c)
theorem lookA_in {s : aS} (hI : aI s) {r c : Int} (hr : 0 ≤ r ∧ r < aHi s) (hc : 0 ≤ c ∧ c < aWi s) : 0 ≤ lookA s r c ∧ lookA s r c ≤ 9999 := by
  have h0 := numA_in hI (p := 0) (by decide) hr hc
  have h1 := numA_in hI (p := 1) (by decide) hr hc
  have h2 := numA_in hI (p := 2) (by decide) hr hc
  have h3 := numA_in hI (p := 3) (by decide) hr hc
  unfold lookA
  omega
theorem lkA_in {s : aS} (hI : aI s) {r c : Int} (hr : 0 ≤ r ∧ r < aHi s) (hc : 0 ≤ c ∧ c < aWi s) : ∀ m : Nat, m ≤ 4 → 0 ≤ lkA s r c m ∧ lkA s r c m ≤ 99999 := by
  intro m hm
  have h0 := numA_in hI (p := 0) (by decide) hr hc
  have h1 := numA_in hI (p := 1) (by decide) hr hc
  have h2 := numA_in hI (p := 2) (by decide) hr hc
  have h3 := numA_in hI (p := 3) (by decide) hr hc
  have e0 : lkA s r c 0 = 0 := rfl
  have e1 : lkA s r c 1 = 10 * lkA s r c 0 + numA s 0 r c := rfl
  have e2 : lkA s r c 2 = 10 * lkA s r c 1 + numA s 1 r c := rfl
  have e3 : lkA s r c 3 = 10 * lkA s r c 2 + numA s 2 r c := rfl
  have e4 : lkA s r c 4 = 10 * lkA s r c 3 + numA s 3 r c := rfl
  rcases (show m = 0 ∨ m = 1 ∨ m = 2 ∨ m = 3 ∨ m = 4 by omega) with rfl | rfl | rfl | rfl | rfl <;> omega
section PU
variable {d : Nat} {w : mm_W} {h : mm_H} {s : aS} {S V k : Int}
def MKd (h : mm_H) (V : Int) (s : aS) : Prop := ∀ i j : Int, 0 ≤ i → i < aHi s → 0 ≤ j → j < aWi s → h (V + 1) (16 * i + j) = msk s i j (aN s).toNat
theorem L_takeCell (hd : 5 ≤ d) (hS : sOk S) (hV : vOk V) (hVW : VW w V) (hW : ShW w S) (hI : aI s) {r c : Int} (hr : 0 ≤ r ∧ r < aHi s) (hc : 0 ≤ c ∧ c < aWi s) : ∀ (m k : Nat) (h : mm_H), VH h V → RC w h S s → MKd h V s → k + m = 4 → ∃ h', l_Vw_takeCell_0 (mm_P d) V S r c (16 * r + c) (lkA s r c k) (k : Int) w h = some (.inr (102, [(2, V), (2, S), (0, r), (0, c), (0, 16 * r + c), (0, lkA s r c 4), (0, 4), (9, 0), (9, 0)], w, h')) ∧ (∀ b : Int, b ≠ V + 2 → b ≠ V + 3 → h' b = h b) ∧ ∀ p i j : Int, 0 ≤ p → p < 4 → 0 ≤ i → i < 16 → 0 ≤ j → j < 16 → h' (V + 2) (256 * p + 16 * i + j) = (if i = r ∧ j = c ∧ (k : Int) ≤ p then fromA s p r c else h (V + 2) (256 * p + 16 * i + j)) ∧ h' (V + 3) (256 * p + 16 * i + j) = (if i = r ∧ j = c ∧ (k : Int) ≤ p then numA s p r c else h (V + 3) (256 * p + 16 * i + j)) := by
  have i1 := hI.1; have i2 := hI.2.1
  have wV : (w.1 V).1 = 11 := by rw [hVW.1]
  have wS : (w.1 S).1 = 9 := by rw [hW.2.1]
  intro m
  induction m with
  | zero =>
    intro k h hH hR hM hk
    have e : k = 4 := by omega
    subst e
    rw [l_Vw_takeCell_0_eq, mLe_t (by decide)]
    refine ⟨h, rfl, fun _ _ _ => rfl, fun p i j p0 p1 _ _ _ _ => ?_⟩
    rw [if_neg (by omega), if_neg (by omega)]
    exact ⟨rfl, rfl⟩
  | succ m ih =>
    intro k h hH hR hM hk
    have hp : 0 ≤ (k : Int) ∧ (k : Int) < 4 := by omega
    have hl := lkA_in hI hr hc k (by omega)
    have hnn := numA_in hI hp hr hc
    have hm0 := hM r c hr.1 hr.2 hc.1 hc.2
    rw [l_Vw_takeCell_0_eq, mLe_f (by omega), mF_t wV, hH 0 (by decide) (by decide), show V + 1 + 0 = V + 1 by omega, E_peek_t (by omega) hVW.2.1 (by omega) (by omega), mC_s, hm0, mF_t wS, E_sourceOf (by omega) hW hI hR (H := fun k => hldA s k r c) (bits_A hI) hp hr hc, mC_s, mF_t wS]
    have es : frm s (k : Int) r c (srcR (fun k => hldA s k r c) s (k : Int) (aN s).toNat 0) = fromA s (k : Int) r c := rfl
    have en := E_numberFrom (d := d) (h := h) (by omega) hW hI hR hp hr hc (srcA_in hI (k : Int) r c)
    have es2 : frm s (k : Int) r c (srcA s (k : Int) r c) = fromA s (k : Int) r c := rfl
    have en2 : num s (k : Int) r c (srcA s (k : Int) r c) = numA s (k : Int) r c := rfl
    rw [es2, en2] at en
    rw [es, en, mC_s, mF_t wV, hH 1 (by decide) (by decide), show V + 1 + 1 = V + 2 by omega, mI_id (x := (k : Int) * 256) (by omega) (by omega), mI_id (x := (k : Int) * 256 + (16 * r + c)) (by omega) (by omega), E_poke_t (by omega) hVW.2.2.1 (by unfold vOk at hV; omega) (by omega) (by omega), mC_s, mF_t wV, mUp_n (Or.inl (by omega)), hH 2 (by decide) (by decide), show V + 1 + 2 = V + 3 by omega, E_poke_t (by omega) hVW.2.2.2.1 (by unfold vOk at hV; omega) (by omega) (by omega), mC_s]
    try dsimp only
    rw [mI_id (x := 10 * lkA s r c k) (by omega) (by omega), mI_id (x := 10 * lkA s r c k + numA s (k : Int) r c) (by omega) (by omega), mI_id (x := (k : Int) + 1) (by omega) (by omega), show (k : Int) + 1 = ((k + 1 : Nat) : Int) by omega]
    generalize hg : mUp (mUp h (V + 2) ((k : Int) * 256 + (16 * r + c)) (fromA s (k : Int) r c)) (V + 3) ((k : Int) * 256 + (16 * r + c)) (numA s (k : Int) r c) = h1
    have f1 : ∀ b : Int, b ≠ V + 2 → b ≠ V + 3 → h1 b = h b := fun b b1 b2 => by rw [← hg, mUp_row b2, mUp_row b1]
    obtain ⟨h', g1, g2, g3⟩ := ih (k + 1) h1 (fun i x0 x1 => by rw [f1 V (by omega) (by omega)]; exact hH i x0 x1) (RC_fr hR hI ⟨Int.le_refl _, fun a a0 _ => ⟨rfl, f1 a (by unfold vOk at hV; omega) (by unfold vOk at hV; omega)⟩⟩ (fun b b0 b1 => f1 b (by unfold sOk at hS; unfold vOk at hV; omega) (by unfold sOk at hS; unfold vOk at hV; omega))) (fun i j x0 x1 y0 y1 => by rw [f1 (V + 1) (by omega) (by omega)]; exact hM i j x0 x1 y0 y1) (by omega)
    have e5 : lkA s r c (k + 1) = 10 * lkA s r c k + numA s (k : Int) r c := rfl
    rw [← e5]
    refine ⟨h', g1, fun b b1 b2 => by rw [g2 b b1 b2, f1 b b1 b2], fun p i j p0 p1 x0 x1 y0 y1 => ?_⟩
    obtain ⟨q1, q2⟩ := g3 p i j p0 p1 x0 x1 y0 y1
    rw [q1, q2, ← hg]
    by_cases e : i = r ∧ j = c
    · obtain ⟨rfl, rfl⟩ := e
      by_cases e2 : p = (k : Int)
      · rw [if_neg (by omega), if_pos (by omega), if_neg (by omega), if_pos (by omega), mUp_n (Or.inl (by omega)), e2, show 256 * (k : Int) + 16 * i + j = (k : Int) * 256 + (16 * i + j) by omega, mUp_s, mUp_s]
        exact ⟨rfl, rfl⟩
      · rw [mUp_n (Or.inl (by omega)), mUp_n (Or.inr (by omega)), mUp_n (Or.inr (by omega)), mUp_n (Or.inl (by omega))]
        by_cases e3 : (k : Int) ≤ p
        · rw [if_pos (by omega), if_pos (by omega), if_pos (by omega), if_pos (by omega)]; exact ⟨rfl, rfl⟩
        · rw [if_neg (by omega), if_neg (by omega), if_neg (by omega), if_neg (by omega)]; exact ⟨rfl, rfl⟩
    · rw [if_neg (fun x => e ⟨x.1, x.2.1⟩), if_neg (fun x => e ⟨x.1, x.2.1⟩), if_neg (fun x => e ⟨x.1, x.2.1⟩), if_neg (fun x => e ⟨x.1, x.2.1⟩), mUp_n (Or.inl (by omega)), mUp_n (Or.inr (by omega)), mUp_n (Or.inr (by omega)), mUp_n (Or.inl (by omega))]
      exact ⟨rfl, rfl⟩
/-- a cell of the view is as it should be -/
def VC (h : mm_H) (V : Int) (s : aS) (i j : Int) : Prop := (∀ p : Int, 0 ≤ p → p < 4 → h (V + 2) (256 * p + 16 * i + j) = fromA s p i j ∧ h (V + 3) (256 * p + 16 * i + j) = numA s p i j) ∧ h (V + 4) (16 * i + j) = lookA s i j
theorem E_takeCell (hd : 6 ≤ d) (hS : sOk S) (hV : vOk V) (hVW : VW w V) (hW : ShW w S) (hI : aI s) (hH : VH h V) (hR : RC w h S s) (hM : MKd h V s) {r c : Int} (hr : 0 ≤ r ∧ r < aHi s) (hc : 0 ≤ c ∧ c < aWi s) : ∃ h', mm_P d 125 [(2, V), (2, S), (0, r), (0, c)] w h = some ((9, 0), w, h') ∧ (∀ b : Int, b ≠ V + 2 → b ≠ V + 3 → b ≠ V + 4 → h' b = h b) ∧ VC h' V s r c ∧ ∀ i j : Int, 0 ≤ i → i < aHi s → 0 ≤ j → j < aWi s → VC h V s i j → VC h' V s i j := by
  obtain ⟨d, rfl, hd2⟩ := mm_dS (show 5 + 1 ≤ d by omega)
  have i1 := hI.1; have i2 := hI.2.1
  have wV : (w.1 V).1 = 11 := by rw [hVW.1]
  obtain ⟨h1, g1, g2, g3⟩ := L_takeCell (d := d) (by omega) hS hV hVW hW hI hr hc 4 0 h hH hR hM (by omega)
  have g1 : l_Vw_takeCell_0 (mm_P d) V S r c (16 * r + c) 0 0 w h = _ := g1
  rw [P_Vw_takeCell, E_placeOf (by omega) (by omega) (by omega) (by omega) (by omega), mC_s, g1, mK_r, if_pos rfl]
  simp only [mP_0, mP_4, mP_5]
  rw [mF_t wV, g2 V (by omega) (by omega), hH 3 (by decide) (by decide), show V + 1 + 3 = V + 4 by omega, E_poke_t (by omega) hVW.2.2.2.2.1 (by unfold vOk at hV; omega) (by omega) (by omega), mC_s, lkA_4]
  refine ⟨_, rfl, fun b b1 b2 b3 => by rw [mUp_row b3, g2 b b1 b2], ⟨fun p p0 p1 => ?_, mUp_s⟩, fun i j x0 x1 y0 y1 hv => ⟨fun p p0 p1 => ?_, ?_⟩⟩
  · obtain ⟨q1, q2⟩ := g3 p r c p0 p1 hr.1 (by omega) hc.1 (by omega)
    rw [mUp_row (by omega), mUp_row (by omega), q1, q2, if_pos ⟨rfl, rfl, p0⟩, if_pos ⟨rfl, rfl, p0⟩]
    exact ⟨rfl, rfl⟩
  · obtain ⟨q1, q2⟩ := g3 p i j p0 p1 x0 (by omega) y0 (by omega)
    obtain ⟨v1, v2⟩ := hv.1 p p0 p1
    rw [mUp_row (by omega), mUp_row (by omega), q1, q2]
    by_cases e : i = r ∧ j = c
    · obtain ⟨rfl, rfl⟩ := e
      rw [if_pos ⟨rfl, rfl, p0⟩, if_pos ⟨rfl, rfl, p0⟩]; exact ⟨rfl, rfl⟩
    · rw [if_neg (fun x => e ⟨x.1, x.2.1⟩), if_neg (fun x => e ⟨x.1, x.2.1⟩)]; exact ⟨v1, v2⟩
  · by_cases e : 16 * i + j = 16 * r + c
    · have e1 : i = r := by omega
      have e2 : j = c := by omega
      rw [e1, e2, mUp_s]
    · rw [mUp_n (Or.inr e), g2 (V + 4) (by omega) (by omega)]; exact hv.2
theorem L_take2 (hd : 6 ≤ d) (hS : sOk S) (hV : vOk V) (hVW : VW w V) (hW : ShW w S) (hI : aI s) {r : Int} (hr : 0 ≤ r ∧ r < aHi s) : ∀ (m : Nat) (c : Int) (h : mm_H), VH h V → RC w h S s → MKd h V s → h V 7 = aWi s → 0 ≤ c → c + m = aWi s → (∀ i j : Int, 0 ≤ i → i < aHi s → 0 ≤ j → j < aWi s → (i < r ∨ i = r ∧ j < c) → VC h V s i j) → ∃ h', l_Vw_take_2 (mm_P d) V S 436 r c w h = some (.inr (83, [(2, V), (2, S), (2, 436), (0, r), (0, aWi s)], w, h')) ∧ (∀ b : Int, b ≠ V + 2 → b ≠ V + 3 → b ≠ V + 4 → h' b = h b) ∧ ∀ i j : Int, 0 ≤ i → i < aHi s → 0 ≤ j → j < aWi s → i < r + 1 → VC h' V s i j := by
  have i1 := hI.1; have i2 := hI.2.1
  have wV : (w.1 V).1 = 11 := by rw [hVW.1]
  intro m
  induction m with
  | zero =>
    intro c h hH hR hM h7 c0 hc hvc
    rw [l_Vw_take_2_eq, mF_t wV, h7, mLe_t (by omega), show c = aWi s by omega]
    exact ⟨h, rfl, fun _ _ _ _ => rfl, fun i j x0 x1 y0 y1 z => hvc i j x0 x1 y0 y1 (by omega)⟩
  | succ m ih =>
    intro c h hH hR hM h7 c0 hc hvc
    obtain ⟨h1, a1, a2, a3, a4⟩ := E_takeCell (d := d) hd hS hV hVW hW hI hH hR hM hr (c := c) (by omega)
    rw [l_Vw_take_2_eq, mF_t wV, h7, mLe_f (by omega), mF_t wV, a1, mC_s]
    try dsimp only
    rw [mI_id (x := c + 1) (by omega) (by omega)]
    obtain ⟨h', g1, g2, g3⟩ := ih (c + 1) h1 (fun i x0 x1 => by rw [a2 V (by omega) (by omega) (by omega)]; exact hH i x0 x1) (RC_fr hR hI ⟨Int.le_refl _, fun a a0 _ => ⟨rfl, a2 a (by unfold vOk at hV; omega) (by unfold vOk at hV; omega) (by unfold vOk at hV; omega)⟩⟩ (fun b b0 b1 => a2 b (by unfold sOk at hS; unfold vOk at hV; omega) (by unfold sOk at hS; unfold vOk at hV; omega) (by unfold sOk at hS; unfold vOk at hV; omega))) (fun i j x0 x1 y0 y1 => by rw [a2 (V + 1) (by omega) (by omega) (by omega)]; exact hM i j x0 x1 y0 y1) (by rw [a2 V (by omega) (by omega) (by omega)]; exact h7) (by omega) (by omega) (fun i j x0 x1 y0 y1 z => by
      by_cases e : i = r ∧ j = c
      · rw [e.1, e.2]; exact a3
      · exact a4 i j x0 x1 y0 y1 (hvc i j x0 x1 y0 y1 (by omega)))
    exact ⟨h', g1, fun b b1 b2 b3 => by rw [g2 b b1 b2 b3, a2 b b1 b2 b3], g3⟩
theorem L_take1 (hd : 6 ≤ d) (hS : sOk S) (hV : vOk V) (hVW : VW w V) (hW : ShW w S) (hI : aI s) : ∀ (m : Nat) (r : Int) (h : mm_H), VH h V → RC w h S s → MKd h V s → h V 6 = aHi s → h V 7 = aWi s → 0 ≤ r → r + m = aHi s → (∀ i j : Int, 0 ≤ i → i < aHi s → 0 ≤ j → j < aWi s → i < r → VC h V s i j) → ∃ h', l_Vw_take_1 (mm_P d) V S 436 r w h = some (.inr (89, [(2, V), (2, S), (2, 436), (0, aHi s), (9, 0)], w, h')) ∧ (∀ b : Int, b ≠ V + 2 → b ≠ V + 3 → b ≠ V + 4 → h' b = h b) ∧ ∀ i j : Int, 0 ≤ i → i < aHi s → 0 ≤ j → j < aWi s → VC h' V s i j := by
  have i1 := hI.1; have i2 := hI.2.1
  have wV : (w.1 V).1 = 11 := by rw [hVW.1]
  intro m
  induction m with
  | zero =>
    intro r h hH hR hM h6 h7 r0 hr hvc
    rw [l_Vw_take_1_eq, mF_t wV, h6, mLe_t (by omega), show r = aHi s by omega]
    exact ⟨h, rfl, fun _ _ _ _ => rfl, fun i j x0 x1 y0 y1 => hvc i j x0 x1 y0 y1 (by omega)⟩
  | succ m ih =>
    intro r h hH hR hM h6 h7 r0 hr hvc
    obtain ⟨h1, a1, a2, a3⟩ := L_take2 (d := d) hd hS hV hVW hW hI (r := r) (by omega) (aWi s).toNat 0 h hH hR hM h7 (Int.le_refl _) (by omega) (fun i j x0 x1 y0 y1 z => hvc i j x0 x1 y0 y1 (by omega))
    rw [l_Vw_take_1_eq, mF_t wV, h6, mLe_f (by omega), a1, mK_r, if_pos rfl]
    simp only [mP_0, mP_1, mP_2, mP_3]
    rw [mI_id (x := r + 1) (by omega) (by omega)]
    obtain ⟨h', g1, g2, g3⟩ := ih (r + 1) h1 (fun i x0 x1 => by rw [a2 V (by omega) (by omega) (by omega)]; exact hH i x0 x1) (RC_fr hR hI ⟨Int.le_refl _, fun a a0 _ => ⟨rfl, a2 a (by unfold vOk at hV; omega) (by unfold vOk at hV; omega) (by unfold vOk at hV; omega)⟩⟩ (fun b b0 b1 => a2 b (by unfold sOk at hS; unfold vOk at hV; omega) (by unfold sOk at hS; unfold vOk at hV; omega) (by unfold sOk at hS; unfold vOk at hV; omega))) (fun i j x0 x1 y0 y1 => by rw [a2 (V + 1) (by omega) (by omega) (by omega)]; exact hM i j x0 x1 y0 y1) (by rw [a2 V (by omega) (by omega) (by omega)]; exact h6) (by rw [a2 V (by omega) (by omega) (by omega)]; exact h7) (by omega) (by omega) (fun i j x0 x1 y0 y1 z => a3 i j x0 x1 y0 y1 z)
    exact ⟨h', g1, fun b b1 b2 b3 => by rw [g2 b b1 b2 b3, a2 b b1 b2 b3], g3⟩
theorem L_take0 (hd : 15 ≤ d) (hP : PW w) (hS : sOk S) (hV : vOk V) (hVW : VW w V) (hW : ShW w S) (hI : aI s) : ∀ (m n : Nat) (h : mm_H), VH h V → RC w h S s → h 436 0 = 437 → MK h V s n (fun _ _ => False) → (n : Int) + m = aN s → ∃ h', l_Vw_take_0 (mm_P d) V S 436 n w h = some (.inr (47, [(2, V), (2, S), (2, 436), (0, aN s), (9, 0)], w, h')) ∧ VO V h h' ∧ MKd h' V s := by
  have hn := hI.2.2.1
  have wV : (w.1 V).1 = 11 := by rw [hVW.1]
  have wS : (w.1 S).1 = 9 := by rw [hW.2.1]
  intro m
  induction m with
  | zero =>
    intro n h hH hR h0 hM hk
    rw [l_Vw_take_0_eq, mF_t wS, hR.2.1.2.2, mLe_t (by omega)]
    refine ⟨h, by rw [show (n : Int) = aN s by omega], VO_rf V h, fun i j i0 i1 j0 j1 => ?_⟩
    rw [hM i j i0 i1 j0 j1, show (aN s).toNat = n by omega]
    exact if_neg (fun x => x)
  | succ m ih =>
    intro n h hH hR h0 hM hk
    obtain ⟨h1, a1, a2, a3⟩ := E_mark (d := d) hd hP hS hV hVW hW hI (n := n) (by omega) hH hR h0 hM
    rw [l_Vw_take_0_eq, mF_t wS, hR.2.1.2.2, mLe_f (by omega), mF_t wV, a1, mC_s]
    try dsimp only
    rw [mI_id (by omega) (by omega), show (n : Int) + 1 = ((n + 1 : Nat) : Int) by omega]
    obtain ⟨h', g1, g2, g3⟩ := ih (n + 1) h1 (VO_VH a2 hH) (RC_VO hS hV hI hR a2) (by rw [a2.2.1]; exact h0) a3 (by omega)
    exact ⟨h', g1, VO_tr a2 g2, g3⟩
/-- the view shows the sheet -/
def cVw (h : mm_H) (V : Int) (s : aS) : Prop := (h V 6 = aHi s ∧ h V 7 = aWi s) ∧ MKd h V s ∧ ∀ i j : Int, 0 ≤ i → i < aHi s → 0 ≤ j → j < aWi s → VC h V s i j
/-- only the probe and the view have changed, but not where its rows lie -/
def VT (V : Int) (h h' : mm_H) : Prop := (∀ b : Int, b ≠ 436 → b ≠ 437 → ¬ (V ≤ b ∧ b < V + 7) → h' b = h b) ∧ h' 436 0 = h 436 0 ∧ ∀ i : Int, i < 6 → h' V i = h V i
theorem VT_rf (V : Int) (h : mm_H) : VT V h h := ⟨fun _ _ _ _ => rfl, rfl, fun _ _ => rfl⟩
theorem VT_tr {V : Int} {a b c : mm_H} (x : VT V a b) (y : VT V b c) : VT V a c := ⟨fun q h1 h2 h3 => (y.1 q h1 h2 h3).trans (x.1 q h1 h2 h3), y.2.1.trans x.2.1, fun i hi => (y.2.2 i hi).trans (x.2.2 i hi)⟩
theorem VT_vo {V : Int} {h h' : mm_H} (o : VO V h h') : VT V h h' := ⟨o.1, o.2.1, fun i _ => by rw [o.2.2]⟩
theorem VT_fld {V i z : Int} {h : mm_H} (hV : vOk V) (hi : 6 ≤ i) : VT V h (mUp h V i z) := ⟨fun b _ _ h3 => mUp_row (by omega), mUp_n (Or.inl (by unfold vOk at hV; omega)), fun j _ => mUp_n (Or.inr (by omega))⟩
theorem VT_VH {V : Int} {h h' : mm_H} (o : VT V h h') (c : VH h V) : VH h' V := fun i i0 i1 => by rw [o.2.2 i i1]; exact c i i0 i1
theorem RC_VT {h' : mm_H} (hS : sOk S) (hV : vOk V) (hI : aI s) (hR : RC w h S s) (o : VT V h h') : RC w h' S s := RC_fr hR hI ⟨Int.le_refl _, fun a a0 _ => ⟨rfl, o.1 a (by omega) (by omega) (by unfold vOk at hV; omega)⟩⟩ (fun b b0 b1 => o.1 b (by unfold sOk at hS; omega) (by unfold sOk at hS; omega) (by unfold sOk at hS; unfold vOk at hV; omega))
theorem E_take (hd : 17 ≤ d) (hP : PW w) (hS : sOk S) (hV : vOk V) (hVW : VW w V) (hW : ShW w S) (hI : aI s) (hH : VH h V) (hR : RC w h S s) (h0 : h 436 0 = 437) : ∃ h', mm_P d 123 [(2, V), (2, S), (2, 436)] w h = some ((9, 0), w, h') ∧ VT V h h' ∧ cVw h' V s := by
  obtain ⟨d, rfl, hd2⟩ := mm_dS (show 16 + 1 ≤ d by omega)
  have i1 := hI.1; have i2 := hI.2.1; have i3 := hI.2.2.1
  have wV : (w.1 V).1 = 11 := by rw [hVW.1]
  have wS : (w.1 S).1 = 9 := by rw [hW.2.1]
  have sv : S ≠ V := by unfold sOk at hS; unfold vOk at hV; omega
  rw [P_Vw_take]
  simp only [mF_t wV, mF_t wS]
  rw [mUp_n (Or.inl sv), hR.2.1.1, hR.2.1.2.1]
  generalize hg : mUp (mUp h V 6 (aHi s)) V 7 (aWi s) = h1
  have o1 : VT V h h1 := by rw [← hg]; exact VT_tr (VT_fld hV (by decide)) (VT_fld hV (by decide))
  have z6 : h1 V 6 = aHi s := by rw [← hg, mUp_n (Or.inr (by decide)), mUp_s]
  have z7 : h1 V 7 = aWi s := by rw [← hg, mUp_s]
  have H1 := VT_VH o1 hH
  obtain ⟨h2, b1, b2, b3⟩ := E_fill (d := d) (h := h1) (by omega) hVW.2.1 (by unfold vOk at hV; omega) 0 (by decide)
  have o2 : VO V h1 h2 := ⟨fun b _ _ x => b2 b (by omega), by rw [b2 436 (by unfold vOk at hV; omega)], b2 V (by omega)⟩
  have o12 := VT_tr o1 (VT_vo o2)
  rw [H1 0 (by decide) (by decide), show V + 1 + 0 = V + 1 by omega, b1, mC_s]
  obtain ⟨h3, c1, c2, c3⟩ := L_take0 (d := d) (by omega) hP hS hV hVW hW hI (aN s).toNat 0 h2 (VT_VH o12 hH) (RC_VT hS hV hI hR o12) (by rw [o12.2.1]; exact h0) (fun i j x0 x1 y0 y1 => by
    rw [b3 _ (by omega) (by omega)]
    unfold mv
    rw [if_neg (fun x => x)]
    rfl) (by omega)
  have c1 : l_Vw_take_0 (mm_P d) V S 436 0 w h2 = _ := c1
  have o23 := VO_tr o2 c2
  have o13 := VT_tr o1 (VT_vo o23)
  have v6 : h3 V 6 = aHi s := by rw [o23.2.2]; exact z6
  have v7 : h3 V 7 = aWi s := by rw [o23.2.2]; exact z7
  obtain ⟨h4, e1, e2, e3⟩ := L_take1 (d := d) (by omega) hS hV hVW hW hI (aHi s).toNat 0 h3 (VT_VH o13 hH) (RC_VT hS hV hI hR o13) c3 v6 v7 (Int.le_refl _) (by omega) (fun i j x0 x1 y0 y1 z => by omega)
  rw [c1, mK_r, if_pos rfl]
  simp only [mP_0, mP_1, mP_2]
  rw [e1, mK_r, if_pos rfl]
  have o4 : VT V h3 h4 := ⟨fun b _ _ x => e2 b (by omega) (by omega) (by omega), by rw [e2 436 (by unfold vOk at hV; omega) (by unfold vOk at hV; omega) (by unfold vOk at hV; omega)], fun i _ => by rw [e2 V (by omega) (by omega) (by omega)]⟩
  refine ⟨h4, rfl, VT_tr o13 o4, ⟨by rw [e2 V (by omega) (by omega) (by omega)]; exact v6, by rw [e2 V (by omega) (by omega) (by omega)]; exact v7⟩, fun i j x0 x1 y0 y1 => by rw [e2 (V + 1) (by omega) (by omega) (by omega)]; exact c3 i j x0 x1 y0 y1, e3⟩
end PU
