/-! PURE: the class's probe: peers, its stack, its words. -/
section PU
variable {d : Nat} {w : mm_W} {h : mm_H} {s : aS} {S k : Int}
theorem L_peers1 (hd : 1 ≤ d) (hP : PW w) (hS : sOk S) (hW : ShW w S) (hI : aI s) (hk : 0 ≤ k ∧ k < aN s) {o r v : Int} (hr : 0 ≤ r ∧ r < aHi s) : ∀ (m : Nat) (c : Int) (h : mm_H), RC w h S s → h (S + 5) k = o → aRul s k 1 ≤ c → c + m = aRul s k 3 + 1 → (0 ≤ h 436 7 ∧ h 436 7 ≤ 9000 - m) → (0 ≤ h 436 8 ∧ h 436 8 ≤ 9000 - m) → ∃ h', l_Pr_countPeers_1 (mm_P d) 436 S o v r c w h = some (.inr (114, [(2, 436), (2, S), (2, o), (0, v), (0, r), (0, aRul s k 3 + 1), (9, 0)], w, h')) ∧ PO h h' ∧ h' 436 7 = h 436 7 + sumN (fun j => bI (aVal s r j = v)) m c ∧ h' 436 8 = h 436 8 + sumN (fun j => bI (v < aVal s r j)) m c ∧ h' 437 = h 437 ∧ ∀ i : Int, i ≠ 7 → i ≠ 8 → h' 436 i = h 436 i := by
  have w436 : (w.1 436).1 = 5 := by rw [hP.1]
  have wS : (w.1 S).1 = 9 := by rw [hW.2.1]
  have hb := rul_b hI hk
  intro m
  induction m with
  | zero =>
    intro c h hR ho a1 a2 a3 a4
    obtain ⟨o1, o2, o3, v0, v1, v2, v3⟩ := rul_f hS hW hI hR hk ho
    rw [l_Pr_countPeers_1_eq, mF_t o1, v3, mLt_t (by omega), show c = aRul s k 3 + 1 by omega]
    exact ⟨h, rfl, PO_rf h, by unfold sumN; omega, by unfold sumN; omega, rfl, fun _ _ _ => rfl⟩
  | succ m ih =>
    intro c h hR ho a1 a2 a3 a4
    obtain ⟨o1, o2, o3, v0, v1, v2, v3⟩ := rul_f hS hW hI hR hk ho
    have key : ∀ h1 : mm_H, PO h h1 → h1 437 = h 437 → (∀ i : Int, i ≠ 7 → i ≠ 8 → h1 436 i = h 436 i) → h1 436 7 = h 436 7 + bI (aVal s r c = v) → h1 436 8 = h 436 8 + bI (v < aVal s r c) → ∃ h', l_Pr_countPeers_1 (mm_P d) 436 S o v r (c + 1) w h1 = some (.inr (114, [(2, 436), (2, S), (2, o), (0, v), (0, r), (0, aRul s k 3 + 1), (9, 0)], w, h')) ∧ PO h h' ∧ h' 436 7 = h 436 7 + sumN (fun j => bI (aVal s r j = v)) (m + 1) c ∧ h' 436 8 = h 436 8 + sumN (fun j => bI (v < aVal s r j)) (m + 1) c ∧ h' 437 = h 437 ∧ ∀ i : Int, i ≠ 7 → i ≠ 8 → h' 436 i = h 436 i := by
      intro h1 q1 q2 q3 q4 q5
      have b1 := bI_le (aVal s r c = v)
      have b2 := bI_le (v < aVal s r c)
      obtain ⟨h', g1, g2, g3, g4, g5, g6⟩ := ih (c + 1) h1 (RC_PO hS hI hR q1) (by rw [q1.1 _ (by unfold sOk at hS; omega) (by unfold sOk at hS; omega)]; exact ho) (by omega) (by omega) (by omega) (by omega)
      refine ⟨h', g1, PO_tr q1 g2, ?_, ?_, by rw [g5, q2], fun i i7 i8 => by rw [g6 i i7 i8, q3 i i7 i8]⟩
      · rw [g3, q4]
        show _ = h 436 7 + (bI (aVal s r c = v) + sumN (fun j => bI (aVal s r j = v)) m (c + 1))
        omega
      · rw [g4, q5]
        show _ = h 436 8 + (bI (v < aVal s r c) + sumN (fun j => bI (v < aVal s r j)) m (c + 1))
        omega
    rw [l_Pr_countPeers_1_eq, mF_t o1, v3, mLt_f (by omega), mF_t wS, E_valS hd hW hI hR hr (by omega), mC_s]
    simp only [mF_t w436]
    rw [mI_id (x := c + 1) (by omega) (by omega)]
    by_cases c1 : aVal s r c = v
    · rw [mEq_t c1, mLe_t (by omega), mI_id (by omega) (by omega)]
      exact key _ (PO_up (by decide)) (mUp_row (by decide)) (fun i i7 i8 => mUp_n (Or.inr i7)) (by rw [mUp_s, bI_t c1]) (by rw [mUp_n (Or.inr (by decide)), bI_f (by omega)]; omega)
    · rw [mEq_f c1]
      by_cases c2 : v < aVal s r c
      · rw [mLe_f c2, mI_id (by omega) (by omega)]
        exact key _ (PO_up (by decide)) (mUp_row (by decide)) (fun i i7 i8 => mUp_n (Or.inr i8)) (by rw [mUp_n (Or.inr (by decide)), bI_f c1]; omega) (by rw [mUp_s, bI_t c2])
      · rw [mLe_t (by omega)]
        exact key h (PO_rf h) rfl (fun _ _ _ => rfl) (by rw [bI_f c1]; omega) (by rw [bI_f c2]; omega)
theorem L_peers0 (hd : 1 ≤ d) (hP : PW w) (hS : sOk S) (hW : ShW w S) (hI : aI s) (hk : 0 ≤ k ∧ k < aN s) {o v : Int} : ∀ (m : Nat) (r : Int) (h : mm_H), RC w h S s → h (S + 5) k = o → aRul s k 0 ≤ r → r + m = aRul s k 2 + 1 → (0 ≤ h 436 7 ∧ h 436 7 ≤ 8000 - 16 * m) → (0 ≤ h 436 8 ∧ h 436 8 ≤ 8000 - 16 * m) → ∃ h', l_Pr_countPeers_0 (mm_P d) 436 S o v r w h = some (.inr (120, [(2, 436), (2, S), (2, o), (0, v), (0, aRul s k 2 + 1), (9, 0), (9, 0)], w, h')) ∧ PO h h' ∧ h' 436 7 = h 436 7 + sumN (fun r => sumN (fun j => bI (aVal s r j = v)) (rW s k) (aRul s k 1)) m r ∧ h' 436 8 = h 436 8 + sumN (fun r => sumN (fun j => bI (v < aVal s r j)) (rW s k) (aRul s k 1)) m r ∧ h' 437 = h 437 ∧ ∀ i : Int, i ≠ 7 → i ≠ 8 → h' 436 i = h 436 i := by
  have w436 : (w.1 436).1 = 5 := by rw [hP.1]
  have hb := rul_b hI hk
  intro m
  induction m with
  | zero =>
    intro r h hR ho a1 a2 a3 a4
    obtain ⟨o1, o2, o3, v0, v1, v2, v3⟩ := rul_f hS hW hI hR hk ho
    rw [l_Pr_countPeers_0_eq, mF_t o1, v2, mLt_t (by omega), show r = aRul s k 2 + 1 by omega]
    exact ⟨h, rfl, PO_rf h, by unfold sumN; omega, by unfold sumN; omega, rfl, fun _ _ _ => rfl⟩
  | succ m ih =>
    intro r h hR ho a1 a2 a3 a4
    obtain ⟨o1, o2, o3, v0, v1, v2, v3⟩ := rul_f hS hW hI hR hk ho
    have hw16 : rW s k ≤ 16 := by unfold rW; omega
    have hwb : aRul s k 1 + (rW s k : Int) = aRul s k 3 + 1 := by unfold rW; omega
    obtain ⟨h1, b1, b2, b3, b4, b5, b6⟩ := L_peers1 (d := d) hd hP hS hW hI hk (r := r) (v := v) (by omega) (rW s k) (aRul s k 1) h hR ho (Int.le_refl _) hwb (by omega) (by omega)
    have hs1 := sumN_le (f := fun j => bI (aVal s r j = v)) (a := 0) (b := 1) (rW s k) (aRul s k 1) (fun j _ _ => bI_le _)
    have hs2 := sumN_le (f := fun j => bI (v < aVal s r j)) (a := 0) (b := 1) (rW s k) (aRul s k 1) (fun j _ _ => bI_le _)
    rw [l_Pr_countPeers_0_eq, mF_t o1, v2, mLt_f (by omega), mF_t o1, v1]
    try dsimp only
    rw [b1, mK_r, if_pos rfl]
    simp only [mP_0, mP_1, mP_2, mP_3, mP_4]
    rw [mI_id (x := r + 1) (by omega) (by omega)]
    obtain ⟨h', g1, g2, g3, g4, g5, g6⟩ := ih (r + 1) h1 (RC_PO hS hI hR b2) (by rw [b2.1 _ (by unfold sOk at hS; omega) (by unfold sOk at hS; omega)]; exact ho) (by omega) (by omega) (by omega) (by omega)
    refine ⟨h', g1, PO_tr b2 g2, ?_, ?_, by rw [g5, b5], fun i i7 i8 => by rw [g6 i i7 i8, b6 i i7 i8]⟩
    · rw [g3, b3]
      show _ = h 436 7 + (sumN (fun j => bI (aVal s r j = v)) (rW s k) (aRul s k 1) + sumN (fun r => sumN (fun j => bI (aVal s r j = v)) (rW s k) (aRul s k 1)) m (r + 1))
      omega
    · rw [g4, b4]
      show _ = h 436 8 + (sumN (fun j => bI (v < aVal s r j)) (rW s k) (aRul s k 1) + sumN (fun r => sumN (fun j => bI (v < aVal s r j)) (rW s k) (aRul s k 1)) m (r + 1))
      omega
/-- the probe amid a condition: dep numbers are stacked -/
def XS (w : mm_W) (h : mm_H) (S o : Int) (s : aS) (k r c : Int) (dep : Nat) : Prop := (h 436 0 = 437 ∧ h 436 1 = (dep : Int) ∧ h 436 9 = 1 ∧ h 436 5 = r ∧ h 436 6 = c) ∧ aimed h s k ∧ (h 436 10 = 0 ∨ h 436 10 = 1 ∧ h 436 7 = nLike s k (aVal s r c) ∧ h 436 8 = nMore s k (aVal s r c)) ∧ RC w h S s ∧ h (S + 5) k = o
theorem E_peers (hd : 2 ≤ d) (hP : PW w) (hS : sOk S) (hW : ShW w S) (hI : aI s) (hk : 0 ≤ k ∧ k < aN s) {o r c : Int} {dep : Nat} (hr : 0 ≤ r ∧ r < aHi s) (hc : 0 ≤ c ∧ c < aWi s) (hX : XS w h S o s k r c dep) : ∃ h', mm_P d 58 [(2, 436), (2, S), (2, o)] w h = some ((9, 0), w, h') ∧ PO h h' ∧ h' 437 = h 437 ∧ XS w h' S o s k r c dep ∧ h' 436 7 = nLike s k (aVal s r c) ∧ h' 436 8 = nMore s k (aVal s r c) := by
  obtain ⟨d, rfl, hd2⟩ := mm_dS hd; clear hd; have hd := hd2; clear hd2
  have w436 : (w.1 436).1 = 5 := by rw [hP.1]
  have wS : (w.1 S).1 = 9 := by rw [hW.2.1]
  have hb := rul_b hI hk
  obtain ⟨⟨x0, x1, x9, x5, x6⟩, xa, xp, hR, ho⟩ := hX
  rw [P_Pr_countPeers, mF_t w436]
  rcases xp with xp | ⟨xp, p7, p8⟩
  rotate_left
  · rw [xp, mEq_f (by decide)]
    exact ⟨h, rfl, PO_rf h, rfl, ⟨⟨x0, x1, x9, x5, x6⟩, xa, Or.inr ⟨xp, p7, p8⟩, hR, ho⟩, p7, p8⟩
  rw [xp, mEq_t rfl, mZ_1]
  simp only [mF_t w436]
  generalize hg : mUp (mUp (mUp h 436 10 1) 436 7 0) 436 8 0 = h1
  have oo : PO h h1 := by rw [← hg]; exact PO_tr (PO_tr (PO_up (by decide)) (PO_up (by decide))) (PO_up (by decide))
  have z7 : h1 436 7 = 0 := by rw [← hg]; simp [mUp]
  have z8 : h1 436 8 = 0 := by rw [← hg]; simp [mUp]
  have z10 : h1 436 10 = 1 := by rw [← hg]; simp [mUp]
  have zo : ∀ i : Int, i ≠ 7 → i ≠ 8 → i ≠ 10 → h1 436 i = h 436 i := fun i i7 i8 i10 => by rw [← hg, mUp_n (Or.inr i8), mUp_n (Or.inr i7), mUp_n (Or.inr i10)]
  have z437 : h1 437 = h 437 := by rw [← hg, mUp_row (by decide), mUp_row (by decide), mUp_row (by decide)]
  have hR1 := RC_PO hS hI hR oo
  have ho1 : h1 (S + 5) k = o := by rw [oo.1 _ (by unfold sOk at hS; omega) (by unfold sOk at hS; omega)]; exact ho
  obtain ⟨o1, _, _, v0, _⟩ := rul_f hS hW hI hR1 hk ho1
  have hh : aRul s k 0 + (rH s k : Int) = aRul s k 2 + 1 := by unfold rH; omega
  have hh16 : rH s k ≤ 16 := by unfold rH; omega
  obtain ⟨h', g1, g2, g3, g4, g5, g6⟩ := L_peers0 (d := d) (by omega) hP hS hW hI hk (o := o) (v := aVal s r c) (rH s k) (aRul s k 0) h1 hR1 ho1 (Int.le_refl _) hh (by omega) (by omega)
  rw [mF_t wS, zo 5 (by decide) (by decide) (by decide), zo 6 (by decide) (by decide) (by decide), x5, x6, E_valS (by omega) hW hI hR1 hr hc, mC_s, mF_t o1, v0, g1, mK_r, if_pos rfl]
  have q7 : h' 436 7 = nLike s k (aVal s r c) := by rw [g3, z7, Int.zero_add]; rfl
  have q8 : h' 436 8 = nMore s k (aVal s r c) := by rw [g4, z8, Int.zero_add]; rfl
  have qo : ∀ i : Int, i ≠ 7 → i ≠ 8 → i ≠ 10 → h' 436 i = h 436 i := fun i i7 i8 i10 => by rw [g6 i i7 i8, zo i i7 i8 i10]
  refine ⟨h', rfl, PO_tr oo g2, by rw [g5, z437], ⟨⟨?_, ?_, ?_, ?_, ?_⟩, ⟨?_, ?_, ?_⟩, Or.inr ⟨by rw [g6 10 (by decide) (by decide)]; exact z10, q7, q8⟩, RC_PO hS hI hR1 g2, ?_⟩, q7, q8⟩
  · rw [qo 0 (by decide) (by decide) (by decide)]; exact x0
  · rw [qo 1 (by decide) (by decide) (by decide)]; exact x1
  · rw [qo 9 (by decide) (by decide) (by decide)]; exact x9
  · rw [qo 5 (by decide) (by decide) (by decide)]; exact x5
  · rw [qo 6 (by decide) (by decide) (by decide)]; exact x6
  · rw [qo 2 (by decide) (by decide) (by decide)]; exact xa.1
  · rw [qo 3 (by decide) (by decide) (by decide)]; exact xa.2.1
  · rw [qo 4 (by decide) (by decide) (by decide)]; exact xa.2.2
  · rw [g2.1 _ (by unfold sOk at hS; omega) (by unfold sOk at hS; omega)]; exact ho1
theorem XS_up {o r c : Int} {dep dep' : Nat} {h' : mm_H} (hS : sOk S) (hI : aI s) (hX : XS w h S o s k r c dep) (oo : PO h h') (e1 : h' 436 1 = (dep' : Int)) (ef : ∀ i : Int, i ≠ 1 → h' 436 i = h 436 i) : XS w h' S o s k r c dep' := by
  obtain ⟨⟨x0, x1, x9, x5, x6⟩, xa, xp, hR, ho⟩ := hX
  exact ⟨⟨by rw [ef 0 (by decide)]; exact x0, e1, by rw [ef 9 (by decide)]; exact x9, by rw [ef 5 (by decide)]; exact x5, by rw [ef 6 (by decide)]; exact x6⟩, ⟨by rw [ef 2 (by decide)]; exact xa.1, by rw [ef 3 (by decide)]; exact xa.2.1, by rw [ef 4 (by decide)]; exact xa.2.2⟩, by rw [ef 10 (by decide), ef 7 (by decide), ef 8 (by decide)]; exact xp, RC_PO hS hI hR oo, by rw [oo.1 _ (by unfold sOk at hS; omega) (by unfold sOk at hS; omega)]; exact ho⟩
/-- a number that fits -/
theorem E_push (hd : 2 ≤ d) (hP : PW w) (hS : sOk S) (hI : aI s) {o r c : Int} {dep : Nat} (hX : XS w h S o s k r c dep) (hdep : dep < 200) {v : Int} (hv : -2147483648 ≤ v ∧ v < 2147483648) : ∃ h', mm_P d 59 [(2, 436), (1, v)] w h = some ((9, 0), w, h') ∧ PO h h' ∧ XS w h' S o s k r c (dep + 1) ∧ h' 437 (dep : Int) = v ∧ ∀ j : Int, j ≠ dep → h' 437 j = h 437 j := by
  obtain ⟨d, rfl, hd2⟩ := mm_dS hd; clear hd; have hd := hd2; clear hd2
  have w436 : (w.1 436).1 = 5 := by rw [hP.1]
  have x := hX.1
  rw [P_Pr_push, mI_id hv.1 hv.2, mCmp_eq, mEq_t rfl, mF_t w436, mF_t w436, x.1, x.2.1, E_poke_t hd hP.2 (by decide) (by omega) (by omega), mC_s, mF_t w436, mF_t w436]
  try dsimp only
  rw [mUp_n (Or.inl (by decide)), x.2.1, mI_id (by omega) (by omega)]
  have oo : PO h (mUp (mUp h 437 (dep : Int) v) 436 1 ((dep : Int) + 1)) := PO_tr PO_st (PO_up (by decide))
  exact ⟨_, rfl, oo, XS_up hS hI hX oo (by rw [mUp_s]; omega) (fun i hi => by rw [mUp_n (Or.inr hi), mUp_n (Or.inl (by decide))]), by rw [mUp_row (by decide), mUp_s], fun j hj => by rw [mUp_row (by decide), mUp_n (Or.inr hj)]⟩
theorem E_push_f (hd : 2 ≤ d) (hP : PW w) (h0 : h 436 0 = 437) {v : Int} (hv : ¬ (-2147483648 ≤ v ∧ v < 2147483648)) : ∃ h', mm_P d 59 [(2, 436), (1, v)] w h = some ((9, 0), w, h') ∧ PO h h' ∧ h' 436 9 = 0 ∧ ∀ i : Int, i ≠ 1 → i ≠ 9 → h' 436 i = h 436 i := by
  obtain ⟨d, rfl, hd2⟩ := mm_dS hd; clear hd; have hd := hd2; clear hd2
  have w436 : (w.1 436).1 = 5 := by rw [hP.1]
  have hne : v ≠ mI v := fun e => by
    unfold mI at e
    have h1 := Int.bmod_lt (x := v) (m := 4294967296) (by decide)
    have h2 := Int.le_bmod (x := v) (m := 4294967296) (by decide)
    omega
  rw [P_Pr_push, mCmp_eq, mEq_f hne, mZ_0, mF_t w436]
  try dsimp only
  simp only [mF_t w436]
  rw [mUp_n (Or.inr (by decide)), h0, E_poke hd hP.2 (by decide), mC_s]
  simp only [mF_t w436]
  generalize hq : mUp h 436 9 0 436 1 = q
  have e : ∀ h1 : mm_H, (h1 = mUp h 436 9 0 ∨ h1 = mUp (mUp h 436 9 0) 437 q (mI v)) → ∀ z, PO h (mUp h1 436 1 z) ∧ mUp h1 436 1 z 436 9 = 0 ∧ ∀ i : Int, i ≠ 1 → i ≠ 9 → mUp h1 436 1 z 436 i = h 436 i := by
    rintro h1 (rfl | rfl) z
    · exact ⟨PO_tr (PO_up (by decide)) (PO_up (by decide)), by rw [mUp_n (Or.inr (by decide)), mUp_s], fun i i1 i9 => by rw [mUp_n (Or.inr i1), mUp_n (Or.inr i9)]⟩
    · exact ⟨PO_tr (PO_tr (PO_up (by decide)) PO_st) (PO_up (by decide)), by rw [mUp_n (Or.inr (by decide)), mUp_n (Or.inl (by decide)), mUp_s], fun i i1 i9 => by rw [mUp_n (Or.inr i1), mUp_n (Or.inl (by decide)), mUp_n (Or.inr i9)]⟩
  have hh : (if 0 ≤ q ∧ q < 200 then mUp (mUp h 436 9 0) 437 q (mI v) else mUp h 436 9 0) = mUp h 436 9 0 ∨ (if 0 ≤ q ∧ q < 200 then mUp (mUp h 436 9 0) 437 q (mI v) else mUp h 436 9 0) = mUp (mUp h 436 9 0) 437 q (mI v) := by
    split
    · exact Or.inr rfl
    · exact Or.inl rfl
  exact ⟨_, rfl, e _ hh _⟩
theorem E_pop (hd : 2 ≤ d) (hP : PW w) (hS : sOk S) (hI : aI s) {o r c : Int} {dep : Nat} (hX : XS w h S o s k r c (dep + 1)) (hdep : dep < 200) : ∃ h', mm_P d 60 [(2, 436)] w h = some ((0, h 437 (dep : Int)), w, h') ∧ PO h h' ∧ XS w h' S o s k r c dep ∧ h' 437 = h 437 := by
  obtain ⟨d, rfl, hd2⟩ := mm_dS hd; clear hd; have hd := hd2; clear hd2
  have w436 : (w.1 436).1 = 5 := by rw [hP.1]
  have x := hX.1
  rw [P_Pr_pop, mF_t w436, mF_t w436, x.2.1]
  try dsimp only
  rw [mI_id (by omega) (by omega), mF_t w436, mF_t w436, mUp_n (Or.inr (by decide)), x.1, mUp_s, E_peek_t hd hP.2 (by omega) (by omega), mC_s, show ((dep + 1 : Nat) : Int) - 1 = (dep : Int) by omega, mUp_row (by decide)]
  have oo : PO h (mUp h 436 1 (dep : Int)) := PO_up (by decide)
  exact ⟨_, rfl, oo, XS_up hS hI hX oo mUp_s (fun i hi => mUp_n (Or.inr hi)), mUp_row (by decide)⟩
theorem E_wordFor (hd : 2 ≤ d) (hP : PW w) (hW : ShW w S) (hI : aI s) {o r c : Int} {dep : Nat} (hr : 0 ≤ r ∧ r < aHi s) (hc : 0 ≤ c ∧ c < aWi s) (hX : XS w h S o s k r c dep) {i : Nat} (hi : i < 8) : mm_P d 57 [(2, 436), (2, S), (0, (i : Int))] w h = some ((0, wEnv s k r c i), w, h) := by
  obtain ⟨d, rfl, hd2⟩ := mm_dS hd; clear hd; have hd := hd2; clear hd2
  have w436 : (w.1 436).1 = 5 := by rw [hP.1]
  have wS : (w.1 S).1 = 9 := by rw [hW.2.1]
  have h16 := hI.1; have w16 := hI.2.1
  obtain ⟨⟨x0, x1, x9, x5, x6⟩, xa, xp, hR, ho⟩ := hX
  rw [P_Pr_wordFor]
  simp only [mF_t w436, mF_t wS, x5, x6, xa.1, xa.2.1, xa.2.2]
  unfold wEnv
  rcases (show i = 0 ∨ i = 1 ∨ i = 2 ∨ i = 3 ∨ i = 4 ∨ i = 5 ∨ i = 6 ∨ i = 7 by omega) with rfl | rfl | rfl | rfl | rfl | rfl | rfl | rfl
  · rw [mEq_t (by decide), E_valS hd hW hI hR hr hc, mC_s]; rfl
  · rw [mEq_f (by decide), mEq_t (by decide)]; rfl
  · rw [mEq_f (by decide), mEq_f (by decide), mEq_t (by decide)]; rfl
  · rw [mEq_f (by decide), mEq_f (by decide), mEq_f (by decide), mEq_t (by decide)]
    by_cases c0 : 0 < c
    · rw [mLe_f c0, mI_id (by omega) (by omega), E_valS hd hW hI hR hr (by omega), mC_s]
      simp [c0]
    · rw [mLe_t (by omega)]
      simp [c0]
  · rw [mEq_f (by decide), mEq_f (by decide), mEq_f (by decide), mEq_f (by decide), mEq_t (by decide)]
    by_cases c0 : 0 < r
    · rw [mLe_f c0, mI_id (by omega) (by omega), E_valS hd hW hI hR (by omega) hc, mC_s]
      simp [c0]
    · rw [mLe_t (by omega)]
      simp [c0]
  · rw [mEq_f (by decide), mEq_f (by decide), mEq_f (by decide), mEq_f (by decide), mEq_f (by decide), mEq_t (by decide)]; rfl
  · rw [mEq_f (by decide), mEq_f (by decide), mEq_f (by decide), mEq_f (by decide), mEq_f (by decide), mEq_f (by decide), mEq_t (by decide)]; rfl
  · rw [mEq_f (by decide), mEq_f (by decide), mEq_f (by decide), mEq_f (by decide), mEq_f (by decide), mEq_f (by decide), mEq_f (by decide), mEq_t (by decide)]; rfl
/-- a word's number is small -/
theorem wEnv_le (hI : aI s) (hk : 0 ≤ k ∧ k < aN s) {r c : Int} (hr : 0 ≤ r ∧ r < aHi s) (hc : 0 ≤ c ∧ c < aWi s) (i : Nat) : -2147483648 ≤ wEnv s k r c i ∧ wEnv s k r c i < 2147483648 := by
  have hb := rul_b hI hk
  have hv := hI.2.2.2.1
  have hw16 : rW s k ≤ 16 := by unfold rW; omega
  have hwb : aRul s k 1 + (rW s k : Int) = aRul s k 3 + 1 := by unfold rW; omega
  have hh : aRul s k 0 + (rH s k : Int) = aRul s k 2 + 1 := by unfold rH; omega
  have hh16 : rH s k ≤ 16 := by unfold rH; omega
  have vv : ∀ r c : Int, aRul s k 0 ≤ r → r < aRul s k 0 + rH s k → aRul s k 1 ≤ c → c < aRul s k 1 + rW s k → -999 ≤ aVal s r c ∧ aVal s r c ≤ 999 := fun r c r0 r1 c0 c1 => hv r c (by omega) (by omega) (by omega) (by omega)
  have s1 : -2147483648 ≤ ruSum s k ∧ ruSum s k < 2147483648 := by
    unfold ruSum sum2
    have := sumN_le (f := fun r => sumN (fun c => aVal s r c) (rW s k) (aRul s k 1)) (a := -15984) (b := 15984) (rH s k) (aRul s k 0) (fun r r0 r1 => by
      have := sumN_le (f := fun c => aVal s r c) (a := -999) (b := 999) (rW s k) (aRul s k 1) (fun c c0 c1 => vv r c r0 r1 c0 c1)
      omega)
    omega
  have s2 := mx2_le (f := aVal s) (B := 999) (b := rW s k) (l := aRul s k 1) (rH s k) (aRul s k 0) (-999) vv (by decide)
  have s3 := mn2_le (f := aVal s) (B := 999) (b := rW s k) (l := aRul s k 1) (rH s k) (aRul s k 0) 999 vv (by decide)
  have s4 := sum2_le (f := fun i j => bI (aVal s i j = aVal s r c)) (t := aRul s k 0) (l := aRul s k 1) hh16 hw16 (fun _ _ _ _ _ _ => bI_le _)
  have s5 := sum2_le (f := fun i j => bI (aVal s r c < aVal s i j)) (t := aRul s k 0) (l := aRul s k 1) hh16 hw16 (fun _ _ _ _ _ _ => bI_le _)
  have v1 := hv r c hr.1 hr.2 hc.1 hc.2
  unfold wEnv
  repeat' split
  all_goals first | omega | skip
  · have := hv r (c - 1) hr.1 hr.2 (by omega) (by omega); omega
  · have := hv (r - 1) c (by omega) (by omega) hc.1 hc.2; omega
  · unfold ruMax; omega
  · unfold ruMin; omega
  · unfold nLike; omega
  · unfold nMore; omega
end PU
