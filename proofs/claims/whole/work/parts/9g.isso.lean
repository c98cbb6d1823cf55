/-! PURE: whether a rule holds, asked of the class. -/
theorem mul_in {x y : Int} (hx : -2147483648 ≤ x ∧ x < 2147483648) (hy : -2147483648 ≤ y ∧ y < 2147483648) : -9223372036854775808 ≤ x * y ∧ x * y < 9223372036854775808 := by
  have h1 : x.natAbs ≤ 2147483648 := by omega
  have h2 : y.natAbs ≤ 2147483648 := by omega
  have h3 := Nat.mul_le_mul h1 h2
  rw [← Int.natAbs_mul] at h3
  omega
theorem lenC_le : ∀ T : Term, lenC T ≤ lenM T := by
  intro T
  induction T <;> simp_all [lenC, lenM] <;> first | omega | (split <;> omega) | skip
section PU
variable {d : Nat} {w : mm_W} {s : aS} {S k o r c a : Int} {N : Nat}
theorem E_joined (hd : 1 ≤ d) {h : mm_H} {x y : Int} (hx : -2147483648 ≤ x ∧ x < 2147483648) (hy : -2147483648 ≤ y ∧ y < 2147483648) : mm_P d 56 [(0, 43), (1, x), (1, y)] w h = some ((1, x + y), w, h) ∧ mm_P d 56 [(0, 45), (1, x), (1, y)] w h = some ((1, x - y), w, h) ∧ mm_P d 56 [(0, 42), (1, x), (1, y)] w h = some ((1, x * y), w, h) ∧ mm_P d 56 [(0, 60), (1, x), (1, y)] w h = some ((1, bI (x < y)), w, h) ∧ mm_P d 56 [(0, 61), (1, x), (1, y)] w h = some ((1, bI (x = y)), w, h) ∧ mm_P d 56 [(0, 62), (1, x), (1, y)] w h = some ((1, bI (y < x)), w, h) := by
  obtain ⟨d, rfl, hd2⟩ := mm_dS hd; clear hd; have hd := hd2; clear hd2
  have hm := mul_in hx hy
  refine ⟨?_, ?_, ?_, ?_, ?_, ?_⟩
  · rw [P_Pr_joined, mEq_f (by decide), mEq_t rfl, mJ_id (by omega) (by omega)]
  · rw [P_Pr_joined, mEq_f (by decide), mEq_f (by decide), mEq_t rfl, mJ_id (by omega) (by omega)]
  · rw [P_Pr_joined, mEq_t rfl, mJ_id hm.1 hm.2]
  · rw [P_Pr_joined, mEq_f (by decide), mEq_f (by decide), mEq_f (by decide), mEq_t rfl, mCmp_ge]
    by_cases c : x < y
    · rw [mLe_f c, bI_t c]
    · rw [mLe_t (by omega), bI_f c]
  · rw [P_Pr_joined, mEq_f (by decide), mEq_f (by decide), mEq_f (by decide), mEq_f (by decide), mEq_t rfl, mCmp_eq]
    by_cases c : x = y
    · rw [mEq_t c, bI_t c]
    · rw [mEq_f c, bI_f c]
  · rw [P_Pr_joined, mEq_f (by decide), mEq_f (by decide), mEq_f (by decide), mEq_f (by decide), mEq_f (by decide), mEq_t rfl, mCmp_le]
    by_cases c : y < x
    · rw [mLe_f c, bI_t c]
    · rw [mLe_t (by omega), bI_f c]
theorem EX_all (hd : 10 ≤ d) (hP : PW w) (hS : sOk S) (hW : ShW w S) (hI : aI s) (hk : 0 ≤ k ∧ k < aN s) (hr : 0 ≤ r ∧ r < aHi s) (hcc : 0 ≤ c ∧ c < aWi s) (ha : w.1 a = (50, (N : Int))) (h506 : 506 ≤ a) (hN : N ≤ 1000) : ∀ (T : Term) (b : Bool), wfT b T → EX d w s S k o r c a N T := by
  have he : ∀ i, -2147483648 ≤ wEnv s k r c i ∧ wEnv s k r c i < 2147483648 := wEnv_le hI hk hr hcc
  have bd : ∀ (T : Term) (b : Bool), wfT b T → ∀ v, ev (wEnv s k r c) T = some v → (-2147483648 ≤ v ∧ v < 2147483648) := fun T b hT v hv => (ev_in he T b v hT hv).1
  intro T
  induction T with
  | arg n => intro b h; cases b with
    | true => exact EX_arg hd hP hS hI ha h506 hN h
    | false => exact absurd h (by simp [wfT])
  | index i => intro b h; cases b with
    | true => exact EX_index hd hP hS hW hI hk hr hcc ha h506 hN h
    | false => exact absurd h (by simp [wfT])
  | length U ih => intro b h; cases b with
    | true => exact EX_un hd hP hS hI ha h506 hN (f := fun x => -x) (Or.inl ⟨rfl, fun _ => rfl⟩) rfl (fun _ => rfl) rfl rfl (ih true h) (fun v hv => ⟨bd U true h v hv, fun x => absurd x (by decide)⟩) (lvs_1 U true h)
    | false => exact absurd h (by simp [wfT])
  | old U ih => intro b h; cases b with
    | true => exact absurd h (by simp [wfT])
    | false => exact EX_un hd hP hS hI ha h506 hN (f := fun x => 1 - x) (Or.inr ⟨rfl, fun _ => rfl⟩) rfl (fun _ => rfl) rfl rfl (ih false h) (fun v hv => ⟨bd U false h v hv, fun _ => (ev_in he U false v h hv).2 rfl⟩) (lvs_1 U false h)
  | add U V iu iv => intro b h; cases b with
    | true => exact EX_bin hd hP hS hI ha h506 hN (f := fun x y => x + y) (op := 43) (by decide) (fun d x y h hd hx hy => (E_joined hd hx hy).1) rfl (fun _ => rfl) rfl rfl (iu true h.1) (iv true h.2) (bd U true h.1) (bd V true h.2) (lvs_1 U true h.1) (lvs_1 V true h.2)
    | false => exact absurd h (by simp [wfT])
  | sub U V iu iv => intro b h; cases b with
    | true => exact EX_bin hd hP hS hI ha h506 hN (f := fun x y => x - y) (op := 45) (by decide) (fun d x y h hd hx hy => (E_joined hd hx hy).2.1) rfl (fun _ => rfl) rfl rfl (iu true h.1) (iv true h.2) (bd U true h.1) (bd V true h.2) (lvs_1 U true h.1) (lvs_1 V true h.2)
    | false => exact absurd h (by simp [wfT])
  | mul U V iu iv => intro b h; cases b with
    | true => exact EX_bin hd hP hS hI ha h506 hN (f := fun x y => x * y) (op := 42) (by decide) (fun d x y h hd hx hy => (E_joined hd hx hy).2.2.1) rfl (fun _ => rfl) rfl rfl (iu true h.1) (iv true h.2) (bd U true h.1) (bd V true h.2) (lvs_1 U true h.1) (lvs_1 V true h.2)
    | false => exact absurd h (by simp [wfT])
  | div U V iu iv => intro b h; cases b with
    | true => exact absurd h (by simp [wfT])
    | false => exact EX_bin hd hP hS hI ha h506 hN (f := fun x y => bI (x < y)) (op := 60) (by decide) (fun d x y h hd hx hy => (E_joined hd hx hy).2.2.2.1) rfl (fun _ => rfl) rfl rfl (iu true h.1) (iv true h.2) (bd U true h.1) (bd V true h.2) (lvs_1 U true h.1) (lvs_1 V true h.2)
  | rem U V iu iv => intro b h; cases b with
    | true => exact absurd h (by simp [wfT])
    | false => exact EX_bin hd hP hS hI ha h506 hN (f := fun x y => bI (x = y)) (op := 61) (by decide) (fun d x y h hd hx hy => (E_joined hd hx hy).2.2.2.2.1) rfl (fun _ => rfl) rfl rfl (iu true h.1) (iv true h.2) (bd U true h.1) (bd V true h.2) (lvs_1 U true h.1) (lvs_1 V true h.2)
  | elem U V iu iv => intro b h; cases b with
    | true => exact absurd h (by simp [wfT])
    | false => exact EX_bin hd hP hS hI ha h506 hN (f := fun x y => bI (y < x)) (op := 62) (by decide) (fun d x y h hd hx hy => (E_joined hd hx hy).2.2.2.2.2) rfl (fun _ => rfl) rfl rfl (iu true h.1) (iv true h.2) (bd U true h.1) (bd V true h.2) (lvs_1 U true h.1) (lvs_1 V true h.2)
  | op2 q U V iu iv => intro b h; cases b with
    | true => exact absurd h (by simp [wfT])
    | false =>
      obtain ⟨h1, h2, h3⟩ := h
      rcases h1 with rfl | rfl
      · exact EX_op2 (m := 0) hd hP hS hI ha h506 hN (Or.inl rfl) (iu false h2) (iv false h3) (bd U false h2) (lvs_1 U false h2)
      · exact EX_op2 (m := 1) hd hP hS hI ha h506 hN (Or.inr rfl) (iu false h2) (iv false h3) (bd U false h2) (lvs_1 U false h2)
  | _ => intro b h; cases b <;> exact absurd h (by simp [wfT])
theorem E_isSo (hd : 12 ≤ d) (hP : PW w) (hS : sOk S) (hW : ShW w S) (hI : aI s) {h : mm_H} (h0 : h 436 0 = 437) (hR : RC w h S s) (hk : 0 ≤ k ∧ k < aN s) (hr : 0 ≤ r ∧ r < aHi s) (hcc : 0 ≤ c ∧ c < aWi s) (hA : aimed h s k) : ∃ h', mm_P d 54 [(2, 436), (2, S), (2, h (S + 5) k), (0, r), (0, c)] w h = some ((0, bI (isSoA s k r c)), w, h') ∧ PO h h' ∧ aimed h' s k := by
  obtain ⟨d, rfl, hd2⟩ := mm_dS (show 11 + 1 ≤ d by omega)
  have w436 : (w.1 436).1 = 5 := by rw [hP.1]
  obtain ⟨hok, hl4, hlv⟩ := (hI.2.2.2.2.2.2.2.2 k hk.1 hk.2).2.2.2.2.2
  have hcc2 := (hR.2.2.2.2.2.2.2 k hk.1 hk.2).2
  generalize ho : h (S + 5) k = o at hcc2
  obtain ⟨o1, o2, o3, -⟩ := rul_f hS hW hI hR hk ho
  generalize ha0 : h o 7 = a at hcc2
  obtain ⟨c1, c2, c3, c4⟩ := hcc2
  have hlc := lenC_le (aCod s k)
  have hl0 := compC_len (aCod s k) 0
  rw [P_Pr_isSo, mF_t o1]
  try dsimp only
  rw [ha0, mEq_f (by omega)]
  simp only [mF_t w436, mZ_1, mZ_0]
  generalize hg : mUp (mUp (mUp (mUp (mUp h 436 5 r) 436 6 c) 436 1 0) 436 9 1) 436 10 0 = h1
  have oo : PO h h1 := by rw [← hg]; exact PO_tr (PO_tr (PO_tr (PO_tr (PO_up (by decide)) (PO_up (by decide))) (PO_up (by decide))) (PO_up (by decide))) (PO_up (by decide))
  have z5 : h1 436 5 = r := by rw [← hg]; simp [mUp]
  have z6 : h1 436 6 = c := by rw [← hg]; simp [mUp]
  have z1 : h1 436 1 = 0 := by rw [← hg]; simp [mUp]
  have z9 : h1 436 9 = 1 := by rw [← hg]; simp [mUp]
  have z10 : h1 436 10 = 0 := by rw [← hg]; simp [mUp]
  have zo : ∀ i : Int, i = 0 ∨ i = 2 ∨ i = 3 ∨ i = 4 → h1 436 i = h 436 i := fun i hi => by rw [← hg, mUp_n (Or.inr (by omega)), mUp_n (Or.inr (by omega)), mUp_n (Or.inr (by omega)), mUp_n (Or.inr (by omega)), mUp_n (Or.inr (by omega))]
  have X1 : XS w h1 S o s k r c 0 := ⟨⟨by rw [zo 0 (by decide)]; exact h0, z1, z9, z5, z6⟩, ⟨by rw [zo 2 (by decide)]; exact hA.1, by rw [zo 3 (by decide)]; exact hA.2.1, by rw [zo 4 (by decide)]; exact hA.2.2⟩, Or.inl z10, RC_PO hS hI hR oo, by rw [oo.1 _ (by unfold sOk at hS; omega) (by unfold sOk at hS; omega)]; exact ho⟩
  have sg : Seg h1 a 0 (compC (aCod s k) 0) := fun i hi => by
    rw [PO_a oo c1, show ((0 : Nat) : Int) + (i : Int) = (i : Int) by omega]
    exact c4 i (by omega)
  obtain ⟨u1, u2⟩ := EX_all (d := d) (o := o) (N := lenC (aCod s k)) (by omega) hP hS hW hI hk hr hcc c3 c1 (by omega) (aCod s k) false hok 0 0 0 h1 X1 sg (by omega) (by omega) (by decide)
  have aim2 : ∀ h' : mm_H, PO h h' → (∀ i : Int, i = 2 ∨ i = 3 ∨ i = 4 → h' 436 i = h 436 i) → aimed h' s k := fun h' _ e => ⟨by rw [e 2 (by decide)]; exact hA.1, by rw [e 3 (by decide)]; exact hA.2.1, by rw [e 4 (by decide)]; exact hA.2.2⟩
  cases hv : ev (wEnv s k r c) (aCod s k) with
  | none =>
    obtain ⟨h2, q', cnt', y1, y2, y3, y4⟩ := u2 hv
    have y1 : l_Pr_isSo_0 (mm_P d) 436 S o r c a 0 0 w h1 = xG w S o r c a h2 q' cnt' := y1
    rw [y1]
    unfold xG
    rw [mK_r, if_pos rfl]
    simp only [mP_0]
    rw [mF_t w436, y3, mEq_t rfl]
    refine ⟨h2, ?_, PO_tr oo y2, y4⟩
    rw [bI_f]
    rintro ⟨v', e1, e2⟩
    rw [hv] at e1
    cases e1
  | some v =>
    obtain ⟨h2, cnt', y1, y2, y3, y4, y5, y6, y7⟩ := u1 v hv
    have y1 : l_Pr_isSo_0 (mm_P d) 436 S o r c a 0 0 w h1 = xL d w S o r c a ((0 + lenC (aCod s k) : Nat) : Int) cnt' h2 := y1
    have y8 : xL d w S o r c a ((0 + lenC (aCod s k) : Nat) : Int) cnt' h2 = xG w S o r c a h2 ((0 + lenC (aCod s k) : Nat) : Int) cnt' := by
      show l_Pr_isSo_0 (mm_P d) 436 S o r c a _ cnt' w h2 = _
      rw [l_Pr_isSo_0_eq, mN_t c3 (by decide), c3]
      by_cases q1 : ((lenC (aCod s k) : Nat) : Int) ≤ cnt'
      · rw [mLe_t q1]; rfl
      rw [mLe_f (show cnt' < ((lenC (aCod s k) : Nat) : Int) by omega), mN_t c3 (by decide), mLe_t (show ((lenC (aCod s k) : Nat) : Int) ≤ ((0 + lenC (aCod s k) : Nat) : Int) by omega)]
      rfl
    obtain ⟨h3, p1, p2, p3, p4⟩ := E_pop (d := d) (by omega) hP hS hI y3 (by omega)
    have y4 : h2 437 ((0 : Nat) : Int) = v := y4
    rw [y4] at p1
    rw [y1, y8]
    unfold xG
    rw [mK_r, if_pos rfl]
    simp only [mP_0]
    rw [mF_t w436, y3.1.2.2.1, mEq_f (by decide), mF_t w436, p1, mC_s]
    refine ⟨h3, ?_, PO_tr (PO_tr oo y2) p2, p3.2.1⟩
    by_cases c0 : v = 0
    · rw [mEq_t c0, bI_f]
      rintro ⟨v', e1, e2⟩
      rw [hv] at e1
      exact e2 (by rw [← Option.some.inj e1]; exact c0)
    · rw [mEq_f c0, bI_t ⟨v, hv, c0⟩]
end PU
