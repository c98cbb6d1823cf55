/-! PURE: the reference works a condition out. -/
section PU
variable {d : Nat} {w : mm_W} {h : mm_H} {s : aS} {k r c : Int}
theorem MW_495 (hW : MW w) : w.1 495 = (53, 400) := hW.2.2.2.2.2.2.2.2.2.2.2.2.1
theorem MH_27 (hH : MH h) : h 483 27 = 495 := hH.2.2.2.2.2.2.2.2.2.2.2.1
theorem RM_f (hR : RM (h 484) s) (hk : 0 ≤ k ∧ k < aN s) (f : Int) (f0 : 0 ≤ f) (f1 : f < 7) : h 484 (1415 + 408 * k + f) = aRul s k f := (hR.2.2.2.2.2.2 k hk.1 hk.2).1 f f0 f1
theorem E_M_val (hd : 2 ≤ d) (hW : MW w) (hH : MH h) (hI : aI s) (hR : RM (h 484) s) (hr : 0 ≤ r ∧ r < aHi s) (hc : 0 ≤ c ∧ c < aWi s) : mm_P d 279 [(2, 483), (0, r), (0, c)] w h = some ((0, aVal s r c), w, h) := by
  have i1 := hI.1; have i2 := hI.2.1
  rw [E_M_valueIn hd hW hH (by omega) (by omega), if_neg (by omega), hR.2.1 r c hr.1 hr.2 hc.1 hc.2]
noncomputable def cntP (like v x : Int) : Int := if like = 0 then bI (v < x) else bI (x = v)
theorem L_cnt1 (hd : 2 ≤ d) (hW : MW w) (hH : MH h) (hI : aI s) (hR : RM (h 484) s) (hk : 0 ≤ k ∧ k < aN s) {v like i : Int} (hlk : like = 0 ∨ like = 1) (hi : 0 ≤ i ∧ i < aHi s) : ∀ (m : Nat) (j acc : Int), aRul s k 1 ≤ j → j + m = aRul s k 3 + 1 → 0 ≤ acc → acc + m < 1000 → l_M_countIn_1 (mm_P d) 483 (1415 + 408 * k) v like acc i j w h = some (.inr (93, [(2, 483), (0, 1415 + 408 * k), (0, v), (0, like), (0, acc + sumN (fun j => cntP like v (aVal s i j)) m j), (0, i), (0, aRul s k 3 + 1), (9, 0)], w, h)) := by
  have hw : (w.1 483).1 = 13 := by rw [hW.1]
  have hb := rul_b hI hk
  have hn := hI.2.2.1
  have f3 := RM_f hR hk 3 (by decide) (by decide)
  intro m
  induction m with
  | zero =>
    intro j acc a1 a2 a3 a4
    rw [l_M_countIn_1_eq, mF_t hw, hH.1, mI_id (x := 1415 + 408 * k + 3) (by omega) (by omega), mA_t hW.2.1 (by omega) (by omega), f3, mLt_t (by omega)]
    have e : sumN (fun j => cntP like v (aVal s i j)) 0 j = 0 := rfl
    rw [e, show j = aRul s k 3 + 1 by omega, show acc + 0 = acc by omega]
  | succ m ih =>
    intro j acc a1 a2 a3 a4
    have e : sumN (fun j => cntP like v (aVal s i j)) (m + 1) j = cntP like v (aVal s i j) + sumN (fun j => cntP like v (aVal s i j)) m (j + 1) := rfl
    rw [l_M_countIn_1_eq, mF_t hw, hH.1, mI_id (x := 1415 + 408 * k + 3) (by omega) (by omega), mA_t hW.2.1 (by omega) (by omega), f3, mLt_f (by omega), mF_t hw, E_M_val hd hW hH hI hR hi (c := j) (by omega), mC_s, e]
    try dsimp only
    rw [mI_id (x := j + 1) (by omega) (by omega), mI_id (x := acc + 1) (by omega) (by omega), mI_id (x := acc + 0) (by omega) (by omega), show acc + 0 = acc by omega]
    rcases hlk with rfl | rfl
    · rw [mEq_t rfl, mEq_t rfl]
      unfold cntP
      rw [if_pos rfl]
      by_cases q : v < aVal s i j
      · rw [mLe_f q, bI_t q, ih (j + 1) (acc + 1) (by omega) (by omega) (by omega) (by omega), ← Int.add_assoc]; rfl
      · rw [mLe_t (by omega), bI_f q, ih (j + 1) acc (by omega) (by omega) (by omega) (by omega), Int.zero_add]; rfl
    · rw [mEq_f (show (1 : Int) ≠ 0 by decide)]
      unfold cntP
      rw [if_neg (by decide)]
      by_cases q : aVal s i j = v
      · rw [mEq_t q, bI_t q, ih (j + 1) (acc + 1) (by omega) (by omega) (by omega) (by omega), ← Int.add_assoc]; rfl
      · rw [mEq_f q, mEq_f (show (1 : Int) ≠ 0 by decide), bI_f q, ih (j + 1) acc (by omega) (by omega) (by omega) (by omega), Int.zero_add]; rfl
theorem L_cnt0 (hd : 2 ≤ d) (hW : MW w) (hH : MH h) (hI : aI s) (hR : RM (h 484) s) (hk : 0 ≤ k ∧ k < aN s) {v like : Int} (hlk : like = 0 ∨ like = 1) : ∀ (m : Nat) (i acc : Int), aRul s k 0 ≤ i → i + m = aRul s k 2 + 1 → 0 ≤ acc → acc + 16 * m < 900 → l_M_countIn_0 (mm_P d) 483 (1415 + 408 * k) v like acc i w h = some (.inr (99, [(2, 483), (0, 1415 + 408 * k), (0, v), (0, like), (0, acc + sumN (fun i => sumN (fun j => cntP like v (aVal s i j)) (rW s k) (aRul s k 1)) m i), (0, aRul s k 2 + 1), (9, 0), (9, 0)], w, h)) := by
  have hw : (w.1 483).1 = 13 := by rw [hW.1]
  have hb := rul_b hI hk
  have hn := hI.2.2.1
  have f2 := RM_f hR hk 2 (by decide) (by decide)
  have f1 := RM_f hR hk 1 (by decide) (by decide)
  have hwb : aRul s k 1 + (rW s k : Int) = aRul s k 3 + 1 := by unfold rW; omega
  have hw16 : rW s k ≤ 16 := by unfold rW; omega
  intro m
  induction m with
  | zero =>
    intro i acc a1 a2 a3 a4
    rw [l_M_countIn_0_eq, mF_t hw, hH.1, mI_id (x := 1415 + 408 * k + 2) (by omega) (by omega), mA_t hW.2.1 (by omega) (by omega), f2, mLt_t (by omega)]
    have e : sumN (fun i => sumN (fun j => cntP like v (aVal s i j)) (rW s k) (aRul s k 1)) 0 i = 0 := rfl
    rw [e, show i = aRul s k 2 + 1 by omega, show acc + 0 = acc by omega]
  | succ m ih =>
    intro i acc a1 a2 a3 a4
    have e : sumN (fun i => sumN (fun j => cntP like v (aVal s i j)) (rW s k) (aRul s k 1)) (m + 1) i = sumN (fun j => cntP like v (aVal s i j)) (rW s k) (aRul s k 1) + sumN (fun i => sumN (fun j => cntP like v (aVal s i j)) (rW s k) (aRul s k 1)) m (i + 1) := rfl
    have b := sumN_le (f := fun j => cntP like v (aVal s i j)) (a := 0) (b := 1) (rW s k) (aRul s k 1) (fun j _ _ => by unfold cntP; split <;> exact bI_le _)
    rw [l_M_countIn_0_eq, mF_t hw, hH.1, mI_id (x := 1415 + 408 * k + 2) (by omega) (by omega), mA_t hW.2.1 (by omega) (by omega), f2, mLt_f (by omega), mF_t hw, mI_id (x := 1415 + 408 * k + 1) (by omega) (by omega), mA_t hW.2.1 (by omega) (by omega), f1]
    try dsimp only
    rw [L_cnt1 hd hW hH hI hR hk hlk (i := i) (by omega) (rW s k) (aRul s k 1) acc (Int.le_refl _) hwb a3 (by omega), mK_r, if_pos rfl]
    simp only [mP_0, mP_1, mP_2, mP_3, mP_4, mP_5]
    rw [mI_id (x := i + 1) (by omega) (by omega), ih (i + 1) _ (by omega) (by omega) (by omega) (by omega), e, Int.add_assoc]
theorem E_M_countIn (hd : 3 ≤ d) (hW : MW w) (hH : MH h) (hI : aI s) (hR : RM (h 484) s) (hk : 0 ≤ k ∧ k < aN s) (v : Int) : mm_P d 280 [(2, 483), (0, 1415 + 408 * k), (0, v), (0, 1)] w h = some ((0, nLike s k v), w, h) ∧ mm_P d 280 [(2, 483), (0, 1415 + 408 * k), (0, v), (0, 0)] w h = some ((0, nMore s k v), w, h) := by
  obtain ⟨d, rfl, hd2⟩ := mm_dS hd; clear hd; have hd := hd2; clear hd2
  have hw : (w.1 483).1 = 13 := by rw [hW.1]
  have hb := rul_b hI hk
  have hn := hI.2.2.1
  have f0 := RM_f hR hk 0 (by decide) (by decide)
  rw [Int.add_zero] at f0
  have hh : aRul s k 0 + (rH s k : Int) = aRul s k 2 + 1 := by unfold rH; omega
  have hh16 : rH s k ≤ 16 := by unfold rH; omega
  constructor
  · rw [P_M_countIn, mF_t hw, hH.1, mA_t hW.2.1 (by omega) (by omega), f0]
    try dsimp only
    rw [L_cnt0 (by omega) hW hH hI hR hk (Or.inr rfl) (rH s k) (aRul s k 0) 0 (Int.le_refl _) hh (by decide) (by omega), mK_r, if_pos rfl]
    simp only [mP_4]
    rw [Int.zero_add]
    rfl
  · rw [P_M_countIn, mF_t hw, hH.1, mA_t hW.2.1 (by omega) (by omega), f0]
    try dsimp only
    rw [L_cnt0 (by omega) hW hH hI hR hk (Or.inl rfl) (rH s k) (aRul s k 0) 0 (Int.le_refl _) hh (by decide) (by omega), mK_r, if_pos rfl]
    simp only [mP_4]
    rw [Int.zero_add]
    rfl
/-- the reference amid a rule's condition -/
def MX (h : mm_H) (s : aS) (k : Int) : Prop := MH h ∧ RM (h 484) s ∧ h 483 28 = ruSum s k ∧ h 483 29 = ruMax s k ∧ h 483 30 = ruMin s k
theorem E_named (hd : 4 ≤ d) (hW : MW w) (hI : aI s) (hX : MX h s k) (hk : 0 ≤ k ∧ k < aN s) (hr : 0 ≤ r ∧ r < aHi s) (hc : 0 ≤ c ∧ c < aWi s) {i : Nat} (hi : i ≤ 9) : mm_P d 281 [(2, 483), (0, (i : Int)), (0, 1415 + 408 * k), (0, r), (0, c)] w h = some ((0, wEnv s k r c i), w, h) := by
  obtain ⟨d, rfl, hd2⟩ := mm_dS hd; clear hd; have hd := hd2; clear hd2
  have hw : (w.1 483).1 = 13 := by rw [hW.1]
  obtain ⟨hH, hR, x28, x29, x30⟩ := hX
  have h16 := hI.1; have w16 := hI.2.1
  obtain ⟨g8, g9⟩ := E_M_countIn (d := d) (h := h) (by omega) hW hH hI hR hk (aVal s r c)
  rw [P_M_named]
  simp only [mF_t hw]
  rw [x28, x29, x30, E_M_val (by omega) hW hH hI hR hr hc, mC_s, mC_s]
  unfold wEnv
  rcases (show i = 0 ∨ i = 1 ∨ i = 2 ∨ i = 3 ∨ i = 4 ∨ i = 5 ∨ i = 6 ∨ i = 7 ∨ i = 8 ∨ i = 9 by omega) with rfl | rfl | rfl | rfl | rfl | rfl | rfl | rfl | rfl | rfl
  · rw [mEq_t (by decide)]; rfl
  · rw [mEq_f (by decide), mEq_t (by decide)]; rfl
  · rw [mEq_f (by decide), mEq_f (by decide), mEq_t (by decide)]; rfl
  · rw [mEq_f (by decide), mEq_f (by decide), mEq_f (by decide), mEq_t (by decide), mI_id (by omega) (by omega)]
    by_cases c0 : 0 < c
    · rw [E_M_val (by omega) hW hH hI hR hr (by omega), mC_s]
      simp [c0]
    · rw [E_M_valueIn (by omega) hW hH (by omega) (by omega), mC_s, if_pos (by omega)]
      simp [c0]
  · rw [mEq_f (by decide), mEq_f (by decide), mEq_f (by decide), mEq_f (by decide), mEq_t (by decide), mI_id (by omega) (by omega)]
    by_cases c0 : 0 < r
    · rw [E_M_val (by omega) hW hH hI hR (by omega) hc, mC_s]
      simp [c0]
    · rw [E_M_valueIn (by omega) hW hH (by omega) (by omega), mC_s, if_pos (by omega)]
      simp [c0]
  · rw [mEq_f (by decide), mEq_f (by decide), mEq_f (by decide), mEq_f (by decide), mEq_f (by decide), mEq_t (by decide)]; rfl
  · rw [mEq_f (by decide), mEq_f (by decide), mEq_f (by decide), mEq_f (by decide), mEq_f (by decide), mEq_f (by decide), mEq_t (by decide)]; rfl
  · rw [mEq_f (by decide), mEq_f (by decide), mEq_f (by decide), mEq_f (by decide), mEq_f (by decide), mEq_f (by decide), mEq_f (by decide), mEq_t (by decide)]; rfl
  · rw [mEq_f (by decide), mEq_f (by decide), mEq_f (by decide), mEq_f (by decide), mEq_f (by decide), mEq_f (by decide), mEq_f (by decide), mEq_f (by decide), mEq_t (by decide), g8, mC_s, mF_t hw]; rfl
  · rw [mEq_f (by decide), mEq_f (by decide), mEq_f (by decide), mEq_f (by decide), mEq_f (by decide), mEq_f (by decide), mEq_f (by decide), mEq_f (by decide), mEq_f (by decide), g9, mC_s, mF_t hw]; rfl
def i32 (z : Int) : Prop := -2147483648 ≤ z ∧ z < 2147483648
/-- the check behind each operation -/
theorem M_chk (hd : 1 ≤ d) (hW : MW w) {y : Int} (hy : 0 ≤ y ∧ y ≤ 400) {h1 : mm_H} (h27 : h1 483 27 = 495) {K : mm_W → mm_H → Option (mm_R ⊕ mm_X)} : (i32 (h1 495 (if 1 ≤ y then y - 1 else 0)) → mLe 0 (mI (y - 1)) (mA w (h1 483 27) (mI (y - 1)) 53 none (mC (mm_P d 214 [(1, h1 (h1 483 27) (mI (y - 1))), (1, (-2147483648)), (1, 2147483647)] w h1) 0 none (fun v w h => mEq v 0 (mZ 0 none (some (.inl ((0, 0), w, h)))) (K w h)))) (mA w (h1 483 27) 0 53 none (mC (mm_P d 214 [(1, h1 (h1 483 27) 0), (1, (-2147483648)), (1, 2147483647)] w h1) 0 none (fun v w h => mEq v 0 (mZ 0 none (some (.inl ((0, 0), w, h)))) (K w h)))) = K w h1) ∧ (¬ i32 (h1 495 (if 1 ≤ y then y - 1 else 0)) → mLe 0 (mI (y - 1)) (mA w (h1 483 27) (mI (y - 1)) 53 none (mC (mm_P d 214 [(1, h1 (h1 483 27) (mI (y - 1))), (1, (-2147483648)), (1, 2147483647)] w h1) 0 none (fun v w h => mEq v 0 (mZ 0 none (some (.inl ((0, 0), w, h)))) (K w h)))) (mA w (h1 483 27) 0 53 none (mC (mm_P d 214 [(1, h1 (h1 483 27) 0), (1, (-2147483648)), (1, 2147483647)] w h1) 0 none (fun v w h => mEq v 0 (mZ 0 none (some (.inl ((0, 0), w, h)))) (K w h)))) = some (.inl ((0, 0), w, h1))) := by
  rw [mI_id (x := y - 1) (by omega) (by omega), h27]
  by_cases c : 1 ≤ y
  · rw [if_pos c, mLe_t (by omega), mA_t (MW_495 hW) (by omega) (by omega), E_M_in hd, mC_s, mZ_0]
    unfold i32
    constructor
    · intro hq; rw [bI_t (by omega), mEq_f (by decide)]
    · intro hq; rw [bI_f (by omega), mEq_t rfl]
  · rw [if_neg c, mLe_f (by omega), mA_t (MW_495 hW) (by omega) (by omega), E_M_in hd, mC_s, mZ_0]
    unfold i32
    constructor
    · intro hq; rw [bI_t (by omega), mEq_f (by decide)]
    · intro hq; rw [bI_f (by omega), mEq_t rfl]
/-- the reference's loop over a condition -/
noncomputable def mL (d : Nat) (w : mm_W) (k r c : Int) (y q : Int) (h : mm_H) : Option (mm_R ⊕ mm_X) := l_M_isSo_0 (mm_P d) 483 (1415 + 408 * k) r c (1423 + 408 * k) y q w h
def EM (d : Nat) (w : mm_W) (s : aS) (k r c : Int) (N : Nat) (T : Term) : Prop := ∀ (q y : Nat) (h : mm_H), MX h s k → (∀ i : Nat, i < lenM T → h 484 (1423 + 408 * k + ((q + i : Nat) : Int)) = (compM T q).getD i 0) → h 484 (1422 + 408 * k) = (N : Int) → q + lenM T ≤ N → y + lvs T ≤ 200 → (∀ j : Int, 0 ≤ j → j < y → i32 (h 495 j)) →
  (∀ v, ev (wEnv s k r c) T = some v → ∃ h' : mm_H, mL d w k r c y q h = mL d w k r c ((y + 1 : Nat) : Int) ((q + lenM T : Nat) : Int) h' ∧ (∀ b : Int, b ≠ 495 → h' b = h b) ∧ h' 495 (y : Int) = v ∧ ∀ j : Int, j < y → h' 495 j = h 495 j) ∧
  (ev (wEnv s k r c) T = none → ∃ h' : mm_H, mL d w k r c y q h = some (.inl ((0, 0), w, h')) ∧ ∀ b : Int, b ≠ 495 → h' b = h b)
theorem MX_fr {h' : mm_H} (hX : MX h s k) (e : ∀ b : Int, b ≠ 495 → h' b = h b) : MX h' s k := by
  have e3 := e 483 (by decide)
  exact ⟨MH_fr hX.1 (fun i _ => by rw [e3]), by rw [e 484 (by decide)]; exact hX.2.1, by rw [e3]; exact hX.2.2.1, by rw [e3]; exact hX.2.2.2.1, by rw [e3]; exact hX.2.2.2.2⟩
/-- code at a place -/
theorem getD_0 (x : Int) (L : List Int) : (x :: L).getD 0 0 = x := rfl
theorem getD_S (x : Int) (L : List Int) (i : Nat) : (x :: L).getD (i + 1) 0 = L.getD i 0 := rfl
theorem getD_app1 (L M : List Int) {i : Nat} (h : i < L.length) : (L ++ M).getD i 0 = L.getD i 0 := by simp [List.getD, List.getElem?_append, h]
theorem getD_app2 (L M : List Int) (i : Nat) : (L ++ M).getD (L.length + i) 0 = M.getD i 0 := by
  rw [List.getD_eq_getElem?_getD, List.getD_eq_getElem?_getD, List.getElem?_append_right (by omega), Nat.add_sub_cancel_left]
/-- how each operation begins -/
theorem I_pre (hW : MW w) (hk : 0 ≤ k ∧ k < 6) (hX : MX h s k) {N q : Nat} (hq : q < N) (hN : N ≤ 400) (hs : h 484 (1422 + 408 * k) = (N : Int)) {α : Type} (bot f g : α) : mF w 483 13 bot (mA w (h 483 0) (mI (1415 + 408 * k + 7)) 50 bot (mLe (h (h 483 0) (mI (1415 + 408 * k + 7))) (q : Int) f (mF w 483 13 bot (mA w (h 483 0) (mI (1423 + 408 * k + (q : Int))) 50 bot g)))) = g := by
  have hw : (w.1 483).1 = 13 := by rw [hW.1]
  rw [mF_t hw, hX.1.1, mI_id (x := 1415 + 408 * k + 7) (by omega) (by omega), mA_t hW.2.1 (by omega) (by omega), show 1415 + 408 * k + 7 = 1422 + 408 * k by omega, hs, mLe_f (by omega), mF_t hw, mI_id (by omega) (by omega), mA_t hW.2.1 (by omega) (by omega)]
theorem EM_arg (hd : 10 ≤ d) (hW : MW w) (hk : 0 ≤ k ∧ k < 6) {N : Nat} (hN : N ≤ 400) {n : Nat} (hn : n ≤ 9999) : EM d w s k r c N (.arg n) := by
  intro q y h hX hc hs hq hy hst
  have hw : (w.1 483).1 = 13 := by rw [hW.1]
  have hq : q + 2 ≤ N := hq
  have hy : y + 1 ≤ 200 := hy
  have c0 := hc 0 (by show 0 < 2; decide)
  have c1 := hc 1 (by show 1 < 2; decide)
  have c0 : h 484 (1423 + 408 * k + ((q : Nat) : Int)) = 1 := c0
  have c1 : h 484 (1423 + 408 * k + ((q + 1 : Nat) : Int)) = (n : Int) := c1
  refine ⟨fun v hv => ?_, fun hv => by cases hv⟩
  have e := (Option.some.inj hv).symm
  subst e
  have hop : h (h 483 0) (mI (1423 + 408 * k + (q : Int))) = 1 := by rw [hX.1.1, mI_id (by omega) (by omega)]; exact c0
  refine ⟨mUp h 495 (y : Int) (n : Int), ?_, fun b hb => mUp_row hb, mUp_s, fun j hj => mUp_n (Or.inr (by omega))⟩
  have chk := (M_chk (d := d) (w := w) (by omega) hW (y := ((y + 1 : Nat) : Int)) (by omega) (h1 := mUp h 495 (y : Int) (n : Int)) (by rw [mUp_n (Or.inl (by decide))]; exact MH_27 hX.1) (K := fun w h => mL d w k r c ((y + 1 : Nat) : Int) ((q + 2 : Nat) : Int) h)).1 (by
    rw [if_pos (by omega), show ((y + 1 : Nat) : Int) - 1 = (y : Int) by omega, mUp_s]; unfold i32; omega)
  show l_M_isSo_0 (mm_P d) 483 (1415 + 408 * k) r c (1423 + 408 * k) y q w h = _
  rw [I_1 _ _ _ _ _ _ _ _ _ _ hop, I_pre hW hk hX (by omega) hN hs]
  simp only [mF_t hw]
  rw [mI_id (x := (q : Int) + 1) (by omega) (by omega), mI_id (x := 1423 + 408 * k + ((q : Int) + 1)) (by omega) (by omega), hX.1.1, mA_t hW.2.1 (by omega) (by omega), MH_27 hX.1, mA_t (MW_495 hW) (by omega) (by omega), show 1423 + 408 * k + ((q : Int) + 1) = 1423 + 408 * k + ((q + 1 : Nat) : Int) by omega, c1, mI_id (x := (y : Int) + 1) (by omega) (by omega), mI_id (x := (q : Int) + 1 + 1) (by omega) (by omega), show (y : Int) + 1 = ((y + 1 : Nat) : Int) by omega, show (q : Int) + 1 + 1 = ((q + 2 : Nat) : Int) by omega]
  exact chk
theorem EM_index (hd : 10 ≤ d) (hW : MW w) (hI : aI s) (hk : 0 ≤ k ∧ k < aN s) (hr : 0 ≤ r ∧ r < aHi s) (hcc : 0 ≤ c ∧ c < aWi s) {N : Nat} (hN : N ≤ 400) {i : Nat} (hi : i ≤ 9) : EM d w s k r c N (.index i) := by
  intro q y h hX hc hs hq hy hst
  have hn := hI.2.2.1
  have hw : (w.1 483).1 = 13 := by rw [hW.1]
  have hq : q + 2 ≤ N := hq
  have hy : y + 1 ≤ 200 := hy
  have c0 : h 484 (1423 + 408 * k + ((q : Nat) : Int)) = 2 := hc 0 (by show 0 < 2; decide)
  have c1 : h 484 (1423 + 408 * k + ((q + 1 : Nat) : Int)) = (i : Int) := hc 1 (by show 1 < 2; decide)
  refine ⟨fun v hv => ?_, fun hv => by cases hv⟩
  have e := (Option.some.inj hv).symm
  subst e
  have hin := wEnv_le hI hk hr hcc i
  have hop : h (h 483 0) (mI (1423 + 408 * k + (q : Int))) = 2 := by rw [hX.1.1, mI_id (by omega) (by omega)]; exact c0
  refine ⟨mUp h 495 (y : Int) (wEnv s k r c i), ?_, fun b hb => mUp_row hb, mUp_s, fun j hj => mUp_n (Or.inr (by omega))⟩
  have chk := (M_chk (d := d) (w := w) (by omega) hW (y := ((y + 1 : Nat) : Int)) (by omega) (h1 := mUp h 495 (y : Int) (wEnv s k r c i)) (by rw [mUp_n (Or.inl (by decide))]; exact MH_27 hX.1) (K := fun w h => mL d w k r c ((y + 1 : Nat) : Int) ((q + 2 : Nat) : Int) h)).1 (by
    rw [if_pos (by omega), show ((y + 1 : Nat) : Int) - 1 = (y : Int) by omega, mUp_s]; exact hin)
  show l_M_isSo_0 (mm_P d) 483 (1415 + 408 * k) r c (1423 + 408 * k) y q w h = _
  rw [I_2 _ _ _ _ _ _ _ _ _ _ hop, I_pre hW (by omega) hX (by omega) hN hs]
  simp only [mF_t hw]
  rw [mI_id (x := (q : Int) + 1) (by omega) (by omega), mI_id (x := 1423 + 408 * k + ((q : Int) + 1)) (by omega) (by omega), hX.1.1, mA_t hW.2.1 (by omega) (by omega), show 1423 + 408 * k + ((q : Int) + 1) = 1423 + 408 * k + ((q + 1 : Nat) : Int) by omega, c1, E_named (by omega) hW hI hX hk hr hcc hi, mC_s, MH_27 hX.1, mA_t (MW_495 hW) (by omega) (by omega), mI_id (x := (y : Int) + 1) (by omega) (by omega), mI_id (x := (q : Int) + 1 + 1) (by omega) (by omega), show (y : Int) + 1 = ((y + 1 : Nat) : Int) by omega, show (q : Int) + 1 + 1 = ((q + 2 : Nat) : Int) by omega]
  simp only [mF_t hw]
  exact chk
end PU
