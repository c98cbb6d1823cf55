/-! PURE: how many looks there are, asked of a view. -/
/-- a bit of a word -/
def btI (x : Int) (i : Nat) : Bool := (Int32.ofInt x).toBitVec.getLsbD i
theorem shl_tp : ∀ i : Nat, i < 32 → (Int32.ofInt 1 <<< (Int32.ofInt (i : Int) &&& 31)).toBitVec = BitVec.twoPow 32 i := by decide +kernel
theorem bt_and (x : Int) {i : Nat} (hi : i < 32) : mAnd x (mShl 1 (i : Int)) = 0 ↔ btI x i = false := by
  unfold mAnd mShl btI
  rw [Int32.ofInt_toInt]
  have e : (Int32.ofInt x &&& (Int32.ofInt 1 <<< (Int32.ofInt (i : Int) &&& 31))).toBitVec = (Int32.ofInt x).toBitVec &&& BitVec.twoPow 32 i := by
    rw [Int32.toBitVec_and, shl_tp i hi]
  rw [BitVec.and_twoPow] at e
  constructor
  · intro h
    have h1 : (Int32.ofInt x &&& (Int32.ofInt 1 <<< (Int32.ofInt (i : Int) &&& 31))) = 0 := Int32.toInt_inj.mp h
    rw [h1] at e
    cases hb : (Int32.ofInt x).toBitVec.getLsbD i with
    | false => rfl
    | true =>
      rw [hb, if_pos rfl] at e
      have h2 := congrArg (fun z => z.getLsbD i) e
      simp [BitVec.getLsbD_twoPow, hi] at h2
  · intro hb
    rw [hb, if_neg (by decide)] at e
    have h1 : (Int32.ofInt x &&& (Int32.ofInt 1 <<< (Int32.ofInt (i : Int) &&& 31))) = 0 := Int32.toBitVec_inj.mp e
    rw [h1]; rfl
theorem bt_or (x : Int) {i j : Nat} (hi : i < 32) (hj : j < 32) : btI (mOr x (mShl 1 (i : Int))) j = (btI x j || decide (i = j)) := by
  unfold mOr mShl btI
  rw [Int32.ofInt_toInt, Int32.ofInt_toInt, Int32.toBitVec_or, shl_tp i hi, BitVec.getLsbD_or, BitVec.getLsbD_twoPow]
  simp [hi]
theorem and31_2 : ∀ a : Nat, a < 100 → ∀ b : Nat, b < 100 → mAnd ((100 * a + b : Nat) : Int) 31 = ((100 * a + b : Nat) : Int) % 32 ∧ mShr ((100 * a + b : Nat) : Int) 5 = ((100 * a + b : Nat) : Int) / 32 := by decide +kernel
theorem and31 (v : Nat) (hv : v < 10000) : mAnd (v : Int) 31 = (v : Int) % 32 ∧ mShr (v : Int) 5 = (v : Int) / 32 := by
  have := and31_2 (v / 100) (by omega) (v % 100) (by omega)
  rw [show 100 * (v / 100) + v % 100 = v by omega] at this
  exact this
theorem bt_0 (i : Nat) : btI 0 i = false := by
  unfold btI
  have : (Int32.ofInt 0).toBitVec = 0#32 := rfl
  rw [this]
  simp
/-- a look that a cell ahead of (r, c) has -/
def seenA (s : aS) (r c v : Int) : Prop := ∃ i j : Int, (0 ≤ i ∧ 0 ≤ j ∧ j < aWi s) ∧ (i < r ∨ i = r ∧ j < c) ∧ lookA s i j = v
noncomputable def looksN (s : aS) : Int := sum2 (fun r c => bI (¬ seenA s r c (lookA s r c))) (aHi s).toNat (aWi s).toNat 0 0
theorem seen_next {s : aS} {r c v : Int} (hr : 0 ≤ r) (hc : 0 ≤ c ∧ c < aWi s) : seenA s r (c + 1) v ↔ seenA s r c v ∨ lookA s r c = v := by
  constructor
  · rintro ⟨i, j, h1, h2, h3⟩
    by_cases e : i = r ∧ j = c
    · rw [e.1, e.2] at h3; exact Or.inr h3
    · exact Or.inl ⟨i, j, h1, by omega, h3⟩
  · rintro (⟨i, j, h1, h2, h3⟩ | h3)
    · exact ⟨i, j, h1, by omega, h3⟩
    · exact ⟨r, c, by omega, by omega, h3⟩
theorem seen_row {s : aS} {r v : Int} : seenA s r (aWi s) v ↔ seenA s (r + 1) 0 v := by
  constructor
  · rintro ⟨i, j, h1, h2, h3⟩; exact ⟨i, j, h1, by omega, h3⟩
  · rintro ⟨i, j, h1, h2, h3⟩; exact ⟨i, j, h1, by omega, h3⟩
theorem seen_0 {s : aS} {v : Int} : ¬ seenA s 0 0 v := by rintro ⟨i, j, h1, h2, h3⟩; omega
section PU
variable {d : Nat} {w : mm_W} {h : mm_H} {s : aS} {V : Int}
/-- the looks that were met -/
def metK (h : mm_H) (V : Int) (s : aS) (r c : Int) : Prop := ∀ v : Nat, v < 10000 → (btI (h (V + 5) ((v / 32 : Nat) : Int)) (v % 32) = true ↔ seenA s r c (v : Int))
theorem cVw_fr {h' : mm_H} (hC : cVw h V s) (e : ∀ b : Int, V ≤ b → b ≤ V + 4 → h' b = h b) : cVw h' V s := by
  have e1 := e (V + 1) (by omega) (by omega)
  have e2 := e (V + 2) (by omega) (by omega)
  have e3 := e (V + 3) (by omega) (by omega)
  have e4 := e (V + 4) (by omega) (by omega)
  refine ⟨by rw [e V (by omega) (by omega)]; exact hC.1, fun i j a b c d => by rw [e1]; exact hC.2.1 i j a b c d, fun i j a b c d => ?_⟩
  have := hC.2.2 i j a b c d
  unfold VC at this ⊢
  rw [e2, e3, e4]
  exact this
theorem L_look1 (hd : 2 ≤ d) (hV : vOk V) (hVW : VW w V) (hI : aI s) {r : Int} (hr : 0 ≤ r ∧ r < aHi s) : ∀ (m : Nat) (c acc : Int) (h : mm_H), VH h V → cVw h V s → metK h V s r c → 0 ≤ c → c + m = aWi s → 0 ≤ acc → acc + m < 1000 → ∃ h', l_Vw_unlikeLooks_1 (mm_P d) V acc r c w h = some (.inr (93, [(2, V), (0, acc + sumN (fun c => bI (¬ seenA s r c (lookA s r c))) m c), (0, r), (0, aWi s), (9, 0), (9, 0), (9, 0)], w, h')) ∧ (∀ b : Int, b ≠ V + 5 → h' b = h b) ∧ metK h' V s r (aWi s) := by
  have wV : (w.1 V).1 = 11 := by rw [hVW.1]
  have i1 := hI.1; have i2 := hI.2.1
  intro m
  induction m with
  | zero =>
    intro c acc h hH hC hK a1 a2 a3 a4
    rw [l_Vw_unlikeLooks_1_eq, mF_t wV, hC.1.2, mLe_t (by omega)]
    have e : sumN (fun c => bI (¬ seenA s r c (lookA s r c))) 0 c = 0 := rfl
    have ec : c = aWi s := by omega
    subst ec
    exact ⟨h, by rw [e, show acc + 0 = acc by omega], fun _ _ => rfl, hK⟩
  | succ m ih =>
    intro c acc h hH hC hK a1 a2 a3 a4
    have e : sumN (fun c => bI (¬ seenA s r c (lookA s r c))) (m + 1) c = bI (¬ seenA s r c (lookA s r c)) + sumN (fun c => bI (¬ seenA s r c (lookA s r c))) m (c + 1) := rfl
    have hc : 0 ≤ c ∧ c < aWi s := by omega
    have hl := lookA_in hI hr hc
    obtain ⟨q, hq⟩ : ∃ q : Nat, lookA s r c = q := ⟨(lookA s r c).toNat, by omega⟩
    obtain ⟨x1, x2⟩ := and31 q (by omega)
    have hk := hK q (by omega)
    have eq1 : (q : Int) / 32 = ((q / 32 : Nat) : Int) := by omega
    have eq2 : (q : Int) % 32 = ((q % 32 : Nat) : Int) := by omega
    rw [l_Vw_unlikeLooks_1_eq, mF_t wV, hC.1.2, mLe_f (by omega), mF_t wV, E_vLook hd hV hVW hH hI hC hr hc, mC_s, hq]
    try dsimp only
    rw [x1, x2, eq1, eq2, mF_t wV, hH 4 (by decide) (by decide), show V + 1 + 4 = V + 5 by omega, E_peek_t (by omega) hVW.2.2.2.2.2.1 (by omega) (by omega), mC_s]
    simp only [mF_t wV]
    rw [hH 4 (by decide) (by decide), show V + 1 + 4 = V + 5 by omega, E_poke_t (by omega) hVW.2.2.2.2.2.1 (by unfold vOk at hV; omega) (by omega) (by omega), mC_s, mC_s, mI_id (x := c + 1) (by omega) (by omega), mI_id (x := acc + 1) (by omega) (by omega)]
    generalize hg : mUp h (V + 5) ((q / 32 : Nat) : Int) (mOr (h (V + 5) ((q / 32 : Nat) : Int)) (mShl 1 ((q % 32 : Nat) : Int))) = h1
    have f1 : ∀ b : Int, b ≠ V + 5 → h1 b = h b := fun b hb => by rw [← hg]; exact mUp_row hb
    have K1 : metK h1 V s r (c + 1) := by
      intro v hv
      rw [seen_next hr.1 hc, hq, ← hg]
      by_cases ev : v / 32 = q / 32
      · rw [ev, mUp_s, bt_or _ (by omega) (by omega)]
        have hk2 := hK v hv
        rw [ev] at hk2
        by_cases e3 : q % 32 = v % 32
        · have : q = v := by omega
          rw [decide_eq_true e3, Bool.or_true, this]
          exact ⟨fun _ => Or.inr rfl, fun _ => rfl⟩
        · have : (q : Int) ≠ (v : Int) := by omega
          rw [decide_eq_false e3, Bool.or_false, hk2]
          exact ⟨Or.inl, fun x => x.elim id (fun y => absurd y this)⟩
      · have : (q : Int) ≠ (v : Int) := by omega
        rw [mUp_n (Or.inr (by omega)), hK v hv]
        exact ⟨Or.inl, fun x => x.elim id (fun y => absurd y this)⟩
    have go : ∀ acc' : Int, 0 ≤ acc' → acc' + m < 1000 → ∃ h', l_Vw_unlikeLooks_1 (mm_P d) V acc' r (c + 1) w h1 = some (.inr (93, [(2, V), (0, acc' + sumN (fun c => bI (¬ seenA s r c (lookA s r c))) m (c + 1)), (0, r), (0, aWi s), (9, 0), (9, 0), (9, 0)], w, h')) ∧ (∀ b : Int, b ≠ V + 5 → h' b = h b) ∧ metK h' V s r (aWi s) := by
      intro acc' b1 b2
      obtain ⟨h', g1, g2, g3⟩ := ih (c + 1) acc' h1 (fun i x0 x1 => by rw [f1 V (by omega)]; exact hH i x0 x1) (cVw_fr hC (fun b b0 b1 => f1 b (by omega))) K1 (by omega) (by omega) b1 b2
      exact ⟨h', g1, fun b hb => by rw [g2 b hb, f1 b hb], g3⟩
    rw [e, hq]
    by_cases c1 : seenA s r c (q : Int)
    · rw [mEq_f (fun x => by
        have := (bt_and _ (by omega)).mp x
        rw [hk.mpr c1] at this
        cases this), bI_f (fun x => x c1), Int.zero_add]
      exact go acc a3 (by omega)
    · rw [mEq_t ((bt_and _ (by omega)).mpr (by
        cases hb : btI (h (V + 5) ((q / 32 : Nat) : Int)) (q % 32) with
        | false => rfl
        | true => exact absurd (hk.mp hb) c1)), bI_t c1, ← Int.add_assoc]
      exact go (acc + 1) (by omega) (by omega)
theorem L_look0 (hd : 2 ≤ d) (hV : vOk V) (hVW : VW w V) (hI : aI s) : ∀ (m : Nat) (r acc : Int) (h : mm_H), VH h V → cVw h V s → metK h V s r 0 → 0 ≤ r → r + m = aHi s → 0 ≤ acc → acc + 16 * m < 900 → ∃ h', l_Vw_unlikeLooks_0 (mm_P d) V acc r w h = some (.inr (99, [(2, V), (0, acc + sumN (fun r => sumN (fun c => bI (¬ seenA s r c (lookA s r c))) (aWi s).toNat 0) m r), (0, aHi s), (9, 0), (9, 0), (9, 0), (9, 0)], w, h')) ∧ ∀ b : Int, b ≠ V + 5 → h' b = h b := by
  have wV : (w.1 V).1 = 11 := by rw [hVW.1]
  have i1 := hI.1; have i2 := hI.2.1
  intro m
  induction m with
  | zero =>
    intro r acc h hH hC hK a1 a2 a3 a4
    rw [l_Vw_unlikeLooks_0_eq, mF_t wV, hC.1.1, mLe_t (by omega)]
    have e : sumN (fun r => sumN (fun c => bI (¬ seenA s r c (lookA s r c))) (aWi s).toNat 0) 0 r = 0 := rfl
    exact ⟨h, by rw [e, show acc + 0 = acc by omega, show r = aHi s by omega], fun _ _ => rfl⟩
  | succ m ih =>
    intro r acc h hH hC hK a1 a2 a3 a4
    have e : sumN (fun r => sumN (fun c => bI (¬ seenA s r c (lookA s r c))) (aWi s).toNat 0) (m + 1) r = sumN (fun c => bI (¬ seenA s r c (lookA s r c))) (aWi s).toNat 0 + sumN (fun r => sumN (fun c => bI (¬ seenA s r c (lookA s r c))) (aWi s).toNat 0) m (r + 1) := rfl
    have b := sumN_le (f := fun c => bI (¬ seenA s r c (lookA s r c))) (a := 0) (b := 1) (aWi s).toNat 0 (fun c _ _ => bI_le _)
    obtain ⟨h1, b1, b2, b3⟩ := L_look1 hd hV hVW hI (r := r) (by omega) (aWi s).toNat 0 acc h hH hC hK (by decide) (by omega) a3 (by omega)
    rw [l_Vw_unlikeLooks_0_eq, mF_t wV, hC.1.1, mLe_f (by omega), b1, mK_r, if_pos rfl]
    simp only [mP_0, mP_1, mP_2]
    rw [mI_id (x := r + 1) (by omega) (by omega)]
    obtain ⟨h', g1, g2⟩ := ih (r + 1) (acc + sumN (fun c => bI (¬ seenA s r c (lookA s r c))) (aWi s).toNat 0) h1 (fun i x0 x1 => by rw [b2 V (by omega)]; exact hH i x0 x1) (cVw_fr hC (fun b b0 b1 => b2 b (by omega))) (fun v hv => (b3 v hv).trans seen_row) (by omega) (by omega) (by omega) (by omega)
    exact ⟨h', by rw [g1, e, Int.add_assoc], fun b hb => by rw [g2 b hb, b2 b hb]⟩
theorem E_vLooks (hd : 3 ≤ d) (hV : vOk V) (hVW : VW w V) (hH : VH h V) (hI : aI s) (hC : cVw h V s) : ∃ h', mm_P d 135 [(2, V)] w h = some ((0, looksN s), w, h') ∧ ∀ b : Int, b ≠ V + 5 → h' b = h b := by
  obtain ⟨d, rfl, hd2⟩ := mm_dS hd; clear hd; have hd := hd2; clear hd2
  have wV : (w.1 V).1 = 11 := by rw [hVW.1]
  have i1 := hI.1
  obtain ⟨h1, b1, b2, b3⟩ := E_fill (d := d) (h := h) (by omega) hVW.2.2.2.2.2.1 (by unfold vOk at hV; omega) 0 (by decide)
  obtain ⟨h2, g1, g2⟩ := L_look0 (d := d) (by omega) hV hVW hI (aHi s).toNat 0 0 h1 (fun i x0 x1 => by rw [b2 V (by omega)]; exact hH i x0 x1) (cVw_fr hC (fun b b0 b1 => b2 b (by omega))) (fun v hv => by
    rw [b3 _ (by omega) (by omega), bt_0]
    exact ⟨fun x => (by cases x), fun x => absurd x seen_0⟩) (by decide) (by omega) (by decide) (by omega)
  rw [P_Vw_unlikeLooks, mF_t wV, hH 4 (by decide) (by decide), show V + 1 + 4 = V + 5 by omega, b1, mC_s, g1, mK_r, if_pos rfl]
  simp only [mP_1]
  rw [Int.zero_add]
  exact ⟨h2, rfl, fun b hb => by rw [g2 b hb, b2 b hb]⟩
end PU
