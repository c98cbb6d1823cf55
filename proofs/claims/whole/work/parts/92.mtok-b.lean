/-! PURE: the reference's tokens, more. -/
section PU
variable {d : Nat} {w : mm_W} {h : mm_H} {B : Int → Int} {n p : Int}
theorem MT_mo {h' : mm_H} (hA : MT h B n p) (o : MO h h') (e : ∀ i : Int, 16 ≤ i → i < 24 → h' 483 i = h 483 i) : MT h' B n p := by
  obtain ⟨a1, a2, a3, a4, a5, a6, a7⟩ := hA
  exact ⟨MB_to a1 o, by rw [e 19 (by decide) (by decide)]; exact a2, by rw [e 18 (by decide) (by decide)]; exact a3, by rw [e 16 (by decide) (by decide)]; exact a4, by rw [e 17 (by decide) (by decide)]; exact a5, by rw [e 23 (by decide) (by decide)]; exact a6, a7⟩
theorem E_M_nextA (hd : 3 ≤ d) (hW : MW w) (hH : MH h) (hA : MT h B n p) : ∃ h', mm_P d 258 [(2, 483)] w h = some ((9, 0), w, h') ∧ MO h h' ∧ MT h' B n (tE B n p) := by
  obtain ⟨a1, a2, a3, a4, a5, a6, a7, a8⟩ := hA
  have l1 := tS_le (B := B) a8
  have l2 := tE_le (B := B) a8
  obtain ⟨h', g1, g2, g3, g4⟩ := E_M_next (d := d) hd hW hH a1 a5 (by omega) (by omega)
  exact ⟨h', g1, g2, MB_to a1 g2, by rw [g3]; exact a2, g4⟩
theorem tS_end {B : Int → Int} {n : Int} : tS B n n = n ∧ tE B n n = n ∧ tK B n n = 0 := by
  have h1 := tS_le (B := B) (Int.le_refl n)
  have h2 : tS B n n = n := by omega
  refine ⟨h2, ?_, ?_⟩
  · unfold tE; rw [if_pos (by omega)]
  · unfold tK; rw [if_pos (by omega)]
theorem E_M_nextF (hd : 3 ≤ d) (hW : MW w) (hH : MH h) {f : Int} (hA : MF h B n f) : ∃ h', mm_P d 258 [(2, 483)] w h = some ((9, 0), w, h') ∧ MO h h' ∧ MF h' B n f := by
  obtain ⟨a1, a2, a3, a4, a5, a6⟩ := hA
  obtain ⟨e1, e2, e3⟩ := tS_end (B := B) (n := n)
  obtain ⟨h', g1, g2, g3, g4, g5, g6, g7⟩ := E_M_next (d := d) (p := n) hd hW hH a1 a6 a1.2.1.1 (Int.le_refl _)
  refine ⟨h', g1, g2, MB_to a1 g2, by rw [g3]; exact a2, a3, ?_, by rw [g5, e1], by rw [g6, e2]⟩
  exact (kM_iff g4 (Or.inl rfl)).mpr e3
theorem E_M_wrong (hd : 1 ≤ d) (hW : MW w) (hA : MT h B n p) : ∃ h', mm_P d 260 [(2, 483)] w h = some ((9, 0), w, h') ∧ MO h h' ∧ MF h' B n (tS B n p) := by
  obtain ⟨d, rfl, hd2⟩ := mm_dS hd; clear hd; have hd := hd2; clear hd2
  have hw : (w.1 483).1 = 13 := by rw [hW.1]
  obtain ⟨a1, a2, a3, a4, a5, a6, a7, a8⟩ := hA
  have l1 := tS_le (B := B) a8
  rw [P_M_wrong, mF_t hw, mEq_t a2]
  simp only [mF_t hw]
  have o : MO h (mUp (mUp (mUp (mUp h 483 19 (tS B n p)) 483 18 0) 483 16 n) 483 17 n) := MO_tr (MO_tr (MO_tr (MO_up (by omega)) (MO_up (by omega))) (MO_up (by omega))) (MO_up (by omega))
  have e : ∀ z : mm_H, z = mUp (mUp (mUp (mUp h 483 19 (tS B n p)) 483 18 0) 483 16 n) 483 17 n → ∃ h', (some ((9, 0), w, z) : Option mm_R) = some ((9, 0), w, h') ∧ MO h h' ∧ MF h' B n (tS B n p) := by
    rintro z rfl
    refine ⟨_, rfl, o, MB_to a1 o, ?_, by omega, ?_, ?_, ?_⟩ <;> simp [mUp]
  refine e _ ?_
  rw [mUp_n (Or.inr (by decide)), mUp_n (Or.inr (by decide)), a1.1, a4, mUp_n (Or.inr (by decide)), mUp_n (Or.inr (by decide)), mUp_n (Or.inr (by decide)), a1.1]
theorem E_M_wrongF (hd : 1 ≤ d) (hW : MW w) {f : Int} (hA : MF h B n f) : ∃ h', mm_P d 260 [(2, 483)] w h = some ((9, 0), w, h') ∧ MO h h' ∧ MF h' B n f := by
  obtain ⟨d, rfl, hd2⟩ := mm_dS hd; clear hd; have hd := hd2; clear hd2
  have hw : (w.1 483).1 = 13 := by rw [hW.1]
  obtain ⟨a1, a2, a3, a4, a5, a6⟩ := hA
  rw [P_M_wrong, mF_t hw, mEq_f (by rw [a2]; exact a3)]
  simp only [mF_t hw]
  have o : MO h (mUp (mUp (mUp h 483 18 0) 483 16 n) 483 17 n) := MO_tr (MO_tr (MO_up (by omega)) (MO_up (by omega))) (MO_up (by omega))
  have e : ∀ z : mm_H, z = mUp (mUp (mUp h 483 18 0) 483 16 n) 483 17 n → ∃ h', (some ((9, 0), w, z) : Option mm_R) = some ((9, 0), w, h') ∧ MO h h' ∧ MF h' B n f := by
    rintro z rfl
    refine ⟨_, rfl, o, MB_to a1 o, ?_, a3, ?_, ?_, ?_⟩ <;> simp [mUp]
    exact a2
  refine e _ ?_
  rw [mUp_n (Or.inr (by decide)), a1.1, mUp_n (Or.inr (by decide)), mUp_n (Or.inr (by decide)), a1.1]
theorem E_M_wants1 (hd : 1 ≤ d) : mm_P d 264 [(2, 483), (0, 1)] w h = some ((9, 0), w, h) := by
  obtain ⟨d, rfl, hd2⟩ := mm_dS hd; clear hd; have hd := hd2; clear hd2
  rw [P_M_wants, mEq_f (by decide)]
theorem E_M_wants0 (hd : 2 ≤ d) (hW : MW w) (hA : MT h B n p) : ∃ h', mm_P d 264 [(2, 483), (0, 0)] w h = some ((9, 0), w, h') ∧ MO h h' ∧ MF h' B n (tS B n p) := by
  obtain ⟨d, rfl, hd2⟩ := mm_dS hd; clear hd; have hd := hd2; clear hd2
  obtain ⟨h', g1, g2, g3⟩ := E_M_wrong (d := d) (by omega) hW hA
  rw [P_M_wants, mEq_t rfl, mF_t (by rw [hW.1]), g1, mC_s]
  exact ⟨h', rfl, g2, g3⟩
theorem E_M_wantsF (hd : 2 ≤ d) (hW : MW w) {f : Int} (hA : MF h B n f) (c : Int) : ∃ h', mm_P d 264 [(2, 483), (0, c)] w h = some ((9, 0), w, h') ∧ MO h h' ∧ MF h' B n f := by
  obtain ⟨d, rfl, hd2⟩ := mm_dS hd; clear hd; have hd := hd2; clear hd2
  obtain ⟨h', g1, g2, g3⟩ := E_M_wrongF (d := d) (by omega) hW hA
  rw [P_M_wants]
  by_cases c0 : c = 0
  · rw [mEq_t c0, mF_t (by rw [hW.1]), g1, mC_s]
    exact ⟨h', rfl, g2, g3⟩
  · rw [mEq_f c0]
    exact ⟨h, rfl, MO_rf h, hA⟩
/-- a word and its number -/
def wNum (ws : List Int) (v : Int) : Prop := wG ws.reverse = v ∧ ws ≠ [] ∧ ws.length ≤ 12 ∧ ∀ c ∈ ws, 97 ≤ c ∧ c ≤ 122
theorem tWd_hsh {ws : List Int} {v : Int} (hv : wNum ws v) (hp : p ≤ n) (hk : tK B n p = 1) : hsh B (tS B n p) (tE B n p - tS B n p).toNat = v ↔ tWd B n p = ws := by
  obtain ⟨v1, v2, v3, v4⟩ := hv
  have e : tWd B n p = (List.range (tE B n p - tS B n p).toNat).map (fun (i : Nat) => B (tS B n p + i)) := by unfold tWd; rw [if_pos hk]
  have hlen := tWd_len hk
  have hin : ∀ c ∈ (tWd B n p).reverse, 97 ≤ c ∧ c ≤ 122 := fun c hc => tWd_in (by simpa using hc)
  have hin2 : ∀ c ∈ ws.reverse, 97 ≤ c ∧ c ≤ 122 := fun c hc => v4 c (by simpa using hc)
  by_cases c : (tE B n p - tS B n p).toNat ≤ 12
  · rw [hsh_wG _ c, ← e, ← v1]
    constructor
    · intro h
      have := wG_inj _ _ hin hin2 h
      exact List.reverse_inj.mp this
    · intro h; rw [h]
  · rw [hsh_big (by omega)]
    have := wG_in _ hin2
    constructor
    · intro h; omega
    · intro h; rw [h] at hlen; omega
theorem E_M_isWord (hd : 1 ≤ d) (hW : MW w) {ws : List Int} {v : Int} (hv : wNum ws v) (hA : MT h B n p) : mm_P d 261 [(2, 483), (1, v)] w h = some ((0, bI (tWd B n p = ws)), w, h) := by
  obtain ⟨d, rfl, hd2⟩ := mm_dS hd; clear hd; have hd := hd2; clear hd2
  have hw : (w.1 483).1 = 13 := by rw [hW.1]
  obtain ⟨a1, a2, a3, a4, a5, a6, a7, a8⟩ := hA
  rw [P_M_isWord, mF_t hw]
  by_cases c : tK B n p = 1
  · rw [mEq_t ((kM_iff a3 (by simp)).mpr c), mF_t hw, mCmp_eq, a6 c]
    by_cases c2 : tWd B n p = ws
    · rw [mEq_t ((tWd_hsh hv a8 c).mpr c2), mZ_1, bI_t c2]
    · rw [mEq_f (fun x => c2 ((tWd_hsh hv a8 c).mp x)), mZ_0, bI_f c2]
  · rw [mEq_f (fun x => c ((kM_iff a3 (by simp)).mp x)), mZ_0, bI_f (fun x => hv.2.1 (by rw [← x, tWd_0 c]))]
theorem E_M_isWordF (hd : 1 ≤ d) (hW : MW w) {f : Int} (hA : MF h B n f) (v : Int) : mm_P d 261 [(2, 483), (1, v)] w h = some ((0, 0), w, h) := by
  obtain ⟨d, rfl, hd2⟩ := mm_dS hd; clear hd; have hd := hd2; clear hd2
  rw [P_M_isWord, mF_t (by rw [hW.1]), hA.2.2.2.1, mEq_f (by decide), mZ_0]
theorem E_M_takesWord (hd : 4 ≤ d) (hW : MW w) (hH : MH h) {ws : List Int} {v : Int} (hv : wNum ws v) (hA : MT h B n p) : (tWd B n p = ws ∧ ∃ h', mm_P d 262 [(2, 483), (1, v)] w h = some ((0, 1), w, h') ∧ MO h h' ∧ MT h' B n (tE B n p)) ∨ (tWd B n p ≠ ws ∧ mm_P d 262 [(2, 483), (1, v)] w h = some ((0, 0), w, h)) := by
  obtain ⟨d, rfl, hd2⟩ := mm_dS hd; clear hd; have hd := hd2; clear hd2
  have hw : (w.1 483).1 = 13 := by rw [hW.1]
  rw [P_M_takesWord, mF_t hw, E_M_isWord (by omega) hW hv hA, mC_s]
  by_cases c : tWd B n p = ws
  · obtain ⟨h', g1, g2, g3⟩ := E_M_nextA (d := d) (by omega) hW hH hA
    rw [bI_t c, mEq_f (by decide), mF_t hw, g1, mC_s, mZ_1]
    exact Or.inl ⟨c, h', rfl, g2, g3⟩
  · rw [bI_f c, mEq_t rfl, mZ_0]
    exact Or.inr ⟨c, rfl⟩
theorem E_M_takesWordF (hd : 2 ≤ d) (hW : MW w) {f : Int} (hA : MF h B n f) (v : Int) : mm_P d 262 [(2, 483), (1, v)] w h = some ((0, 0), w, h) := by
  obtain ⟨d, rfl, hd2⟩ := mm_dS hd; clear hd; have hd := hd2; clear hd2
  rw [P_M_takesWord, mF_t (by rw [hW.1]), E_M_isWordF (by omega) hW hA, mC_s, mEq_t rfl, mZ_0]
theorem E_M_takesSign (hd : 4 ≤ d) (hW : MW w) (hH : MH h) {c : Int} (hc : c ∈ sgs) (hA : MT h B n p) : (tK B n p = c ∧ ∃ h', mm_P d 263 [(2, 483), (0, c)] w h = some ((0, 1), w, h') ∧ MO h h' ∧ MT h' B n (tE B n p)) ∨ (tK B n p ≠ c ∧ mm_P d 263 [(2, 483), (0, c)] w h = some ((0, 0), w, h)) := by
  obtain ⟨d, rfl, hd2⟩ := mm_dS hd; clear hd; have hd := hd2; clear hd2
  have hw : (w.1 483).1 = 13 := by rw [hW.1]
  have hi := kM_iff hA.2.2.1 (c := c) (by simp [hc])
  rw [P_M_takesSign, mF_t hw]
  by_cases q : tK B n p = c
  · obtain ⟨h', g1, g2, g3⟩ := E_M_nextA (d := d) (by omega) hW hH hA
    rw [mEq_t (hi.mpr q), mF_t hw, g1, mC_s, mZ_1]
    exact Or.inl ⟨q, h', rfl, g2, g3⟩
  · rw [mEq_f (fun x => q (hi.mp x)), mZ_0]
    exact Or.inr ⟨q, rfl⟩
theorem E_M_takesSignF (hd : 1 ≤ d) (hW : MW w) {f c : Int} (hA : MF h B n f) (hc : c ≠ 0) : mm_P d 263 [(2, 483), (0, c)] w h = some ((0, 0), w, h) := by
  obtain ⟨d, rfl, hd2⟩ := mm_dS hd; clear hd; have hd := hd2; clear hd2
  rw [P_M_takesSign, mF_t (by rw [hW.1]), hA.2.2.2.1, mEq_f (by omega), mZ_0]
theorem L_M_number (hW : MW w) (hH : MH h) (hA : MT h B n p) (hk : tK B n p = 2) (g : Int) : ∀ (m : Nat) (j v : Int), tS B n p ≤ j → j + m = tE B n p → m ≤ 4 → 0 ≤ v → v < 10 ^ (4 - m) → l_M_number_0 (mm_P d) 483 g v j w h = some (.inr (63, [(2, 483), (0, g), (0, tVal B m j v), (0, tE B n p)], w, h)) := by
  have hw : (w.1 483).1 = 13 := by rw [hW.1]
  obtain ⟨a1, a2, a3, a4, a5, a6, a7, a8⟩ := hA
  have hn := a1.2.1
  have l1 := tS_le (B := B) a8
  have l2 := tE_le (B := B) a8
  intro m
  induction m with
  | zero =>
    intro j v h1 h2 h3 h4 h5
    rw [l_M_number_0_eq, mF_t hw, a5, mLe_t (by omega)]
    rw [show j = tE B n p by omega]
    rfl
  | succ m ih =>
    intro j v h1 h2 h3 h4 h5
    have hb := tSort_2 (tK_srt hk (Or.inr rfl) (j := j) h1 (by omega))
    have hv : v < 1000 ∧ 10 * v + B j - 48 < 10 ^ (4 - m) := by
      have : m = 0 ∨ m = 1 ∨ m = 2 ∨ m = 3 := by omega
      rcases this with rfl | rfl | rfl | rfl <;> (simp at h5 ⊢; omega)
    rw [l_M_number_0_eq, mF_t hw, a5, mLe_f (by omega), mF_t hw, MH_14 hH, mA_t (MW_490 hW) (by omega) (by omega), a1.2.2.1 j (by omega) (by omega)]
    try dsimp only
    rw [mI_id (x := 10 * v) (by omega) (by omega), mI_id (x := 10 * v + B j) (by omega) (by omega), mI_id (x := 10 * v + B j - 48) (by omega) (by omega), mI_id (x := j + 1) (by omega) (by omega)]
    exact ih (j + 1) (10 * v + B j - 48) (by omega) (by omega) (by omega) (by omega) hv.2
theorem E_M_number (hd : 4 ≤ d) (hW : MW w) (hH : MH h) (hA : MT h B n p) {g : Int} (hg : g ≤ 4) : ((tK B n p = 2 ∧ tE B n p - tS B n p ≤ g) ∧ ∃ h', mm_P d 265 [(2, 483), (0, g)] w h = some ((0, tNum B n p), w, h') ∧ MO h h' ∧ MT h' B n (tE B n p)) ∨ (¬ (tK B n p = 2 ∧ tE B n p - tS B n p ≤ g) ∧ ∃ h', mm_P d 265 [(2, 483), (0, g)] w h = some ((0, 0), w, h') ∧ MO h h' ∧ MF h' B n (tS B n p)) := by
  obtain ⟨d, rfl, hd2⟩ := mm_dS hd; clear hd; have hd := hd2; clear hd2
  have hw : (w.1 483).1 = 13 := by rw [hW.1]
  have hA' := hA
  obtain ⟨a1, a2, a3, a4, a5, a6, a7, a8⟩ := hA
  have hn := a1.2.1
  have l1 := tS_le (B := B) a8
  have l2 := tE_le (B := B) a8
  obtain ⟨hr, r1, r2, r3⟩ := E_M_wrong (d := d) (by omega) hW hA'
  have hi := kM_iff a3 (c := 2) (by simp)
  rw [P_M_number, mF_t hw]
  by_cases c : tK B n p = 2
  rotate_left
  · rw [mEq_f (fun x => c (hi.mp x)), mF_t hw, r1, mC_s]
    exact Or.inr ⟨fun x => c x.1, hr, rfl, r2, r3⟩
  rw [mEq_t (hi.mpr c), mF_t hw, mF_t hw, a4, a5, mI_id (by omega) (by omega)]
  by_cases c2 : tE B n p - tS B n p ≤ g
  rotate_left
  · rw [mLe_f (by omega), mF_t hw, r1, mC_s]
    exact Or.inr ⟨fun x => c2 x.2, hr, rfl, r2, r3⟩
  obtain ⟨h', g1, g2, g3⟩ := E_M_nextA (d := d) (by omega) hW hH hA'
  rw [mLe_t c2, mF_t hw]
  try dsimp only
  rw [L_M_number (d := d) hW hH hA' c g (tE B n p - tS B n p).toNat (tS B n p) 0 (by omega) (by omega) (by omega) (by decide) (Int.pow_pos (by decide)), mK_r, if_pos rfl]
  simp only [mP_0, mP_2]
  rw [mF_t hw, g1, mC_s]
  exact Or.inl ⟨⟨c, c2⟩, h', rfl, g2, g3⟩
theorem E_M_numberF (hd : 2 ≤ d) (hW : MW w) {f : Int} (hA : MF h B n f) (g : Int) : ∃ h', mm_P d 265 [(2, 483), (0, g)] w h = some ((0, 0), w, h') ∧ MO h h' ∧ MF h' B n f := by
  obtain ⟨d, rfl, hd2⟩ := mm_dS hd; clear hd; have hd := hd2; clear hd2
  have hw : (w.1 483).1 = 13 := by rw [hW.1]
  obtain ⟨hr, r1, r2, r3⟩ := E_M_wrongF (d := d) (by omega) hW hA
  rw [P_M_number, mF_t hw, hA.2.2.2.1, mEq_f (by decide), mF_t hw, r1, mC_s]
  exact ⟨hr, rfl, r2, r3⟩
theorem MH_21 (hH : MH h) : h 483 21 = 491 := hH.2.2.2.2.2.2.2.1
theorem MW_491 (hW : MW w) : w.1 491 = (50, 400) := hW.2.2.2.2.2.2.2.2.1
theorem E_M_writes (hd : 1 ≤ d) (hW : MW w) (hH : MH h) (hA : h 483 19 = -1) {q : Int} (hq : h 483 22 = q) (q0 : 0 ≤ q) (q1 : q < 400) (v : Int) : mm_P d 266 [(2, 483), (0, v)] w h = some ((9, 0), w, mUp (mUp h 491 q v) 483 22 (q + 1)) := by
  obtain ⟨d, rfl, hd2⟩ := mm_dS hd; clear hd; have hd := hd2; clear hd2
  have hw : (w.1 483).1 = 13 := by rw [hW.1]
  rw [P_M_writes, mF_t hw, mEq_t hA, mF_t hw, mF_t hw, MH_21 hH, hq, mAw_t (MW_491 hW) q0 q1 (by decide)]
  try dsimp only
  rw [mF_t hw, mF_t hw, mUp_n (Or.inl (by decide)), hq, mI_id (by omega) (by omega)]
theorem E_M_writesF (hd : 1 ≤ d) (hW : MW w) {f : Int} (hA : MF h B n f) (v : Int) : mm_P d 266 [(2, 483), (0, v)] w h = some ((9, 0), w, h) := by
  obtain ⟨d, rfl, hd2⟩ := mm_dS hd; clear hd; have hd := hd2; clear hd2
  rw [P_M_writes, mF_t (by rw [hW.1]), mEq_f (by rw [hA.2.1]; exact hA.2.2.1)]
end PU
