/-! PURE: the String constants; the class's token steps. -/
/-- a String constant at a: its bytes -/
def StrAt (w : mm_W) (h : mm_H) (a : Int) (cs : List Int) : Prop := w.1 a = (14, 2) ∧ h a 0 = a - 1 ∧ h a 1 = 0 ∧ w.1 (a - 1) = (54, (cs.length : Int)) ∧ (∀ j : Nat, j < cs.length → h (a - 1) (j : Int) = cs.getD j 0) ∧ (∀ c ∈ cs, 0 ≤ c ∧ c < 128) ∧ cs.length < 1000
theorem mAnd_255 : ∀ x : Nat, x < 256 → mAnd (x : Int) 255 = x := by decide +kernel
theorem mShr_00 : ∀ x : Nat, x < 1000 → mShr (x : Int) 0 = x := by decide +kernel
theorem mB_id {x : Int} (h1 : -128 ≤ x) (h2 : x < 128) : mB x = x := (Int.bmod_eq_iff (by decide)).mpr (by omega)
theorem mC6_id {x : Int} (h1 : 0 ≤ x) (h2 : x < 65536) : mC6 x = x := Int.emod_eq_of_lt h1 h2
theorem getD_lt {cs : List Int} {j : Nat} (h : j < cs.length) : cs.getD j 0 = cs[j] := by
  simp [List.getD, List.getElem?_eq_getElem h]
theorem getD_mem {cs : List Int} {j : Nat} (h : j < cs.length) : cs.getD j 0 ∈ cs := by
  rw [getD_lt h]
  exact List.getElem_mem h
section PU
variable {d : Nat} {w : mm_W} {h : mm_H} {a : Int} {cs : List Int}
theorem E_coder (hd : 1 ≤ d) (hs : StrAt w h a cs) : mm_P d 345 [(2, a)] w h = some ((0, 0), w, h) := by
  obtain ⟨d, rfl, hd2⟩ := mm_dS hd; clear hd; have hd := hd2; clear hd2
  rw [P_Str_coder, mEq_f (by decide), mF_t (by rw [hs.1]), hs.2.2.1]
  exact if_pos (by omega)
theorem E_isLatin1 (hd : 1 ≤ d) (hs : StrAt w h a cs) : mm_P d 346 [(2, a)] w h = some ((0, 1), w, h) := by
  obtain ⟨d, rfl, hd2⟩ := mm_dS hd; clear hd; have hd := hd2; clear hd2
  rw [P_Str_isLatin1, mEq_f (by decide), mF_t (by rw [hs.1]), hs.2.2.1, mEq_t rfl, mZ_1]
theorem E_length (hd : 2 ≤ d) (hs : StrAt w h a cs) : mm_P d 341 [(2, a)] w h = some ((0, (cs.length : Int)), w, h) := by
  obtain ⟨d, rfl, hd2⟩ := mm_dS hd; clear hd; have hd := hd2; clear hd2
  have hw : (w.1 a).1 = 14 := by rw [hs.1]
  rw [P_Str_length, mF_t hw, hs.2.1, mN_t hs.2.2.2.1 (by decide), mF_t hw, E_coder hd hs, mC_s, hs.2.2.2.1, mShr_00 _ hs.2.2.2.2.2.2]
theorem E_charAt (hd : 4 ≤ d) (hs : StrAt w h a cs) {j : Nat} (hj : j < cs.length) : mm_P d 342 [(2, a), (0, (j : Int))] w h = some ((0, cs.getD j 0), w, h) := by
  obtain ⟨d, rfl, hd2⟩ := mm_dS hd; clear hd; have hd := hd2; clear hd2
  have hw : (w.1 a).1 = 14 := by rw [hs.1]
  have hc := hs.2.2.2.2.2.1 _ (getD_mem hj)
  have h6 := hs.2.2.2.2.2.2
  have e1 : mm_P d 348 [(2, a - 1), (0, (j : Int))] w h = some ((0, cs.getD j 0), w, h) := by
    obtain ⟨d, rfl, hd2⟩ := mm_dS hd; clear hd; have hd := hd2; clear hd2
    have e2 : mm_P d 347 [(0, (j : Int)), (0, (cs.length : Int))] w h = some ((9, 0), w, h) := by
      obtain ⟨d, rfl, hd2⟩ := mm_dS hd; clear hd; have hd := hd2; clear hd2
      have e3 : mm_P d 354 [(0, (j : Int)), (0, (cs.length : Int)), (3, 0)] w h = some ((0, (j : Int)), w, h) := by
        obtain ⟨d, rfl, hd2⟩ := mm_dS hd; clear hd; have hd := hd2; clear hd2
        rw [P_Pre_checkIndex, mLt_f (by omega), mLt_t (by omega)]
      rw [P_Str_checkIndex, e3, mC_s]
    obtain ⟨q, hq⟩ : ∃ q : Nat, cs.getD j 0 = q := ⟨(cs.getD j 0).toNat, by omega⟩
    rw [P_Lat_charAt, mN_t hs.2.2.2.1 (by decide), hs.2.2.2.1, e2, mC_s, mAb_t hs.2.2.2.1 (Or.inr rfl) (by omega) (by omega), hs.2.2.2.2.1 j hj, hq, mAnd_255 q (by omega), mC6_id (by omega) (by omega)]
    exact if_pos (by omega)
  rw [P_Str_charAt, mF_t hw, E_isLatin1 (by omega) hs, mC_s, mEq_f (by decide), mF_t hw, hs.2.1, e1, mC_s]
  exact if_pos (by omega)
/-- where a letter stands first in a list -/
theorem L_indexOfChar (hs : StrAt w h a cs) (i1 i2 c : Int) : ∀ (k : Nat) (j : Nat), j + k = cs.length → (c ∉ cs.drop j → l_Lat_indexOfChar_0 (mm_P d) (a - 1) i1 i2 (cs.length : Int) c (j : Int) w h = some (.inr (31, [(2, a - 1), (0, i1), (0, i2), (0, (cs.length : Int)), (0, c), (0, (cs.length : Int))], w, h))) ∧ (c ∈ cs.drop j → ∃ x : Int, 0 ≤ x ∧ l_Lat_indexOfChar_0 (mm_P d) (a - 1) i1 i2 (cs.length : Int) c (j : Int) w h = some (.inl ((0, x), w, h))) := by
  have h6 := hs.2.2.2.2.2.2
  intro k
  induction k with
  | zero =>
    intro j hj
    have : j = cs.length := by omega
    subst this
    rw [l_Lat_indexOfChar_0_eq, mLe_t (by omega)]
    exact ⟨fun _ => rfl, fun hx => absurd hx (by simp)⟩
  | succ k ih =>
    intro j hj
    have hlt : j < cs.length := by omega
    rw [l_Lat_indexOfChar_0_eq, mLe_f (by omega), mAb_t hs.2.2.2.1 (Or.inr rfl) (by omega) (by omega), hs.2.2.2.2.1 j hlt]
    rw [List.drop_eq_getElem_cons hlt, getD_lt hlt]
    by_cases hc : cs[j] = c
    · rw [mEq_t hc]
      exact ⟨fun hx => absurd (List.mem_cons.mpr (Or.inl hc.symm)) hx, fun _ => ⟨_, by omega, rfl⟩⟩
    · rw [mEq_f hc]
      try dsimp only
      rw [mI_id (by omega) (by omega), show (j : Int) + 1 = ((j + 1 : Nat) : Int) by omega]
      obtain ⟨g1, g2⟩ := ih (j + 1) (by omega)
      refine ⟨fun hx => g1 (fun hy => hx (List.mem_cons_of_mem _ hy)), fun hx => g2 ?_⟩
      rcases List.mem_cons.mp hx with hx | hx
      · exact absurd hx.symm hc
      · exact hx
theorem E_indexOf (hd : 4 ≤ d) (hs : StrAt w h a cs) (hl : 0 < cs.length) {c : Int} (h0 : 0 ≤ c) (h1 : c < 256) : ∃ x : Int, mm_P d 343 [(2, a), (0, c)] w h = some ((0, x), w, h) ∧ (0 ≤ x ↔ c ∈ cs) := by
  obtain ⟨d, rfl, hd2⟩ := mm_dS hd; clear hd; have hd := hd2; clear hd2
  have hw : (w.1 a).1 = 14 := by rw [hs.1]
  have h6 := hs.2.2.2.2.2.2
  have e1 : ∃ x : Int, mm_P d 344 [(2, a), (0, c), (0, 0)] w h = some ((0, x), w, h) ∧ (0 ≤ x ↔ c ∈ cs) := by
    obtain ⟨d, rfl, hd2⟩ := mm_dS hd; clear hd; have hd := hd2; clear hd2
    have e2 : ∃ x : Int, mm_P d 350 [(2, a - 1), (0, c), (0, 0), (0, (cs.length : Int))] w h = some ((0, x), w, h) ∧ (0 ≤ x ↔ c ∈ cs) := by
      obtain ⟨d, rfl, hd2⟩ := mm_dS hd; clear hd; have hd := hd2; clear hd2
      have e3 : mm_P d 349 [(0, c)] w h = some ((0, 1), w, h) := by
        obtain ⟨d, rfl, hd2⟩ := mm_dS hd; clear hd; have hd := hd2; clear hd2
        rw [P_Lat_canEncode, mLt_f (by omega), mLt_f (by omega), mZ_1]
      have e4 : ∃ x : Int, mm_P d 351 [(2, a - 1), (0, c), (0, 0), (0, (cs.length : Int))] w h = some ((0, x), w, h) ∧ (0 ≤ x ↔ c ∈ cs) := by
        obtain ⟨d, rfl, hd2⟩ := mm_dS hd; clear hd; have hd := hd2; clear hd2
        rw [P_Lat_indexOfChar]
        try dsimp only
        have hm : mB c ∈ cs ↔ c ∈ cs := by
          rcases Int.lt_or_le c 128 with h2 | h2
          · rw [mB_id (by omega) h2]
          · have e5 : mB c = c - 256 := (Int.bmod_eq_iff (by decide)).mpr (by omega)
            rw [e5]
            exact ⟨fun hx => by have := hs.2.2.2.2.2.1 _ hx; omega, fun hx => by have := hs.2.2.2.2.2.1 _ hx; omega⟩
        obtain ⟨g1, g2⟩ := L_indexOfChar (d := d) hs c 0 (mB c) cs.length 0 (by omega)
        rw [List.drop_zero] at g1 g2
        by_cases hc : mB c ∈ cs
        · obtain ⟨x, x0, x1⟩ := g2 hc
          rw [show ((0 : Nat) : Int) = 0 from rfl] at x1
          rw [x1, mK_l]
          exact ⟨x, rfl, ⟨fun _ => hm.mp hc, fun _ => x0⟩⟩
        · have x1 := g1 hc
          rw [show ((0 : Nat) : Int) = 0 from rfl] at x1
          rw [x1, mK_r, if_pos rfl]
          exact ⟨-1, rfl, ⟨fun hx => by omega, fun hx => absurd (hm.mpr hx) hc⟩⟩
      obtain ⟨x, x1, x2⟩ := e4
      rw [P_Lat_indexOf, e3, mC_s, mEq_f (by decide)]
      try dsimp only
      rw [mN_t hs.2.2.2.1 (by decide), hs.2.2.2.1, show mMax 0 0 = 0 from rfl, show mMin (cs.length : Int) (cs.length : Int) = cs.length from if_pos (Int.le_refl _), mLt_t (by omega), x1, mC_s]
      exact ⟨x, rfl, x2⟩
    obtain ⟨x, x1, x2⟩ := e2
    rw [P_Str_indexOf2, mF_t hw, E_isLatin1 (by omega) hs, mC_s, mEq_f (by decide), mF_t hw, mF_t hw, E_length (by omega) hs, mC_s, hs.2.1, x1, mC_s]
    exact ⟨x, rfl, x2⟩
  obtain ⟨x, x1, x2⟩ := e1
  rw [P_Str_indexOf, mF_t hw, x1, mC_s]
  exact ⟨x, rfl, x2⟩
theorem StrAt_fr {h' : mm_H} (hs : StrAt w h a cs) (ha : a < 0) (hf : ∀ b : Int, b < 0 → h' b = h b) : StrAt w h' a cs := by
  obtain ⟨s1, s2, s3, s4, s5, s6, s7⟩ := hs
  exact ⟨s1, by rw [hf a ha]; exact s2, by rw [hf a ha]; exact s3, s4, by rw [hf (a - 1) (by omega)]; exact s5, s6, s7⟩
variable {B : Int → Int} {n p : Int}
theorem E_advance_f (hd : 1 ≤ d) (hW : TW w) (hf : h 461 3 ≠ -1) : mm_P d 112 [(2, 461)] w h = some ((9, 0), w, h) := by
  obtain ⟨d, rfl, hd2⟩ := mm_dS hd; clear hd; have hd := hd2; clear hd2
  rw [P_Ta_advance, mF_t (by rw [hW.1]), mEq_f hf]
/-- the next token is taken: fault is none, the last one ended at p -/
theorem E_advance (hd : 5 ≤ d) (hW : TW w) (hS : StrAt w h (-10) sgs) (hT : TB h B n) (hf : h 461 3 = -1) (hp : h 461 5 = p) (p0 : 0 ≤ p) (p1 : p ≤ n) : ∃ h', mm_P d 112 [(2, 461)] w h = some ((9, 0), w, h') ∧ TO h h' ∧ TA h' B n p := by
  obtain ⟨d, rfl, hd2⟩ := mm_dS hd; clear hd; have hd := hd2; clear hd2
  have hw : (w.1 461).1 = 10 := by rw [hW.1]
  have hn := hT.2.2.1
  have l1 := tS_le (B := B) p1
  have l2 := tE_le (B := B) p1
  rw [P_Ta_advance, mF_t hw, mEq_t hf, mF_t hw, mF_t hw]
  try dsimp only
  rw [hp]
  obtain ⟨h1, a1, a2, a3, a4⟩ := L_skip (d := d) (by omega) hW (n - p).toNat p (mUp h 461 4 p) (TB_to hT (TO_up (by decide))) mUp_s p0 (by omega)
  have T1 : TB h1 B n := TB_to hT (TO_tr (TO_up (by decide)) a2)
  have z4 : h1 461 4 = tS B n p := a3
  rw [a1, mK_r, if_pos rfl]
  simp only [mP_0]
  rw [mF_t hw, mF_t hw, T1.1, E_peek (by omega) hW.2, mC_s, E_sortOf (by omega), mC_s, mF_t hw, mF_t hw]
  try dsimp only
  rw [mF_t hw, T1.2.1, z4, mI_id (by omega) (by omega)]
  have f3 : h1 461 3 = -1 := by rw [a4 3 (by decide), mUp_n (Or.inr (by decide))]; exact hf
  generalize hg : mUp h1 461 5 (mMin (tS B n p + 1) n) = h2
  have o2 : TO h1 h2 := by rw [← hg]; exact TO_up (by decide)
  have T2 : TB h2 B n := TB_to T1 o2
  have y4 : h2 461 4 = tS B n p := by rw [← hg, mUp_n (Or.inr (by decide))]; exact z4
  have y3 : h2 461 3 = -1 := by rw [← hg, mUp_n (Or.inr (by decide))]; exact f3
  have y5 : h2 461 5 = mMin (tS B n p + 1) n := by rw [← hg]; exact mUp_s
  have ob : TO h h2 := TO_tr (TO_tr (TO_up (by decide)) a2) o2
  by_cases c : tS B n p < n
  · have hpk : pk 200 (h1 462) (tS B n p) = B (tS B n p) := by rw [pk_t (by omega) (by omega)]; exact T1.2.2.2.1 _ (by omega) c
    have hB := hT.2.2.2.2.1 (tS B n p) (by omega) c
    rw [hpk]
    have y5 : h2 461 5 = tS B n p + 1 := by rw [y5]; exact if_pos (by omega)
    obtain ⟨h3, b1, b2, b3, b4⟩ : ∃ h3, l_Ta_advance_1 (mm_P d) 461 (B (tS B n p)) (tSort (B (tS B n p))) w h2 = some (.inr (138, [(2, 461), (0, B (tS B n p)), (0, tSort (B (tS B n p)))], w, h3)) ∧ TO h2 h3 ∧ h3 461 5 = tE B n p ∧ ∀ i : Int, i ≠ 5 → h3 461 i = h2 461 i := by
      by_cases c3 : tSort (B (tS B n p)) = 3
      · rw [c3]
        refine ⟨h2, L_run3 hW _ T2, TO_rf _, ?_, fun _ _ => rfl⟩
        rw [y5]
        unfold tE
        rw [if_neg (by omega), if_pos c3]
      · obtain ⟨h3, b1, b2, b3, b4⟩ := L_run (d := d) (by omega) hW (B (tS B n p)) c3 (n - (tS B n p + 1)).toNat (tS B n p + 1) h2 T2 y5 (by omega) (by omega)
        refine ⟨h3, b1, b2, ?_, b4⟩
        rw [b3]
        unfold tE
        rw [if_neg (by omega), if_neg c3]
    rw [b1, mK_r, if_pos rfl]
    simp only [mP_0, mP_1, mP_2]
    have T3 : TB h3 B n := TB_to T2 b2
    have x4 : h3 461 4 = tS B n p := by rw [b4 4 (by decide)]; exact y4
    have x3 : h3 461 3 = -1 := by rw [b4 3 (by decide)]; exact y3
    have oc : TO h h3 := TO_tr ob b2
    have fin : ∀ z : Int, z = tK B n p → TO h (mUp h3 461 2 z) ∧ TA (mUp h3 461 2 z) B n p := fun z hz => by
      have oz : TO h3 (mUp h3 461 2 z) := TO_up (by decide)
      refine ⟨TO_tr oc oz, TB_to T3 oz, ?_, ?_, ?_, ?_, p0, p1⟩
      · rw [mUp_n (Or.inr (by decide))]; exact x3
      · rw [mUp_s]; exact hz
      · rw [mUp_n (Or.inr (by decide))]; exact x4
      · rw [mUp_n (Or.inr (by decide))]; exact b3
    rw [mF_t hw, mF_t hw, x4, T3.2.1, mLt_t c]
    by_cases c3 : tSort (B (tS B n p)) = 3
    · rw [mEq_t c3, mF_t (by rw [hS.1])]
      have hS3 : StrAt w h3 (-10) sgs := StrAt_fr hS (by decide) (fun b hb => oc.1 b (by omega))
      obtain ⟨x, x1, x2⟩ := E_indexOf hd hS3 (by decide) hB.1 hB.2
      rw [mC6_id (by omega) (by omega), x1, mC_s]
      by_cases cx : x < 0
      · rw [mLt_t cx, mF_t hw]
        refine ⟨_, rfl, fin 3 ?_⟩
        unfold tK
        rw [if_neg (by omega), if_neg (by omega), if_neg (fun hm => by have := x2.mpr hm; omega)]
      · rw [mLt_f (by omega), mF_t hw]
        refine ⟨_, rfl, fin _ ?_⟩
        unfold tK
        rw [if_neg (by omega), if_neg (by omega), if_pos (x2.mp (by omega))]
    · rw [mEq_f c3, mF_t hw]
      refine ⟨_, rfl, fin _ ?_⟩
      unfold tK
      rw [if_neg (by omega), if_pos c3]
  · have hs : tS B n p = n := by omega
    have y5 : h2 461 5 = n := by rw [y5, hs]; exact if_neg (by omega)
    rw [L_run0 hW _ _ (by rw [T2.2.1, y5]; omega), mK_r, if_pos rfl]
    simp only [mP_0, mP_1, mP_2]
    have oz : TO h2 (mUp h2 461 2 0) := TO_up (by decide)
    rw [mF_t hw, mF_t hw, y4, T2.2.1, mLt_f (by omega), mF_t hw]
    refine ⟨_, rfl, TO_tr ob oz, TB_to T2 oz, ?_, ?_, ?_, ?_, p0, p1⟩
    · rw [mUp_n (Or.inr (by decide))]; exact y3
    · rw [mUp_s]; unfold tK; rw [if_pos (by omega)]
    · rw [mUp_n (Or.inr (by decide))]; exact y4
    · rw [mUp_n (Or.inr (by decide)), y5]; unfold tE; rw [if_pos (by omega)]
end PU
