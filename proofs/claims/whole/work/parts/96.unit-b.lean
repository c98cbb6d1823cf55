/-! PURE: a number, a name; parts. -/
section PU
variable {d : Nat} {w : mm_W} {h : mm_H} {B : Int → Int} {n p : Int}
theorem U_num (hW : CW w) (hM : MW w) {op : Int} (ho : 0 ≤ op ∧ op ≤ 4) (hp : 0 ≤ p ∧ p ≤ n) (hk : tK B n p = 2) : RD w B n 6 op p := by
  have l1 := tS_le (B := B) hp.2
  have l2 := tE_lt hp.2 (show tK B n p ≠ 0 by omega)
  have l3 := tE_le (B := B) hp.2
  have nm0 : nmO (tWd B n p) = none := by rw [tWd_0 (by omega)]; rfl
  by_cases c : tE B n p - tS B n p ≤ 4
  · have nb := tNum_4 hp.2 hk c
    refine Or.inr ⟨.arg (tNum B n p).toNat, tE B n p, ⟨l2.1, l3.2.1, ?_, ?_, ?_, ?_⟩, fun d h q hd hA hq => ?_, fun w hM d h q hd hA hq => ?_⟩
    · show (tNum B n p).toNat ≤ 9999; omega
    · show ((2 : Nat) : Int) ≤ _; omega
    · show ((2 : Nat) : Int) ≤ _; omega
    · show ((1 : Nat) : Int) ≤ _; omega
    · have hn := CA_n hA
      obtain ⟨d, rfl, hd2⟩ := mm_dS (show 35 + 1 ≤ d by omega)
      obtain ⟨d, rfl, hd3⟩ := mm_dS (show 34 + 1 ≤ d by omega)
      have hw : (w.1 463).1 = 1 := by rw [hW.2.1]
      have hw2 : (w.1 461).1 = 10 := by rw [hW.1.1]
      rcases E_needNumber (d := d) (by omega) hW.1 hA.2.1.2.2.1 hA.1 (g := 4) (by decide) with ⟨_, h1, a1, a2, a3⟩ | ⟨z, _⟩
      rotate_left
      · exact absurd ⟨hk, c⟩ z
      obtain ⟨k1, k2, k3⟩ := CA_to hA a2 a3
      obtain ⟨h2, b1, b2, b3, b4, b5, b6⟩ := E_emitWith (d := d) (by omega) hW k2 (by omega) 1 (tNum B n p)
      refine ⟨h2, C_l6 hW ?_, CO_tr k1 b2, b3, Seg_cons.mpr ⟨b4, Seg_cons.mpr ⟨?_, Seg_nil⟩⟩, fun j hj => by rw [b6 j (by omega) (by omega), k3]⟩
      · rw [P_Cr_readUnit]
        simp only [mF_t hw]
        rw [hA.2.1.1]
        simp only [mF_t hw2]
        rw [CA_k hA, hk, mEq_f (by decide), mEq_f (by decide), mEq_t rfl, a1, mC_s, mF_t hw, b1, mC_s]
      · rw [b5]; omega
    · have hn := MA_n hA
      obtain ⟨d, rfl, hd2⟩ := mm_dS (show 35 + 1 ≤ d by omega)
      have hw : (w.1 483).1 = 13 := by rw [hM.1]
      rcases E_M_number (d := d) (by omega) hM hA.2.1.1 hA.1 (g := 4) (by decide) with ⟨_, h1, a1, a2, a3⟩ | ⟨z, _⟩
      rotate_left
      · exact absurd ⟨hk, c⟩ z
      obtain ⟨k1, k2, k3⟩ := MA_mo hA a2 a3
      obtain ⟨h2, b1, b2, b3, b4, b5⟩ := E_M_wr (d := d) (by omega) hM k2 (by omega) 1
      obtain ⟨h3, c1, c2, c3, c4, c5⟩ := E_M_wr (d := d) (by omega) hM b3 (by omega) (tNum B n p)
      refine ⟨h3, ?_, Mq_tr (Mq_tr k1 b2) c2, c3, Seg_cons.mpr ⟨by rw [c5 _ (by omega)]; exact b4, Seg_cons.mpr ⟨by rw [c4]; omega, Seg_nil⟩⟩, fun j hj => by rw [c5 j (by omega), b5 j (by omega), k3]⟩
      show mm_P (d + 1) 274 [(2, 483)] w h = _
      rw [P_M_readsUnit]
      simp only [mF_t hw]
      rw [mEq_f (fun x => by have := (MA_k hA (c := 45) (by decide)).mp x; omega), mEq_f (fun x => by have := (MA_k hA (c := 40) (by decide)).mp x; omega), E_M_nameNow (by omega) hM hA, nm0, mC_s]
      try dsimp only
      rw [mEq_t rfl, mF_t hw, a1, mC_s, mF_t hw, b1, mC_s, mF_t hw, c1, mC_s]
  · refine Or.inl ⟨tS B n p, fun d h q hd hA hq => ?_, fun w hM d h q hd hA hq => ?_⟩
    · obtain ⟨d, rfl, hd2⟩ := mm_dS (show 35 + 1 ≤ d by omega)
      obtain ⟨d, rfl, hd3⟩ := mm_dS (show 34 + 1 ≤ d by omega)
      have hw : (w.1 463).1 = 1 := by rw [hW.2.1]
      have hw2 : (w.1 461).1 = 10 := by rw [hW.1.1]
      rcases E_needNumber (d := d) (by omega) hW.1 hA.2.1.2.2.1 hA.1 (g := 4) (by decide) with ⟨z, _⟩ | ⟨_, h1, a1, a2, a3⟩
      · exact absurd z.2 c
      obtain ⟨k1, k2⟩ := CF_to hA.2.1 a2 a3
      obtain ⟨h2, z, b1, b2, b3⟩ := E_emitWithF (d := d) (by omega) hW k2 1 0
      refine ⟨h2, C_l6 hW ?_, CO_tr k1 b2, b3⟩
      rw [P_Cr_readUnit]
      simp only [mF_t hw]
      rw [hA.2.1.1]
      simp only [mF_t hw2]
      rw [CA_k hA, hk, mEq_f (by decide), mEq_f (by decide), mEq_t rfl, a1, mC_s, mF_t hw, b1, mC_s]
    · obtain ⟨d, rfl, hd2⟩ := mm_dS (show 35 + 1 ≤ d by omega)
      have hw : (w.1 483).1 = 13 := by rw [hM.1]
      rcases E_M_number (d := d) (by omega) hM hA.2.1.1 hA.1 (g := 4) (by decide) with ⟨z, _⟩ | ⟨_, h1, a1, a2, a3⟩
      · exact absurd z.2 c
      obtain ⟨k1, k2⟩ := MG_mo hA.2.1 a2 a3
      refine ⟨h1, ?_, k1, k2⟩
      show mm_P (d + 1) 274 [(2, 483)] w h = _
      rw [P_M_readsUnit]
      simp only [mF_t hw]
      rw [mEq_f (fun x => by have := (MA_k hA (c := 45) (by decide)).mp x; omega), mEq_f (fun x => by have := (MA_k hA (c := 40) (by decide)).mp x; omega), E_M_nameNow (by omega) hM hA, nm0, mC_s]
      try dsimp only
      rw [mEq_t rfl, mF_t hw, a1, mC_s, mF_t hw, E_M_writesF (by omega) hM k2.1, mC_s, mF_t hw, E_M_writesF (by omega) hM k2.1, mC_s]
theorem U_name (hW : CW w) (hM : MW w) {op : Int} (ho : 0 ≤ op ∧ op ≤ 4) (hp : 0 ≤ p ∧ p ≤ n) (hk : tK B n p ≠ 2 ∧ tK B n p ≠ 45 ∧ tK B n p ≠ 40) : RD w B n 6 op p := by
  have l1 := tS_le (B := B) hp.2
  have l3 := tE_le (B := B) hp.2
  cases hnm : nmO (tWd B n p) with
  | some i =>
    have hi := nmO_le hnm
    have k1 : tK B n p = 1 := by
      rcases Classical.em (tK B n p = 1) with h | h
      · exact h
      · rw [tWd_0 h, show nmO [] = none from rfl] at hnm; cases hnm
    have l2 := tE_lt hp.2 (show tK B n p ≠ 0 by omega)
    refine Or.inr ⟨.index i, tE B n p, ⟨l2.1, l3.2.1, ?_, ?_, ?_, ?_⟩, fun d h q hd hA hq => ?_, fun w hM d h q hd hA hq => ?_⟩
    · show i ≤ 9; exact hi
    · show ((2 : Nat) : Int) ≤ _; omega
    · unfold lenC; split <;> omega
    · show ((1 : Nat) : Int) ≤ _; omega
    · have hn := CA_n hA
      obtain ⟨d, rfl, hd2⟩ := mm_dS (show 35 + 1 ≤ d by omega)
      obtain ⟨d, rfl, hd3⟩ := mm_dS (show 34 + 1 ≤ d by omega)
      have hw : (w.1 463).1 = 1 := by rw [hW.2.1]
      have hw2 : (w.1 461).1 = 10 := by rw [hW.1.1]
      rcases E_needOneOf (d := d) (by omega) hW.1 hA.2.1.2.2.1 hA.2.1.2.2.2.2.2.2.1 hA.1 with ⟨i', z, h1, a1, a2, a3⟩ | ⟨z, _⟩
      rotate_left
      · have z' := (pick_nm (tWd B n p)).symm.trans z
        rw [hnm] at z'; cases z'
      have z' := (pick_nm (tWd B n p)).symm.trans z
      rw [hnm] at z'
      have e : i' = i := (Option.some.inj z').symm
      subst e
      obtain ⟨k1, k2, k3⟩ := CA_to hA a2 a3
      obtain ⟨h2, b1, b2, b3, b4, b5⟩ := E_emitWord (d := d) (by omega) hW k2 (by omega) hi
      refine ⟨h2, C_l6 hW ?_, CO_tr k1 b2, b3, b4, fun j hj => by rw [b5 j hj, k3]⟩
      rw [P_Cr_readUnit]
      simp only [mF_t hw]
      rw [hA.2.1.1]
      simp only [mF_t hw2]
      rw [CA_k hA, mEq_f hk.2.1, mEq_f hk.2.2, mEq_f hk.1, a1, mC_s, mF_t hw, b1, mC_s]
    · have hn := MA_n hA
      obtain ⟨d, rfl, hd2⟩ := mm_dS (show 35 + 1 ≤ d by omega)
      have hw : (w.1 483).1 = 13 := by rw [hM.1]
      obtain ⟨h1, a1, a2, a3⟩ := E_M_nextA (d := d) (by omega) hM hA.2.1.1 hA.1
      obtain ⟨k1, k2, k3⟩ := MA_mo hA a2 a3
      obtain ⟨h2, b1, b2, b3, b4, b5⟩ := E_M_wr (d := d) (by omega) hM k2 (by omega) 2
      obtain ⟨h3, c1, c2, c3, c4, c5⟩ := E_M_wr (d := d) (by omega) hM b3 (by omega) (i : Int)
      refine ⟨h3, ?_, Mq_tr (Mq_tr k1 b2) c2, c3, Seg_cons.mpr ⟨by rw [c5 _ (by omega)]; exact b4, Seg_cons.mpr ⟨c4, Seg_nil⟩⟩, fun j hj => by rw [c5 j (by omega), b5 j (by omega), k3]⟩
      show mm_P (d + 1) 274 [(2, 483)] w h = _
      rw [P_M_readsUnit]
      simp only [mF_t hw]
      rw [mEq_f (fun x => hk.2.1 ((MA_k hA (c := 45) (by decide)).mp x)), mEq_f (fun x => hk.2.2 ((MA_k hA (c := 40) (by decide)).mp x)), E_M_nameNow (by omega) hM hA, hnm, mC_s]
      try dsimp only
      rw [mEq_f (by omega), mF_t hw, a1, mC_s, mF_t hw, b1, mC_s, mF_t hw, c1, mC_s]
  | none =>
    refine Or.inl ⟨tS B n p, fun d h q hd hA hq => ?_, fun w hM d h q hd hA hq => ?_⟩
    · obtain ⟨d, rfl, hd2⟩ := mm_dS (show 35 + 1 ≤ d by omega)
      obtain ⟨d, rfl, hd3⟩ := mm_dS (show 34 + 1 ≤ d by omega)
      obtain ⟨e, rfl, hd4⟩ := mm_dS (show 33 + 1 ≤ d by omega)
      have hw : (w.1 463).1 = 1 := by rw [hW.2.1]
      have hw2 : (w.1 461).1 = 10 := by rw [hW.1.1]
      rcases E_needOneOf (d := e + 1) (by omega) hW.1 hA.2.1.2.2.1 hA.2.1.2.2.2.2.2.2.1 hA.1 with ⟨i', z, _⟩ | ⟨z, h1, a1, a2, a3⟩
      · have z' := (pick_nm (tWd B n p)).symm.trans z
        rw [hnm] at z'; cases z'
      obtain ⟨k1, k2⟩ := CF_to hA.2.1 a2 a3
      obtain ⟨h2, z, b1, b2, b3⟩ := E_emitWithF (d := e) (by omega) hW k2 2 (-1)
      refine ⟨h2, C_l6 hW ?_, CO_tr k1 b2, b3⟩
      rw [P_Cr_readUnit]
      simp only [mF_t hw]
      rw [hA.2.1.1]
      simp only [mF_t hw2]
      rw [CA_k hA, mEq_f hk.2.1, mEq_f hk.2.2, mEq_f hk.1, a1, mC_s, mF_t hw, P_Cr_emitWord, mEq_f (by decide), mEq_f (by decide), mF_t hw, b1, mC_s, mC_s]
    · obtain ⟨d, rfl, hd2⟩ := mm_dS (show 35 + 1 ≤ d by omega)
      have hw : (w.1 483).1 = 13 := by rw [hM.1]
      rcases E_M_number (d := d) (by omega) hM hA.2.1.1 hA.1 (g := 4) (by decide) with ⟨z, _⟩ | ⟨_, h1, a1, a2, a3⟩
      · exact absurd z.1 hk.1
      obtain ⟨k1, k2⟩ := MG_mo hA.2.1 a2 a3
      refine ⟨h1, ?_, k1, k2⟩
      show mm_P (d + 1) 274 [(2, 483)] w h = _
      rw [P_M_readsUnit]
      simp only [mF_t hw]
      rw [mEq_f (fun x => hk.2.1 ((MA_k hA (c := 45) (by decide)).mp x)), mEq_f (fun x => hk.2.2 ((MA_k hA (c := 40) (by decide)).mp x)), E_M_nameNow (by omega) hM hA, hnm, mC_s]
      try dsimp only
      rw [mEq_t rfl, mF_t hw, a1, mC_s, mF_t hw, E_M_writesF (by omega) hM k2.1, mC_s, mF_t hw, E_M_writesF (by omega) hM k2.1, mC_s]
/-- a unit -/
theorem RD_6 (hW : CW w) (hM : MW w) {op : Int} (ho : 0 ≤ op ∧ op ≤ 4) (hp : 0 ≤ p ∧ p ≤ n) (ih : ∀ m op' p' : Int, 0 ≤ m → m ≤ 6 → m ≠ 3 → 0 ≤ op' → op' ≤ 4 → p < p' → p' ≤ n → RD w B n m op' p') : RD w B n 6 op p := by
  have l1 := tS_le (B := B) hp.2
  have l3 := tE_le (B := B) hp.2
  by_cases k2 : tK B n p = 2
  · exact U_num hW hM ho hp k2
  by_cases k45 : tK B n p = 45
  · have l2 := tE_lt hp.2 (show tK B n p ≠ 0 by omega)
    by_cases c : op < 4
    · exact U_neg hW hM ⟨ho.1, c⟩ hp k45 (ih 6 (op + 1) _ (by decide) (by decide) (by decide) (by omega) (by omega) l2.1 l3.2.1)
    · have e : op = 4 := by omega
      subst e
      exact Or.inl ⟨_, U_deep hW hM (Or.inl rfl) k45⟩
  by_cases k40 : tK B n p = 40
  · have l2 := tE_lt hp.2 (show tK B n p ≠ 0 by omega)
    by_cases c : op < 4
    · exact U_par hW hM ⟨ho.1, c⟩ hp k40 (ih 4 (op + 1) _ (by decide) (by decide) (by decide) (by omega) (by omega) l2.1 l3.2.1)
    · have e : op = 4 := by omega
      subst e
      exact Or.inl ⟨_, U_deep hW hM (Or.inr rfl) k40⟩
  exact U_name hW hM ho hp ⟨k2, k45, k40⟩
end PU
