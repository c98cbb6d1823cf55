/-! PURE: a view's masks. -/
def VW (w : mm_W) (V : Int) : Prop := w.1 V = (11, 10) ∧ w.1 (V + 1) = (50, 256) ∧ w.1 (V + 2) = (50, 1024) ∧ w.1 (V + 3) = (50, 1024) ∧ w.1 (V + 4) = (50, 256) ∧ w.1 (V + 5) = (50, 313) ∧ w.1 (V + 6) = (50, 256)
def VH (h : mm_H) (V : Int) : Prop := ∀ i : Int, 0 ≤ i → i < 6 → h V i = V + 1 + i
def vOk (V : Int) : Prop := V = 438 ∨ V = 445
/-- only the probe and the view have changed -/
def VO (V : Int) (h h' : mm_H) : Prop := (∀ b : Int, b ≠ 436 → b ≠ 437 → ¬ (V ≤ b ∧ b < V + 7) → h' b = h b) ∧ h' 436 0 = h 436 0 ∧ h' V = h V
theorem VO_rf (V : Int) (h : mm_H) : VO V h h := ⟨fun _ _ _ _ => rfl, rfl, rfl⟩
theorem VO_tr {V : Int} {a b c : mm_H} (x : VO V a b) (y : VO V b c) : VO V a c := ⟨fun q h1 h2 h3 => (y.1 q h1 h2 h3).trans (x.1 q h1 h2 h3), y.2.1.trans x.2.1, y.2.2.trans x.2.2⟩
theorem VO_po {V : Int} {h h' : mm_H} (hV : vOk V) (o : PO h h') : VO V h h' := ⟨fun b h1 h2 _ => o.1 b h1 h2, o.2, o.1 V (by unfold vOk at hV; omega) (by unfold vOk at hV; omega)⟩
theorem VO_row {V a i z : Int} {h : mm_H} (hV : vOk V) (ha : V < a ∧ a < V + 7) : VO V h (mUp h a i z) := ⟨fun b _ _ h3 => mUp_row (by omega), mUp_n (Or.inl (by unfold vOk at hV; omega)), mUp_row (by omega)⟩
theorem VO_VH {V : Int} {h h' : mm_H} (o : VO V h h') (c : VH h V) : VH h' V := fun i i0 i1 => by rw [o.2.2]; exact c i i0 i1
section PU
variable {d : Nat} {w : mm_W} {h : mm_H} {s : aS} {S V k : Int}
theorem RC_VO {h' : mm_H} (hS : sOk S) (hV : vOk V) (hI : aI s) (hR : RC w h S s) (o : VO V h h') : RC w h' S s := RC_fr hR hI ⟨Int.le_refl _, fun a a0 _ => ⟨rfl, o.1 a (by omega) (by omega) (by unfold vOk at hV; omega)⟩⟩ (fun b b0 b1 => o.1 b (by unfold sOk at hS; omega) (by unfold sOk at hS; omega) (by unfold sOk at hS; unfold vOk at hV; omega))
theorem VO_S {h' : mm_H} (hS : sOk S) (hV : vOk V) (o : VO V h h') : h' (S + 5) = h (S + 5) := o.1 _ (by unfold sOk at hS; omega) (by unfold sOk at hS; omega) (by unfold sOk at hS; unfold vOk at hV; omega)
theorem L_fill {a n : Int} (ha : w.1 a = (50, n)) (h0 : 0 < a) (v : Int) (hn : n ≤ 100000) : ∀ (m : Nat) (i : Int) (h : mm_H), 0 ≤ i → i + m = n → ∃ h', l_Arr_fill_0 (mm_P d) a v i n w h = some (.inr (20, [(2, a), (0, v), (0, n), (0, n)], w, h')) ∧ (∀ b : Int, b ≠ a → h' b = h b) ∧ (∀ j : Int, i ≤ j → j < n → h' a j = v) ∧ ∀ j : Int, j < i → h' a j = h a j := by
  intro m
  induction m with
  | zero =>
    intro i h i0 i1
    rw [l_Arr_fill_0_eq, mLe_t (by omega), show i = n by omega]
    exact ⟨h, rfl, fun _ _ => rfl, fun j j0 j1 => by omega, fun _ _ => rfl⟩
  | succ m ih =>
    intro i h i0 i1
    rw [l_Arr_fill_0_eq, mLe_f (by omega), mAw_t ha i0 (by omega) h0]
    try dsimp only
    rw [mI_id (by omega) (by omega)]
    obtain ⟨h', g1, g2, g3, g4⟩ := ih (i + 1) (mUp h a i v) (by omega) (by omega)
    refine ⟨h', g1, fun b hb => by rw [g2 b hb, mUp_row hb], fun j j0 j1 => ?_, fun j hj => by rw [g4 j (by omega), mUp_n (Or.inr (by omega))]⟩
    by_cases e : j = i
    · rw [e, g4 i (by omega), mUp_s]
    · exact g3 j (by omega) j1
theorem E_fill (hd : 1 ≤ d) {a n : Int} (ha : w.1 a = (50, n)) (h0 : 0 < a) (v : Int) (hn : 0 ≤ n ∧ n ≤ 100000) : ∃ h', mm_P d 352 [(2, a), (0, v)] w h = some ((9, 0), w, h') ∧ (∀ b : Int, b ≠ a → h' b = h b) ∧ ∀ j : Int, 0 ≤ j → j < n → h' a j = v := by
  obtain ⟨d, rfl, hd2⟩ := mm_dS hd; clear hd; have hd := hd2; clear hd2
  obtain ⟨h', g1, g2, g3, g4⟩ := L_fill (d := d) ha h0 v hn.2 n.toNat 0 h (Int.le_refl _) (by omega)
  rw [P_Arr_fill, mN_t ha (by decide), ha]
  try dsimp only
  rw [g1, mK_r, if_pos rfl]
  exact ⟨h', rfl, g2, g3⟩
/-- the cells of the rule that were looked at, up to (r, c) -/
def dn (s : aS) (k r c i j : Int) : Prop := inR s k i j ∧ (i < r ∨ i = r ∧ j < c)
noncomputable def mv (s : aS) (n : Nat) (D : Int → Int → Prop) (i j : Int) : Int := @ite _ (D i j) (Classical.propDecidable _) (msk s i j (n + 1)) (msk s i j n)
def MK (h : mm_H) (V : Int) (s : aS) (n : Nat) (D : Int → Int → Prop) : Prop := ∀ i j : Int, 0 ≤ i → i < aHi s → 0 ≤ j → j < aWi s → h (V + 1) (16 * i + j) = mv s n D i j
theorem MK_iff {n : Nat} {D E : Int → Int → Prop} (hM : MK h V s n D) (e : ∀ i j : Int, D i j ↔ E i j) : MK h V s n E := fun i j i0 i1 j0 j1 => by
  rw [hM i j i0 i1 j0 j1]
  unfold mv
  by_cases c : D i j
  · rw [if_pos c, if_pos ((e i j).mp c)]
  · rw [if_neg c, if_neg (fun x => c ((e i j).mpr x))]
theorem L_mark1 (hd : 13 ≤ d) (hP : PW w) (hS : sOk S) (hV : vOk V) (hVW : VW w V) (hW : ShW w S) (hI : aI s) {n : Nat} (hk : (n : Int) < aN s) {o r : Int} (hr : aRul s n 0 ≤ r ∧ r ≤ aRul s n 2) : ∀ (m : Nat) (c : Int) (h : mm_H), VH h V → RC w h S s → h 436 0 = 437 → h (S + 5) n = o → aimed h s n → aRul s n 1 ≤ c → c + m = aRul s n 3 + 1 → MK h V s n (dn s n r c) → ∃ h', l_Vw_markCells_1 (mm_P d) V S 436 n o r c w h = some (.inr (99, [(2, V), (2, S), (2, 436), (0, (n : Int)), (2, o), (0, r), (0, aRul s n 3 + 1), (9, 0)], w, h')) ∧ VO V h h' ∧ aimed h' s n ∧ MK h' V s n (dn s n r (aRul s n 3 + 1)) := by
  have hn := hI.2.2.1
  have hk' : 0 ≤ (n : Int) ∧ (n : Int) < aN s := by omega
  have hb := rul_b hI hk'
  have w436 : (w.1 436).1 = 5 := by rw [hP.1]
  have wV : (w.1 V).1 = 11 := by rw [hVW.1]
  intro m
  induction m with
  | zero =>
    intro c h hH hR h0 ho hA a1 a2 hM
    obtain ⟨o1, o2, o3, v0, v1, v2, v3⟩ := rul_f hS hW hI hR hk' ho
    have e : c = aRul s n 3 + 1 := by omega
    subst e
    rw [l_Vw_markCells_1_eq, mF_t o1, v3, mLt_t (by omega)]
    exact ⟨h, rfl, VO_rf V h, hA, hM⟩
  | succ m ih =>
    intro c h hH hR h0 ho hA a1 a2 hM
    obtain ⟨o1, o2, o3, v0, v1, v2, v3⟩ := rul_f hS hW hI hR hk' ho
    obtain ⟨h1, b1, b2, b3⟩ := E_isSo (d := d) (by omega) hP hS hW hI h0 hR hk' (r := r) (c := c) (by omega) (by omega) hA
    rw [ho] at b1
    have o1' := VO_po (V := V) hV b2
    have hH1 := VO_VH o1' hH
    have h1V : h1 (V + 1) = h (V + 1) := b2.1 _ (by unfold vOk at hV; omega) (by unfold vOk at hV; omega)
    rw [l_Vw_markCells_1_eq, mF_t o1, v3, mLt_f (by omega), E_placeOf (by omega) (by omega) (by omega) (by omega) (by omega), mC_s, mF_t w436, b1, mC_s]
    try dsimp only
    rw [mI_id (x := c + 1) (by omega) (by omega)]
    have step : ∀ i j : Int, dn s n r (c + 1) i j ↔ dn s n r c i j ∨ (i = r ∧ j = c) := by
      intro i j
      unfold dn inR
      constructor
      · rintro ⟨x1, x2⟩; omega
      · rintro (⟨x1, x2⟩ | ⟨rfl, rfl⟩) <;> omega
    have hm0 : h (V + 1) (16 * r + c) = msk s r c n := by
      rw [hM r c (by omega) (by omega) (by omega) (by omega)]
      unfold mv
      rw [if_neg (by unfold dn; omega)]
    by_cases c2 : isSoA s (n : Int) r c
    · have hld : hldA s (n : Int) r c := ⟨by unfold inR; omega, c2⟩
      rw [bI_t c2, mEq_f (by decide), mF_t wV, mF_t wV, hH1 0 (by decide) (by decide), show V + 1 + 0 = V + 1 by omega, E_peek_t (by omega) hVW.2.1 (by omega) (by omega), mC_s, E_poke_t (by omega) hVW.2.1 (by unfold vOk at hV; omega) (by omega) (by omega), mC_s, h1V, hm0, msk_or (by omega) hld]
      have o2' : VO V h1 (mUp h1 (V + 1) (16 * r + c) (msk s r c (n + 1))) := VO_row hV (by omega)
      have o12 := VO_tr o1' o2'
      obtain ⟨h', g1, g2, g3, g4⟩ := ih (c + 1) _ (VO_VH o12 hH) (RC_VO hS hV hI hR o12) (by rw [o12.2.1]; exact h0) (by rw [VO_S hS hV o12]; exact ho) ⟨by rw [mUp_n (Or.inl (by unfold vOk at hV; omega))]; exact b3.1, by rw [mUp_n (Or.inl (by unfold vOk at hV; omega))]; exact b3.2.1, by rw [mUp_n (Or.inl (by unfold vOk at hV; omega))]; exact b3.2.2⟩ (by omega) (by omega) (fun i j i0 i1 j0 j1 => by
        unfold mv
        by_cases e : i = r ∧ j = c
        · rw [e.1, e.2, mUp_s, if_pos ((step r c).mpr (Or.inr ⟨rfl, rfl⟩))]
        · rw [mUp_n (Or.inr (by omega)), h1V, hM i j i0 i1 j0 j1]
          unfold mv
          by_cases e2 : dn s n r c i j
          · rw [if_pos e2, if_pos ((step i j).mpr (Or.inl e2))]
          · rw [if_neg e2, if_neg (fun x => ((step i j).mp x).elim e2 e)])
      exact ⟨h', g1, VO_tr o12 g2, g3, g4⟩
    · rw [bI_f c2, mEq_t rfl]
      obtain ⟨h', g1, g2, g3, g4⟩ := ih (c + 1) h1 hH1 (RC_VO hS hV hI hR o1') (by rw [o1'.2.1]; exact h0) (by rw [VO_S hS hV o1']; exact ho) b3 (by omega) (by omega) (fun i j i0 i1 j0 j1 => by
        rw [h1V, hM i j i0 i1 j0 j1]
        unfold mv
        by_cases e2 : dn s n r c i j
        · rw [if_pos e2, if_pos ((step i j).mpr (Or.inl e2))]
        · rw [if_neg e2]
          by_cases e3 : dn s n r (c + 1) i j
          · rw [if_pos e3]
            rcases (step i j).mp e3 with y | ⟨rfl, rfl⟩
            · exact absurd y e2
            · exact (msk_skip (fun x => c2 x.2)).symm
          · rw [if_neg e3])
      exact ⟨h', g1, VO_tr o1' g2, g3, g4⟩
theorem L_mark0 (hd : 13 ≤ d) (hP : PW w) (hS : sOk S) (hV : vOk V) (hVW : VW w V) (hW : ShW w S) (hI : aI s) {n : Nat} (hk : (n : Int) < aN s) {o : Int} : ∀ (m : Nat) (r : Int) (h : mm_H), VH h V → RC w h S s → h 436 0 = 437 → h (S + 5) n = o → aimed h s n → aRul s n 0 ≤ r → r + m = aRul s n 2 + 1 → MK h V s n (dn s n r (aRul s n 1)) → ∃ h', l_Vw_markCells_0 (mm_P d) V S 436 n o r w h = some (.inr (105, [(2, V), (2, S), (2, 436), (0, (n : Int)), (2, o), (0, aRul s n 2 + 1), (9, 0), (9, 0)], w, h')) ∧ VO V h h' ∧ MK h' V s n (dn s n (aRul s n 2 + 1) (aRul s n 1)) := by
  have hn := hI.2.2.1
  have hk' : 0 ≤ (n : Int) ∧ (n : Int) < aN s := by omega
  have hb := rul_b hI hk'
  intro m
  induction m with
  | zero =>
    intro r h hH hR h0 ho hA a1 a2 hM
    obtain ⟨o1, o2, o3, v0, v1, v2, v3⟩ := rul_f hS hW hI hR hk' ho
    have e : r = aRul s n 2 + 1 := by omega
    subst e
    rw [l_Vw_markCells_0_eq, mF_t o1, v2, mLt_t (by omega)]
    exact ⟨h, rfl, VO_rf V h, hM⟩
  | succ m ih =>
    intro r h hH hR h0 ho hA a1 a2 hM
    obtain ⟨o1, o2, o3, v0, v1, v2, v3⟩ := rul_f hS hW hI hR hk' ho
    obtain ⟨h1, b1, b2, b3, b4⟩ := L_mark1 (d := d) hd hP hS hV hVW hW hI hk (o := o) (r := r) (by omega) (aRul s n 3 + 1 - aRul s n 1).toNat (aRul s n 1) h hH hR h0 ho hA (Int.le_refl _) (by omega) hM
    rw [l_Vw_markCells_0_eq, mF_t o1, v2, mLt_f (by omega), mF_t o1, v1]
    try dsimp only
    rw [b1, mK_r, if_pos rfl]
    simp only [mP_0, mP_1, mP_2, mP_3, mP_4, mP_5]
    rw [mI_id (x := r + 1) (by omega) (by omega)]
    obtain ⟨h', g1, g2, g3⟩ := ih (r + 1) h1 (VO_VH b2 hH) (RC_VO hS hV hI hR b2) (by rw [b2.2.1]; exact h0) (by rw [VO_S hS hV b2]; exact ho) b3 (by omega) (by omega) (MK_iff b4 (fun i j => by
      unfold dn inR
      constructor <;> (rintro ⟨x1, x2⟩; omega)))
    exact ⟨h', g1, VO_tr b2 g2, g3⟩
theorem E_mark (hd : 15 ≤ d) (hP : PW w) (hS : sOk S) (hV : vOk V) (hVW : VW w V) (hW : ShW w S) (hI : aI s) {n : Nat} (hk : (n : Int) < aN s) (hH : VH h V) (hR : RC w h S s) (h0 : h 436 0 = 437) (hM : MK h V s n (fun _ _ => False)) : ∃ h', mm_P d 124 [(2, V), (2, S), (2, 436), (0, (n : Int))] w h = some ((9, 0), w, h') ∧ VO V h h' ∧ MK h' V s (n + 1) (fun _ _ => False) := by
  obtain ⟨d, rfl, hd2⟩ := mm_dS (show 14 + 1 ≤ d by omega)
  have hn := hI.2.2.1
  have hk' : 0 ≤ (n : Int) ∧ (n : Int) < aN s := by omega
  have hb := rul_b hI hk'
  have wS : (w.1 S).1 = 9 := by rw [hW.2.1]
  have w436 : (w.1 436).1 = 5 := by rw [hP.1]
  obtain ⟨h1, a1, a2, a3⟩ := E_aim (d := d) (by omega) hP hS hW hI hR hk'
  have o1 := VO_po (V := V) hV a2
  generalize ho : h (S + 5) (n : Int) = o at a1
  have R1 := RC_PO hS hI hR a2
  have ho1 : h1 (S + 5) (n : Int) = o := by rw [VO_S hS hV o1]; exact ho
  obtain ⟨q1, _, _, v0, _⟩ := rul_f hS hW hI R1 hk' ho1
  have h1V : h1 (V + 1) = h (V + 1) := a2.1 _ (by unfold vOk at hV; omega) (by unfold vOk at hV; omega)
  obtain ⟨h', g1, g2, g3⟩ := L_mark0 (d := d) (by omega) hP hS hV hVW hW hI hk (o := o) (aRul s n 2 + 1 - aRul s n 0).toNat (aRul s n 0) h1 (VO_VH o1 hH) R1 (by rw [o1.2.1]; exact h0) ho1 a3 (Int.le_refl _) (by omega) (fun i j i0 i1 j0 j1 => by
    rw [h1V, hM i j i0 i1 j0 j1]
    unfold mv
    rw [if_neg (fun x => x), if_neg (by unfold dn inR; omega)])
  rw [P_Vw_markCells, mF_t wS, E_ruleAt (by omega) hW hR.1 hk'.1 (by omega), mC_s, ho, mF_t w436, a1, mC_s, mF_t q1, v0]
  try dsimp only
  rw [g1, mK_r, if_pos rfl]
  refine ⟨h', rfl, VO_tr o1 g2, fun i j i0 i1 j0 j1 => ?_⟩
  rw [g3 i j i0 i1 j0 j1]
  unfold mv
  rw [if_neg (fun x => x)]
  by_cases e : dn s n (aRul s n 2 + 1) (aRul s n 1) i j
  · rw [if_pos e]
  · rw [if_neg e, msk_skip (fun x => e (by
      have := x.1
      unfold dn inR at *
      omega))]
end PU
