/-! PURE: rules dropped, lines removed, in the reference's row. -/
/-- the rules of a row -/
def RR (row : Int → Int) (s : aS) : Prop := row 2 = aN s ∧ ∀ k : Int, 0 ≤ k → k < aN s → (∀ f : Int, 0 ≤ f → f < 7 → row (1415 + 408 * k + f) = aRul s k f) ∧ row (1415 + 408 * k + 7) = ((lenM (aCod s k) : Nat) : Int) ∧ ∀ i : Nat, i < lenM (aCod s k) → row (1415 + 408 * k + 8 + (i : Int)) = (compM (aCod s k) 0).getD i 0
def cOk (s : aS) : Prop := ∀ k : Int, 0 ≤ k → k < aN s → lenM (aCod s k) ≤ 400
theorem cOk_of {s : aS} (hI : aI s) : cOk s := fun k k0 k1 => (hI.2.2.2.2.2.2.2.2 k k0 k1).2.2.2.2.2.2.1
theorem RR_of {row : Int → Int} {s : aS} (hR : RM row s) : RR row s := ⟨hR.1.2.2, hR.2.2.2.2.2.2⟩
theorem remS_same (y a b k : Int) (s : aS) : (remS y a b k s).1.1 = s.1.1 ∧ (remS y a b k s).1.2.1 = s.1.2.1 ∧ (remS y a b k s).2.1 = s.2.1 ∧ (remS y a b k s).2.2.1 = s.2.2.1 ∧ (remS y a b k s).2.2.2.1 = s.2.2.2.1 ∧ (remS y a b k s).2.2.2.2.1 = s.2.2.2.2.1 := by
  unfold remS
  split
  · exact ⟨rfl, rfl, rfl, rfl, rfl, rfl⟩
  · exact ⟨rfl, rfl, rfl, rfl, rfl, rfl⟩
theorem remL_same (y a b : Int) : ∀ (k : Nat) (s : aS), (remL y a b k s).1.1 = s.1.1 ∧ (remL y a b k s).1.2.1 = s.1.2.1 ∧ (remL y a b k s).2.1 = s.2.1 ∧ (remL y a b k s).2.2.1 = s.2.2.1 ∧ (remL y a b k s).2.2.2.1 = s.2.2.2.1 ∧ (remL y a b k s).2.2.2.2.1 = s.2.2.2.2.1 := by
  intro k
  induction k with
  | zero => intro s; exact ⟨rfl, rfl, rfl, rfl, rfl, rfl⟩
  | succ k ih =>
    intro s
    obtain ⟨a1, a2, a3, a4, a5, a6⟩ := ih (remS y a b (k : Int) s)
    obtain ⟨b1, b2, b3, b4, b5, b6⟩ := remS_same y a b (k : Int) s
    exact ⟨a1.trans b1, a2.trans b2, a3.trans b3, a4.trans b4, a5.trans b5, a6.trans b6⟩
section PU
variable {d : Nat} {w : mm_W} {h : mm_H} {s : aS} {row row' : Int → Int}
theorem RR_rset (hR : RR row s) (hc : cOk s) {k : Int} {g : Int → Int} (hk : 0 ≤ k ∧ k < aN s) (hg : ∀ f : Int, 0 ≤ f → f < 7 → row' (1415 + 408 * k + f) = g f) (hb : ∀ j : Int, (j < 1415 + 408 * k ∨ 1415 + 408 * k + 7 ≤ j) → row' j = row j) : RR row' (F_rset s k g) := by
  refine ⟨by rw [hb 2 (by omega)]; exact hR.1, fun i i0 i1 => ?_⟩
  have i1 : i < aN s := i1
  have hr := hR.2 i i0 i1
  have hl := hc i i0 i1
  refine ⟨fun f f0 f1 => ?_, ?_, fun j hj => ?_⟩
  · show _ = (if i = k then g else aRul s i) f
    by_cases hik : i = k
    · subst hik
      rw [if_pos rfl]
      exact hg f f0 f1
    · rw [if_neg hik, hb _ (by omega)]
      exact hr.1 f f0 f1
  · rw [hb _ (by omega)]
    exact hr.2.1
  · have hj : j < lenM (aCod s i) := hj
    rw [hb _ (by omega)]
    exact hr.2.2 j hj
theorem RR_drop (hR : RR row s) (hc : cOk s) (hn : aN s ≤ 6) {r : Int} (hr : 0 ≤ r ∧ r < aN s) (h2 : row' 2 = aN s - 1) (hb : ∀ j : Int, 1415 ≤ j → j < 1415 + 408 * r → row' j = row j) (hd : ∀ j : Int, 1415 + 408 * r ≤ j → j < 3455 → row' j = row (j + 408)) : RR row' (F_drop s r) := by
  refine ⟨h2, fun k k0 k1 => ?_⟩
  have k1 : k < aN s - 1 := k1
  by_cases hk : k < r
  · have hv := hR.2 k k0 (by omega)
    have hl := hc k k0 (by omega)
    have e : (if k < r then k else k + 1) = k := if_pos hk
    show (∀ f : Int, 0 ≤ f → f < 7 → row' (1415 + 408 * k + f) = aRul s (if k < r then k else k + 1) f) ∧ row' (1415 + 408 * k + 7) = ((lenM (aCod s (if k < r then k else k + 1)) : Nat) : Int) ∧ ∀ i : Nat, i < lenM (aCod s (if k < r then k else k + 1)) → row' (1415 + 408 * k + 8 + (i : Int)) = (compM (aCod s (if k < r then k else k + 1)) 0).getD i 0
    rw [e]
    exact ⟨fun f f0 f1 => by rw [hb _ (by omega) (by omega)]; exact hv.1 f f0 f1, by rw [hb _ (by omega) (by omega)]; exact hv.2.1, fun i hi => by rw [hb _ (by omega) (by omega)]; exact hv.2.2 i hi⟩
  · have hv := hR.2 (k + 1) (by omega) (by omega)
    have hl := hc (k + 1) (by omega) (by omega)
    have e : (if k < r then k else k + 1) = k + 1 := if_neg hk
    show (∀ f : Int, 0 ≤ f → f < 7 → row' (1415 + 408 * k + f) = aRul s (if k < r then k else k + 1) f) ∧ row' (1415 + 408 * k + 7) = ((lenM (aCod s (if k < r then k else k + 1)) : Nat) : Int) ∧ ∀ i : Nat, i < lenM (aCod s (if k < r then k else k + 1)) → row' (1415 + 408 * k + 8 + (i : Int)) = (compM (aCod s (if k < r then k else k + 1)) 0).getD i 0
    rw [e]
    refine ⟨fun f f0 f1 => ?_, ?_, fun i hi => ?_⟩
    · rw [hd _ (by omega) (by omega), show 1415 + 408 * k + f + 408 = 1415 + 408 * (k + 1) + f by omega]; exact hv.1 f f0 f1
    · rw [hd _ (by omega) (by omega), show 1415 + 408 * k + 7 + 408 = 1415 + 408 * (k + 1) + 7 by omega]; exact hv.2.1
    · rw [hd _ (by omega) (by omega), show 1415 + 408 * k + 8 + (i : Int) + 408 = 1415 + 408 * (k + 1) + 8 + i by omega]; exact hv.2.2 i hi
theorem E_M_dropRule (hd : 1 ≤ d) (hW : MW w) (hH : MH h) (hn : 0 ≤ h 484 2 ∧ h 484 2 ≤ 6) {r : Int} (hr : 0 ≤ r ∧ r < 6) : ∃ h', mm_P d 243 [(2, 483), (0, r)] w h = some ((9, 0), w, h') ∧ (∀ b : Int, b ≠ 484 → h' b = h b) ∧ h' 484 2 = h 484 2 - 1 ∧ (∀ j : Int, j ≠ 2 → j < 1415 + 408 * r → h' 484 j = h 484 j) ∧ ∀ j : Int, 1415 + 408 * r ≤ j → j < 3455 → h' 484 j = h 484 (j + 408) := by
  obtain ⟨d, rfl, hd2⟩ := mm_dS hd; clear hd; have hd := hd2; clear hd2
  have hw : (w.1 483).1 = 13 := by rw [hW.1]
  rw [P_M_dropRule]
  try dsimp only
  rw [mI_id (x := r + 1) (by omega) (by omega), mI_id (x := 408 * (r + 1)) (by omega) (by omega), mI_id (x := 1415 + 408 * (r + 1)) (by omega) (by omega), mI_id (x := 1415 + 408 * (r + 1) - 408) (by omega) (by omega), mI_id (x := 3863 - (1415 + 408 * (r + 1))) (by omega) (by omega)]
  simp only [mF_t hw, hH.1]
  rw [mCy_t hW.2.1 hW.2.1 (by decide) (by decide) (by omega) (by omega) (by omega) (by omega) (by omega)]
  generalize hg : mCpy h 484 (1415 + 408 * (r + 1)) 484 (1415 + 408 * (r + 1) - 408) (3863 - (1415 + 408 * (r + 1))) = h1
  have b1 : ∀ b : Int, b ≠ 484 → h1 b = h b := fun b hb => by rw [← hg]; exact mCpy_row hb
  have b2 : ∀ j : Int, j < 1415 + 408 * r → h1 484 j = h 484 j := fun j hj => by rw [← hg]; exact mCpy_out (by omega)
  have b3 : ∀ j : Int, 1415 + 408 * r ≤ j → j < 3455 → h1 484 j = h 484 (j + 408) := fun j j0 j1 => by
    rw [← hg, mCpy_in (by omega) (by omega)]
    congr 1; omega
  rw [b1 483 (by decide), hH.1, mA_t hW.2.1 (by decide) (by decide), mAw_t hW.2.1 (by decide) (by decide) (by decide), b2 2 (by omega), mI_id (by omega) (by omega)]
  exact ⟨_, rfl, fun b hb => by rw [mUp_row hb, b1 b hb], mUp_s, fun j j2 jr => by rw [mUp_n (Or.inr j2), b2 j jr], fun j j0 j1 => by rw [mUp_n (Or.inr (by omega)), b3 j j0 j1]⟩
theorem L_M_remR (hd : 1 ≤ d) (hW : MW w) {y a b : Int} (hy : y = 0 ∨ y = 1) (ha : 0 ≤ a ∧ a ≤ b) (hb : b < 16) : ∀ (m : Nat) (s : aS) (h : mm_H), MH h → RR (h 484) s → cOk s → (0 ≤ aN s ∧ aN s ≤ 6) → (m : Int) ≤ aN s → rOk s m → ∃ h', l_M_doRemove_1 (mm_P d) 483 y a b (b - a + 1) ((m : Int) - 1) w h = some (.inr (230, [(2, 483), (0, y), (0, a), (0, b), (0, b - a + 1), (0, -1), (9, 0), (9, 0), (9, 0), (9, 0), (9, 0)], w, h')) ∧ RR (h' 484) (remL y a b m s) ∧ (∀ b : Int, b ≠ 484 → h' b = h b) ∧ ∀ j : Int, j < 1415 → j ≠ 2 → h' 484 j = h 484 j := by
  have hw : (w.1 483).1 = 13 := by rw [hW.1]
  intro m
  induction m with
  | zero =>
    intro s h hH hR hc hs hm hr
    rw [l_M_doRemove_1_eq, mLt_t (by omega)]
    exact ⟨h, rfl, hR, fun _ _ => rfl, fun _ _ _ => rfl⟩
  | succ m ih =>
    intro s h hH hR hc hs hm hr
    have e1 : ((m + 1 : Nat) : Int) - 1 = m := by omega
    have hk := hR.2 (m : Int) (by omega) (by omega)
    have hrk := hr (m : Int) (by omega) (by omega)
    have v0 := hrk.1 y (by omega) (by omega)
    have v2 := hrk.1 (2 + y) (by omega) (by omega)
    have r0 : h 484 (1415 + 408 * m + y) = aRul s m y := hk.1 y (by omega) (by omega)
    have r2 : h 484 (1415 + 408 * m + 2 + y) = aRul s m (2 + y) := by rw [show 1415 + 408 * (m : Int) + 2 + y = 1415 + 408 * m + (2 + y) by omega]; exact hk.1 (2 + y) (by omega) (by omega)
    have q0 : rLos y a b (aRul s m) y = losF a b (aRul s m y) := by unfold rLos; rw [if_pos rfl]
    have q2 : rLos y a b (aRul s m) (2 + y) = losL a b (aRul s m (2 + y)) := by unfold rLos; rw [if_neg (by omega), if_pos rfl]
    have ok1 : ∀ (s2 : aS), (∀ i : Int, 0 ≤ i → i < m → aRul s2 i = aRul s i) → rOk s2 m := fun s2 e i i0 i1 => by
      rw [e i i0 i1]; exact hr i i0 (by omega)
    -- the end of each way
    have fin : ∀ nb ne : Int, nb = losF a b (aRul s m y) → ne = losL a b (aRul s m (2 + y)) → ∃ h', mLe nb ne (l_M_doRemove_1 (mm_P d) 483 y a b (b - a + 1) ((m : Int) - 1) w (mUp (mUp h 484 (1415 + 408 * m + y) nb) 484 (1415 + 408 * m + 2 + y) ne)) (mC (mm_P d 243 [(2, 483), (0, (m : Int))] w (mUp (mUp h 484 (1415 + 408 * m + y) nb) 484 (1415 + 408 * m + 2 + y) ne)) 9 none (fun _ w1 h1 => l_M_doRemove_1 (mm_P d) 483 y a b (b - a + 1) ((m : Int) - 1) w1 h1)) = some (.inr (230, [(2, 483), (0, y), (0, a), (0, b), (0, b - a + 1), (0, -1), (9, 0), (9, 0), (9, 0), (9, 0), (9, 0)], w, h')) ∧ RR (h' 484) (remL y a b (m + 1) s) ∧ (∀ b : Int, b ≠ 484 → h' b = h b) ∧ ∀ j : Int, j < 1415 → j ≠ 2 → h' 484 j = h 484 j := by
      intro nb ne hnb hne
      generalize hg : mUp (mUp h 484 (1415 + 408 * m + y) nb) 484 (1415 + 408 * m + 2 + y) ne = h1
      have b1 : ∀ x : Int, x ≠ 484 → h1 x = h x := fun x hx => by rw [← hg, mUp_row hx, mUp_row hx]
      have b2 : ∀ j : Int, j ≠ 1415 + 408 * m + y → j ≠ 1415 + 408 * m + 2 + y → h1 484 j = h 484 j := fun j j0 j1 => by rw [← hg, mUp_n (Or.inr j1), mUp_n (Or.inr j0)]
      have b3 : h1 484 (1415 + 408 * m + y) = nb := by rw [← hg, mUp_n (Or.inr (by omega)), mUp_s]
      have b4 : h1 484 (1415 + 408 * m + 2 + y) = ne := by rw [← hg, mUp_s]
      have M1 : MH h1 := MH_fr hH (fun i _ => by rw [b1 483 (by decide)])
      have R1 : RR (h1 484) (F_rset s m (rLos y a b (aRul s m))) := RR_rset hR hc (by omega) (fun f f0 f1 => by
        unfold rLos
        by_cases f1' : f = y
        · rw [if_pos f1', f1', b3, hnb]
        · rw [if_neg f1']
          by_cases f2' : f = 2 + y
          · rw [if_pos f2', f2', show 1415 + 408 * (m : Int) + (2 + y) = 1415 + 408 * m + 2 + y by omega, b4, hne]
          · rw [if_neg f2', b2 _ (by omega) (by omega)]
            exact hk.1 f f0 f1) (fun j hj => b2 j (by omega) (by omega))
      by_cases c : nb ≤ ne
      · have es : remS y a b m s = F_rset s m (rLos y a b (aRul s m)) := by unfold remS; rw [if_neg (by rw [q0, q2]; omega)]
        obtain ⟨h', g1, g2, g3, g4⟩ := ih (remS y a b m s) h1 M1 (by rw [es]; exact R1) (by rw [es]; exact hc) (by rw [es]; exact hs) (by rw [es]; show (m : Int) ≤ aN s; omega) (by
          rw [es]
          refine ok1 _ (fun i i0 i1 => ?_)
          show (if i = (m : Int) then rLos y a b (aRul s m) else aRul s i) = aRul s i
          rw [if_neg (by omega)])
        rw [mLe_t c]
        exact ⟨h', g1, g2, fun x hx => by rw [g3 x hx, b1 x hx], fun j j0 j2 => by rw [g4 j j0 j2, b2 j (by omega) (by omega)]⟩
      · have es : remS y a b m s = F_drop (F_rset s m (rLos y a b (aRul s m))) m := by unfold remS; rw [if_pos (by rw [q0, q2]; omega)]
        obtain ⟨h2, c1, c2, c3, c4, c5⟩ := E_M_dropRule (d := d) hd hW M1 (by rw [R1.1]; exact hs) (r := (m : Int)) (by omega)
        have R2 : RR (h2 484) (F_drop (F_rset s m (rLos y a b (aRul s m))) m) := RR_drop R1 hc hs.2 (by show 0 ≤ (m : Int) ∧ (m : Int) < aN s; omega) (by rw [c3, R1.1]) (fun j j0 j1 => c4 j (by omega) j1) c5
        obtain ⟨h', g1, g2, g3, g4⟩ := ih (remS y a b m s) h2 (MH_fr M1 (fun i _ => by rw [c2 483 (by decide)])) (by rw [es]; exact R2) (by
          rw [es]
          intro k k0 k1
          have k1 : k < aN s - 1 := k1
          show lenM (aCod s (if k < (m : Int) then k else k + 1)) ≤ 400
          split
          · exact hc k k0 (by omega)
          · exact hc (k + 1) (by omega) (by omega)) (by rw [es]; show 0 ≤ aN s - 1 ∧ aN s - 1 ≤ 6; omega) (by rw [es]; show (m : Int) ≤ aN s - 1; omega) (by
          rw [es]
          refine ok1 _ (fun i i0 i1 => ?_)
          show (if (if i < (m : Int) then i else i + 1) = (m : Int) then rLos y a b (aRul s m) else aRul s (if i < (m : Int) then i else i + 1)) = aRul s i
          rw [if_pos i1, if_neg (by omega)])
        rw [mLe_f (by omega), c1, mC_s]
        exact ⟨h', g1, g2, fun x hx => by rw [g3 x hx, c2 x hx, b1 x hx], fun j j0 j2 => by rw [g4 j j0 j2, c4 j j2 (by omega), b2 j (by omega) (by omega)]⟩
    rw [l_M_doRemove_1_eq, e1, mLt_f (by omega)]
    try dsimp only
    simp only [mF_t hw, hH.1]
    rw [mI_id (x := 408 * (m : Int)) (by omega) (by omega), mI_id (x := 1415 + 408 * (m : Int)) (by omega) (by omega), mI_id (x := 1415 + 408 * (m : Int) + y) (by omega) (by omega), mI_id (x := 1415 + 408 * (m : Int) + 2) (by omega) (by omega), mI_id (x := 1415 + 408 * (m : Int) + 2 + y) (by omega) (by omega), mA_t hW.2.1 (by omega) (by omega), mA_t hW.2.1 (by omega) (by omega), r0, r2, mI_id (x := (m : Int) + -1) (by omega) (by omega), show (m : Int) + -1 = m - 1 by omega]
    generalize aRul s m y = x at v0 fin
    generalize aRul s m (2 + y) = z at v2 fin
    have w1 : ∀ nb : Int, mUp h 484 (1415 + 408 * m + y) nb 483 0 = 484 := fun nb => by rw [mUp_n (Or.inl (by decide))]; exact hH.1
    have A1 : ∀ (α : Type) (p q : α), mAw w 484 (1415 + 408 * m + y) p q = q := fun α p q => mAw_t hW.2.1 (by omega) (by omega) (by decide)
    have A2 : ∀ (α : Type) (p q : α), mAw w 484 (1415 + 408 * m + 2 + y) p q = q := fun α p q => mAw_t hW.2.1 (by omega) (by omega) (by decide)
    simp only [A1, w1, A2]
    by_cases k1 : a < x
    · rw [mLt_t k1]
      by_cases k2 : b < x
      · rw [mLt_t k2, mI_id (x := x - (b - a + 1)) (by omega) (by omega)]
        by_cases k3 : a ≤ z
        · rw [mLe_t k3]
          by_cases k4 : b < z
          · rw [mLt_t k4, mI_id (x := z - (b - a + 1)) (by omega) (by omega)]
            exact fin _ _ (by unfold losF; rw [if_neg (by omega), if_neg (by omega)]) (by unfold losL; rw [if_neg (by omega), if_neg (by omega)])
          · rw [mLt_f (by omega), mI_id (x := a - 1) (by omega) (by omega)]
            exact fin _ _ (by unfold losF; rw [if_neg (by omega), if_neg (by omega)]) (by unfold losL; rw [if_neg (by omega), if_pos (by omega)])
        · rw [mLe_f (by omega)]
          exact fin _ _ (by unfold losF; rw [if_neg (by omega), if_neg (by omega)]) (by unfold losL; rw [if_pos (by omega)])
      · rw [mLt_f (by omega)]
        by_cases k3 : a ≤ z
        · rw [mLe_t k3]
          by_cases k4 : b < z
          · rw [mLt_t k4, mI_id (x := z - (b - a + 1)) (by omega) (by omega)]
            exact fin _ _ (by unfold losF; rw [if_neg (by omega), if_pos (by omega)]) (by unfold losL; rw [if_neg (by omega), if_neg (by omega)])
          · rw [mLt_f (by omega), mI_id (x := a - 1) (by omega) (by omega)]
            exact fin _ _ (by unfold losF; rw [if_neg (by omega), if_pos (by omega)]) (by unfold losL; rw [if_neg (by omega), if_pos (by omega)])
        · rw [mLe_f (by omega)]
          exact fin _ _ (by unfold losF; rw [if_neg (by omega), if_pos (by omega)]) (by unfold losL; rw [if_pos (by omega)])
    · have ex : x = losF a b x := by
        unfold losF
        split
        · rfl
        · rw [if_pos (by omega)]; omega
      rw [mLt_f (by omega)]
      by_cases k3 : a ≤ z
      · rw [mLe_t k3]
        by_cases k4 : b < z
        · rw [mLt_t k4, mI_id (x := z - (b - a + 1)) (by omega) (by omega)]
          exact fin _ _ ex (by unfold losL; rw [if_neg (by omega), if_neg (by omega)])
        · rw [mLt_f (by omega), mI_id (x := a - 1) (by omega) (by omega)]
          exact fin _ _ ex (by unfold losL; rw [if_neg (by omega), if_pos (by omega)])
      · rw [mLe_f (by omega)]
        exact fin _ _ ex (by unfold losL; rw [if_pos (by omega)])
end PU
