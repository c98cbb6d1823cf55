/-! PURE: programs are run by the reference. -/
theorem lnO_ex {L : List Int} (hL : lnO L) : ∃ (k : Nat) (M : List Int), L = (k : Int) :: M ∧ k ≤ 8 ∧ M.length = lnL k := by
  obtain ⟨l1, l2, _⟩ := hL
  cases L with
  | nil => exact absurd l2 (by show ¬ 0 = _ + 1; omega)
  | cons X M =>
    have g : (X :: M).getD 0 0 = X := rfl
    have gl : (X :: M).length = M.length + 1 := rfl
    rw [g] at l1 l2
    have e : ((X.toNat : Nat) : Int) = X := by omega
    exact ⟨X.toNat, M, by rw [e], by omega, by rw [e]; omega⟩
theorem wfP_clo : ∀ (m D : Nat) (P : List (List Int)), wfP m D P → clo P := by
  intro m
  induction m with
  | zero =>
    intro D P h
    have h : P = [] := h
    subst h
    exact trivial
  | succ m ih =>
    intro D P h
    cases P with
    | nil => exact trivial
    | cons L P =>
      rcases h with ⟨a, b⟩ | ⟨t, k, rfl, _, _, kl, a, b⟩
      · have h9 : L.getD 0 0 ≠ 9 := by have := a.1; omega
        obtain ⟨k, M, e, hk, _⟩ := lnO_ex a
        exact ⟨Or.inr ⟨k, M, e, hk⟩, fun x => absurd x h9, ih D P b⟩
      · refine ⟨Or.inl ⟨rfl, rfl⟩, fun _ => ?_, ?_⟩
        · show ((k : Int)).toNat ≤ P.length
          omega
        · have z := clo_app _ _ (ih _ _ a) (ih _ _ b)
          rw [List.take_append_drop] at z
          exact z
theorem rfP_cut {h : mm_H} {a : Int} : ∀ (P Q : List (List Int)) (q : Nat), clo P → rfP h a q (P ++ Q) → rfP h a q P ∧ rfP h a (q + rfW P) Q := by
  intro P
  induction P with
  | nil => intro Q q _ hp; exact ⟨trivial, hp⟩
  | cons L P ih =>
    intro Q q hc hp
    have e : rfW (L :: P) = rfL L + rfW P := rfl
    obtain ⟨a1, a2⟩ := ih Q (q + rfL L) hc.2.2 hp.2
    have er : rfR q L (P ++ Q) = rfR q L P := by
      unfold rfR
      by_cases c : L.getD 0 0 = 9
      · rw [if_pos c, if_pos c, List.take_append_of_le_length (hc.2.1 c)]
      · rw [if_neg c, if_neg c]
    have hs : Seg h a q (rfR q L (P ++ Q)) := hp.1
    rw [er] at hs
    exact ⟨⟨hs, a1⟩, by rw [e, ← Nat.add_assoc]; exact a2⟩
theorem rfL_1 {L : List Int} (h : lok L) : 1 ≤ rfL L := by
  rcases h with ⟨h1, h2⟩ | ⟨k, M, rfl, _⟩
  · unfold rfL; rw [if_neg (by omega)]; omega
  · have e : ((k : Int) :: M).length = M.length + 1 := rfl
    unfold rfL
    split <;> omega
def YSt (h : mm_H) (x : rS) (k : Int) : Prop := YB h (rsS x) (rsU x) (rsV x) k ∧ h 483 46 = rsT x ∧ h 483 47 = rsB x ∧ rOK x
section PU
variable {d : Nat} {w : mm_W} {h : mm_H} {s : aS} {u v k : Int}
theorem YB_483 {h' : mm_H} (hY : YB h s u v k) (e : ∀ b : Int, b ≠ 483 → h' b = h b) (ei : ∀ i : Int, i ≠ 46 → i ≠ 47 → h' 483 i = h 483 i) : YB h' s u v k := ⟨MH_fr hY.1 (fun i hi => ei i (by unfold mRef at hi; omega) (by unfold mRef at hi; omega)), by rw [e 484 (by decide)]; exact hY.2.1, hY.2.2.1, by rw [ei 48 (by decide) (by decide)]; exact hY.2.2.2.1, by rw [ei 49 (by decide) (by decide)]; exact hY.2.2.2.2.1, by rw [ei 50 (by decide) (by decide)]; exact hY.2.2.2.2.2⟩
theorem YO_up {i z : Int} (hi : 46 ≤ i ∧ i < 50) : YO h (mUp h 483 i z) := ⟨fun b h1 _ _ => mUp_row h1, fun j hj => mUp_n (Or.inr (by omega))⟩
theorem E_lnSz (hd : 1 ≤ d) {n : Nat} (hn : n ≤ 8) {M : List Int} (hM : M.length = lnL n) : ∃ y, (rfH n ++ M).getD 0 0 = y ∧ y ≠ 8 ∧ mm_P d 334 [(0, y)] w h = some ((0, ((rfL ((n : Int) :: M) : Nat) : Int)), w, h) := by
  obtain ⟨d, rfl, hd2⟩ := mm_dS hd
  rw [← rfH_len hn M, hM]
  rcases (show n = 0 ∨ n = 1 ∨ n = 2 ∨ n = 3 ∨ n = 4 ∨ n = 5 ∨ n = 6 ∨ n = 7 ∨ n = 8 by omega) with rfl | rfl | rfl | rfl | rfl | rfl | rfl | rfl | rfl
  · exact ⟨1, rfl, by decide, by rw [P_M_sizeOf, mEq_t rfl]; rfl⟩
  · exact ⟨2, rfl, by decide, by rw [P_M_sizeOf, mEq_f (by decide), mEq_t rfl]; rfl⟩
  · exact ⟨2, rfl, by decide, by rw [P_M_sizeOf, mEq_f (by decide), mEq_t rfl]; rfl⟩
  · exact ⟨3, rfl, by decide, by rw [P_M_sizeOf, mEq_f (by decide), mEq_f (by decide), mEq_t rfl]; rfl⟩
  · exact ⟨4, rfl, by decide, by rw [P_M_sizeOf, mEq_f (by decide), mEq_f (by decide), mEq_f (by decide), mEq_t rfl]; rfl⟩
  · exact ⟨5, rfl, by decide, by rw [P_M_sizeOf, mEq_f (by decide), mEq_f (by decide), mEq_f (by decide), mEq_f (by decide), mEq_t rfl]; rfl⟩
  · exact ⟨5, rfl, by decide, by rw [P_M_sizeOf, mEq_f (by decide), mEq_f (by decide), mEq_f (by decide), mEq_f (by decide), mEq_t rfl]; rfl⟩
  · exact ⟨6, rfl, by decide, by rw [P_M_sizeOf, mEq_f (by decide), mEq_f (by decide), mEq_f (by decide), mEq_f (by decide), mEq_f (by decide), mEq_t rfl]; rfl⟩
  · exact ⟨7, rfl, by decide, by rw [P_M_sizeOf, mEq_f (by decide), mEq_f (by decide), mEq_f (by decide), mEq_f (by decide), mEq_f (by decide), mEq_f (by decide)]; rfl⟩
theorem Y_run (hW : MW w) (k0 : 0 ≤ k ∧ k < 4) (R : Int → Int) : ∀ (m D : Nat) (P : List (List Int)) (q : Nat) (a1 : Int) (d : Nat) (x : rS) (h : mm_H), wfP m D P → rfP (fun _ j => R j) 0 q P → (∀ j : Int, h 504 (400 * k + j) = R j) → q + rfW P ≤ 200 → 20 + 4 * D ≤ d → YSt h x k → ∃ h', ((∃ L, l_M_runs_0 (mm_P d) 483 a1 (((q + rfW P : Nat) : Int)) (q : Int) w h = some (.inr (132, L, w, h'))) ∨ l_M_runs_0 (mm_P d) 483 a1 (((q + rfW P : Nat) : Int)) (q : Int) w h = some (.inl ((9, 0), w, h'))) ∧ YSt h' (rnL m P x) k ∧ YO h h' := by
  have hw : (w.1 483).1 = 13 := by rw [hW.1]
  intro m
  induction m with
  | zero =>
    intro D P q a1 d x h hwf _ _ _ _ hX
    have hwf : P = [] := hwf
    subst hwf
    rw [show ((q + rfW ([] : List (List Int)) : Nat) : Int) = q by show ((q + 0 : Nat) : Int) = q; omega, l_M_runs_0_eq, mLe_t (Int.le_refl _)]
    exact ⟨h, Or.inl ⟨_, rfl⟩, hX, YO_rf h⟩
  | succ m ih =>
    intro D P q a1 d x h hwf hr hR hq hd hX
    cases P with
    | nil =>
      rw [show ((q + rfW ([] : List (List Int)) : Nat) : Int) = q by show ((q + 0 : Nat) : Int) = q; omega, l_M_runs_0_eq, mLe_t (Int.le_refl _)]
      exact ⟨h, Or.inl ⟨_, rfl⟩, hX, YO_rf h⟩
    | cons L P =>
    have hc := wfP_clo _ _ _ hwf
    have l1 := rfL_1 hc.1
    have ew : rfW (L :: P) = rfL L + rfW P := rfl
    have le := rfR_len (q := q) (P := P) hc.1
    generalize hN : q + rfW (L :: P) = N
    obtain ⟨hB, hT, hBr, hok⟩ := hX
    rw [l_M_runs_0_eq, mLe_f (by omega), mF_t hw, hBr]
    by_cases cb : rsB x = 0
    rotate_left
    · rw [mEq_f cb, rnL_b cb]
      exact ⟨h, Or.inl ⟨_, rfl⟩, ⟨hB, hT, hBr, hok⟩, YO_rf h⟩
    rw [mEq_t cb]
    simp only [mF_t hw]
    rw [hT]
    have ok2 := hok.2.1
    by_cases c6 : rsT x = 60
    · rw [mEq_t c6, mZ_1, rnL_60 cb (by omega)]
      exact ⟨_, Or.inr rfl, ⟨YB_483 hB (fun b hb => mUp_row hb) (fun i _ i2 => mUp_n (Or.inr i2)), by rw [mUp_n (Or.inr (by decide))]; exact hT, mUp_s, hok.1, hok.2.1, hok.2.2.1, hok.2.2.2.1, Or.inr rfl⟩, YO_up (by decide)⟩
    rw [mEq_f c6, mI_id (x := rsT x + 1) (by omega) (by omega)]
    generalize hg : mUp h 483 46 (rsT x + 1) = h1
    have O1 : YO h h1 := by rw [← hg]; exact YO_up (by decide)
    have f47 : h1 483 47 = rsB x := by rw [← hg, mUp_n (Or.inr (by decide))]; exact hBr
    have B1 : YB h1 (rsS x) (rsU x) (rsV x) k := YB_483 hB (fun b hb => by rw [← hg, mUp_row hb]) (fun i i1 _ => by rw [← hg, mUp_n (Or.inr i1)])
    have X1 : YSt h1 (rsS x, rsT x + 1, rsU x, rsV x, 0) k := ⟨B1, by rw [← hg, mUp_s], by rw [f47]; exact cb, hok.1, by show 0 ≤ rsT x + 1 ∧ rsT x + 1 ≤ 60; omega, by show -99 * (rsT x + 1) ≤ rsU x ∧ rsU x ≤ 99 * (rsT x + 1); have := hok.2.2.1; omega, by show -99 * (rsT x + 1) ≤ rsV x ∧ rsV x ≤ 99 * (rsT x + 1); have := hok.2.2.2.1; omega, Or.inl rfl⟩
    have R1 : ∀ g : mm_H, YO h1 g → ∀ j : Int, g 504 (400 * k + j) = R j := fun g o j => by rw [o.1 504 (by decide) (by decide) (by decide), O1.1 504 (by decide) (by decide) (by decide)]; exact hR j
    have cel : ∀ (g : mm_H), YO h1 g → ∀ j : Nat, j < 3 → mm_P d 332 [(2, 483), (0, (q : Int) + (j : Int))] w g = some ((0, R ((q : Int) + (j : Int))), w, g) := fun g o j hj => by rw [E_cell (by omega) hW (YO_MH o B1.1) (show g 483 50 = k by rw [o.2 50 (by decide)]; exact B1.2.2.2.2.2) k0 (by omega), R1 g o]
    have row : ∀ j : Nat, j < rfL L → R ((q : Int) + (j : Int)) = (rfR q L P).getD j 0 := fun j hj => hr.1 j (by omega)
    have cel0 : ∀ (g : mm_H), YO h1 g → mm_P d 332 [(2, 483), (0, (q : Int))] w g = some ((0, R ((q : Int) + ((0 : Nat) : Int))), w, g) := fun g o => by
      have z := cel g o 0 (by decide)
      rw [show (q : Int) + ((0 : Nat) : Int) = q by omega] at z ⊢
      exact z
    rw [cel0 h1 (YO_rf h1), mC_s, row 0 (by omega)]
    rcases hwf with ⟨hL, hwf⟩ | ⟨t, n, rfl, tb, D0, kl, hw1, hw2⟩
    · -- a line that is no repeat
      have h9 : L.getD 0 0 ≠ 9 := by have := hL.1; omega
      obtain ⟨n, M, rfl, hn, hM⟩ := lnO_ex hL
      have er : rfR q ((n : Int) :: M) P = rfH n ++ M := rfR_k hn
      have eh : rfH ((((n : Int) :: M).getD 0 0).toNat) ++ ((n : Int) :: M).tail = rfH n ++ M := by
        show rfH ((n : Int)).toNat ++ M = _
        rw [Int.toNat_natCast]
      rw [er] at row le
      rw [er]
      obtain ⟨y, y1, y2, _⟩ := E_lnSz (d := d) (w := w) (h := h) (by omega) hn hM
      have ys : ∀ g : mm_H, mm_P d 334 [(0, y)] w g = some ((0, ((rfL ((n : Int) :: M) : Nat) : Int)), w, g) := fun g => by
        obtain ⟨y', e1, _, e3⟩ := E_lnSz (d := d) (w := w) (h := g) (by omega) hn hM
        rw [← y1, e1]; exact e3
      have r0 := row 0 (by omega)
      rw [y1] at r0
      have ub : -99 * (rsT x + 1) ≤ rsU x ∧ rsU x ≤ 99 * (rsT x + 1) := X1.2.2.2.2.2.1
      have vb : -99 * (rsT x + 1) ≤ rsV x ∧ rsV x ≤ 99 * (rsT x + 1) := X1.2.2.2.2.2.2.1
      have dk := doL_ok hL hok (by omega)
      rw [y1, mEq_f y2, rnL_l cb (by omega) h9]
      have nx : ((q + rfL ((n : Int) :: M) : Nat) : Int) = (q : Int) + ((rfL ((n : Int) :: M) : Nat) : Int) := by omega
      have go : ∀ h2 : mm_H, YO h1 h2 → YSt h2 (doL ((n : Int) :: M) (rsS x, rsT x + 1, rsU x, rsV x, 0)) k → ∃ h', ((∃ L', l_M_runs_0 (mm_P d) 483 a1 (N : Int) ((q : Int) + ((rfL ((n : Int) :: M) : Nat) : Int)) w h2 = some (.inr (132, L', w, h'))) ∨ l_M_runs_0 (mm_P d) 483 a1 (N : Int) ((q : Int) + ((rfL ((n : Int) :: M) : Nat) : Int)) w h2 = some (.inl ((9, 0), w, h'))) ∧ YSt h' (rnL m P (doL ((n : Int) :: M) (rsS x, rsT x + 1, rsU x, rsV x, 0))) k ∧ YO h h' := fun h2 o X2 => by
        obtain ⟨h', z1, z2, z3⟩ := ih D P (q + rfL ((n : Int) :: M)) a1 d _ h2 hwf hr.2 (R1 h2 o) (by omega) hd X2
        rw [show q + rfL ((n : Int) :: M) + rfW P = N by omega, nx] at z1
        exact ⟨h', z1, z2, YO_tr O1 (YO_tr o z3)⟩
      rcases E_M_does (d := d) (by omega) hW X1.1 (by show -6000 ≤ rsU x ∧ rsU x ≤ 6000; omega) (by show -6000 ≤ rsV x ∧ rsV x ≤ 6000; omega) k0 (show q ≤ 200 by omega) hL (fun i hi => by rw [eh] at hi ⊢; rw [R1 h1 (YO_rf h1)]; exact row i (by omega)) with ⟨z, h2, o, g1, g2, g3, g4, g5, g6, g7⟩ | ⟨z, o, g1, g2⟩
      · have O2 : YO h1 h2 := ⟨g6, fun i hi => g7 i (by omega) (by omega)⟩
        have O3 : YO h1 (mUp h2 483 47 0) := YO_tr O2 (YO_up (by decide))
        have X2 : YSt (mUp h2 483 47 0) (doL ((n : Int) :: M) (rsS x, rsT x + 1, rsU x, rsV x, 0)) k := by
          rw [doL_t (x := (rsS x, rsT x + 1, rsU x, rsV x, 0)) z] at dk ⊢
          exact ⟨⟨YO_MH O3 B1.1, by rw [mUp_row (by decide)]; exact g3, dk.1, by rw [mUp_n (Or.inr (by decide))]; exact g4, by rw [mUp_n (Or.inr (by decide))]; exact g5, by rw [mUp_n (Or.inr (by decide)), g7 50 (by decide) (by decide)]; exact B1.2.2.2.2.2⟩, by rw [mUp_n (Or.inr (by decide)), g7 46 (by decide) (by decide)]; exact X1.2.1, mUp_s, dk⟩
        rw [g1, mC_s, mLe_t g2, mZ_0]
        simp only [mF_t hw]
        rw [cel0 _ O3, mC_s, r0, ys, mC_s]
        try dsimp only
        rw [mI_id (x := (q : Int) + ((rfL ((n : Int) :: M) : Nat) : Int)) (by omega) (by omega)]
        exact go _ O3 X2
      · have O3 : YO h1 (mUp h1 483 47 1) := YO_up (by decide)
        have X2 : YSt (mUp h1 483 47 1) (doL ((n : Int) :: M) (rsS x, rsT x + 1, rsU x, rsV x, 0)) k := by
          rw [doL_f (x := (rsS x, rsT x + 1, rsU x, rsV x, 0)) z] at dk ⊢
          exact ⟨YB_483 B1 (fun b hb => mUp_row hb) (fun i _ i2 => mUp_n (Or.inr i2)), by rw [mUp_n (Or.inr (by decide))]; exact X1.2.1, mUp_s, dk⟩
        rw [g1, mC_s, mLe_f (by omega), mZ_1]
        simp only [mF_t hw]
        rw [cel0 _ O3, mC_s, r0, ys, mC_s]
        try dsimp only
        rw [mI_id (x := (q : Int) + ((rfL ((n : Int) :: M) : Nat) : Int)) (by omega) (by omega)]
        exact go _ O3 X2
    · -- a repeat
      have e3 : rfL [9, t, (n : Int)] = 3 := rfl
      have er : rfR q [9, t, (n : Int)] P = [8, t, ((q + 3 + rfW (P.take n) : Nat) : Int)] := by
        show [8, t, ((q + 3 + rfW (P.take ((n : Int)).toNat) : Nat) : Int)] = _
        rw [Int.toNat_natCast]
      rw [er] at row
      rw [e3] at row ew
      have r1 : R ((q : Int) + ((1 : Nat) : Int)) = t := row 1 (by decide)
      have r2 : R ((q : Int) + ((2 : Nat) : Int)) = ((q + 3 + rfW (P.take n) : Nat) : Int) := row 2 (by decide)
      have hr2 : rfP (fun _ j => R j) 0 (q + 3) P := hr.2
      have hct := wfP_clo _ _ _ hw1
      have wsum : rfW (P.take n) + rfW (P.drop n) = rfW P := by rw [← rfW_app, List.take_append_drop]
      have hcut := rfP_cut (P.take n) (P.drop n) (q + 3) hct (by rw [List.take_append_drop]; exact hr2)
      rw [er, show ([8, t, ((q + 3 + rfW (P.take n) : Nat) : Int)] : List Int).getD 0 0 = 8 from rfl, mEq_t rfl, mI_id (x := (q : Int) + 2) (by omega) (by omega), show (q : Int) + 2 = (q : Int) + ((2 : Nat) : Int) from rfl, cel h1 (YO_rf h1) 2 (by decide), mC_s, r2, rnL_9 cb (by omega) rfl]
      show ∃ h', _ ∧ YSt h' (rnL m (P.drop ((n : Int)).toNat) (itN (rnL m (P.take ((n : Int)).toNat)) t.toNat (rsS x, rsT x + 1, rsU x, rsV x, 0))) k ∧ YO h h'
      rw [Int.toNat_natCast]
      generalize hE : q + 3 + rfW (P.take n) = E1
      rw [hE] at hcut
      have rep : ∀ (j : Nat) (kk : Int) (x' : rS) (g : mm_H), 0 ≤ kk → (kk + j = t ∨ (j = 0 ∧ t ≤ kk)) → YSt g x' k → YO h1 g → ∃ (h' : mm_H) (k' : Int), l_M_runs_1 (mm_P d) 483 a1 (N : Int) (q : Int) (E1 : Int) kk w g = some (.inr (95, [(2, 483), (0, a1), (0, (N : Int)), (0, (q : Int)), (0, (E1 : Int)), (0, k')], w, h')) ∧ YSt h' (itN (rnL m (P.take n)) j x') k ∧ YO h1 h' := by
        intro j
        induction j with
        | zero =>
          intro kk x' g k0' hj hX o
          rw [l_M_runs_1_eq, mF_t hw, mI_id (x := (q : Int) + 1) (by omega) (by omega), show (q : Int) + 1 = (q : Int) + ((1 : Nat) : Int) from rfl, cel g o 1 (by decide), mC_s, r1, mLe_t (by omega)]
          exact ⟨g, kk, rfl, hX, o⟩
        | succ j ihj =>
          intro kk x' g k0' hj hX o
          rw [l_M_runs_1_eq, mF_t hw, mI_id (x := (q : Int) + 1) (by omega) (by omega), show (q : Int) + 1 = (q : Int) + ((1 : Nat) : Int) from rfl, cel g o 1 (by decide), mC_s, r1, mLe_f (by omega), mF_t hw, hX.2.2.1]
          have u : itN (rnL m (P.take n)) (j + 1) x' = if rsB x' = 0 then itN (rnL m (P.take n)) j (rnL m (P.take n) x') else x' := rfl
          by_cases c : rsB x' = 0
          rotate_left
          · rw [mEq_f c, u, if_neg c]
            exact ⟨g, kk, rfl, hX, o⟩
          have inn : ∃ h', mm_P d 335 [(2, 483), (0, (q : Int) + 3), (0, (E1 : Int))] w g = some ((9, 0), w, h') ∧ YSt h' (rnL m (P.take n) x') k ∧ YO g h' := by
            obtain ⟨d, rfl, hd2⟩ := mm_dS (show 20 + 1 ≤ d by omega)
            obtain ⟨h', y1, y2, y3⟩ := ih (D - 1) (P.take n) (q + 3) ((q : Int) + 3) d x' g hw1 hcut.1 (R1 g o) (by omega) (by omega) hX
            rw [hE, show ((q + 3 : Nat) : Int) = (q : Int) + 3 by omega] at y1
            rw [P_M_runs]
            rcases y1 with ⟨l, y1⟩ | y1
            · rw [y1, mK_r, if_pos rfl]
              exact ⟨h', rfl, y2, y3⟩
            · rw [y1, mK_l]
              exact ⟨h', rfl, y2, y3⟩
          obtain ⟨g1, b1, b2, b3⟩ := inn
          obtain ⟨h2, k2, y1, y2, y3⟩ := ihj (kk + 1) (rnL m (P.take n) x') g1 (by omega) (by omega) b2 (YO_tr o b3)
          rw [mEq_t c, mF_t hw, mI_id (x := (q : Int) + 3) (by omega) (by omega), b1, mC_s]
          try dsimp only
          rw [mI_id (x := kk + 1) (by omega) (by omega), y1, u, if_pos c]
          exact ⟨h2, k2, rfl, y2, y3⟩
      obtain ⟨h2, k2, y1, y2, y3⟩ := rep t.toNat 0 (rsS x, rsT x + 1, rsU x, rsV x, 0) h1 (Int.le_refl _) (by omega) X1 (YO_rf h1)
      rw [y1, mK_r, if_pos rfl]
      simp only [mP_0, mP_1, mP_2, mP_3, mP_4, mP_5, mF_t hw]
      obtain ⟨h', z1, z2, z3⟩ := ih D (P.drop n) E1 a1 d _ h2 hw2 hcut.2 (R1 h2 y3) (by omega) hd y2
      rw [show E1 + rfW (P.drop n) = N by omega] at z1
      exact ⟨h', z1, z2, YO_tr O1 (YO_tr y3 z3)⟩
end PU
