/-! PURE: programs: a text is read by the reference. -/
section PU
variable {d : Nat} {w : mm_W} {h : mm_H} {A : aG} {B : Int → Int} {n p op : Int} {q : Nat}
/-- one line, or a repeat with its lines -/
theorem Y_step (ho : 0 ≤ op ∧ op ≤ 4) (hd : 40 - 3 * op ≤ (d : Int)) (hW : MW w) {m : Nat} (ih : op < 4 → NBs w B n m (op + 1)) (hA : MA h B n p op q) (hk : tK B n p = 1) (hq : (q : Int) ≤ p) (hm : n - p < m + 1) : ∃ h', mm_P d 330 [(2, 483)] w h = some ((9, 0), w, h') ∧ Mp h h' ∧ ((∃ f, blk B n (m + 1) op p = .inl f ∧ MG h' B n f) ∨ ∃ (p1 : Int) (P1 : List (List Int)), MA h' B n p1 op (q + rfW P1) ∧ rfP h' 491 q P1 ∧ (∀ j : Int, j < q → h' 491 j = h 491 j) ∧ clo P1 ∧ (p < p1 ∧ p1 ≤ n ∧ p + rfW P1 ≤ p1) ∧ (∀ f, blk B n m op p1 = .inl f → blk B n (m + 1) op p = .inl f) ∧ ∀ p2 P2, blk B n m op p1 = .inr (p2, P2) → blk B n (m + 1) op p = .inr (p2, P1 ++ P2)) := by
  have nb := MA_n hA
  rcases co : oL (tWd B n p) with _ | k
  · obtain ⟨h', g1, g2, g3⟩ := Y_lineN (d := d) (by omega) hW hA co
    exact ⟨h', g1, g2, Or.inl ⟨_, blk_n hk co, g3⟩⟩
  obtain ⟨_, l1, l2, l3⟩ := oL_E nb.2.2 co
  by_cases h9 : k = 9
  rotate_left
  · -- a line that is no repeat
    obtain ⟨h', g1, g2, g3⟩ := Y_line (d := d) (by omega) hW hA (by omega) co h9
    refine ⟨h', g1, g2, ?_⟩
    rcases et : lnT B n (k : Int) (.inr (tE B n p, [])) with f | ⟨p1, M⟩
    · rw [et] at g3
      exact Or.inl ⟨f, blk_lf hk co h9 et, g3⟩
    rw [et] at g3
    have g3 : yC (h 491) h' B n op q (bnd (.inr (p1, rfH k ++ M)) (iSg B n 59)) := g3
    obtain ⟨n1, n2, n3, n4⟩ := lnT_sp (B := B) (n := n) (k := (k : Int)) (by omega) l2 p1 M et
    obtain ⟨r1, r2⟩ := rfL_k n1 ⟨by omega, by omega⟩
    by_cases c : tK B n p1 = 59
    rotate_left
    · rw [bnd_rl (iSg_f c)] at g3
      exact Or.inl ⟨_, blk_ls hk co h9 et c, g3⟩
    rw [bnd_rr (iSg_t c), List.append_nil] at g3
    obtain ⟨a1, a2, a3⟩ := g3
    have u1 := tE_lt n3 (show tK B n p1 ≠ 0 by omega)
    have u2 := tE_le (B := B) n3
    have cp : 0 ≤ lnC (k : Int) := by unfold lnC; repeat' split <;> omega
    have eW : rfW [((k : Int) :: M)] = rfL ((k : Int) :: M) := rfl
    have eH := rfH_len (k := k) (by omega) M
    refine Or.inr ⟨tE B n p1, [((k : Int) :: M)], ?_, ⟨?_, trivial⟩, a3, ⟨Or.inr ⟨k, M, rfl, by omega⟩, fun e => ?_, trivial⟩, ⟨by omega, u2.2.1, by rw [eW]; omega⟩, fun f e => blk_lb hk co h9 et c e, fun p2 P2 e => blk_lr hk co h9 et c e⟩
    · rw [eW, ← eH, ← List.length_append]; exact a1
    · rw [rfR_k (by omega)]; exact a2
    · exact absurd e (by show ¬ (k : Int) = 9; omega)
  subst h9
  have e9 : tWd B n p = [114, 101, 112, 101, 97, 116] := by
    have co := co
    unfold oL at co
    iterate 9 (rcases ifO co with ⟨_, x⟩ | co; exact absurd x (by decide))
    rcases ifO co with ⟨x, _⟩ | co
    · exact x
    · cases co
  obtain ⟨d, rfl⟩ : ∃ d', d = d' + 7 := ⟨d - 7, by omega⟩
  have hw : (w.1 483).1 = 13 := by rw [hW.1]
  rw [P_M_readsLine]
  simp only [mF_t hw]
  rcases E_M_takesWord (d := d + 6) (by omega) hW hA.2.1.1 w_repeat hA.1 with ⟨_, h1, g1, g2, g3⟩ | ⟨x, _⟩
  rotate_left
  · exact absurd e9 x
  obtain ⟨k1, k2, k3⟩ := MA_mo hA g2 g3
  obtain ⟨h2, a1, a2, a3⟩ := Y_rep (d := d) (by omega) ho hW ih k2 (by omega) (by omega)
  rw [g1, mC_s, mEq_f (by decide)]
  simp only [mF_t hw]
  rw [a1, mC_s]
  refine ⟨h2, rfl, Mp_tr (Mp_q k1) a2, ?_⟩
  rcases a3 with ⟨f, e, a3⟩ | ⟨p1, t, p2, p3, P1, en, eo, eb, c3, A2, s2, r2, old, cl, le, le2⟩
  · refine Or.inl ⟨f, ?_, a3⟩
    rcases e with e | ⟨p1, M, en, e | ⟨p2, eo, e | ⟨p3, P1, eb, c3, e⟩⟩⟩
    · exact blk_rf hk co e
    · exact blk_ro hk co en e
    · exact blk_rb hk co en eo e
    · rw [← e]; exact blk_rc hk co en eo eb c3
  · have u1 := tE_lt le2 (show tK B n p3 ≠ 0 by omega)
    have u2 := tE_le (B := B) le2
    have eW : rfW ([9, t, ((P1.length : Nat) : Int)] :: P1) = 3 + rfW P1 := by
      show rfL [9, t, ((P1.length : Nat) : Int)] + rfW P1 = _
      have : rfL [9, t, ((P1.length : Nat) : Int)] = 3 := if_neg (by show ¬ ((9 : Int) = 1 ∨ (9 : Int) = 2 ∨ (9 : Int) = 5 ∨ (9 : Int) = 6); decide)
      rw [this]
    have eR : rfR q [9, t, ((P1.length : Nat) : Int)] P1 = [8, t, ((q + 3 + rfW P1 : Nat) : Int)] := by
      show (if (9 : Int) = 9 then [8, t, ((q + 3 + rfW (P1.take (((P1.length : Nat) : Int)).toNat) : Nat) : Int)] else _) = _
      rw [if_pos rfl, Int.toNat_natCast, List.take_length]
    have eL : rfL [9, t, ((P1.length : Nat) : Int)] = 3 := if_neg (by show ¬ ((9 : Int) = 1 ∨ (9 : Int) = 2 ∨ (9 : Int) = 5 ∨ (9 : Int) = 6); decide)
    refine Or.inr ⟨tE B n p3, [9, t, ((P1.length : Nat) : Int)] :: P1, ?_, ⟨?_, ?_⟩, fun j hj => by rw [old j hj, k3], ⟨Or.inl ⟨rfl, rfl⟩, fun _ => ?_, cl⟩, ⟨by omega, u2.2.1, by rw [eW]; omega⟩, fun f e => blk_rd hk co en eo eb c3 e, fun p4 P2 e => blk_rr hk co en eo eb c3 e⟩
    · rw [eW, ← Nat.add_assoc]; exact A2
    · rw [eR]; exact s2
    · rw [eL]; exact r2
    · show (((P1.length : Nat) : Int)).toNat ≤ P1.length
      rw [Int.toNat_natCast]; exact Nat.le_refl _
/-- a group of lines, and what follows -/
theorem NBr_cons {h1 h2 : mm_H} {m : Nat} {p1 c : Int} {P1 : List (List Int)} (r1 : rfP h1 491 q P1) (o1 : ∀ j : Int, j < q → h1 491 j = h 491 j) (c1 : clo P1) (l1 : p + rfW P1 ≤ p1) (e1 : ∀ f, blk B n m op p1 = .inl f → blk B n (m + 1) op p = .inl f) (e2 : ∀ p2 P2, blk B n m op p1 = .inr (p2, P2) → blk B n (m + 1) op p = .inr (p2, P1 ++ P2)) (hb : NBr B n h1 h2 m op p1 (q + rfW P1) c) : NBr B n h h2 (m + 1) op p q c := by
  rcases hb with ⟨f, e, g⟩ | ⟨p2, P2, e, g⟩
  · exact Or.inl ⟨f, e1 f e, g⟩
  · refine Or.inr ⟨p2, P1 ++ P2, e2 p2 P2 e, ?_⟩
    rcases g with ⟨k1, k2, k3, k4, k5, k6⟩ | g
    · refine Or.inl ⟨k1, ?_, rfP_app P1 P2 q c1 (rfP_fr P1 q c1 (fun j j0 j1 => k4 j (by omega)) r1) k3, fun j hj => by rw [k4 j (by omega), o1 j hj], clo_app P1 P2 c1 k5, by rw [rfW_app]; omega⟩
      rw [rfW_app, ← Nat.add_assoc]; exact k2
    · exact Or.inr g
theorem NBr_end {m : Nat} {c : Int} (hA : MA h B n p op q) (hk : tK B n p = c) (h1 : c ≠ 1) : NBr B n h h (m + 1) op p q c :=
  Or.inr ⟨p, [], blk_e (by omega), Or.inl ⟨hk, hA, trivial, fun _ _ => rfl, trivial, by show p + ((0 : Nat) : Int) ≤ p; omega⟩⟩
theorem NB_all (hW : MW w) : ∀ (m : Nat) (op : Int), 0 ≤ op → op ≤ 4 → NBs w B n m op := by
  have hw : (w.1 483).1 = 13 := by rw [hW.1]
  intro m
  induction m with
  | zero =>
    intro op _ _ p q x d h _ hA _ hm
    have := MA_n hA
    omega
  | succ m ih =>
    intro op o0 o1 p q x d h hd hA hq hm
    have ex : ∀ {h1 : mm_H} {f : Int}, MG h1 B n f → l_M_readsRepeat_0 (mm_P d) 483 x w h1 = some (.inr (70, [(2, 483), (0, x)], w, h1)) := fun {h1 f} hF => by
      rw [l_M_readsRepeat_0_eq]
      simp only [mF_t hw]
      rw [hF.1.2.2.2.1, mEq_f (by decide), hF.1.2.1, mEq_f hF.1.2.2.1]
    rw [l_M_readsRepeat_0_eq]
    simp only [mF_t hw]
    by_cases c : tK B n p = 125
    · rw [mEq_t ((MA_k hA (Or.inr (Or.inr (Or.inr (by decide))))).mpr c)]
      exact ⟨h, rfl, Mp_rf h, NBr_end hA c (by decide)⟩
    rw [mEq_f (fun y => c ((MA_k hA (Or.inr (Or.inr (Or.inr (by decide))))).mp y)), hA.1.2.1, mEq_t rfl]
    by_cases hk : tK B n p = 1
    rotate_left
    · obtain ⟨h1, g1, g2, g3⟩ := Y_lineN (d := d) (by omega) hW hA (by rw [tWd_0 hk]; decide)
      rw [g1, mC_s, ex g3]
      exact ⟨h1, rfl, g2, Or.inr ⟨p, [], blk_e hk, Or.inr ⟨c, g3⟩⟩⟩
    obtain ⟨h1, g1, g2, g3⟩ := Y_step (d := d) ⟨o0, o1⟩ (by omega) hW (fun _ => ih (op + 1) (by omega) (by omega)) hA hk hq (by omega)
    rw [g1, mC_s]
    rcases g3 with ⟨f, e, g3⟩ | ⟨p1, P1, A1, r1, k1, c1, l1, e1, e2⟩
    · rw [ex g3]
      exact ⟨h1, rfl, g2, Or.inl ⟨f, e, g3⟩⟩
    · obtain ⟨h2, b1, b2, b3⟩ := ih op o0 o1 p1 (q + rfW P1) x d h1 hd A1 (by omega) (by omega)
      rw [b1]
      exact ⟨h2, rfl, Mp_tr g2 b2, NBr_cons r1 k1 c1 l1.2.2 e1 e2 b3⟩
theorem L_mtext (hW : MW w) : ∀ (m : Nat) (p : Int) (q : Nat) (d : Nat) (h : mm_H), 40 ≤ d → MA h B n p 0 q → (q : Int) ≤ p → n - p < m → ∃ h', l_M_text_0 (mm_P d) 483 w h = some (.inr (29, [(2, 483)], w, h')) ∧ Mp h h' ∧ NBr B n h h' m 0 p q 0 := by
  have hw : (w.1 483).1 = 13 := by rw [hW.1]
  intro m
  induction m with
  | zero =>
    intro p q d h _ hA _ hm
    have := MA_n hA
    omega
  | succ m ih =>
    intro p q d h hd hA hq hm
    have ex : ∀ {h1 : mm_H} {f : Int}, MG h1 B n f → l_M_text_0 (mm_P d) 483 w h1 = some (.inr (29, [(2, 483)], w, h1)) := fun {h1 f} hF => by
      rw [l_M_text_0_eq, mF_t hw, hF.1.2.2.2.1, mEq_t rfl]
    rw [l_M_text_0_eq, mF_t hw]
    by_cases c : tK B n p = 0
    · rw [mEq_t ((MA_k hA (Or.inl rfl)).mpr c)]
      exact ⟨h, rfl, Mp_rf h, NBr_end hA c (by decide)⟩
    rw [mEq_f (fun y => c ((MA_k hA (Or.inl rfl)).mp y)), mF_t hw]
    by_cases hk : tK B n p = 1
    rotate_left
    · obtain ⟨h1, g1, g2, g3⟩ := Y_lineN (d := d) (by omega) hW hA (by rw [tWd_0 hk]; decide)
      rw [g1, mC_s, ex g3]
      exact ⟨h1, rfl, g2, Or.inr ⟨p, [], blk_e hk, Or.inr ⟨c, g3⟩⟩⟩
    obtain ⟨h1, g1, g2, g3⟩ := Y_step (d := d) (op := 0) (by decide) (by omega) hW (fun _ => NB_all hW m (0 + 1) (by decide) (by decide)) hA hk hq (by omega)
    rw [g1, mC_s]
    rcases g3 with ⟨f, e, g3⟩ | ⟨p1, P1, A1, r1, k1, c1, l1, e1, e2⟩
    · rw [ex g3]
      exact ⟨h1, rfl, g2, Or.inl ⟨f, e, g3⟩⟩
    · obtain ⟨h2, b1, b2, b3⟩ := ih p1 (q + rfW P1) d h1 hd A1 (by omega) (by omega)
      rw [b1]
      exact ⟨h2, rfl, Mp_tr g2 b2, NBr_cons r1 k1 c1 l1.2.2 e1 e2 b3⟩
theorem MH_41 (hH : MH h) : h 483 41 = 504 := hH.2.2.2.2.2.2.2.2.2.2.2.2.2.2.2.2.2.2.2.2.1
theorem MH_42 (hH : MH h) : h 483 42 = 505 := hH.2.2.2.2.2.2.2.2.2.2.2.2.2.2.2.2.2.2.2.2.2
theorem MW_504 (hW : MW w) : w.1 504 = (50, 1600) := hW.2.2.2.2.2.2.2.2.2.2.2.2.2.2.2.2.2.2.2.2.2.1
theorem MW_505 (hW : MW w) : w.1 505 = (50, 4) := hW.2.2.2.2.2.2.2.2.2.2.2.2.2.2.2.2.2.2.2.2.2.2
/-- a program's rows in the reference -/
def PM (R : Int → Int) (z : Int) (P : List (List Int)) : Prop := z = ((rfW P : Nat) : Int) ∧ rfP (fun _ j => R j) 0 0 P
theorem rfP_row {h h' : mm_H} {a b : Int} : ∀ (P : List (List Int)) (q : Nat), clo P → (∀ j : Int, q ≤ j → j < q + rfW P → h' b j = h a j) → rfP h a q P → rfP h' b q P := by
  intro P
  induction P with
  | nil => intro q _ _ _; exact trivial
  | cons L P ih =>
    intro q hc hf hp
    have e : rfW (L :: P) = rfL L + rfW P := rfl
    have l := rfR_len (q := q) (P := P) hc.1
    exact ⟨fun i hi => by rw [hf _ (by omega) (by omega)]; exact hp.1 i hi, ih (q + rfL L) hc.2.2 (fun j j0 j1 => hf j (by omega) (by omega)) hp.2⟩
/-- what a text may change of the reference -/
def Mt (h h' : mm_H) : Prop := (∀ b : Int, b ≠ 483 → b ≠ 491 → b ≠ 504 → b ≠ 505 → h' b = h b) ∧ ∀ i : Int, ¬ (15 ≤ i ∧ i < 24 ∧ i ≠ 21) → ¬ (43 ≤ i ∧ i < 46) → h' 483 i = h 483 i
theorem E_M_text (hd : 60 ≤ d) (hW : MW w) (hH : MH h) (hN : mNam h) (hT : MB h B n) {N : Int} (hP : h 483 43 = N) (h0 : 0 ≤ N ∧ N ≤ 4) : (N = 4 ∧ mm_P d 331 [(2, 483)] w h = some ((0, -4), w, h)) ∨ (N < 4 ∧ ∃ f, txT B n = .inl f ∧ ∃ h', mm_P d 331 [(2, 483)] w h = some ((0, mI (-100 - f)), w, h') ∧ Mt h h' ∧ h' 483 15 = 0 ∧ h' 483 43 = N ∧ h' 504 = h 504 ∧ h' 505 = h 505) ∨ (N < 4 ∧ ∃ P, txT B n = .inr P ∧ ∃ h', mm_P d 331 [(2, 483)] w h = some ((0, N), w, h') ∧ Mt h h' ∧ h' 483 15 = 0 ∧ h' 483 43 = N + 1 ∧ clo P ∧ PM (fun j => h' 504 (400 * N + j)) (h' 505 N) P ∧ (∀ j : Int, (j < 400 * N ∨ 400 * N + 400 ≤ j) → h' 504 j = h 504 j) ∧ ∀ j : Int, j ≠ N → h' 505 j = h 505 j) := by
  obtain ⟨d, rfl, hd2⟩ := mm_dS hd; clear hd; have hd := hd2; clear hd2
  have hw : (w.1 483).1 = 13 := by rw [hW.1]
  have hn := hT.2.1
  rw [P_M_text, mF_t hw, hP]
  by_cases c0 : N = 4
  · rw [mEq_t c0]
    exact Or.inl ⟨c0, rfl⟩
  rw [mEq_f c0]
  refine Or.inr ?_
  obtain ⟨h1, a1, a2, a3⟩ := E_M_starts (d := d) (by omega) hW hH hN hT
  obtain ⟨h2, b1, b2, b3⟩ := L_mtext hW 201 0 0 d h1 (by omega) a3 (by decide) (by omega)
  simp only [mF_t hw]
  rw [a1, mC_s, b1, mK_r, if_pos rfl]
  simp only [mP_0, mF_t hw]
  have o2 := Mp_tr (Mp_q a2) b2
  have e : ∀ b : Int, b ≠ 483 → mUp h2 483 15 0 b = h2 b := fun b hb => mUp_row hb
  have ei : ∀ i : Int, i ≠ 15 → mUp h2 483 15 0 483 i = h2 483 i := fun i hi => mUp_n (Or.inr hi)
  have flt : ∀ f : Int, txT B n = .inl f → MG h2 B n f → ∃ h', (mEq (mUp h2 483 15 0 483 19) (-1) (mCy w (mUp h2 483 15 0 483 21) 0 (mUp h2 483 15 0 483 41) (mI (400 * mUp h2 483 15 0 483 43)) (mUp h2 483 15 0 483 22) none (mAw w (mCpy (mUp h2 483 15 0) (mUp h2 483 15 0 483 21) 0 (mUp h2 483 15 0 483 41) (mI (400 * mUp h2 483 15 0 483 43)) (mUp h2 483 15 0 483 22) 483 42) (mCpy (mUp h2 483 15 0) (mUp h2 483 15 0 483 21) 0 (mUp h2 483 15 0 483 41) (mI (400 * mUp h2 483 15 0 483 43)) (mUp h2 483 15 0 483 22) 483 43) none (none : Option mm_R))) (some ((0, mI (-100 - mUp h2 483 15 0 483 19)), w, mUp h2 483 15 0))) = some ((0, mI (-100 - f)), w, h') ∧ Mt h h' ∧ h' 483 15 = 0 ∧ h' 483 43 = N ∧ h' 504 = h 504 ∧ h' 505 = h 505 := fun f et hF => by
    rw [ei 19 (by decide), hF.1.2.1, mEq_f hF.1.2.2.1]
    refine ⟨_, rfl, ⟨fun b x1 x2 x3 x4 => by rw [e b x1, o2.1 b x1 x2], fun i x1 x2 => by rw [ei i (by omega), o2.2 i (by omega) (by omega) (by omega)]⟩, mUp_s, by rw [ei 43 (by decide), o2.2 43 (by omega) (by decide) (by decide)]; exact hP, by rw [e 504 (by decide), o2.1 504 (by decide) (by decide)], by rw [e 505 (by decide), o2.1 505 (by decide) (by decide)]⟩
  have fl2 : ∀ (X : Option mm_R) (f : Int), txT B n = .inl f → MG h2 B n f → ∃ f', txT B n = .inl f' ∧ ∃ h', (mEq (mUp h2 483 15 0 483 19) (-1) X (some ((0, mI (-100 - mUp h2 483 15 0 483 19)), w, mUp h2 483 15 0))) = some ((0, mI (-100 - f')), w, h') ∧ Mt h h' ∧ h' 483 15 = 0 ∧ h' 483 43 = N ∧ h' 504 = h 504 ∧ h' 505 = h 505 := fun X f et hF => by
    obtain ⟨h', z1, z2⟩ := flt f et hF
    rw [ei 19 (by decide), hF.1.2.1, mEq_f hF.1.2.2.1] at z1
    refine ⟨f, et, h', ?_, z2⟩
    rw [ei 19 (by decide), hF.1.2.1, mEq_f hF.1.2.2.1]
    exact z1
  clear flt
  rcases b3 with ⟨f, ef, b3⟩ | ⟨p, P, ep, b3⟩
  · exact Or.inl ⟨by omega, fl2 _ f (txT_b ef) b3⟩
  rcases b3 with ⟨k, A2, r2, old, cl, le⟩ | ⟨k, b3⟩
  rotate_left
  · exact Or.inl ⟨by omega, fl2 _ _ (txT_f ep k) b3⟩
  clear fl2
  have nb := MA_n A2
  have et := txT_t ep k
  have q0 : (0 + rfW P : Nat) = rfW P := Nat.zero_add _
  rw [q0] at A2
  have e43 : mUp h2 483 15 0 483 43 = N := by rw [ei 43 (by decide), o2.2 43 (by omega) (by decide) (by decide)]; exact hP
  have M2 := A2.2.1.1
  rw [ei 19 (by decide), A2.1.2.1, mEq_t rfl, ei 21 (by decide), MH_21 M2, ei 41 (by decide), MH_41 M2, e43, ei 22 (by decide), A2.2.2.2, mI_id (x := 400 * N) (by omega) (by omega), mCy_t (MW_491 hW) (MW_504 hW) (by decide) (by decide) (by decide) (by omega) (by omega) (by omega) (by omega)]
  generalize hg3 : mCpy (mUp h2 483 15 0) 491 0 504 (400 * N) ((rfW P : Nat) : Int) = h3
  have f3 : ∀ b : Int, b ≠ 504 → h3 b = mUp h2 483 15 0 b := fun b hb => by rw [← hg3]; exact mCpy_row hb
  have r3 : ∀ j : Int, h3 504 j = if 400 * N ≤ j ∧ j < 400 * N + ((rfW P : Nat) : Int) then h2 491 (j - 400 * N) else h2 504 j := fun j => by
    rw [← hg3]
    by_cases c : 400 * N ≤ j ∧ j < 400 * N + ((rfW P : Nat) : Int)
    · rw [if_pos c, mCpy_in (by omega) (by omega), e 491 (by decide), Int.zero_add]
    · rw [if_neg c, mCpy_out (by omega), e 504 (by decide)]
  rw [f3 483 (by decide), ei 42 (by decide), MH_42 M2, e43, mAw_t (MW_505 hW) (by omega) (by omega) (by decide), ei 22 (by decide), A2.2.2.2]
  try dsimp only
  have e4 : mUp h3 505 N ((rfW P : Nat) : Int) 483 = mUp h2 483 15 0 483 := by rw [mUp_row (by decide), f3 483 (by decide)]
  rw [e4, e43, mI_id (x := N + 1) (by omega) (by omega), mUp_s, mI_id (by omega) (by omega), show N + 1 - 1 = N by omega]
  generalize hg5 : mUp (mUp h3 505 N ((rfW P : Nat) : Int)) 483 43 (N + 1) = h5
  have v : ∀ b : Int, b ≠ 483 → b ≠ 505 → h5 b = h3 b := fun b x y => by rw [← hg5, mUp_row x, mUp_row y]
  have vi : ∀ i : Int, i ≠ 43 → h5 483 i = mUp h2 483 15 0 483 i := fun i hi => by rw [← hg5, mUp_n (Or.inr hi), e4]
  have v5 : h5 505 = mUp h3 505 N ((rfW P : Nat) : Int) 505 := by rw [← hg5, mUp_row (by decide)]
  have v4 : h5 504 = h3 504 := v 504 (by decide) (by decide)
  refine Or.inr ⟨by omega, P, et, h5, rfl, ⟨fun b x1 x2 x3 x4 => by rw [v b x1 x4, f3 b x3, e b x1, o2.1 b x1 x2], fun i x1 x2 => by rw [vi i (by omega), ei i (by omega), o2.2 i (by omega) (by omega) (by omega)]⟩, by rw [vi 15 (by decide), mUp_s], by rw [← hg5, mUp_s], cl, ⟨by rw [v5, mUp_s], ?_⟩, fun j hj => ?_, fun j hj => ?_⟩
  · refine rfP_row (h := h2) (a := 491) P 0 cl (fun j j0 j1 => ?_) r2
    show h5 504 (400 * N + j) = h2 491 j
    rw [v4, r3, if_pos (by omega), show 400 * N + j - 400 * N = j by omega]
  · rw [v4, r3, if_neg (by omega), o2.1 504 (by decide) (by decide)]
  · rw [v5, mUp_n (Or.inr hj), f3 505 (by decide), e 505 (by decide), o2.1 505 (by decide) (by decide)]
end PU
