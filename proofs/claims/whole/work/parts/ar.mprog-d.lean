/-! PURE: programs: blocks are read by the reference. -/
def lok (L : List Int) : Prop := (L.getD 0 0 = 9 ∧ L.length = 3) ∨ ∃ (k : Nat) (M : List Int), L = (k : Int) :: M ∧ k ≤ 8
def clo : List (List Int) → Prop
  | [] => True
  | L :: P => lok L ∧ (L.getD 0 0 = 9 → (L.getD 2 0).toNat ≤ P.length) ∧ clo P
theorem clo_app : ∀ P Q : List (List Int), clo P → clo Q → clo (P ++ Q) := by
  intro P
  induction P with
  | nil => intro Q _ hq; exact hq
  | cons L P ih => intro Q hp hq; exact ⟨hp.1, fun e => by show (L.getD 2 0).toNat ≤ (P ++ Q).length; rw [List.length_append]; have := hp.2.1 e; omega, ih Q hp.2.2 hq⟩
/-- a line of the reference, the lines behind it -/
def rfR (q : Nat) (L : List Int) (P : List (List Int)) : List Int := if L.getD 0 0 = 9 then [8, L.getD 1 0, ((q + 3 + rfW (P.take (L.getD 2 0).toNat) : Nat) : Int)] else rfH (L.getD 0 0).toNat ++ L.tail
def rfP (h : mm_H) (a : Int) : Nat → List (List Int) → Prop
  | _, [] => True
  | q, L :: P => Seg h a q (rfR q L P) ∧ rfP h a (q + rfL L) P
theorem rfH_len {k : Nat} (h : k ≤ 8) (M : List Int) : (rfH k).length + M.length = rfL ((k : Int) :: M) := by
  have e : ((k : Int) :: M).getD 0 0 = (k : Int) := rfl
  have l : ((k : Int) :: M).length = M.length + 1 := rfl
  unfold rfL
  rw [e, l]
  rcases (show k = 0 ∨ k = 1 ∨ k = 2 ∨ k = 3 ∨ k = 4 ∨ k = 5 ∨ k = 6 ∨ k = 7 ∨ k = 8 by omega) with rfl | rfl | rfl | rfl | rfl | rfl | rfl | rfl | rfl
  · rw [if_neg (by decide)]; show 1 + M.length = M.length + 1; omega
  · rw [if_pos (by decide)]; show 2 + M.length = M.length + 1 + 1; omega
  · rw [if_pos (by decide)]; show 2 + M.length = M.length + 1 + 1; omega
  · rw [if_neg (by decide)]; show 1 + M.length = M.length + 1; omega
  · rw [if_neg (by decide)]; show 1 + M.length = M.length + 1; omega
  · rw [if_pos (by decide)]; show 2 + M.length = M.length + 1 + 1; omega
  · rw [if_pos (by decide)]; show 2 + M.length = M.length + 1 + 1; omega
  · rw [if_neg (by decide)]; show 1 + M.length = M.length + 1; omega
  · rw [if_neg (by decide)]; show 1 + M.length = M.length + 1; omega
theorem rfR_k {q k : Nat} {M : List Int} {P : List (List Int)} (h : k ≤ 8) : rfR q ((k : Int) :: M) P = rfH k ++ M := by
  unfold rfR
  have e : ((k : Int) :: M).getD 0 0 = (k : Int) := rfl
  rw [e, if_neg (by omega), Int.toNat_natCast]
  rfl
theorem rfR_len {q : Nat} {L : List Int} {P : List (List Int)} (h : lok L) : (rfR q L P).length = rfL L := by
  rcases h with ⟨h1, h2⟩ | ⟨k, M, rfl, hk⟩
  · unfold rfR rfL
    rw [if_pos h1, h1, if_neg (by decide), h2]
    rfl
  · rw [rfR_k hk, List.length_append, rfH_len hk M]
theorem rfP_fr {h h' : mm_H} {a : Int} : ∀ (P : List (List Int)) (q : Nat), clo P → (∀ j : Int, q ≤ j → j < q + rfW P → h' a j = h a j) → rfP h a q P → rfP h' a q P := by
  intro P
  induction P with
  | nil => intro q _ _ _; exact trivial
  | cons L P ih =>
    intro q hc hf hp
    have e : rfW (L :: P) = rfL L + rfW P := rfl
    have l := rfR_len (q := q) (P := P) hc.1
    exact ⟨Seg_fr hp.1 (e := q + rfL L) (by omega) (fun j j0 j1 => hf j j0 (by omega)), ih (q + rfL L) hc.2.2 (fun j j0 j1 => hf j (by omega) (by omega)) hp.2⟩
theorem rfP_app {h : mm_H} {a : Int} : ∀ (P Q : List (List Int)) (q : Nat), clo P → rfP h a q P → rfP h a (q + rfW P) Q → rfP h a q (P ++ Q) := by
  intro P
  induction P with
  | nil => intro Q q _ _ hq; exact hq
  | cons L P ih =>
    intro Q q hc hp hq
    have e : rfW (L :: P) = rfL L + rfW P := rfl
    refine ⟨?_, ih Q (q + rfL L) hc.2.2 hp.2 (by rw [Nat.add_assoc, ← e]; exact hq)⟩
    have er : rfR q L (P ++ Q) = rfR q L P := by
      unfold rfR
      by_cases c : L.getD 0 0 = 9
      · rw [if_pos c, if_pos c, List.take_append_of_le_length (hc.2.1 c)]
      · rw [if_neg c, if_neg c]
    show Seg h a q (rfR q L (P ++ Q))
    rw [er]; exact hp.1
def NBr (B : Int → Int) (n : Int) (h h' : mm_H) (m : Nat) (op p : Int) (q : Nat) (c : Int) : Prop := (∃ f, blk B n m op p = .inl f ∧ MG h' B n f) ∨ ∃ p' P, blk B n m op p = .inr (p', P) ∧ ((tK B n p' = c ∧ MA h' B n p' op (q + rfW P) ∧ rfP h' 491 q P ∧ (∀ j : Int, j < q → h' 491 j = h 491 j) ∧ clo P ∧ p + rfW P ≤ p') ∨ (tK B n p' ≠ c ∧ MG h' B n (tS B n p')))
/-- the lines within a repeat -/
def NBs (w : mm_W) (B : Int → Int) (n : Int) (m : Nat) (op : Int) : Prop := ∀ (p : Int) (q : Nat) (x : Int) (d : Nat) (h : mm_H), 40 - 3 * op ≤ (d : Int) → MA h B n p op q → (q : Int) ≤ p → n - p < m → ∃ h', l_M_readsRepeat_0 (mm_P d) 483 x w h = some (.inr (70, [(2, 483), (0, x)], w, h')) ∧ Mp h h' ∧ NBr B n h h' m op p q 125
section PU
variable {d : Nat} {w : mm_W} {h : mm_H} {B : Int → Int} {n p op : Int} {q : Nat}
theorem yC_MA {R : Int → Int} {L : List Int} (hx : yC R h B n op q (.inr (p, L))) : MA h B n p op (q + L.length) := hx.1
theorem Y_rep (hd : 32 - 3 * op ≤ (d : Int)) (ho : 0 ≤ op ∧ op ≤ 4) (hW : MW w) {m : Nat} (ih : op < 4 → NBs w B n m (op + 1)) (hA : MA h B n p op q) (hq : (q : Int) + 4 ≤ p) (hm : n - p < m) : ∃ h', mm_P (d + 6) 329 [(2, 483)] w h = some ((9, 0), w, h') ∧ Mp h h' ∧ ((∃ f, (iNum B n p = .inl f ∨ ∃ p1 M, iNum B n p = .inr (p1, M) ∧ (opT B n op p1 = .inl f ∨ ∃ p2, opT B n op p1 = .inr p2 ∧ (blk B n m (op + 1) p2 = .inl f ∨ ∃ p3 P1, blk B n m (op + 1) p2 = .inr (p3, P1) ∧ tK B n p3 ≠ 125 ∧ tS B n p3 = f))) ∧ MG h' B n f) ∨ ∃ (p1 t p2 p3 : Int) (P1 : List (List Int)), iNum B n p = .inr (p1, [t]) ∧ opT B n op p1 = .inr p2 ∧ blk B n m (op + 1) p2 = .inr (p3, P1) ∧ tK B n p3 = 125 ∧ MA h' B n (tE B n p3) op (q + 3 + rfW P1) ∧ Seg h' 491 q [8, t, ((q + 3 + rfW P1 : Nat) : Int)] ∧ rfP h' 491 (q + 3) P1 ∧ (∀ j : Int, j < q → h' 491 j = h 491 j) ∧ clo P1 ∧ p + rfW P1 ≤ p3 ∧ p3 ≤ n) := by
  have hw : (w.1 483).1 = 13 := by rw [hW.1]
  have nb := MA_n hA
  have hy := MA_y hA
  have q12 : q + 12 ≤ 400 := by omega
  obtain ⟨g1, a1, o1, y1, _⟩ := Y_wr (d := d + 5) (by omega) hW hy q12 (Nat.zero_le _) 8
  have y1 : yC (h 491) g1 B n op q (.inr (p, [8])) := y1
  obtain ⟨g2, v, g3, a2, a3, o3, y3⟩ := Y_numA (d := d + 5) (by omega) hW q12 (show pln (.inr (p, [8]) : pR) ≤ 11 from (by decide : 1 ≤ 11)) y1
  rw [P_M_readsRepeat]
  simp only [mF_t hw]
  rw [a1, mC_s]
  simp only [mF_t hw]
  rw [a2, mC_s]
  simp only [mF_t hw]
  rw [a3, mC_s]
  try dsimp only
  simp only [mF_t hw]
  rcases en : iNum B n p with f | ⟨p1, M⟩
  · -- no number
    rw [bnd_rl en] at y3
    obtain ⟨g4, b1, b2, b3⟩ := E_M_wrongF (d := d + 5) (by omega) hW y3.1
    obtain ⟨k1, k2⟩ := yC_flt (R := h 491) (op := op) (q0 := q) y3.2 b2 b3
    rw [Y_wrF (by omega) hW y3, mC_s]
    simp only [mF_t hw]
    rw [y3.1.2.2.2.1, mEq_f (by decide), b1, mC_s]
    exact ⟨g4, rfl, Mp_tr o1 (Mp_tr o3 k1), Or.inl ⟨f, Or.inl rfl, k2⟩⟩
  rw [bnd_rr en] at y3
  obtain ⟨n1, n2, n3, n4⟩ := iNum_sp (B := B) (n := n) p p1 M nb.2.1 nb.2.2 en
  obtain ⟨t, rfl⟩ : ∃ t, M = [t] := by
    cases M with
    | nil => cases n1
    | cons t M => cases M with
      | nil => exact ⟨t, rfl⟩
      | cons u M => simp at n1
  have y3 : yC (h 491) g3 B n op q (.inr (p1, [8, t])) := y3
  have e22 : g3 483 22 = ((q + 2 : Nat) : Int) := y3.1.2.2.2
  obtain ⟨g4, a4, o4, y4, _⟩ := Y_wr (d := d + 5) (by omega) hW y3 q12 (show pln (.inr (p1, [8, t]) : pR) ≤ 11 from (by decide : 2 ≤ 11)) 0
  have y4 : yC (h 491) g4 B n op q (.inr (p1, [8, t, 0])) := y4
  have O4 := Mp_tr o1 (Mp_tr o3 o4)
  have A4 : MA g4 B n p1 op (q + 3) := y4.1
  rw [a4, mC_s, e22]
  simp only [mF_t hw]
  by_cases c1 : tK B n p1 = 123
  rotate_left
  · obtain ⟨g5, b1, b2, b3⟩ := E_M_wrong (d := d + 5) (by omega) hW A4.1
    obtain ⟨k1, k2⟩ := yC_flt (R := h 491) (op := op) (q0 := q) A4.2.1 b2 b3
    rw [mEq_f (fun x => c1 ((MA_k A4 (Or.inr (Or.inr (Or.inr (by decide))))).mp x)), b1, mC_s]
    exact ⟨g5, rfl, Mp_tr O4 k1, Or.inl ⟨_, Or.inr ⟨p1, _, rfl, Or.inl (opT_f (fun z => c1 z.2))⟩, k2⟩⟩
  rw [mEq_t ((MA_k A4 (Or.inr (Or.inr (Or.inr (by decide))))).mpr c1)]
  by_cases c2 : op < 4
  rotate_left
  · have e4 : op = 4 := by omega
    subst e4
    obtain ⟨g5, b1, b2, b3⟩ := E_M_opens4 (d := d + 5) (by omega) hW A4
    obtain ⟨g6, d1, d2, d3⟩ := E_M_wrongF (d := d + 5) (by omega) hW b3.1
    obtain ⟨k1, k2⟩ := yC_flt (R := h 491) (op := 4) (q0 := q) b3.2 d2 d3
    rw [b1, mC_s, mEq_t rfl]
    simp only [mF_t hw]
    rw [d1, mC_s]
    exact ⟨g6, rfl, Mp_tr O4 (Mp_tr (Mp_q b2) k1), Or.inl ⟨_, Or.inr ⟨p1, _, rfl, Or.inl (opT_f (fun z => c2 z.1))⟩, k2⟩⟩
  have eo : opT B n op p1 = .inr (tE B n p1) := opT_t ⟨c2, c1⟩
  obtain ⟨g5, b1, b2, b3, b4⟩ := E_M_opens (d := d + 5) (by omega) hW A4 ⟨ho.1, c2⟩
  have u1 := tE_lt n3 (show tK B n p1 ≠ 0 by omega)
  have u2 := tE_le (B := B) n3
  obtain ⟨g6, d1, d2, d3⟩ := ih c2 (tE B n p1) (q + 3) ((q + 2 : Nat) : Int) (d + 5) g5 (by omega) b3 (by omega) (by omega)
  rw [b1, mC_s, mEq_f (by decide), d1, mK_r, if_pos rfl]
  simp only [mP_0, mP_1, mF_t hw]
  have O6 := Mp_tr O4 (Mp_tr (Mp_q b2) d2)
  -- the end with a fault
  have flt : ∀ f : Int, MG g6 B n f → ∃ h', (mC ((mm_P (d + 5)) 258 [(2, 483)] w (mUp g6 483 20 (mI (g6 483 20 - 1)))) 9 none (fun v25 w26 h27 => mF w26 483 13 none (mEq (h27 483 19) (-1) (mF w26 483 13 none (mF w26 483 13 none (mAw w26 (h27 483 21) ((q + 2 : Nat) : Int) none (let h28 := mUp h27 (h27 483 21) ((q + 2 : Nat) : Int) (h27 483 22); some ((9, 0), w26, h28))))) (some ((9, 0), w26, h27))))) = (some ((9, 0), w, h') : Option mm_R) ∧ Mp h h' ∧ MG h' B n f := fun f hF => by
    obtain ⟨x1, x2⟩ := MG_up hF (b := 483) (i := 20) (z := mI (g6 483 20 - 1)) (Or.inr ⟨rfl, Or.inl rfl⟩)
    obtain ⟨g7, z1, z2, z3⟩ := E_M_nextF (d := d + 5) (by omega) hW x2.2.1 x2.1
    obtain ⟨k1, k2⟩ := yC_flt (R := h 491) (op := op) (q0 := q) x2.2 z2 z3
    rw [z1, mC_s, mF_t hw, z3.2.1, mEq_f z3.2.2.1]
    exact ⟨g7, rfl, Mp_tr O6 (Mp_tr (Mp_q x1) k1), k2⟩
  simp only [mF_t hw] at flt
  rcases d3 with ⟨f, ef, d3⟩ | ⟨p3, P1, ep, d3⟩
  · obtain ⟨h', z1, z2, z3⟩ := flt f d3
    exact ⟨h', z1, z2, Or.inl ⟨f, Or.inr ⟨p1, _, rfl, Or.inr ⟨_, eo, Or.inl ef⟩⟩, z3⟩⟩
  rcases d3 with ⟨c3, A6, r6, k6, cl, le⟩ | ⟨c3, d3⟩
  rotate_left
  · obtain ⟨h', z1, z2, z3⟩ := flt _ d3
    exact ⟨h', z1, z2, Or.inl ⟨_, Or.inr ⟨p1, _, rfl, Or.inr ⟨_, eo, Or.inr ⟨p3, P1, ep, c3, rfl⟩⟩⟩, z3⟩⟩
  clear flt
  have e20 : mI (g6 483 20 - 1) = op := by rw [A6.2.2.1, mI_id (by omega) (by omega)]; omega
  obtain ⟨x1, x2, x3⟩ := MA_close A6 rfl
  rw [e20]
  generalize mUp g6 483 20 op = g7 at x1 x2 x3 ⊢
  obtain ⟨g8, z1, z2, z3⟩ := E_M_nextA (d := d + 5) (by omega) hW x2.2.1.1 x2.1
  obtain ⟨k1, k2, k3⟩ := MA_mo x2 z2 z3
  have nb8 := MA_n k2
  have nb6 := MA_n A6
  have s22 : g8 483 22 = ((q + 3 + rfW P1 : Nat) : Int) := k2.2.2.2
  rw [z1, mC_s]
  simp only [mF_t hw]
  rw [k2.1.2.1, mEq_t rfl, MH_21 k2.2.1.1, mAw_t (MW_491 hW) (by omega) (by omega) (by decide), s22]
  try dsimp only
  generalize hg : mUp g8 491 ((q + 2 : Nat) : Int) ((q + 3 + rfW P1 : Nat) : Int) = g9
  have f9 : ∀ b : Int, b ≠ 491 → g9 b = g8 b := fun b hb => by rw [← hg, mUp_row hb]
  have r9 : ∀ j : Int, j ≠ ((q + 2 : Nat) : Int) → g9 491 j = g6 491 j := fun j hj => by rw [← hg, mUp_n (Or.inr hj), k3, x3]
  have M9 : MA g9 B n (tE B n p3) op (q + 3 + rfW P1) := by
    obtain ⟨⟨⟨t1, t2, t3, t4⟩, a2, a3, a4, a5, a6, a7⟩, m1, m2, m3⟩ := k2
    have e3 := f9 483 (by decide)
    exact ⟨⟨⟨by rw [e3]; exact t1, t2, by rw [f9 490 (by decide)]; exact t3, t4⟩, by rw [e3]; exact a2, by rw [e3]; exact a3, by rw [e3]; exact a4, by rw [e3]; exact a5, by rw [e3]; exact a6, a7⟩, ⟨MH_fr m1.1 (fun i _ => by rw [e3]), mNam_fr m1.2 (f9 492 (by decide))⟩, by rw [e3]; exact m2, by rw [e3]; exact m3⟩
  have o9 : Mp g8 g9 := ⟨fun b _ b2 => f9 b b2, fun i _ _ _ => by rw [f9 483 (by decide)]⟩
  have old : ∀ j : Int, j < ((q + 3 : Nat) : Int) → g6 491 j = g4 491 j := fun j hj => by rw [k6 j hj, b4]
  refine ⟨g9, rfl, Mp_tr O6 (Mp_tr (Mp_q x1) (Mp_tr (Mp_q k1) o9)), Or.inr ⟨p1, t, _, p3, P1, rfl, eo, ep, c3, M9, ?_, ?_, ?_, cl, by omega, nb6.2.2⟩⟩
  · have s0 := y4.2.1 0 (show 0 < 3 by decide)
    have s1 := y4.2.1 1 (show 1 < 3 by decide)
    refine Seg_cons.mpr ⟨?_, Seg_cons.mpr ⟨?_, Seg_cons.mpr ⟨?_, Seg_nil⟩⟩⟩
    · rw [r9 _ (by omega), old _ (by omega)]
      rw [show (q : Int) + ((0 : Nat) : Int) = (q : Int) by omega] at s0
      exact s0
    · rw [r9 _ (by omega), old _ (by omega)]
      rw [show (q : Int) + ((1 : Nat) : Int) = ((q + 1 : Nat) : Int) by omega] at s1
      exact s1
    · rw [← hg, mUp_s]
  · exact rfP_fr P1 (q + 3) cl (fun j j0 j1 => r9 j (by omega)) r6
  · intro j hj
    rw [r9 j (by omega), old j (by omega)]
    exact y4.2.2 j hj
end PU
