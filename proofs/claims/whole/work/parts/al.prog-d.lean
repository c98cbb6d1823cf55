/-! PURE: programs: what a block is; a line of the class, whole. -/
def rfL (L : List Int) : Nat := if L.getD 0 0 = 1 ∨ L.getD 0 0 = 2 ∨ L.getD 0 0 = 5 ∨ L.getD 0 0 = 6 then L.length + 1 else L.length
def rfW : List (List Int) → Nat
  | [] => 0
  | L :: P => rfL L + rfW P
theorem rfW_app : ∀ P Q : List (List Int), rfW (P ++ Q) = rfW P + rfW Q := by
  intro P
  induction P with
  | nil => intro Q; show rfW Q = 0 + rfW Q; omega
  | cons L P ih => intro Q; show rfL L + rfW (P ++ Q) = rfL L + rfW P + rfW Q; rw [ih]; omega
/-- a line that is no repeat -/
def lnO (L : List Int) : Prop := (0 ≤ L.getD 0 0 ∧ L.getD 0 0 ≤ 8) ∧ L.length = lnL (L.getD 0 0) + 1 ∧ ∀ v ∈ L, -99 ≤ v ∧ v ≤ 99
/-- a block that nests at most D deep -/
def wfP : Nat → Nat → List (List Int) → Prop
  | 0, _, P => P = []
  | _ + 1, _, [] => True
  | m + 1, D, L :: P => (lnO L ∧ wfP m D P) ∨ ∃ (t : Int) (k : Nat), L = [9, t, (k : Int)] ∧ (-99 ≤ t ∧ t ≤ 99) ∧ 0 < D ∧ k ≤ P.length ∧ wfP m (D - 1) (P.take k) ∧ wfP m D (P.drop k)
section
variable {B : Int → Int} {n : Int} {m : Nat} {op p : Int}
theorem opT_t {p : Int} (h : op < 4 ∧ tK B n p = 123) : opT B n op p = .inr (tE B n p) := if_pos h
theorem opT_f {p : Int} (h : ¬ (op < 4 ∧ tK B n p = 123)) : opT B n op p = .inl (tS B n p) := if_neg h
theorem blk_e (hk : tK B n p ≠ 1) : blk B n (m + 1) op p = .inr (p, []) := by simp [blk, hk]
theorem blk_n (hk : tK B n p = 1) (ho : oL (tWd B n p) = none) : blk B n (m + 1) op p = .inl (tS B n p) := by simp [blk, hk, ho]
theorem blk_lf {k : Nat} {f : Int} (hk : tK B n p = 1) (ho : oL (tWd B n p) = some k) (h9 : k ≠ 9) (e : lnT B n (k : Int) (.inr (tE B n p, [])) = .inl f) : blk B n (m + 1) op p = .inl f := by simp [blk, hk, ho, h9, e]
theorem blk_ls {k : Nat} {p1 : Int} {M : List Int} (hk : tK B n p = 1) (ho : oL (tWd B n p) = some k) (h9 : k ≠ 9) (e : lnT B n (k : Int) (.inr (tE B n p, [])) = .inr (p1, M)) (q : tK B n p1 ≠ 59) : blk B n (m + 1) op p = .inl (tS B n p1) := by simp [blk, hk, ho, h9, e, q]
theorem blk_lb {k : Nat} {p1 f : Int} {M : List Int} (hk : tK B n p = 1) (ho : oL (tWd B n p) = some k) (h9 : k ≠ 9) (e : lnT B n (k : Int) (.inr (tE B n p, [])) = .inr (p1, M)) (q : tK B n p1 = 59) (b : blk B n m op (tE B n p1) = .inl f) : blk B n (m + 1) op p = .inl f := by simp [blk, hk, ho, h9, e, q, b]
theorem blk_lr {k : Nat} {p1 p2 : Int} {M : List Int} {P2 : List (List Int)} (hk : tK B n p = 1) (ho : oL (tWd B n p) = some k) (h9 : k ≠ 9) (e : lnT B n (k : Int) (.inr (tE B n p, [])) = .inr (p1, M)) (q : tK B n p1 = 59) (b : blk B n m op (tE B n p1) = .inr (p2, P2)) : blk B n (m + 1) op p = .inr (p2, ((k : Int) :: M) :: P2) := by simp [blk, hk, ho, h9, e, q, b]
theorem blk_rf {f : Int} (hk : tK B n p = 1) (ho : oL (tWd B n p) = some 9) (e : iNum B n (tE B n p) = .inl f) : blk B n (m + 1) op p = .inl f := by simp [blk, hk, ho, e]
theorem blk_ro {p1 f : Int} {M : List Int} (hk : tK B n p = 1) (ho : oL (tWd B n p) = some 9) (e : iNum B n (tE B n p) = .inr (p1, M)) (q : opT B n op p1 = .inl f) : blk B n (m + 1) op p = .inl f := by simp [blk, hk, ho, e, q]
theorem blk_rb {p1 p2 f : Int} {M : List Int} (hk : tK B n p = 1) (ho : oL (tWd B n p) = some 9) (e : iNum B n (tE B n p) = .inr (p1, M)) (q : opT B n op p1 = .inr p2) (b : blk B n m (op + 1) p2 = .inl f) : blk B n (m + 1) op p = .inl f := by simp [blk, hk, ho, e, q, b]
theorem blk_rc {p1 p2 p3 : Int} {M : List Int} {P1 : List (List Int)} (hk : tK B n p = 1) (ho : oL (tWd B n p) = some 9) (e : iNum B n (tE B n p) = .inr (p1, M)) (q : opT B n op p1 = .inr p2) (b : blk B n m (op + 1) p2 = .inr (p3, P1)) (c : tK B n p3 ≠ 125) : blk B n (m + 1) op p = .inl (tS B n p3) := by simp [blk, hk, ho, e, q, b, c]
theorem blk_rd {p1 p2 p3 f : Int} {M : List Int} {P1 : List (List Int)} (hk : tK B n p = 1) (ho : oL (tWd B n p) = some 9) (e : iNum B n (tE B n p) = .inr (p1, M)) (q : opT B n op p1 = .inr p2) (b : blk B n m (op + 1) p2 = .inr (p3, P1)) (c : tK B n p3 = 125) (b2 : blk B n m op (tE B n p3) = .inl f) : blk B n (m + 1) op p = .inl f := by simp [blk, hk, ho, e, q, b, c, b2]
theorem blk_rr {p1 p2 p3 p4 : Int} {M : List Int} {P1 P2 : List (List Int)} (hk : tK B n p = 1) (ho : oL (tWd B n p) = some 9) (e : iNum B n (tE B n p) = .inr (p1, M)) (q : opT B n op p1 = .inr p2) (b : blk B n m (op + 1) p2 = .inr (p3, P1)) (c : tK B n p3 = 125) (b2 : blk B n m op (tE B n p3) = .inr (p4, P2)) : blk B n (m + 1) op p = .inr (p4, (9 :: (M ++ [((P1.length : Nat) : Int)])) :: (P1 ++ P2)) := by simp [blk, hk, ho, e, q, b, c, b2]
theorem rfL_k {k : Int} {M : List Int} (h : M.length = lnL k) (h0 : 0 ≤ k ∧ k ≤ 8) : ((rfL (k :: M) : Nat) : Int) ≤ 5 + lnC k ∧ (k :: M).length ≤ 9 := by
  have e : (k :: M).getD 0 0 = k := rfl
  have l : (k :: M).length = M.length + 1 := rfl
  unfold rfL
  rw [e, l, h]
  rcases (show k = 0 ∨ k = 1 ∨ k = 2 ∨ k = 3 ∨ k = 4 ∨ k = 5 ∨ k = 6 ∨ k = 7 ∨ k = 8 by omega) with rfl | rfl | rfl | rfl | rfl | rfl | rfl | rfl | rfl <;> decide
theorem blk_sp : ∀ (m : Nat) (op p p' : Int) (P : List (List Int)), 0 ≤ op → op ≤ 4 → 0 ≤ p → p ≤ n → n - p < m → blk B n m op p = .inr (p', P) → wfP m (4 - op).toNat P ∧ p + rfW P ≤ p' ∧ p' ≤ n ∧ tK B n p' ≠ 1 ∧ p + 2 * P.length ≤ p' ∧ ∀ L ∈ P, L.length ≤ 9 := by
  intro m
  induction m with
  | zero => intro op p p' P _ _ h0 h1 hm e; omega
  | succ m ih =>
    intro op p p' P o0 o1 h0 h1 hm e
    by_cases hk : tK B n p = 1
    rotate_left
    · rw [blk_e hk] at e
      cases e
      exact ⟨trivial, by show p + ((0 : Nat) : Int) ≤ p; omega, h1, hk, by show p + 2 * ((0 : Nat) : Int) ≤ p; omega, fun L hL => by cases hL⟩
    rcases ho : oL (tWd B n p) with _ | k
    · rw [blk_n hk ho] at e; cases e
    obtain ⟨_, l1, l2, l3⟩ := oL_E h1 ho
    by_cases h9 : k = 9
    · subst h9
      rcases en : iNum B n (tE B n p) with f | ⟨p1, M⟩
      · rw [blk_rf hk ho en] at e; cases e
      obtain ⟨n1, n2, n3, n4⟩ := iNum_sp (B := B) (n := n) (tE B n p) p1 M (by omega) l2 en
      obtain ⟨t, rfl⟩ : ∃ t, M = [t] := by
        cases M with
        | nil => cases n1
        | cons t M => cases M with
          | nil => exact ⟨t, rfl⟩
          | cons u M => simp at n1
      have tb := n4 t (List.mem_singleton.mpr rfl)
      by_cases q : op < 4 ∧ tK B n p1 = 123
      rotate_left
      · rw [blk_ro hk ho en (opT_f q)] at e; cases e
      have t1 := tE_lt n3 (show tK B n p1 ≠ 0 by omega)
      have t2 := tE_le (B := B) n3
      rcases eb : blk B n m (op + 1) (tE B n p1) with f | ⟨p3, P1⟩
      · rw [blk_rb hk ho en (opT_t q) eb] at e; cases e
      obtain ⟨b1, b2, b3, b4, b5, b6⟩ := ih (op + 1) (tE B n p1) p3 P1 (by omega) (by omega) (by omega) t2.2.1 (by omega) eb
      by_cases c : tK B n p3 = 125
      rotate_left
      · rw [blk_rc hk ho en (opT_t q) eb c] at e; cases e
      have t3 := tE_lt b3 (show tK B n p3 ≠ 0 by omega)
      have t4 := tE_le (B := B) b3
      rcases ec : blk B n m op (tE B n p3) with f | ⟨p4, P2⟩
      · rw [blk_rd hk ho en (opT_t q) eb c ec] at e; cases e
      obtain ⟨c1, c2, c3, c4, c5, c6⟩ := ih op (tE B n p3) p4 P2 o0 o1 (by omega) t4.2.1 (by omega) ec
      rw [blk_rr hk ho en (opT_t q) eb c ec] at e
      cases e
      have eL : rfL (9 :: ([t] ++ [((P1.length : Nat) : Int)])) = 3 := by
        show (if (9 : Int) = 1 ∨ (9 : Int) = 2 ∨ (9 : Int) = 5 ∨ (9 : Int) = 6 then _ else 3) = 3
        rw [if_neg (by decide)]
      have eW : rfW ((9 :: ([t] ++ [((P1.length : Nat) : Int)])) :: (P1 ++ P2)) = 3 + (rfW P1 + rfW P2) := by
        show rfL _ + rfW (P1 ++ P2) = _
        rw [eL, rfW_app]
      refine ⟨Or.inr ⟨t, P1.length, rfl, tb, by omega, by rw [List.length_append]; omega, ?_, ?_⟩, by rw [eW]; omega, c3, c4, ?_, fun L hL => ?_⟩
      · rw [List.take_left, show (4 - op).toNat - 1 = (4 - (op + 1)).toNat by omega]; exact b1
      · rw [List.drop_left]; exact c1
      · rw [List.length_cons, List.length_append]; omega
      · rcases List.mem_cons.mp hL with rfl | hL
        · exact (by decide : 3 ≤ 9)
        · rcases List.mem_append.mp hL with hL | hL
          · exact b6 L hL
          · exact c6 L hL
    · rcases el : lnT B n (k : Int) (.inr (tE B n p, [])) with f | ⟨p1, M⟩
      · rw [blk_lf hk ho h9 el] at e; cases e
      obtain ⟨n1, n2, n3, n4⟩ := lnT_sp (B := B) (n := n) (k := (k : Int)) (by omega) l2 p1 M el
      obtain ⟨r1, r2⟩ := rfL_k n1 ⟨by omega, by omega⟩
      by_cases q : tK B n p1 = 59
      rotate_left
      · rw [blk_ls hk ho h9 el q] at e; cases e
      have cp : 0 ≤ lnC (k : Int) := by unfold lnC; repeat' split <;> omega
      have t1 := tE_lt n3 (show tK B n p1 ≠ 0 by omega)
      have t2 := tE_le (B := B) n3
      rcases eb : blk B n m op (tE B n p1) with f | ⟨p2, P2⟩
      · rw [blk_lb hk ho h9 el q eb] at e; cases e
      obtain ⟨b1, b2, b3, b4, b5, b6⟩ := ih op (tE B n p1) p2 P2 o0 o1 (by omega) t2.2.1 (by omega) eb
      rw [blk_lr hk ho h9 el q eb] at e
      cases e
      have eW : rfW (((k : Int) :: M) :: P2) = rfL ((k : Int) :: M) + rfW P2 := rfl
      refine ⟨Or.inl ⟨⟨⟨by show 0 ≤ (k : Int); omega, by show (k : Int) ≤ 8; omega⟩, by show M.length + 1 = lnL (k : Int) + 1; rw [n1], fun v hv => ?_⟩, b1⟩, by rw [eW]; omega, b3, b4, by rw [List.length_cons]; omega, fun L hL => ?_⟩
      · rcases List.mem_cons.mp hv with rfl | hv
        · omega
        · exact n4 v hv
      · rcases List.mem_cons.mp hL with rfl | hL
        · exact r2
        · exact b6 L hL
end
/-! the class's lines -/
def clR (i : Nat) (L : List Int) : List Int := if L.getD 0 0 = 9 then [9, L.getD 1 0, ((i + 1 : Nat) : Int) + L.getD 2 0] else L
def clP (h : mm_H) (a : Int) : Nat → List (List Int) → Prop
  | _, [] => True
  | i, L :: P => Seg h a (9 * i) (clR i L) ∧ clP h a (i + 1) P
theorem clR_len {i : Nat} {L : List Int} (h : L.length ≤ 9) : (clR i L).length ≤ 9 := by
  unfold clR
  split
  · exact (by decide : 3 ≤ 9)
  · exact h
theorem clP_app {h : mm_H} {a : Int} : ∀ (P Q : List (List Int)) (i : Nat), clP h a i P → clP h a (i + P.length) Q → clP h a i (P ++ Q) := by
  intro P
  induction P with
  | nil => intro Q i _ hq; exact hq
  | cons L P ih =>
    intro Q i hp hq
    refine ⟨hp.1, ih Q (i + 1) hp.2 ?_⟩
    rw [show i + 1 + P.length = i + (P.length + 1) by omega]; exact hq
theorem clP_fr {h h' : mm_H} {a : Int} : ∀ (P : List (List Int)) (i : Nat), (∀ L ∈ P, L.length ≤ 9) → (∀ j : Int, 9 * i ≤ j → j < 9 * (i + P.length) → h' a j = h a j) → clP h a i P → clP h' a i P := by
  intro P
  induction P with
  | nil => intro i _ _ _; exact trivial
  | cons L P ih =>
    intro i hl hf hp
    have ll := clR_len (i := i) (hl L (List.mem_cons_self ..))
    have e : (((L :: P).length : Nat) : Int) = P.length + 1 := by rw [List.length_cons]; omega
    refine ⟨Seg_fr hp.1 (e := 9 * i + 9) (by omega) (fun j j0 j1 => hf j (by omega) (by omega)), ih (i + 1) (fun L hL => hl L (List.mem_cons_of_mem _ hL)) (fun j j0 j1 => hf j (by omega) (by omega)) hp.2⟩
section PU
variable {d : Nat} {w : mm_W} {h : mm_H} {R : Int → Int} {B : Int → Int} {n p : Int} {q0 : Nat} {x : pR}
theorem Z_nums (hd : 9 ≤ d) (hW : zW w) (hq : q0 + 9 ≤ 1800) (hl : pln x ≤ 1) (hx : zC w R h B n q0 x) {k : Int} (hk : 0 ≤ k ∧ k ≤ 9) : ∃ h', mm_P d 65 [(2, 465), (0, k)] w h = some ((9, 0), w, h') ∧ zO h h' ∧ zC w R h' B n q0 (lnT B n k x) := by
  obtain ⟨d, rfl, hd2⟩ := mm_dS hd; clear hd; have hd := hd2; clear hd2
  have hw : (w.1 465).1 = 6 := by rw [hW.2.1]
  have hw2 : (w.1 461).1 = 10 := by rw [hW.1.1]
  have lN : pln (bnd x (iPk B n oN)) ≤ 2 := Nat.le_trans (pln_bnd (k := 1) (fun p p' M e => iPk_len e)) (by omega)
  have lW : pln (bnd x (iPk B n oW)) ≤ 2 := Nat.le_trans (pln_bnd (k := 1) (fun p p' M e => iPk_len e)) (by omega)
  have lF : pln (bnd (bnd x (iPk B n oN)) (iWhat B n)) ≤ 3 := Nat.le_trans (pln_bnd (k := 1) (fun p p' M e => iWhat_len e)) (by omega)
  have lA : pln (bnd x (iArea B n)) ≤ 5 := Nat.le_trans (pln_bnd (k := 4) (fun p p' M e => iArea_len e)) (by omega)
  have lT : pln (bnd (bnd x (iArea B n)) (iWd B n [116, 111])) ≤ 5 := Nat.le_trans (pln_bnd (k := 0) (fun p p' M e => iWd_len e)) (by omega)
  have lM : pln (bnd x (iMove B n)) ≤ 2 := Nat.le_trans (pln_bnd (k := 1) (fun p p' M e => iMove_len e)) (by omega)
  rw [P_Pg_readNumbers]
  simp only [mF_t hw]
  rcases (show k = 0 ∨ k = 1 ∨ k = 2 ∨ k = 3 ∨ k = 4 ∨ k = 5 ∨ k = 6 ∨ k = 7 ∨ k = 8 ∨ k = 9 by omega) with rfl | rfl | rfl | rfl | rfl | rfl | rfl | rfl | rfl | rfl
  · obtain ⟨h1, a1, a2, a3⟩ := Z_fmt (d := d) hd hW hq (by omega) hx
    obtain ⟨h2, b1, b2, b3⟩ := Z_area (d := d) hd hW hq (by omega) a3
    rw [mEq_t rfl, a1, mC_s]
    simp only [mF_t hw]
    rw [b1, mC_s]
    exact ⟨h2, rfl, zO_tr a2 b2, b3⟩
  · obtain ⟨h1, a1, a2, a3⟩ := Z_fmt (d := d) hd hW hq (by omega) hx
    obtain ⟨h2, b1, b2, b3⟩ := Z_two (d := d) hd hW (fun h' hS => SW_28 hS) (fun W => pick_to W) hq (by omega) a3
    rw [mEq_f (by decide), mEq_t rfl, a1, mC_s]
    simp only [mF_t hw]
    rw [b1, mC_s]
    exact ⟨h2, rfl, zO_tr a2 b2, b3⟩
  · obtain ⟨h1, a1, a2, a3⟩ := Z_fmt (d := d) hd hW hq (by omega) hx
    obtain ⟨h2, b1, b2, b3⟩ := Z_two (d := d) hd hW (fun h' hS => SW_28 hS) (fun W => pick_to W) hq (by omega) a3
    rw [mEq_f (by decide), mEq_f (by decide), mEq_t rfl, a1, mC_s]
    simp only [mF_t hw]
    rw [b1, mC_s]
    exact ⟨h2, rfl, zO_tr a2 b2, b3⟩
  · obtain ⟨h1, v, h2, a1, a2, a3, a4⟩ := Z_pkA (d := d) (by omega) hW hq (by omega) (SW_30 hx.1.2.2) (o := oW) (fun W => pick_W W) hx
    obtain ⟨h3, b1, b2, b3⟩ := Z_two (d := d) hd hW (fun h' hS => SW_32 hS) (fun W => pick_by W) hq (by omega) a4
    rw [mEq_f (by decide), mEq_f (by decide), mEq_f (by decide), mEq_t rfl, zC_461 hx, mF_t hw2, a1, mC_s]
    simp only [mF_t hw]
    rw [a2, mC_s]
    simp only [mF_t hw]
    rw [b1, mC_s]
    exact ⟨h3, rfl, zO_tr a3 b2, b3⟩
  · obtain ⟨h1, v, h2, a1, a2, a3, a4⟩ := Z_pkA (d := d) (by omega) hW hq (by omega) (SW_30 hx.1.2.2) (o := oW) (fun W => pick_W W) hx
    obtain ⟨h3, b1, b2, b3⟩ := Z_two (d := d) hd hW (fun h' hS => SW_28 hS) (fun W => pick_to W) hq (by omega) a4
    rw [mEq_f (by decide), mEq_f (by decide), mEq_f (by decide), mEq_f (by decide), mEq_t rfl, zC_461 hx, mF_t hw2, a1, mC_s]
    simp only [mF_t hw]
    rw [a2, mC_s]
    simp only [mF_t hw]
    rw [b1, mC_s]
    exact ⟨h3, rfl, zO_tr a3 b2, b3⟩
  · obtain ⟨h1, a1, a2, a3⟩ := Z_area (d := d) hd hW hq (by omega) hx
    obtain ⟨h2, v, b1, b2, b3⟩ := Z_wd (d := d) (by omega) hW (SW_28 a3.1.2.2) (fun W => pick_to W) a3
    obtain ⟨h3, c1, c2, c3⟩ := Z_area (d := d) hd hW hq (by omega) b3
    rw [mEq_f (by decide), mEq_f (by decide), mEq_f (by decide), mEq_f (by decide), mEq_f (by decide), mEq_t rfl, a1, mC_s]
    simp only [mF_t hw]
    rw [zC_461 a3, mF_t hw2, b1, mC_s]
    simp only [mF_t hw]
    rw [c1, mC_s]
    exact ⟨h3, rfl, zO_tr a2 (zO_tr b2 c2), c3⟩
  · obtain ⟨h1, a1, a2, a3⟩ := Z_area (d := d) hd hW hq (by omega) hx
    obtain ⟨h2, v, b1, b2, b3⟩ := Z_wd (d := d) (by omega) hW (SW_28 a3.1.2.2) (fun W => pick_to W) a3
    obtain ⟨h3, c1, c2, c3⟩ := Z_area (d := d) hd hW hq (by omega) b3
    rw [mEq_f (by decide), mEq_f (by decide), mEq_f (by decide), mEq_f (by decide), mEq_f (by decide), mEq_f (by decide), mEq_t rfl, a1, mC_s]
    simp only [mF_t hw]
    rw [zC_461 a3, mF_t hw2, b1, mC_s]
    simp only [mF_t hw]
    rw [c1, mC_s]
    exact ⟨h3, rfl, zO_tr a2 (zO_tr b2 c2), c3⟩
  · obtain ⟨h1, v, h2, a1, a2, a3, a4⟩ := Z_pkA (d := d) (by omega) hW hq (by omega) (SW_22 hx.1.2.2) (o := oN) (fun W => pick_N W) hx
    rw [mEq_f (by decide), mEq_f (by decide), mEq_f (by decide), mEq_f (by decide), mEq_f (by decide), mEq_f (by decide), mEq_f (by decide), mEq_t rfl, zC_461 hx, mF_t hw2, a1, mC_s]
    simp only [mF_t hw]
    rw [a2, mC_s]
    exact ⟨h2, rfl, a3, a4⟩
  · obtain ⟨h1, a1, a2, a3⟩ := Z_move (d := d) hd hW hq (by omega) hx
    obtain ⟨h2, b1, b2, b3⟩ := Z_move (d := d) hd hW hq (by omega) a3
    rw [mEq_f (by decide), mEq_f (by decide), mEq_f (by decide), mEq_f (by decide), mEq_f (by decide), mEq_f (by decide), mEq_f (by decide), mEq_f (by decide), mEq_t rfl, a1, mC_s]
    simp only [mF_t hw]
    rw [b1, mC_s]
    exact ⟨h2, rfl, zO_tr a2 b2, b3⟩
  · obtain ⟨h1, v, h2, a1, a2, a3, a4⟩ := Z_numA (d := d) (by omega) hW hq (by omega) hx
    rw [mEq_f (by decide), mEq_f (by decide), mEq_f (by decide), mEq_f (by decide), mEq_f (by decide), mEq_f (by decide), mEq_f (by decide), mEq_f (by decide), mEq_f (by decide), mEq_t rfl, zC_461 hx, mF_t hw2, a1, mC_s]
    simp only [mF_t hw]
    rw [a2, mC_s]
    exact ⟨h2, rfl, a3, a4⟩
end PU
