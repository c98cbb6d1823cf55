/-! PURE: the class works a condition out. -/
theorem lim_some {z v : Int} : lim z = some v ↔ v = z ∧ -2147483648 ≤ z ∧ z < 2147483648 := by
  unfold lim
  split
  · rename_i c
    exact ⟨fun h => ⟨(Option.some.inj h).symm, c⟩, fun h => by rw [h.1]⟩
  · rename_i c
    exact ⟨fun h => (by cases h), fun h => absurd h.2 c⟩
theorem lim_none {z : Int} : lim z = none ↔ ¬ (-2147483648 ≤ z ∧ z < 2147483648) := by
  unfold lim
  split
  · rename_i c
    exact ⟨fun h => (by cases h), fun h => absurd c h⟩
  · rename_i c
    exact ⟨fun _ => c, fun _ => rfl⟩
/-- the term's number is an int -/
theorem ev_in {e : Nat → Int} (he : ∀ i, -2147483648 ≤ e i ∧ e i < 2147483648) : ∀ (T : Term) (b : Bool) (v : Int), wfT b T → ev e T = some v → (-2147483648 ≤ v ∧ v < 2147483648) ∧ (b = false → v = 0 ∨ v = 1) := by
  have l2 : ∀ {f : Int → Int → Int} {x y : Option Int} {v : Int}, ev2 f x y = some v → ∃ a b, x = some a ∧ y = some b ∧ v = f a b ∧ -2147483648 ≤ v ∧ v < 2147483648 := by
    intro f x y v h
    unfold ev2 at h
    cases x with
    | none => cases h
    | some a =>
      cases y with
      | none => cases h
      | some b =>
        obtain ⟨h1, h2⟩ := lim_some.mp h
        exact ⟨a, b, rfl, rfl, h1, by omega⟩
  have l1 : ∀ {f : Int → Int} {x : Option Int} {v : Int}, x.bind (fun a => lim (f a)) = some v → ∃ a, x = some a ∧ v = f a ∧ -2147483648 ≤ v ∧ v < 2147483648 := by
    intro f x v h
    cases x with
    | none => cases h
    | some a =>
      obtain ⟨h1, h2⟩ := lim_some.mp h
      exact ⟨a, rfl, h1, by omega⟩
  intro T
  induction T with
  | arg n =>
    intro b v hw h
    cases b with
    | false => exact absurd hw (by simp [wfT])
    | true =>
      have hn : n ≤ 9999 := hw
      have := Option.some.inj h
      exact ⟨by omega, fun x => by cases x⟩
  | index i =>
    intro b v hw h
    cases b with
    | false => exact absurd hw (by simp [wfT])
    | true =>
      have := Option.some.inj h
      have := he i
      exact ⟨by omega, fun x => by cases x⟩
  | length a ih =>
    intro b v hw h
    cases b with
    | false => exact absurd hw (by simp [wfT])
    | true =>
      obtain ⟨x, _, _, h3⟩ := l1 (f := fun x => -x) h
      exact ⟨h3, fun x => by cases x⟩
  | old a ih =>
    intro b v hw h
    cases b with
    | true => exact absurd hw (by simp [wfT])
    | false =>
      obtain ⟨x, h1, h2, h3⟩ := l1 (f := fun x => 1 - x) h
      have := (ih false x hw h1).2 rfl
      exact ⟨h3, fun _ => by omega⟩
  | add a b iha ihb =>
    intro t v hw h
    cases t with
    | false => exact absurd hw (by simp [wfT])
    | true => obtain ⟨_, _, _, _, _, h3⟩ := l2 h; exact ⟨h3, fun x => by cases x⟩
  | sub a b iha ihb =>
    intro t v hw h
    cases t with
    | false => exact absurd hw (by simp [wfT])
    | true => obtain ⟨_, _, _, _, _, h3⟩ := l2 h; exact ⟨h3, fun x => by cases x⟩
  | mul a b iha ihb =>
    intro t v hw h
    cases t with
    | false => exact absurd hw (by simp [wfT])
    | true => obtain ⟨_, _, _, _, _, h3⟩ := l2 h; exact ⟨h3, fun x => by cases x⟩
  | div a b iha ihb =>
    intro t v hw h
    obtain ⟨x, y, _, _, h2, h3⟩ := l2 h
    exact ⟨h3, fun _ => by rw [h2]; exact bI_01 _⟩
  | rem a b iha ihb =>
    intro t v hw h
    obtain ⟨x, y, _, _, h2, h3⟩ := l2 h
    exact ⟨h3, fun _ => by rw [h2]; exact bI_01 _⟩
  | elem a b iha ihb =>
    intro t v hw h
    obtain ⟨x, y, _, _, h2, h3⟩ := l2 h
    exact ⟨h3, fun _ => by rw [h2]; exact bI_01 _⟩
  | op2 o a b iha ihb =>
    intro t v hw h
    cases t with
    | true => exact absurd hw (by simp [wfT])
    | false =>
      have h' : (ev e a).bind (fun x => if (x ≠ 0) = (o = .ior) then some x else ev e b) = some v := h
      cases hx : ev e a with
      | none => rw [hx] at h'; cases h'
      | some x =>
        rw [hx] at h'
        have h2 : (if (x ≠ 0) = (o = .ior) then some x else ev e b) = some v := h'
        split at h2
        · have := Option.some.inj h2
          subst this
          exact iha false x hw.2.1 hx
        · exact ihb false v hw.2.2 h2
  | _ => intro b v hw h; cases h
section PU
variable {d : Nat} {w : mm_W} {s : aS} {S k o r c a : Int} {N : Nat}
/-- the class's loop over a condition -/
noncomputable def xL (d : Nat) (w : mm_W) (S o r c a : Int) (q cnt : Int) (h : mm_H) : Option (mm_R ⊕ mm_X) := l_Pr_isSo_0 (mm_P d) 436 S o r c a q cnt w h
/-- where it goes on -/
def xG (w : mm_W) (S o r c a : Int) (h' : mm_H) (q cnt : Int) : Option (mm_R ⊕ mm_X) := some (.inr (86, [(2, 436), (2, S), (2, o), (0, r), (0, c), (2, a), (0, q), (0, cnt)], w, h'))
theorem X_it (hP : PW w) (ha : w.1 a = (50, (N : Int))) {h h' : mm_H} {dep q : Nat} {cnt q' : Int} (hX : XS w h S o s k r c dep) (hq : q < N) (hc : 0 ≤ cnt ∧ cnt ≤ q) (hN : N ≤ 1000) (hs : mm_P d 55 [(2, 436), (2, S), (2, o), (2, a), (0, (q : Int))] w h = some ((0, q'), w, h')) : xL d w S o r c a q cnt h = xL d w S o r c a q' (cnt + 1) h' := by
  have w436 : (w.1 436).1 = 5 := by rw [hP.1]
  show l_Pr_isSo_0 (mm_P d) 436 S o r c a q cnt w h = _
  rw [l_Pr_isSo_0_eq, mN_t ha (by decide), ha, mLe_f (show cnt < (N : Int) by omega), mN_t ha (by decide), mLe_f (show (q : Int) < (N : Int) by omega), mF_t w436, hX.1.2.2.1, mEq_f (by decide), mF_t w436, hs, mC_s]
  try dsimp only
  rw [mI_id (by omega) (by omega)]
  rfl
theorem X_out (hP : PW w) (ha : w.1 a = (50, (N : Int))) {h : mm_H} {q cnt : Int} (h9 : h 436 9 = 0) : xL d w S o r c a q cnt h = xG w S o r c a h q cnt := by
  have w436 : (w.1 436).1 = 5 := by rw [hP.1]
  show l_Pr_isSo_0 (mm_P d) 436 S o r c a q cnt w h = _
  rw [l_Pr_isSo_0_eq, mN_t ha (by decide), ha]
  by_cases c1 : (N : Int) ≤ cnt
  · rw [mLe_t c1]; rfl
  rw [mLe_f (by omega), mN_t ha (by decide)]
  by_cases c2 : (N : Int) ≤ q
  · rw [mLe_t c2]; rfl
  rw [mLe_f (by omega), mF_t w436, mEq_t h9]
  rfl
/-- a condition's piece, worked out -/
def EX (d : Nat) (w : mm_W) (s : aS) (S k o r c a : Int) (N : Nat) (T : Term) : Prop := ∀ (q dep : Nat) (cnt : Int) (h : mm_H), XS w h S o s k r c dep → Seg h a q (compC T q) → q + lenC T ≤ N → dep + lvs T ≤ 200 → 0 ≤ cnt ∧ cnt ≤ q →
  (∀ v, ev (wEnv s k r c) T = some v → ∃ (h' : mm_H) (cnt' : Int), xL d w S o r c a q cnt h = xL d w S o r c a ((q + lenC T : Nat) : Int) cnt' h' ∧ PO h h' ∧ XS w h' S o s k r c (dep + 1) ∧ h' 437 (dep : Int) = v ∧ (∀ j : Int, j < dep → h' 437 j = h 437 j) ∧ 0 ≤ cnt' ∧ cnt' ≤ ((q + lenC T : Nat) : Int)) ∧
  (ev (wEnv s k r c) T = none → ∃ (h' : mm_H) (q' cnt' : Int), xL d w S o r c a q cnt h = xG w S o r c a h' q' cnt' ∧ PO h h' ∧ h' 436 9 = 0 ∧ aimed h' s k)
theorem PO_a {h h' : mm_H} (o : PO h h') (ha : 506 ≤ a) : h' a = h a := o.1 a (by omega) (by omega)
theorem EX_arg (hd : 10 ≤ d) (hP : PW w) (hS : sOk S) (hI : aI s) (ha : w.1 a = (50, (N : Int))) (h506 : 506 ≤ a) (hN : N ≤ 1000) {n : Nat} (hn : n ≤ 9999) : EX d w s S k o r c a N (.arg n) := by
  intro q dep cnt h hX hs hq hdep hc
  obtain ⟨s0, s1⟩ := Seg_cons.mp hs
  obtain ⟨s1, -⟩ := Seg_cons.mp s1
  have hq : q + 2 ≤ N := hq
  have hdep : dep + 1 ≤ 200 := hdep
  refine ⟨fun v hv => ?_, fun hv => by cases hv⟩
  have e := (Option.some.inj hv).symm
  subst e
  obtain ⟨d, rfl, hd2⟩ := mm_dS (show 9 + 1 ≤ d by omega)
  have w436 : (w.1 436).1 = 5 := by rw [hP.1]
  obtain ⟨h', g1, g2, g3, g4, g5⟩ := E_push (d := d) (by omega) hP hS hI hX (by omega) (v := (n : Int)) (by omega)
  refine ⟨h', cnt + 1, X_it (q' := ((q + 2 : Nat) : Int)) hP ha hX (by omega) hc hN ?_, g2, g3, g4, fun j hj => g5 j (by omega), by omega, ?_⟩
  · rw [P_Pr_step, E_peek_t (by omega) ha (by omega) (by omega), mC_s, mI_id (x := (q : Int) + 1) (by omega) (by omega), E_peek_t (by omega) ha (by omega) (by omega), mC_s, s0, show (q : Int) + 1 = ((q + 1 : Nat) : Int) by omega, s1, mEq_t rfl, mF_t w436, g1, mC_s, mI_id (by omega) (by omega)]
    rfl
  · show cnt + 1 ≤ ((q + 2 : Nat) : Int); omega
theorem EX_index (hd : 10 ≤ d) (hP : PW w) (hS : sOk S) (hW : ShW w S) (hI : aI s) (hk : 0 ≤ k ∧ k < aN s) (hr : 0 ≤ r ∧ r < aHi s) (hcc : 0 ≤ c ∧ c < aWi s) (ha : w.1 a = (50, (N : Int))) (h506 : 506 ≤ a) (hN : N ≤ 1000) {i : Nat} (hi : i ≤ 9) : EX d w s S k o r c a N (.index i) := by
  intro q dep cnt h hX hs hq hdep hc
  have hdep : dep + 1 ≤ 200 := hdep
  refine ⟨fun v hv => ?_, fun hv => by cases hv⟩
  have e := (Option.some.inj hv).symm
  subst e
  obtain ⟨d, rfl, hd2⟩ := mm_dS (show 9 + 1 ≤ d by omega)
  have w436 : (w.1 436).1 = 5 := by rw [hP.1]
  have hin := wEnv_le hI hk hr hcc i
  by_cases c8 : i < 8
  · have l2 : lenC (.index i) = 2 := by unfold lenC; rw [if_pos c8]
    have cc : compC (.index i) q = [2, (i : Int)] := by unfold compC; rw [if_pos c8]
    rw [cc] at hs
    rw [l2] at hq ⊢
    obtain ⟨s0, s1⟩ := Seg_cons.mp hs
    obtain ⟨s1, -⟩ := Seg_cons.mp s1
    obtain ⟨h', g1, g2, g3, g4, g5⟩ := E_push (d := d) (by omega) hP hS hI hX (by omega) (v := wEnv s k r c i) hin
    refine ⟨h', cnt + 1, X_it (q' := ((q + 2 : Nat) : Int)) hP ha hX (by omega) hc hN ?_, g2, g3, g4, fun j hj => g5 j (by omega), by omega, by omega⟩
    rw [P_Pr_step, E_peek_t (by omega) ha (by omega) (by omega), mC_s, mI_id (x := (q : Int) + 1) (by omega) (by omega), E_peek_t (by omega) ha (by omega) (by omega), mC_s, s0, show (q : Int) + 1 = ((q + 1 : Nat) : Int) by omega, s1, mEq_f (by decide), mEq_t rfl, mF_t w436, E_wordFor (by omega) hP hW hI hr hcc hX c8, mC_s, mF_t w436, g1, mC_s, mI_id (by omega) (by omega)]
    rfl
  · have l2 : lenC (.index i) = 1 := by unfold lenC; rw [if_neg c8]
    obtain ⟨h1, p1, p2, p3, p4, p5, p6⟩ := E_peers (d := d) (by omega) hP hS hW hI hk hr hcc hX
    rw [l2] at hq ⊢
    obtain ⟨h', g1, g2, g3, g4, g5⟩ := E_push (d := d) (by omega) hP hS hI p4 (by omega) (v := wEnv s k r c i) hin
    refine ⟨h', cnt + 1, X_it (q' := ((q + 1 : Nat) : Int)) hP ha hX (by omega) hc hN ?_, PO_tr p2 g2, g3, g4, fun j hj => by rw [g5 j (by omega), p3], by omega, by omega⟩
    by_cases c9 : i = 8
    · subst c9
      have cc : compC (.index 8) q = [3] := rfl
      rw [cc] at hs
      obtain ⟨s0, -⟩ := Seg_cons.mp hs
      have ew : wEnv s k r c 8 = nLike s k (aVal s r c) := rfl
      rw [ew, ← p5] at g1
      rw [P_Pr_step, E_peek_t (by omega) ha (by omega) (by omega), mC_s, mI_id (x := (q : Int) + 1) (by omega) (by omega), E_peek (by omega) ha, mC_s, s0, mEq_f (by decide), mEq_f (by decide), mEq_t rfl, mF_t w436, p1, mC_s, mF_t w436, mF_t w436, g1, mC_s]
      rfl
    · have c9' : i = 9 := by omega
      subst c9'
      have cc : compC (.index 9) q = [4] := rfl
      rw [cc] at hs
      obtain ⟨s0, -⟩ := Seg_cons.mp hs
      have ew : wEnv s k r c 9 = nMore s k (aVal s r c) := rfl
      rw [ew, ← p6] at g1
      rw [P_Pr_step, E_peek_t (by omega) ha (by omega) (by omega), mC_s, mI_id (x := (q : Int) + 1) (by omega) (by omega), E_peek (by omega) ha, mC_s, s0, mEq_f (by decide), mEq_f (by decide), mEq_f (by decide), mEq_t rfl, mF_t w436, p1, mC_s, mF_t w436, mF_t w436, g1, mC_s]
      rfl
/-- one number made another: minus, not -/
theorem lvs_1 : ∀ (T : Term) (b : Bool), wfT b T → 1 ≤ lvs T := by
  intro T
  induction T with
  | arg n => intro b _; exact Nat.le_refl _
  | index i => intro b _; exact Nat.le_refl _
  | length a ih => intro b h; cases b with
    | true => exact ih true h
    | false => exact absurd h (by simp [wfT])
  | old a ih => intro b h; cases b with
    | true => exact absurd h (by simp [wfT])
    | false => exact ih false h
  | add a b iha ihb => intro t h; cases t with
    | true => exact Nat.le_trans (iha true h.1) (Nat.le_add_right _ _)
    | false => exact absurd h (by simp [wfT])
  | sub a b iha ihb => intro t h; cases t with
    | true => exact Nat.le_trans (iha true h.1) (Nat.le_add_right _ _)
    | false => exact absurd h (by simp [wfT])
  | mul a b iha ihb => intro t h; cases t with
    | true => exact Nat.le_trans (iha true h.1) (Nat.le_add_right _ _)
    | false => exact absurd h (by simp [wfT])
  | div a b iha ihb => intro t h; cases t with
    | true => exact absurd h (by simp [wfT])
    | false => exact Nat.le_trans (iha true h.1) (Nat.le_add_right _ _)
  | rem a b iha ihb => intro t h; cases t with
    | true => exact absurd h (by simp [wfT])
    | false => exact Nat.le_trans (iha true h.1) (Nat.le_add_right _ _)
  | elem a b iha ihb => intro t h; cases t with
    | true => exact absurd h (by simp [wfT])
    | false => exact Nat.le_trans (iha true h.1) (Nat.le_add_right _ _)
  | op2 o a b iha ihb => intro t h; cases t with
    | true => exact absurd h (by simp [wfT])
    | false => exact Nat.le_trans (iha false h.2.1) (Nat.le_add_right _ _)
  | _ => intro b h; cases b <;> exact absurd h (by simp [wfT])
theorem EX_un (hd : 10 ≤ d) (hP : PW w) (hS : sOk S) (hI : aI s) (ha : w.1 a = (50, (N : Int))) (h506 : 506 ≤ a) (hN : N ≤ 1000) {T U : Term} {op : Int} {f : Int → Int} (hop : op = 5 ∧ (∀ x, f x = -x) ∨ op = 6 ∧ (∀ x, f x = 1 - x)) (lT : lenC T = lenC U + 1) (cT : ∀ q, compC T q = compC U q ++ [op]) (vT : lvs T = lvs U) (eT : ev (wEnv s k r c) T = (ev (wEnv s k r c) U).bind (fun x => lim (f x))) (hU : EX d w s S k o r c a N U) (hb : ∀ v, ev (wEnv s k r c) U = some v → (-2147483648 ≤ v ∧ v < 2147483648) ∧ (op = 6 → v = 0 ∨ v = 1)) (lU : 1 ≤ lvs U) : EX d w s S k o r c a N T := by
  intro q dep cnt h hX hs hq hdep hc
  rw [cT] at hs
  rw [lT] at hq ⊢
  rw [vT] at hdep
  obtain ⟨sa, sb⟩ := Seg_app.mp hs
  rw [compC_len] at sb
  obtain ⟨sb, -⟩ := Seg_cons.mp sb
  obtain ⟨u1, u2⟩ := hU q dep cnt h hX sa (by omega) hdep hc
  have w436 : (w.1 436).1 = 5 := by rw [hP.1]
  cases hu : ev (wEnv s k r c) U with
  | none =>
    refine ⟨fun v hv => ?_, fun _ => u2 hu⟩
    rw [eT, hu] at hv; cases hv
  | some x =>
    obtain ⟨h1, cnt1, x1, x2, x3, x4, x5, x6, x7⟩ := u1 x hu
    obtain ⟨hx, hx1⟩ := hb x hu
    obtain ⟨d, rfl, hd2⟩ := mm_dS (show 9 + 1 ≤ d by omega)
    obtain ⟨h2, p1, p2, p3, p4⟩ := E_pop (d := d) (by omega) hP hS hI x3 (by omega)
    have sop : h1 a ((q + lenC U : Nat) : Int) = op := by rw [PO_a x2 h506]; exact sb
    have hq1 : q + lenC U < N := by omega
    have pu : ∀ (z : Int) (h' : mm_H), z = f x → mm_P d 59 [(2, 436), (1, z)] w h2 = some ((9, 0), w, h') → mm_P (d + 1) 55 [(2, 436), (2, S), (2, o), (2, a), (0, ((q + lenC U : Nat) : Int))] w h1 = some ((0, ((q + (lenC U + 1) : Nat) : Int)), w, h') := by
      intro z h' hz g
      rw [P_Pr_step, E_peek_t (by omega) ha (by omega) (by omega), mC_s, mI_id (x := ((q + lenC U : Nat) : Int) + 1) (by omega) (by omega), E_peek (by omega) ha, mC_s, sop]
      rcases hop with ⟨rfl, hf⟩ | ⟨rfl, hf⟩
      · rw [mEq_f (by decide), mEq_f (by decide), mEq_f (by decide), mEq_f (by decide), mEq_t rfl, mF_t w436, p1, mC_s, mF_t w436, x4, mJ_id (by omega) (by omega), ← hf, ← hz, g, mC_s]
        rfl
      · have := hx1 rfl
        rw [mEq_f (by decide), mEq_f (by decide), mEq_f (by decide), mEq_f (by decide), mEq_f (by decide), mEq_t rfl, mF_t w436, p1, mC_s, mF_t w436, x4, mI_id (by omega) (by omega), ← hf, ← hz, g, mC_s]
        rfl
    by_cases cl : -2147483648 ≤ f x ∧ f x < 2147483648
    · refine ⟨fun v hv => ?_, fun hv => ?_⟩
      · rw [eT, hu] at hv
        have hv' : lim (f x) = some v := hv
        obtain ⟨e1, -⟩ := lim_some.mp hv'
        obtain ⟨h3, g1, g2, g3, g4, g5⟩ := E_push (d := d) (by omega) hP hS hI p3 (by omega) (v := f x) cl
        refine ⟨h3, cnt1 + 1, ?_, PO_tr (PO_tr x2 p2) g2, g3, by rw [e1]; exact g4, fun j hj => by rw [g5 j (by omega), p4, x5 j hj], by omega, by omega⟩
        rw [x1]
        exact X_it hP ha x3 hq1 ⟨x6, x7⟩ hN (pu _ h3 rfl g1)
      · rw [eT, hu] at hv
        exact absurd cl (lim_none.mp hv)
    · refine ⟨fun v hv => ?_, fun hv => ?_⟩
      · rw [eT, hu] at hv
        have hv' : lim (f x) = some v := hv
        exact absurd (lim_some.mp hv').2 cl
      · obtain ⟨h3, g1, g2, g3, g4⟩ := E_push_f (d := d) (by omega) hP p3.1.1 (v := f x) cl
        refine ⟨h3, ((q + (lenC U + 1) : Nat) : Int), cnt1 + 1, ?_, PO_tr (PO_tr x2 p2) g2, g3, ⟨by rw [g4 2 (by decide) (by decide)]; exact p3.2.1.1, by rw [g4 3 (by decide) (by decide)]; exact p3.2.1.2.1, by rw [g4 4 (by decide) (by decide)]; exact p3.2.1.2.2⟩⟩
        rw [x1, X_it hP ha x3 hq1 ⟨x6, x7⟩ hN (pu _ h3 rfl g1), X_out hP ha g3]
/-- two numbers made one -/
theorem EX_bin (hd : 10 ≤ d) (hP : PW w) (hS : sOk S) (hI : aI s) (ha : w.1 a = (50, (N : Int))) (h506 : 506 ≤ a) (hN : N ≤ 1000) {T U V : Term} {op : Int} {f : Int → Int → Int} (hop : ¬ (1 ≤ op ∧ op ≤ 8)) (hj : ∀ (d : Nat) (x y : Int) (h : mm_H), 1 ≤ d → -2147483648 ≤ x ∧ x < 2147483648 → -2147483648 ≤ y ∧ y < 2147483648 → mm_P d 56 [(0, op), (1, x), (1, y)] w h = some ((1, f x y), w, h)) (lT : lenC T = lenC U + lenC V + 1) (cT : ∀ q, compC T q = compC U q ++ (compC V (q + lenC U) ++ [op])) (vT : lvs T = lvs U + lvs V) (eT : ev (wEnv s k r c) T = ev2 f (ev (wEnv s k r c) U) (ev (wEnv s k r c) V)) (hU : EX d w s S k o r c a N U) (hV : EX d w s S k o r c a N V) (bU : ∀ v, ev (wEnv s k r c) U = some v → (-2147483648 ≤ v ∧ v < 2147483648)) (bV : ∀ v, ev (wEnv s k r c) V = some v → (-2147483648 ≤ v ∧ v < 2147483648)) (lU : 1 ≤ lvs U) (lV : 1 ≤ lvs V) : EX d w s S k o r c a N T := by
  intro q dep cnt h hX hs hq hdep hc
  rw [cT] at hs
  rw [lT] at hq ⊢
  rw [vT] at hdep
  obtain ⟨sa, sb⟩ := Seg_app.mp hs
  rw [compC_len] at sb
  obtain ⟨sb, sc⟩ := Seg_app.mp sb
  rw [compC_len] at sc
  obtain ⟨sc, -⟩ := Seg_cons.mp sc
  obtain ⟨u1, u2⟩ := hU q dep cnt h hX sa (by omega) (by omega) hc
  have w436 : (w.1 436).1 = 5 := by rw [hP.1]
  cases hu : ev (wEnv s k r c) U with
  | none =>
    refine ⟨fun v hv => ?_, fun _ => u2 hu⟩
    rw [eT, hu] at hv; cases hv
  | some x =>
    obtain ⟨h1, cnt1, x1, x2, x3, x4, x5, x6, x7⟩ := u1 x hu
    have hx := bU x hu
    obtain ⟨v1, v2⟩ := hV (q + lenC U) (dep + 1) cnt1 h1 x3 (fun i hi => by rw [PO_a x2 h506]; exact sb i hi) (by omega) (by omega) ⟨x6, x7⟩
    cases hv0 : ev (wEnv s k r c) V with
    | none =>
      refine ⟨fun v hv => ?_, fun _ => ?_⟩
      · rw [eT, hu, hv0] at hv; cases hv
      · obtain ⟨h2, q', cnt', y1, y2, y3⟩ := v2 hv0
        exact ⟨h2, q', cnt', by rw [x1, y1], PO_tr x2 y2, y3⟩
    | some y =>
      obtain ⟨h2, cnt2, y1, y2, y3, y4, y5, y6, y7⟩ := v1 y hv0
      have hy := bV y hv0
      obtain ⟨d, rfl, hd2⟩ := mm_dS (show 9 + 1 ≤ d by omega)
      obtain ⟨h3, p1, p2, p3, p4⟩ := E_pop (d := d) (by omega) hP hS hI y3 (by omega)
      obtain ⟨h4, r1, r2, r3, r4⟩ := E_pop (d := d) (by omega) hP hS hI p3 (by omega)
      have sop : h2 a ((q + lenC U + lenC V : Nat) : Int) = op := by rw [PO_a y2 h506, PO_a x2 h506]; exact sc
      have hq1 : q + lenC U + lenC V < N := by omega
      have vx : h3 437 (dep : Int) = x := by rw [p4, y5 _ (by omega)]; exact x4
      have vy : h2 437 ((dep + 1 : Nat) : Int) = y := y4
      have pu : ∀ h' : mm_H, mm_P d 59 [(2, 436), (1, f x y)] w h4 = some ((9, 0), w, h') → mm_P (d + 1) 55 [(2, 436), (2, S), (2, o), (2, a), (0, ((q + lenC U + lenC V : Nat) : Int))] w h2 = some ((0, ((q + (lenC U + lenC V + 1) : Nat) : Int)), w, h') := by
        intro h' g
        rw [P_Pr_step, E_peek_t (by omega) ha (by omega) (by omega), mC_s, mI_id (x := ((q + lenC U + lenC V : Nat) : Int) + 1) (by omega) (by omega), E_peek (by omega) ha, mC_s, sop, mEq_f (by omega), mEq_f (by omega), mEq_f (by omega), mEq_f (by omega), mEq_f (by omega), mEq_f (by omega), mEq_f (by omega), mEq_f (by omega), mF_t w436, p1, mC_s, mF_t w436, r1, mC_s, vx, vy, hj d x y h4 (by omega) hx hy, mC_s, mF_t w436, g, mC_s]
        rw [show ((q + lenC U + lenC V : Nat) : Int) + 1 = ((q + (lenC U + lenC V + 1) : Nat) : Int) by omega]
      by_cases cl : -2147483648 ≤ f x y ∧ f x y < 2147483648
      · refine ⟨fun v hv => ?_, fun hv => ?_⟩
        · rw [eT, hu, hv0] at hv
          have hv' : lim (f x y) = some v := hv
          obtain ⟨e1, -⟩ := lim_some.mp hv'
          obtain ⟨h5, g1, g2, g3, g4, g5⟩ := E_push (d := d) (by omega) hP hS hI r3 (by omega) (v := f x y) cl
          refine ⟨h5, cnt2 + 1, ?_, PO_tr (PO_tr (PO_tr (PO_tr x2 y2) p2) r2) g2, g3, by rw [e1]; exact g4, fun j hj => by rw [g5 j (by omega), r4, p4, y5 j (by omega), x5 j hj], by omega, by omega⟩
          rw [x1, y1]
          exact X_it hP ha y3 hq1 ⟨y6, y7⟩ hN (pu h5 g1)
        · rw [eT, hu, hv0] at hv
          exact absurd cl (lim_none.mp hv)
      · refine ⟨fun v hv => ?_, fun hv => ?_⟩
        · rw [eT, hu, hv0] at hv
          have hv' : lim (f x y) = some v := hv
          exact absurd (lim_some.mp hv').2 cl
        · obtain ⟨h5, g1, g2, g3, g4⟩ := E_push_f (d := d) (by omega) hP r3.1.1 (v := f x y) cl
          refine ⟨h5, ((q + (lenC U + lenC V + 1) : Nat) : Int), cnt2 + 1, ?_, PO_tr (PO_tr (PO_tr (PO_tr x2 y2) p2) r2) g2, g3, ⟨by rw [g4 2 (by decide) (by decide)]; exact r3.2.1.1, by rw [g4 3 (by decide) (by decide)]; exact r3.2.1.2.1, by rw [g4 4 (by decide) (by decide)]; exact r3.2.1.2.2⟩⟩
          rw [x1, y1, X_it hP ha y3 hq1 ⟨y6, y7⟩ hN (pu h5 g1), X_out hP ha g3]
/-- or, and -/
theorem ev_J {e : Nat → Int} {m : Int} (hm : m = 0 ∨ m = 1) (U V : Term) : ev e (mkJ m U V) = (ev e U).bind (fun x => if (x ≠ 0 ↔ m = 0) then some x else ev e V) := by
  rcases hm with rfl | rfl
  · cases h : ev e U with
    | none => simp [mkJ, ev, h]
    | some x => by_cases c : x = 0 <;> simp [mkJ, ev, h, c]
  · cases h : ev e U with
    | none => simp [mkJ, ev, h]
    | some x => by_cases c : x = 0 <;> simp [mkJ, ev, h, c]
theorem EX_op2 (hd : 10 ≤ d) (hP : PW w) (hS : sOk S) (hI : aI s) (ha : w.1 a = (50, (N : Int))) (h506 : 506 ≤ a) (hN : N ≤ 1000) {m : Int} (hm : m = 0 ∨ m = 1) {U V : Term} (hU : EX d w s S k o r c a N U) (hV : EX d w s S k o r c a N V) (bU : ∀ v, ev (wEnv s k r c) U = some v → (-2147483648 ≤ v ∧ v < 2147483648)) (lU : 1 ≤ lvs U) : EX d w s S k o r c a N (mkJ m U V) := by
  intro q dep cnt h hX hs hq hdep hc
  obtain ⟨z1, z2, z3, z4, z5, z6⟩ := mkJ_all hm U V
  rw [z4] at hs
  rw [z1] at hq ⊢
  rw [z3] at hdep
  rw [ev_J hm]
  obtain ⟨sa, sb⟩ := Seg_app.mp hs
  rw [compC_len] at sb
  obtain ⟨sj, sb⟩ := Seg_cons.mp sb
  obtain ⟨st, sb⟩ := Seg_cons.mp sb
  obtain ⟨u1, u2⟩ := hU q dep cnt h hX sa (by omega) (by omega) hc
  have w436 : (w.1 436).1 = 5 := by rw [hP.1]
  cases hu : ev (wEnv s k r c) U with
  | none => exact ⟨fun v hv => (by cases hv), fun _ => u2 hu⟩
  | some x =>
    obtain ⟨h1, cnt1, x1, x2, x3, x4, x5, x6, x7⟩ := u1 x hu
    have hx := bU x hu
    obtain ⟨d, rfl, hd2⟩ := mm_dS (show 9 + 1 ≤ d by omega)
    obtain ⟨h2, p1, p2, p3, p4⟩ := E_pop (d := d) (by omega) hP hS hI x3 (by omega)
    rw [x4] at p1
    have sop : h1 a ((q + lenC U : Nat) : Int) = if m = 0 then 7 else 8 := by rw [PO_a x2 h506]; exact sj
    have stt : h1 a ((q + lenC U + 1 : Nat) : Int) = ((q + lenC U + 2 + lenC V : Nat) : Int) := by rw [PO_a x2 h506]; exact st
    have hq1 : q + lenC U < N := by omega
    show (∀ v, (if (x ≠ 0 ↔ m = 0) then some x else ev (wEnv s k r c) V) = some v → _) ∧ ((if (x ≠ 0 ↔ m = 0) then some x else ev (wEnv s k r c) V) = none → _)
    by_cases cj : (x ≠ 0 ↔ m = 0)
    · rw [if_pos cj]
      refine ⟨fun v hv => ?_, fun hv => (by cases hv)⟩
      have e := (Option.some.inj hv).symm
      subst e
      obtain ⟨h3, g1, g2, g3, g4, g5⟩ := E_push (d := d) (by omega) hP hS hI p3 (by omega) (v := v) hx
      refine ⟨h3, cnt1 + 1, ?_, PO_tr (PO_tr x2 p2) g2, g3, g4, fun j hj => by rw [g5 j (by omega), p4, x5 j hj], by omega, by omega⟩
      rw [x1]
      refine X_it hP ha x3 hq1 ⟨x6, x7⟩ hN ?_
      rw [P_Pr_step, E_peek_t (by omega) ha (by omega) (by omega), mC_s, mI_id (x := ((q + lenC U : Nat) : Int) + 1) (by omega) (by omega), show ((q + lenC U : Nat) : Int) + 1 = ((q + lenC U + 1 : Nat) : Int) by omega, E_peek_t (by omega) ha (by omega) (by omega), mC_s, sop, stt]
      rcases hm with rfl | rfl
      · have hx0 : v ≠ 0 := cj.mpr rfl
        rw [if_pos rfl, mEq_f (by decide), mEq_f (by decide), mEq_f (by decide), mEq_f (by decide), mEq_f (by decide), mEq_f (by decide), mEq_t rfl, mF_t w436, p1, mC_s, mEq_f hx0, mEq_t rfl, mEq_t rfl, mF_t w436, g1, mC_s]
        rw [show q + (lenC U + lenC V + 2) = q + lenC U + 2 + lenC V by omega]
      · have hx0 : v = 0 := by
          rcases Classical.em (v = 0) with h | h
          · exact h
          · exact absurd (cj.mp h) (by decide)
        rw [if_neg (by decide), mEq_f (by decide), mEq_f (by decide), mEq_f (by decide), mEq_f (by decide), mEq_f (by decide), mEq_f (by decide), mEq_f (by decide), mEq_t rfl, mF_t w436, p1, mC_s, mEq_t hx0, mEq_f (by decide), mEq_t rfl, mF_t w436, g1, mC_s]
        rw [show q + (lenC U + lenC V + 2) = q + lenC U + 2 + lenC V by omega]
    · rw [if_neg cj]
      have stp : xL (d + 1) w S o r c a ((q + lenC U : Nat) : Int) cnt1 h1 = xL (d + 1) w S o r c a ((q + lenC U + 2 : Nat) : Int) (cnt1 + 1) h2 := by
        refine X_it hP ha x3 hq1 ⟨x6, x7⟩ hN ?_
        rw [P_Pr_step, E_peek_t (by omega) ha (by omega) (by omega), mC_s, mI_id (x := ((q + lenC U : Nat) : Int) + 1) (by omega) (by omega), show ((q + lenC U : Nat) : Int) + 1 = ((q + lenC U + 1 : Nat) : Int) by omega, E_peek_t (by omega) ha (by omega) (by omega), mC_s, sop, stt, mI_id (x := ((q + lenC U : Nat) : Int) + 2) (by omega) (by omega)]
        rcases hm with rfl | rfl
        · have hx0 : x = 0 := by
            rcases Classical.em (x = 0) with h | h
            · exact h
            · exact absurd ⟨fun _ => rfl, fun _ => h⟩ cj
          rw [if_pos rfl, mEq_f (by decide), mEq_f (by decide), mEq_f (by decide), mEq_f (by decide), mEq_f (by decide), mEq_f (by decide), mEq_t rfl, mF_t w436, p1, mC_s, mEq_t hx0, mEq_t rfl, mEq_f (by decide)]
          rw [show ((q + lenC U : Nat) : Int) + 2 = ((q + lenC U + 2 : Nat) : Int) by omega]
        · have hx0 : x ≠ 0 := fun h => cj ⟨fun q => absurd h q, fun q => absurd q (by decide)⟩
          rw [if_neg (by decide), mEq_f (by decide), mEq_f (by decide), mEq_f (by decide), mEq_f (by decide), mEq_f (by decide), mEq_f (by decide), mEq_f (by decide), mEq_t rfl, mF_t w436, p1, mC_s, mEq_f hx0, mEq_f (by decide), mEq_f (by decide)]
          rw [show ((q + lenC U : Nat) : Int) + 2 = ((q + lenC U + 2 : Nat) : Int) by omega]
      obtain ⟨v1, v2⟩ := hV (q + lenC U + 2) dep (cnt1 + 1) h2 p3 (fun i hi => by rw [PO_a p2 h506, PO_a x2 h506]; exact sb i hi) (by omega) (by omega) (by omega)
      refine ⟨fun v hv => ?_, fun hv => ?_⟩
      · obtain ⟨h3, cnt3, y1, y2, y3, y4, y5, y6, y7⟩ := v1 v hv
        refine ⟨h3, cnt3, ?_, PO_tr (PO_tr x2 p2) y2, y3, y4, fun j hj => by rw [y5 j hj, p4, x5 j hj], y6, by omega⟩
        rw [x1, stp, y1, show q + (lenC U + lenC V + 2) = q + lenC U + 2 + lenC V by omega]
      · obtain ⟨h3, q', cnt', y1, y2, y3⟩ := v2 hv
        exact ⟨h3, q', cnt', by rw [x1, stp, y1], PO_tr (PO_tr x2 p2) y2, y3⟩
end PU
