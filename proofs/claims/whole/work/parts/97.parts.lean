/-! PURE: sums and products are read on both sides. -/
/-- two numbers' term -/
def mkT (m c : Int) (a b : Term) : Term := if m = 5 then .mul a b else if c = 43 then .add a b else .sub a b
def opM (m c : Int) : Int := if m = 5 then 5 else if c = 43 then 3 else 4
def sgn (m c : Int) : Prop := (m = 5 ∧ c = 42) ∨ (m = 4 ∧ (c = 43 ∨ c = 45))
theorem mkT_all {m c : Int} (h : sgn m c) (a b : Term) : lenC (mkT m c a b) = lenC a + lenC b + 1 ∧ lenM (mkT m c a b) = lenM a + lenM b + 1 ∧ lvs (mkT m c a b) = lvs a + lvs b ∧ (∀ q, compC (mkT m c a b) q = compC a q ++ (compC b (q + lenC a) ++ [c])) ∧ (∀ q, compM (mkT m c a b) q = compM a q ++ (compM b (q + lenM a) ++ [opM m c])) ∧ (wfT true (mkT m c a b) ↔ wfT true a ∧ wfT true b) := by
  rcases h with ⟨rfl, rfl⟩ | ⟨rfl, rfl | rfl⟩
  · exact ⟨rfl, rfl, rfl, fun _ => rfl, fun _ => rfl, Iff.rfl⟩
  · exact ⟨rfl, rfl, rfl, fun _ => rfl, fun _ => rfl, Iff.rfl⟩
  · exact ⟨rfl, rfl, rfl, fun _ => rfl, fun _ => rfl, Iff.rfl⟩
noncomputable def LM (m : Int) (d : Nat) (w : mm_W) (h : mm_H) : Option (mm_R ⊕ mm_X) := if m = 5 then l_M_readsPart_0 (mm_P d) 483 w h else l_M_readsSum_0 (mm_P d) 483 w h
def exM (m : Int) : Nat := if m = 5 then 25 else 53
section PU
variable {d : Nat} {w : mm_W} {h : mm_H} {B : Int → Int} {n p : Int}
theorem E_reckons (hd : 1 ≤ d) {m k : Int} (hm : m = 4 ∨ m = 5) : mm_P d 7 [(0, m), (0, k)] w h = some ((0, bI (sgn m k)), w, h) := by
  obtain ⟨d, rfl, hd2⟩ := mm_dS hd; clear hd; have hd := hd2; clear hd2
  rw [P_Cr_reckons]
  unfold sgn
  simp only [mEq, mZ_0, mZ_1]
  repeat' split
  all_goals first | rfl | (rw [bI_t (by omega)]) | (rw [bI_f (by omega)])
/-- the class's loop: once more, and its end -/
theorem LC_it (hd : 6 ≤ d) (hW : CW w) {q : Nat} {m op cnt : Int} (hm : m = 4 ∨ m = 5) (hA : CA w h B n p q) (hs : sgn m (tK B n p)) (hc : 0 ≤ cnt ∧ cnt ≤ p) : ∃ h1, CO h h1 ∧ CA w h1 B n (tE B n p) q ∧ h1 464 = h 464 ∧ ∀ h2 h3, mm_P d 2 [(2, 463), (0, m + 1), (0, op)] w h1 = some ((9, 0), w, h2) → mm_P d 11 [(2, 463), (0, tK B n p)] w h2 = some ((9, 0), w, h3) → l_Cr_readReckoned_0 (mm_P d) 463 m op cnt w h = l_Cr_readReckoned_0 (mm_P d) 463 m op (cnt + 1) w h3 := by
  have hw : (w.1 463).1 = 1 := by rw [hW.2.1]
  have hw2 : (w.1 461).1 = 10 := by rw [hW.1.1]
  have hn := CA_n hA
  have k0 : tK B n p ≠ 0 := by unfold sgn at hs; omega
  have l2 := tE_lt hn.2.2 k0
  have l1 := tS_le (B := B) hn.2.2
  obtain ⟨h1, g1, g2, g3⟩ := E_adv (d := d) (by omega) hW.1 hA.2.1.2.2.1 hA.1
  obtain ⟨k1, k2, k3⟩ := CA_to hA g2 g3
  refine ⟨h1, k1, k2, k3, fun h2 h3 e1 e2 => ?_⟩
  rw [l_Cr_readReckoned_0_eq, mLe_f (by omega), mF_t hw, hA.2.1.1, mF_t hw2, CA_k hA, E_reckons (by omega) hm, mC_s, bI_t hs, mEq_f (by decide), mF_t hw, hA.2.1.1, mF_t hw2]
  try dsimp only
  rw [CA_k hA, mF_t hw, mF_t hw2, g1, mC_s, mF_t hw, mI_id (by omega) (by omega), e1, mC_s, mF_t hw, e2, mC_s]
  rw [mI_id (by omega) (by omega)]
theorem LC_end (hd : 1 ≤ d) (hW : CW w) {q : Nat} {m op cnt : Int} (hm : m = 4 ∨ m = 5) (hA : CA w h B n p q) (hs : ¬ sgn m (tK B n p)) : ∃ L, l_Cr_readReckoned_0 (mm_P d) 463 m op cnt w h = some (.inr (67, L, w, h)) := by
  have hw : (w.1 463).1 = 1 := by rw [hW.2.1]
  have hw2 : (w.1 461).1 = 10 := by rw [hW.1.1]
  rw [l_Cr_readReckoned_0_eq]
  by_cases c : 200 ≤ cnt
  · rw [mLe_t c]; exact ⟨_, rfl⟩
  · rw [mLe_f (by omega), mF_t hw, hA.2.1.1, mF_t hw2, CA_k hA, E_reckons (by omega) hm, mC_s, bI_f hs, mEq_t rfl]
    exact ⟨_, rfl⟩
theorem LC_endF (hd : 1 ≤ d) (hW : CW w) {f m op cnt : Int} (hm : m = 4 ∨ m = 5) (hA : CF w h B n f) : ∃ L, l_Cr_readReckoned_0 (mm_P d) 463 m op cnt w h = some (.inr (67, L, w, h)) := by
  have hw : (w.1 463).1 = 1 := by rw [hW.2.1]
  have hw2 : (w.1 461).1 = 10 := by rw [hW.1.1]
  rw [l_Cr_readReckoned_0_eq]
  by_cases c : 200 ≤ cnt
  · rw [mLe_t c]; exact ⟨_, rfl⟩
  · rw [mLe_f (by omega), mF_t hw, hA.2.1, mF_t hw2, hA.1.2.2.2, E_reckons (by omega) hm, mC_s, bI_f (by unfold sgn; omega), mEq_t rfl]
    exact ⟨_, rfl⟩
theorem LM_it (hd : 6 ≤ d) (hM : MW w) {q : Nat} {m op : Int} (hm : m = 4 ∨ m = 5) (hA : MA h B n p op q) (hs : sgn m (tK B n p)) : ∃ h1, Mq h h1 ∧ MA h1 B n (tE B n p) op q ∧ h1 491 = h 491 ∧ ∀ h2 h3, mm_P d (mId (m + 1)) [(2, 483)] w h1 = some ((9, 0), w, h2) → mm_P d 266 [(2, 483), (0, opM m (tK B n p))] w h2 = some ((9, 0), w, h3) → LM m d w h = LM m d w h3 := by
  have hw : (w.1 483).1 = 13 := by rw [hM.1]
  rcases hm with rfl | rfl
  · have hs' : tK B n p = 43 ∨ tK B n p = 45 := by unfold sgn at hs; omega
    obtain ⟨h1, g1, g2, g3⟩ := E_M_nextA (d := d) (by omega) hM hA.2.1.1 hA.1
    obtain ⟨k1, k2, k3⟩ := MA_mo hA g2 g3
    refine ⟨h1, k1, k2, k3, fun h2 h3 e1 e2 => ?_⟩
    have e1 : mm_P d 272 [(2, 483)] w h1 = some ((9, 0), w, h2) := e1
    show l_M_readsSum_0 (mm_P d) 483 w h = l_M_readsSum_0 (mm_P d) 483 w h3
    rw [l_M_readsSum_0_eq]
    simp only [mF_t hw]
    rcases hs' with c | c
    · rw [c] at e2
      rw [(MA_k hA (by decide)).mpr c, mEq_t rfl, g1, mC_s, mF_t hw, e1, mC_s, mEq_t rfl, mF_t hw]
      have e2 : mm_P d 266 [(2, 483), (0, 3)] w h2 = some ((9, 0), w, h3) := e2
      rw [e2, mC_s]
    · rw [c] at e2
      rw [(MA_k hA (by decide)).mpr c, mEq_f (by decide), mEq_t rfl, g1, mC_s, mF_t hw, e1, mC_s, mEq_f (by decide), mF_t hw]
      have e2 : mm_P d 266 [(2, 483), (0, 4)] w h2 = some ((9, 0), w, h3) := e2
      rw [e2, mC_s]
  · have hs' : tK B n p = 42 := by unfold sgn at hs; omega
    rcases E_M_takesSign (d := d) (by omega) hM hA.2.1.1 (c := 42) (by decide) hA.1 with ⟨_, h1, g1, g2, g3⟩ | ⟨c, _⟩
    rotate_left
    · exact absurd hs' c
    obtain ⟨k1, k2, k3⟩ := MA_mo hA g2 g3
    refine ⟨h1, k1, k2, k3, fun h2 h3 e1 e2 => ?_⟩
    have e1 : mm_P d 274 [(2, 483)] w h1 = some ((9, 0), w, h2) := e1
    have e2 : mm_P d 266 [(2, 483), (0, 5)] w h2 = some ((9, 0), w, h3) := e2
    show l_M_readsPart_0 (mm_P d) 483 w h = l_M_readsPart_0 (mm_P d) 483 w h3
    rw [l_M_readsPart_0_eq, mF_t hw, g1, mC_s, mEq_f (by decide), mF_t hw, e1, mC_s, mF_t hw, e2, mC_s]
theorem LM_end (hd : 4 ≤ d) (hM : MW w) {q : Nat} {m op : Int} (hm : m = 4 ∨ m = 5) (hA : MA h B n p op q) (hs : ¬ sgn m (tK B n p)) : ∃ L, LM m d w h = some (.inr (exM m, L, w, h)) := by
  have hw : (w.1 483).1 = 13 := by rw [hM.1]
  rcases hm with rfl | rfl
  · have hs' : tK B n p ≠ 43 ∧ tK B n p ≠ 45 := by unfold sgn at hs; omega
    refine ⟨[(2, 483), (9, 0)], ?_⟩
    show l_M_readsSum_0 (mm_P d) 483 w h = _
    rw [l_M_readsSum_0_eq, mF_t hw, mEq_f (fun x => hs'.1 ((MA_k hA (by decide)).mp x)), mF_t hw, mEq_f (fun x => hs'.2 ((MA_k hA (by decide)).mp x))]
    rfl
  · have hs' : tK B n p ≠ 42 := by unfold sgn at hs; omega
    refine ⟨[(2, 483)], ?_⟩
    rcases E_M_takesSign (d := d) (by omega) hM hA.2.1.1 (c := 42) (by decide) hA.1 with ⟨c, _⟩ | ⟨_, g1⟩
    · exact absurd c hs'
    show l_M_readsPart_0 (mm_P d) 483 w h = _
    rw [l_M_readsPart_0_eq, mF_t hw, g1, mC_s, mEq_t rfl]
    rfl
theorem LM_endF (hd : 4 ≤ d) (hM : MW w) {m f : Int} (hm : m = 4 ∨ m = 5) (hA : MG h B n f) : ∃ L, LM m d w h = some (.inr (exM m, L, w, h)) := by
  have hw : (w.1 483).1 = 13 := by rw [hM.1]
  rcases hm with rfl | rfl
  · refine ⟨[(2, 483), (9, 0)], ?_⟩
    show l_M_readsSum_0 (mm_P d) 483 w h = _
    rw [l_M_readsSum_0_eq, mF_t hw, hA.1.2.2.2.1, mEq_f (by decide), mF_t hw, mEq_f (by decide)]
    rfl
  · refine ⟨[(2, 483)], ?_⟩
    show l_M_readsPart_0 (mm_P d) 483 w h = _
    rw [l_M_readsPart_0_eq, mF_t hw, E_M_takesSignF (by omega) hM hA.1 (by decide), mC_s, mEq_t rfl]
    rfl
/-- what a loop makes of what was read -/
def LD (w : mm_W) (B : Int → Int) (n m op p0 p : Int) (T : Term) : Prop :=
  (∃ f, (∀ (d : Nat) (h : mm_H) (q : Nat) (cnt : Int), 40 * (5 - op) - 4 * m + 18 ≤ (d : Int) → CA w h B n p (q + lenC T) → Seg h 464 q (compC T q) → (q : Int) ≤ 2 * p0 → 0 ≤ cnt ∧ cnt ≤ p → ∃ h' L, l_Cr_readReckoned_0 (mm_P d) 463 m op cnt w h = some (.inr (67, L, w, h')) ∧ CO h h' ∧ CF w h' B n f) ∧
    ∀ w : mm_W, MW w → ∀ (d : Nat) (h : mm_H) (q : Nat), 40 * (5 - op) - 4 * m + 18 ≤ (d : Int) → MA h B n p op (q + lenM T) → Seg h 491 q (compM T q) → (q : Int) ≤ 2 * p0 → ∃ h' L, LM m d w h = some (.inr (exM m, L, w, h')) ∧ Mq h h' ∧ MG h' B n f) ∨
  ∃ (T' : Term) (p' : Int), OKT n p0 p' m T' ∧
    (∀ (d : Nat) (h : mm_H) (q : Nat) (cnt : Int), 40 * (5 - op) - 4 * m + 18 ≤ (d : Int) → CA w h B n p (q + lenC T) → Seg h 464 q (compC T q) → (q : Int) ≤ 2 * p0 → 0 ≤ cnt ∧ cnt ≤ p → ∃ h' L, l_Cr_readReckoned_0 (mm_P d) 463 m op cnt w h = some (.inr (67, L, w, h')) ∧ CO h h' ∧ CA w h' B n p' (q + lenC T') ∧ Seg h' 464 q (compC T' q) ∧ ∀ j : Int, j < q → h' 464 j = h 464 j) ∧
    ∀ w : mm_W, MW w → ∀ (d : Nat) (h : mm_H) (q : Nat), 40 * (5 - op) - 4 * m + 18 ≤ (d : Int) → MA h B n p op (q + lenM T) → Seg h 491 q (compM T q) → (q : Int) ≤ 2 * p0 → ∃ h' L, LM m d w h = some (.inr (exM m, L, w, h')) ∧ Mq h h' ∧ MA h' B n p' op (q + lenM T') ∧ Seg h' 491 q (compM T' q) ∧ ∀ j : Int, j < q → h' 491 j = h 491 j
theorem LD_all (hW : CW w) (hM : MW w) {m op p0 : Int} (hm : m = 4 ∨ m = 5) (ho : 0 ≤ op ∧ op ≤ 4) (hp0 : 0 ≤ p0) (ih : ∀ p' : Int, p0 < p' → p' ≤ n → RD w B n (m + 1) op p') : ∀ (k : Nat) (p : Int) (T : Term), n - p ≤ k → OKT n p0 p m T → LD w B n m op p0 p T := by
  intro k
  induction k with
  | zero =>
    intro p T hk ht
    have hs : ¬ sgn m (tK B n p) := by
      have e : p = n := by have := ht.2.1; omega
      rw [e, tS_end.2.2]
      unfold sgn; omega
    refine Or.inr ⟨T, p, ht, fun d h q cnt hd hA hsg hq hc => ?_, fun w hM d h q hd hA hsg hq => ?_⟩
    · obtain ⟨L, g⟩ := LC_end (d := d) (op := op) (cnt := cnt) (by omega) hW hm hA hs
      exact ⟨h, L, g, CO_rf h, hA, hsg, fun _ _ => rfl⟩
    · obtain ⟨L, g⟩ := LM_end (d := d) (by omega) hM hm hA hs
      exact ⟨h, L, g, Mq_rf h, hA, hsg, fun _ _ => rfl⟩
  | succ k ihk =>
    intro p T hk ht
    by_cases hs : sgn m (tK B n p)
    rotate_left
    · refine Or.inr ⟨T, p, ht, fun d h q cnt hd hA hsg hq hc => ?_, fun w hM d h q hd hA hsg hq => ?_⟩
      · obtain ⟨L, g⟩ := LC_end (d := d) (op := op) (cnt := cnt) (by omega) hW hm hA hs
        exact ⟨h, L, g, CO_rf h, hA, hsg, fun _ _ => rfl⟩
      · obtain ⟨L, g⟩ := LM_end (d := d) (by omega) hM hm hA hs
        exact ⟨h, L, g, Mq_rf h, hA, hsg, fun _ _ => rfl⟩
    have k0 : tK B n p ≠ 0 := by unfold sgn at hs; omega
    obtain ⟨t1, t2, t3, t4, t5, t6⟩ := ht
    have l2 := tE_lt t2 k0
    have l3 := tE_le (B := B) t2
    have l1 := tS_le (B := B) t2
    rcases ih (tE B n p) (by omega) l3.2.1 with ⟨f, i1, i2⟩ | ⟨U, p', ⟨u1, u2, u3, u4, u5, u6⟩, i1, i2⟩
    · refine Or.inl ⟨f, fun d h q cnt hd hA hsg hq hc => ?_, fun w hM d h q hd hA hsg hq => ?_⟩
      · obtain ⟨h1, a1, a2, a3, a4⟩ := LC_it (d := d) (op := op) (by omega) hW hm hA hs hc
        obtain ⟨h2, b1, b2, b3⟩ := i1 d h1 (q + lenC T) (by omega) a2 (by omega)
        obtain ⟨h3, c1, c2, c3⟩ := E_emitF (d := d) (by omega) hW b3 (tK B n p)
        obtain ⟨L, g⟩ := LC_endF (d := d) (op := op) (cnt := cnt + 1) (by omega) hW hm c3
        exact ⟨h3, L, by rw [a4 h2 h3 b1 c1, g], CO_tr (CO_tr a1 b2) c2, c3⟩
      · obtain ⟨h1, a1, a2, a3, a4⟩ := LM_it (d := d) (by omega) hM hm hA hs
        obtain ⟨h2, b1, b2, b3⟩ := i2 w hM d h1 (q + lenM T) (by omega) a2 (by omega)
        obtain ⟨L, g⟩ := LM_endF (d := d) (by omega) hM hm b3
        exact ⟨h2, L, by rw [a4 h2 h2 b1 (E_M_writesF (by omega) hM b3.1 _), g], Mq_tr a1 b2, b3⟩
    · obtain ⟨z1, z2, z3, z4, z5, z6⟩ := mkT_all hs T U
      have u3 : wfT true U := by
        have : decide (4 ≤ m + 1) = true := by simp; omega
        rw [this] at u3; exact u3
      have dm : decide (4 ≤ m) = true := by simp; omega
      rw [dm] at t3
      have ht' : OKT n p0 p' m (mkT m (tK B n p) T U) := ⟨by omega, u2, by rw [dm]; exact z6.mpr ⟨t3, u3⟩, by rw [z2]; omega, by rw [z1]; omega, by rw [z3]; omega⟩
      have stepC : ∀ (d : Nat) (h : mm_H) (q : Nat) (cnt : Int), 40 * (5 - op) - 4 * m + 18 ≤ (d : Int) → CA w h B n p (q + lenC T) → Seg h 464 q (compC T q) → (q : Int) ≤ 2 * p0 → 0 ≤ cnt ∧ cnt ≤ p → ∃ h3, l_Cr_readReckoned_0 (mm_P d) 463 m op cnt w h = l_Cr_readReckoned_0 (mm_P d) 463 m op (cnt + 1) w h3 ∧ CO h h3 ∧ CA w h3 B n p' (q + lenC (mkT m (tK B n p) T U)) ∧ Seg h3 464 q (compC (mkT m (tK B n p) T U) q) ∧ ∀ j : Int, j < q → h3 464 j = h 464 j := by
        intro d h q cnt hd hA hsg hq hc
        have hn := CA_n hA
        obtain ⟨h1, a1, a2, a3, a4⟩ := LC_it (d := d) (op := op) (by omega) hW hm hA hs hc
        obtain ⟨h2, b1, b2, b3, b4, b5⟩ := i1 d h1 (q + lenC T) (by omega) a2 (by omega)
        obtain ⟨h3, c1, c2, c3, c4, c5⟩ := E_emit (d := d) (by omega) hW b3 (by omega) (tK B n p)
        refine ⟨h3, a4 h2 h3 b1 c1, CO_tr (CO_tr a1 b2) c2, ?_, ?_, fun j hj => by rw [c5 j (by omega), b5 j (by omega), a3]⟩
        · rw [z1, show q + (lenC T + lenC U + 1) = q + lenC T + lenC U + 1 by omega]; exact c3
        · have lT := compC_len T q
          have lU := compC_len U (q + lenC T)
          rw [z4]
          refine Seg_app.mpr ⟨Seg_fr hsg (e := ((q + lenC T : Nat) : Int)) (by omega) (fun j _ hj => by rw [c5 j (by omega), b5 j (by omega), a3]), Seg_app.mpr ⟨?_, Seg_cons.mpr ⟨by rw [lT, lU]; exact c4, Seg_nil⟩⟩⟩
          rw [lT]
          exact Seg_fr b4 (e := ((q + lenC T + lenC U : Nat) : Int)) (by omega) (fun j _ hj => c5 j (by omega))
      have stepM : ∀ w : mm_W, MW w → ∀ (d : Nat) (h : mm_H) (q : Nat), 40 * (5 - op) - 4 * m + 18 ≤ (d : Int) → MA h B n p op (q + lenM T) → Seg h 491 q (compM T q) → (q : Int) ≤ 2 * p0 → ∃ h3, LM m d w h = LM m d w h3 ∧ Mq h h3 ∧ MA h3 B n p' op (q + lenM (mkT m (tK B n p) T U)) ∧ Seg h3 491 q (compM (mkT m (tK B n p) T U) q) ∧ ∀ j : Int, j < q → h3 491 j = h 491 j := by
        intro w hM d h q hd hA hsg hq
        have hn := MA_n hA
        obtain ⟨h1, a1, a2, a3, a4⟩ := LM_it (d := d) (by omega) hM hm hA hs
        obtain ⟨h2, b1, b2, b3, b4, b5⟩ := i2 w hM d h1 (q + lenM T) (by omega) a2 (by omega)
        obtain ⟨h3, c1, c2, c3, c4, c5⟩ := E_M_wr (d := d) (by omega) hM b3 (by omega) (opM m (tK B n p))
        refine ⟨h3, a4 h2 h3 b1 c1, Mq_tr (Mq_tr a1 b2) c2, ?_, ?_, fun j hj => by rw [c5 j (by omega), b5 j (by omega), a3]⟩
        · rw [z2, show q + (lenM T + lenM U + 1) = q + lenM T + lenM U + 1 by omega]; exact c3
        · have lT := compM_len T q
          have lU := compM_len U (q + lenM T)
          rw [z5]
          refine Seg_app.mpr ⟨Seg_fr hsg (e := ((q + lenM T : Nat) : Int)) (by omega) (fun j _ hj => by rw [c5 j (by omega), b5 j (by omega), a3]), Seg_app.mpr ⟨?_, Seg_cons.mpr ⟨by rw [lT, lU]; exact c4, Seg_nil⟩⟩⟩
          rw [lT]
          exact Seg_fr b4 (e := ((q + lenM T + lenM U : Nat) : Int)) (by omega) (fun j _ hj => c5 j (by omega))
      rcases ihk p' (mkT m (tK B n p) T U) (by omega) ht' with ⟨f, j1, j2⟩ | ⟨T', p2, ht2, j1, j2⟩
      · refine Or.inl ⟨f, fun d h q cnt hd hA hsg hq hc => ?_, fun w hM d h q hd hA hsg hq => ?_⟩
        · obtain ⟨h3, a1, a2, a3, a4, a5⟩ := stepC d h q cnt hd hA hsg hq hc
          obtain ⟨h4, L, g1, g2, g3⟩ := j1 d h3 q (cnt + 1) hd a3 a4 hq (by omega)
          exact ⟨h4, L, by rw [a1, g1], CO_tr a2 g2, g3⟩
        · obtain ⟨h3, a1, a2, a3, a4, a5⟩ := stepM w hM d h q hd hA hsg hq
          obtain ⟨h4, L, g1, g2, g3⟩ := j2 w hM d h3 q hd a3 a4 hq
          exact ⟨h4, L, by rw [a1, g1], Mq_tr a2 g2, g3⟩
      · refine Or.inr ⟨T', p2, ht2, fun d h q cnt hd hA hsg hq hc => ?_, fun w hM d h q hd hA hsg hq => ?_⟩
        · obtain ⟨h3, a1, a2, a3, a4, a5⟩ := stepC d h q cnt hd hA hsg hq hc
          obtain ⟨h4, L, g1, g2, g3, g4, g5⟩ := j1 d h3 q (cnt + 1) hd a3 a4 hq (by omega)
          exact ⟨h4, L, by rw [a1, g1], CO_tr a2 g2, g3, g4, fun j hj => by rw [g5 j hj, a5 j hj]⟩
        · obtain ⟨h3, a1, a2, a3, a4, a5⟩ := stepM w hM d h q hd hA hsg hq
          obtain ⟨h4, L, g1, g2, g3, g4, g5⟩ := j2 w hM d h3 q hd a3 a4 hq
          exact ⟨h4, L, by rw [a1, g1], Mq_tr a2 g2, g3, g4, fun j hj => by rw [g5 j hj, a5 j hj]⟩
theorem OKT_up {n p p' m : Int} {T : Term} (h : OKT n p p' (m + 1) T) (hm : m = 4 ∨ m = 5 ∨ m = 0 ∨ m = 1) : OKT n p p' m T := by
  obtain ⟨t1, t2, t3, t4⟩ := h
  have e : decide (4 ≤ m + 1) = decide (4 ≤ m) := by
    rcases hm with rfl | rfl | rfl | rfl <;> rfl
  exact ⟨t1, t2, by rw [← e]; exact t3, t4⟩
theorem RD_45 (hW : CW w) (hM : MW w) {m op : Int} (hm : m = 4 ∨ m = 5) (ho : 0 ≤ op ∧ op ≤ 4) (hp : 0 ≤ p ∧ p ≤ n) (h6 : RD w B n (m + 1) op p) (ih : ∀ p' : Int, p < p' → p' ≤ n → RD w B n (m + 1) op p') : RD w B n m op p := by
  have runM : ∀ w : mm_W, MW w → ∀ (d : Nat) (h h1 h' : mm_H) (L : List mm_V), mm_P d (mId (m + 1)) [(2, 483)] w h = some ((9, 0), w, h1) → LM m d w h1 = some (.inr (exM m, L, w, h')) → mm_P (d + 1) (mId m) [(2, 483)] w h = some ((9, 0), w, h') := by
    intro w hM d h h1 h' L e1 e2
    have hw : (w.1 483).1 = 13 := by rw [hM.1]
    rcases hm with rfl | rfl
    · have e1 : mm_P d 272 [(2, 483)] w h = some ((9, 0), w, h1) := e1
      have e2 : l_M_readsSum_0 (mm_P d) 483 w h1 = some (.inr (53, L, w, h')) := e2
      show mm_P (d + 1) 271 [(2, 483)] w h = _
      rw [P_M_readsSum, mF_t hw, e1, mC_s, e2, mK_r, if_pos rfl]
    · have e1 : mm_P d 274 [(2, 483)] w h = some ((9, 0), w, h1) := e1
      have e2 : l_M_readsPart_0 (mm_P d) 483 w h1 = some (.inr (25, L, w, h')) := e2
      show mm_P (d + 1) 272 [(2, 483)] w h = _
      rw [P_M_readsPart, mF_t hw, e1, mC_s, e2, mK_r, if_pos rfl]
  have runC : ∀ (d : Nat) (h h1 h' : mm_H) (L : List mm_V), mm_P d 2 [(2, 463), (0, m + 1), (0, op)] w h = some ((9, 0), w, h1) → l_Cr_readReckoned_0 (mm_P d) 463 m op 0 w h1 = some (.inr (67, L, w, h')) → mm_P (d + 1 + 1) 2 [(2, 463), (0, m), (0, op)] w h = some ((9, 0), w, h') := by
    intro d h h1 h' L e1 e2
    have hw : (w.1 463).1 = 1 := by rw [hW.2.1]
    refine C_l45 hW hm ?_
    rw [P_Cr_readReckoned, mF_t hw, mI_id (by omega) (by omega), e1, mC_s, e2, mK_r, if_pos rfl]
  rcases h6 with ⟨f, i1, i2⟩ | ⟨T, p', ht, i1, i2⟩
  · refine Or.inl ⟨f, fun d h q hd hA hq => ?_, fun w hM d h q hd hA hq => ?_⟩
    · obtain ⟨d, rfl, hd2⟩ := mm_dS (show 35 + 1 ≤ d by omega)
      obtain ⟨d, rfl, hd3⟩ := mm_dS (show 34 + 1 ≤ d by omega)
      obtain ⟨h1, a1, a2, a3⟩ := i1 d h q (by omega) hA hq
      obtain ⟨L, g⟩ := LC_endF (d := d) (op := op) (cnt := 0) (by omega) hW hm a3
      exact ⟨h1, runC d h h1 h1 L a1 g, a2, a3⟩
    · obtain ⟨d, rfl, hd2⟩ := mm_dS (show 35 + 1 ≤ d by omega)
      obtain ⟨h1, a1, a2, a3⟩ := i2 w hM d h q (by omega) hA hq
      obtain ⟨L, g⟩ := LM_endF (d := d) (by omega) hM hm a3
      exact ⟨h1, runM w hM d h h1 h1 L a1 g, a2, a3⟩
  · have ht0 := OKT_up ht (by omega)
    rcases LD_all hW hM hm ho hp.1 ih (n - p').toNat p' T (by omega) ht0 with ⟨f, j1, j2⟩ | ⟨T', p2, ht2, j1, j2⟩
    · refine Or.inl ⟨f, fun d h q hd hA hq => ?_, fun w hM d h q hd hA hq => ?_⟩
      · obtain ⟨d, rfl, hd2⟩ := mm_dS (show 35 + 1 ≤ d by omega)
        obtain ⟨d, rfl, hd3⟩ := mm_dS (show 34 + 1 ≤ d by omega)
        obtain ⟨h1, a1, a2, a3, a4, a5⟩ := i1 d h q (by omega) hA hq
        obtain ⟨h2, L, g1, g2, g3⟩ := j1 d h1 q 0 (by omega) a3 a4 hq ⟨Int.le_refl _, by have := ht.1; omega⟩
        exact ⟨h2, runC d h h1 h2 L a1 g1, CO_tr a2 g2, g3⟩
      · obtain ⟨d, rfl, hd2⟩ := mm_dS (show 35 + 1 ≤ d by omega)
        obtain ⟨h1, a1, a2, a3, a4, a5⟩ := i2 w hM d h q (by omega) hA hq
        obtain ⟨h2, L, g1, g2, g3⟩ := j2 w hM d h1 q (by omega) a3 a4 hq
        exact ⟨h2, runM w hM d h h1 h2 L a1 g1, Mq_tr a2 g2, g3⟩
    · refine Or.inr ⟨T', p2, ht2, fun d h q hd hA hq => ?_, fun w hM d h q hd hA hq => ?_⟩
      · obtain ⟨d, rfl, hd2⟩ := mm_dS (show 35 + 1 ≤ d by omega)
        obtain ⟨d, rfl, hd3⟩ := mm_dS (show 34 + 1 ≤ d by omega)
        obtain ⟨h1, a1, a2, a3, a4, a5⟩ := i1 d h q (by omega) hA hq
        obtain ⟨h2, L, g1, g2, g3, g4, g5⟩ := j1 d h1 q 0 (by omega) a3 a4 hq ⟨Int.le_refl _, by have := ht.1; omega⟩
        exact ⟨h2, runC d h h1 h2 L a1 g1, CO_tr a2 g2, g3, g4, fun j hj => by rw [g5 j hj, a5 j hj]⟩
      · obtain ⟨d, rfl, hd2⟩ := mm_dS (show 35 + 1 ≤ d by omega)
        obtain ⟨h1, a1, a2, a3, a4, a5⟩ := i2 w hM d h q (by omega) hA hq
        obtain ⟨h2, L, g1, g2, g3, g4, g5⟩ := j2 w hM d h1 q (by omega) a3 a4 hq
        exact ⟨h2, runM w hM d h h1 h2 L a1 g1, Mq_tr a2 g2, g3, g4, fun j hj => by rw [g5 j hj, a5 j hj]⟩
end PU
