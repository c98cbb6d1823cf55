/-! PURE: or, and are read on both sides. -/
def mkJ (m : Int) (a b : Term) : Term := .op2 (if m = 0 then .ior else .iand) a b
def jwA (m : Int) : Int := if m = 0 then -12 else -14
def jwL (m : Int) : List Int := if m = 0 then [111, 114] else [97, 110, 100]
theorem mkJ_all {m : Int} (hm : m = 0 ∨ m = 1) (a b : Term) : lenC (mkJ m a b) = lenC a + lenC b + 2 ∧ lenM (mkJ m a b) = lenM a + lenM b + 2 ∧ lvs (mkJ m a b) = lvs a + lvs b ∧ (∀ q : Nat, compC (mkJ m a b) q = compC a q ++ ((if m = 0 then 7 else 8) :: ((q + lenC a + 2 + lenC b : Nat) : Int) :: compC b (q + lenC a + 2))) ∧ (∀ q : Nat, compM (mkJ m a b) q = compM a q ++ ((if m = 0 then 11 else 12) :: ((q + lenM a + 2 + lenM b : Nat) : Int) :: compM b (q + lenM a + 2))) ∧ (wfT false (mkJ m a b) ↔ wfT false a ∧ wfT false b) := by
  rcases hm with rfl | rfl
  · exact ⟨rfl, rfl, rfl, fun _ => rfl, fun _ => rfl, ⟨fun x => x.2, fun x => ⟨Or.inl rfl, x⟩⟩⟩
  · exact ⟨rfl, rfl, rfl, fun _ => rfl, fun _ => rfl, ⟨fun x => x.2, fun x => ⟨Or.inr rfl, x⟩⟩⟩
noncomputable def LJ (m : Int) (d : Nat) (w : mm_W) (h : mm_H) : Option (mm_R ⊕ mm_X) := if m = 0 then l_M_readsCondition_0 (mm_P d) 483 w h else l_M_readsAll_0 (mm_P d) 483 w h
section PU
variable {d : Nat} {w : mm_W} {h : mm_H} {B : Int → Int} {n p : Int}
theorem jw_str {m : Int} (hm : m = 0 ∨ m = 1) (hS : SW w h) : StrAt w h (jwA m) (jwL m) ∧ 0 < (jwL m).length := by
  rcases hm with rfl | rfl
  · exact ⟨hS.2.1, by decide⟩
  · exact ⟨hS.2.2.1, by decide⟩
theorem jw_num {m : Int} (hm : m = 0 ∨ m = 1) : wNum (jwL m) (if m = 0 then 498 else 1476) := by
  rcases hm with rfl | rfl
  · exact wN_or
  · exact wN_and
theorem jw_ne {m : Int} (hm : m = 0 ∨ m = 1) : jwL m ≠ [] := by
  rcases hm with rfl | rfl <;> decide
theorem JC_it (hd : 6 ≤ d) (hW : CW w) {q : Nat} {m op cnt : Int} (hm : m = 0 ∨ m = 1) (hA : CA w h B n p q) (hs : tWd B n p = jwL m) (hc : 0 ≤ cnt ∧ cnt ≤ p) : ∃ h1, CO h h1 ∧ CA w h1 B n (tE B n p) q ∧ h1 464 = h 464 ∧ ∀ h2 h3 h4 J, mm_P d 12 [(2, 463), (0, if m = 0 then 7 else 8), (0, 0)] w h1 = some ((0, J), w, h2) → mm_P d 2 [(2, 463), (0, m + 1), (0, op)] w h2 = some ((9, 0), w, h3) → h3 463 1 = 464 → mm_P d 200 [(2, 464), (0, J), (0, h3 463 2)] w h3 = some ((9, 0), w, h4) → l_Cr_readJoined_0 (mm_P d) 463 m op (jwA m) cnt w h = l_Cr_readJoined_0 (mm_P d) 463 m op (jwA m) (cnt + 1) w h4 := by
  have hw : (w.1 463).1 = 1 := by rw [hW.2.1]
  have hw2 : (w.1 461).1 = 10 := by rw [hW.1.1]
  have hn := CA_n hA
  have k1 := tWd_k hs (jw_ne hm)
  have l2 := tE_lt hn.2.2 (show tK B n p ≠ 0 by omega)
  have l1 := tS_le (B := B) hn.2.2
  obtain ⟨s1, s2⟩ := jw_str hm hA.2.1.2.2
  rcases E_takesWord (d := d) hd hW.1 hA.2.1.2.2.1 s1 s2 hA.1 with ⟨_, h1, g1, g2, g3⟩ | ⟨c, _⟩
  rotate_left
  · exact absurd hs c
  obtain ⟨k1, k2, k3⟩ := CA_to hA g2 g3
  refine ⟨h1, k1, k2, k3, fun h2 h3 h4 J e1 e2 e0 e3 => ?_⟩
  rw [l_Cr_readJoined_0_eq, mLe_f (by omega), mF_t hw, hA.2.1.1, mF_t hw2, g1, mC_s, mEq_f (by decide)]
  rcases hm with rfl | rfl
  · have e1 : mm_P d 12 [(2, 463), (0, 7), (0, 0)] w h1 = some ((0, J), w, h2) := e1
    rw [mEq_t rfl, mF_t hw, e1, mC_s, mF_t hw, mI_id (by omega) (by omega), e2, mC_s, mF_t hw, mF_t hw, e0, e3, mC_s]
    try dsimp only
    rw [mI_id (by omega) (by omega)]
  · have e1 : mm_P d 12 [(2, 463), (0, 8), (0, 0)] w h1 = some ((0, J), w, h2) := e1
    rw [mEq_f (by decide), mF_t hw, e1, mC_s, mF_t hw, mI_id (by omega) (by omega), e2, mC_s, mF_t hw, mF_t hw, e0, e3, mC_s]
    try dsimp only
    rw [mI_id (by omega) (by omega)]
theorem JC_end (hd : 6 ≤ d) (hW : CW w) {q : Nat} {m op cnt : Int} (hm : m = 0 ∨ m = 1) (hA : CA w h B n p q) (hs : tWd B n p ≠ jwL m) : ∃ L, l_Cr_readJoined_0 (mm_P d) 463 m op (jwA m) cnt w h = some (.inr (87, L, w, h)) := by
  have hw : (w.1 463).1 = 1 := by rw [hW.2.1]
  have hw2 : (w.1 461).1 = 10 := by rw [hW.1.1]
  rw [l_Cr_readJoined_0_eq]
  by_cases c : 200 ≤ cnt
  · rw [mLe_t c]; exact ⟨_, rfl⟩
  · obtain ⟨s1, s2⟩ := jw_str hm hA.2.1.2.2
    rcases E_takesWord (d := d) hd hW.1 hA.2.1.2.2.1 s1 s2 hA.1 with ⟨c, _⟩ | ⟨_, g1⟩
    · exact absurd c hs
    rw [mLe_f (by omega), mF_t hw, hA.2.1.1, mF_t hw2, g1, mC_s, mEq_t rfl]
    exact ⟨_, rfl⟩
theorem JC_endF (hd : 6 ≤ d) (hW : CW w) {f m op cnt : Int} (hm : m = 0 ∨ m = 1) (hA : CF w h B n f) : ∃ L, l_Cr_readJoined_0 (mm_P d) 463 m op (jwA m) cnt w h = some (.inr (87, L, w, h)) := by
  have hw : (w.1 463).1 = 1 := by rw [hW.2.1]
  have hw2 : (w.1 461).1 = 10 := by rw [hW.1.1]
  rw [l_Cr_readJoined_0_eq]
  by_cases c : 200 ≤ cnt
  · rw [mLe_t c]; exact ⟨_, rfl⟩
  · obtain ⟨s1, s2⟩ := jw_str hm hA.2.2.2
    rw [mLe_f (by omega), mF_t hw, hA.2.1, mF_t hw2, E_takesWord_f hd hW.1 s1 hA.1, mC_s, mEq_t rfl]
    exact ⟨_, rfl⟩
theorem JM_it (hd : 6 ≤ d) (hM : MW w) {q : Nat} {m op : Int} (hm : m = 0 ∨ m = 1) (hA : MA h B n p op q) (hs : tWd B n p = jwL m) : ∃ h1, Mq h h1 ∧ MA h1 B n (tE B n p) op q ∧ h1 491 = h 491 ∧ ∀ h2 h3 h4 (x : Int), mm_P d 266 [(2, 483), (0, if m = 0 then 11 else 12)] w h1 = some ((9, 0), w, h2) → h2 483 22 = x → 0 ≤ x → x < 400 → mm_P d 266 [(2, 483), (0, 0)] w h2 = some ((9, 0), w, h3) → mm_P d (mId (m + 1)) [(2, 483)] w h3 = some ((9, 0), w, h4) → h4 483 21 = 491 → LJ m d w h = LJ m d w (mUp h4 491 x (h4 483 22)) := by
  have hw : (w.1 483).1 = 13 := by rw [hM.1]
  rcases E_M_takesWord (d := d) (by omega) hM hA.2.1.1 (jw_num hm) hA.1 with ⟨_, h1, g1, g2, g3⟩ | ⟨c, _⟩
  rotate_left
  · exact absurd hs c
  obtain ⟨k1, k2, k3⟩ := MA_mo hA g2 g3
  refine ⟨h1, k1, k2, k3, fun h2 h3 h4 x e1 ex x0 x1 e2 e3 e4 => ?_⟩
  rcases hm with rfl | rfl
  · have g1 : mm_P d 262 [(2, 483), (1, 498)] w h = some ((0, 1), w, h1) := g1
    have e1 : mm_P d 266 [(2, 483), (0, 11)] w h1 = some ((9, 0), w, h2) := e1
    have e3 : mm_P d 269 [(2, 483)] w h3 = some ((9, 0), w, h4) := e3
    show l_M_readsCondition_0 (mm_P d) 483 w h = l_M_readsCondition_0 (mm_P d) 483 w _
    rw [l_M_readsCondition_0_eq, mF_t hw, g1, mC_s, mEq_f (by decide), mF_t hw, e1, mC_s, mF_t hw]
    try dsimp only
    rw [mF_t hw, e2, mC_s, mF_t hw, e3, mC_s, mF_t hw, mF_t hw, e4, ex, mAw_t (MW_491 hM) x0 x1 (by decide)]
  · have g1 : mm_P d 262 [(2, 483), (1, 1476)] w h = some ((0, 1), w, h1) := g1
    have e1 : mm_P d 266 [(2, 483), (0, 12)] w h1 = some ((9, 0), w, h2) := e1
    have e3 : mm_P d 270 [(2, 483)] w h3 = some ((9, 0), w, h4) := e3
    show l_M_readsAll_0 (mm_P d) 483 w h = l_M_readsAll_0 (mm_P d) 483 w _
    rw [l_M_readsAll_0_eq, mF_t hw, g1, mC_s, mEq_f (by decide), mF_t hw, e1, mC_s, mF_t hw]
    try dsimp only
    rw [mF_t hw, e2, mC_s, mF_t hw, e3, mC_s, mF_t hw, mF_t hw, e4, ex, mAw_t (MW_491 hM) x0 x1 (by decide)]
theorem JM_end (hd : 4 ≤ d) (hM : MW w) {q : Nat} {m op : Int} (hm : m = 0 ∨ m = 1) (hA : MA h B n p op q) (hs : tWd B n p ≠ jwL m) : ∃ L, LJ m d w h = some (.inr (47, L, w, h)) := by
  have hw : (w.1 483).1 = 13 := by rw [hM.1]
  rcases E_M_takesWord (d := d) (by omega) hM hA.2.1.1 (jw_num hm) hA.1 with ⟨c, _⟩ | ⟨_, g1⟩
  · exact absurd c hs
  rcases hm with rfl | rfl
  · have g1 : mm_P d 262 [(2, 483), (1, 498)] w h = some ((0, 0), w, h) := g1
    refine ⟨[(2, 483), (9, 0)], ?_⟩
    show l_M_readsCondition_0 (mm_P d) 483 w h = _
    rw [l_M_readsCondition_0_eq, mF_t hw, g1, mC_s, mEq_t rfl]
  · have g1 : mm_P d 262 [(2, 483), (1, 1476)] w h = some ((0, 0), w, h) := g1
    refine ⟨[(2, 483), (9, 0)], ?_⟩
    show l_M_readsAll_0 (mm_P d) 483 w h = _
    rw [l_M_readsAll_0_eq, mF_t hw, g1, mC_s, mEq_t rfl]
theorem JM_endF (hd : 4 ≤ d) (hM : MW w) {m f : Int} (hm : m = 0 ∨ m = 1) (hA : MG h B n f) : ∃ L, LJ m d w h = some (.inr (47, L, w, h)) := by
  have hw : (w.1 483).1 = 13 := by rw [hM.1]
  rcases hm with rfl | rfl
  · refine ⟨[(2, 483), (9, 0)], ?_⟩
    show l_M_readsCondition_0 (mm_P d) 483 w h = _
    rw [l_M_readsCondition_0_eq, mF_t hw, E_M_takesWordF (by omega) hM hA.1, mC_s, mEq_t rfl]
  · refine ⟨[(2, 483), (9, 0)], ?_⟩
    show l_M_readsAll_0 (mm_P d) 483 w h = _
    rw [l_M_readsAll_0_eq, mF_t hw, E_M_takesWordF (by omega) hM hA.1, mC_s, mEq_t rfl]
/-- the class's poke at a jump, wherever -/
theorem CA_poke {h' : mm_H} {q : Nat} (hA : CA w h B n p q) (e : ∀ b : Int, b ≠ 464 → h' b = h b) : CO h h' ∧ CA w h' B n p q := by
  have o : CO h h' := ⟨fun b _ _ b3 => e b b3, ⟨by rw [e 461 (by decide)], by rw [e 461 (by decide)]⟩, by rw [e 463 (by decide)], by rw [e 463 (by decide)]⟩
  exact ⟨o, TA_fr hA.1 (e 461 (by decide)) (e 462 (by decide)), CO_CH o hA.2.1, by rw [e 463 (by decide)]; exact hA.2.2⟩
theorem CF_poke {h' : mm_H} {f : Int} (hA : CF w h B n f) (e : ∀ b : Int, b ≠ 464 → h' b = h b) : CO h h' ∧ CF w h' B n f := by
  have o : CO h h' := ⟨fun b _ _ b3 => e b b3, ⟨by rw [e 461 (by decide)], by rw [e 461 (by decide)]⟩, by rw [e 463 (by decide)], by rw [e 463 (by decide)]⟩
  exact ⟨o, TF_fr hA.1 (e 461 (by decide)) (e 462 (by decide)), CO_CH o hA.2⟩
theorem MA_poke {op : Int} {q : Nat} (hA : MA h B n p op q) (x z : Int) : Mq h (mUp h 491 x z) ∧ MA (mUp h 491 x z) B n p op q := by
  have e : ∀ b : Int, b ≠ 491 → mUp h 491 x z b = h b := fun b hb => mUp_row hb
  have q1 : Mq h (mUp h 491 x z) := ⟨fun b _ b2 => e b b2, fun i _ => by rw [e 483 (by decide)]⟩
  obtain ⟨⟨a1, a2, a3, a4, a5, a6, a7⟩, m1, m2, m3⟩ := hA
  have e3 := e 483 (by decide)
  exact ⟨q1, ⟨Mq_MB q1 a1, by rw [e3]; exact a2, by rw [e3]; exact a3, by rw [e3]; exact a4, by rw [e3]; exact a5, by rw [e3]; exact a6, a7⟩, ⟨Mq_MH q1 m1.1, mNam_fr m1.2 (e 492 (by decide))⟩, by rw [e3]; exact m2, by rw [e3]; exact m3⟩
def LK (w : mm_W) (B : Int → Int) (n m op p0 p : Int) (T : Term) : Prop :=
  (∃ f, (∀ (d : Nat) (h : mm_H) (q : Nat) (cnt : Int), 40 * (5 - op) - 4 * m + 18 ≤ (d : Int) → CA w h B n p (q + lenC T) → Seg h 464 q (compC T q) → (q : Int) ≤ 2 * p0 → 0 ≤ cnt ∧ cnt ≤ p → ∃ h' L, l_Cr_readJoined_0 (mm_P d) 463 m op (jwA m) cnt w h = some (.inr (87, L, w, h')) ∧ CO h h' ∧ CF w h' B n f) ∧
    ∀ w : mm_W, MW w → ∀ (d : Nat) (h : mm_H) (q : Nat), 40 * (5 - op) - 4 * m + 18 ≤ (d : Int) → MA h B n p op (q + lenM T) → Seg h 491 q (compM T q) → (q : Int) ≤ 2 * p0 → ∃ h' L, LJ m d w h = some (.inr (47, L, w, h')) ∧ Mq h h' ∧ MG h' B n f) ∨
  ∃ (T' : Term) (p' : Int), OKT n p0 p' m T' ∧
    (∀ (d : Nat) (h : mm_H) (q : Nat) (cnt : Int), 40 * (5 - op) - 4 * m + 18 ≤ (d : Int) → CA w h B n p (q + lenC T) → Seg h 464 q (compC T q) → (q : Int) ≤ 2 * p0 → 0 ≤ cnt ∧ cnt ≤ p → ∃ h' L, l_Cr_readJoined_0 (mm_P d) 463 m op (jwA m) cnt w h = some (.inr (87, L, w, h')) ∧ CO h h' ∧ CA w h' B n p' (q + lenC T') ∧ Seg h' 464 q (compC T' q) ∧ ∀ j : Int, j < q → h' 464 j = h 464 j) ∧
    ∀ w : mm_W, MW w → ∀ (d : Nat) (h : mm_H) (q : Nat), 40 * (5 - op) - 4 * m + 18 ≤ (d : Int) → MA h B n p op (q + lenM T) → Seg h 491 q (compM T q) → (q : Int) ≤ 2 * p0 → ∃ h' L, LJ m d w h = some (.inr (47, L, w, h')) ∧ Mq h h' ∧ MA h' B n p' op (q + lenM T') ∧ Seg h' 491 q (compM T' q) ∧ ∀ j : Int, j < q → h' 491 j = h 491 j
theorem LK_all (hW : CW w) (hM : MW w) {m op p0 : Int} (hm : m = 0 ∨ m = 1) (ho : 0 ≤ op ∧ op ≤ 4) (hp0 : 0 ≤ p0) (ih : ∀ p' : Int, p0 < p' → p' ≤ n → RD w B n (m + 1) op p') : ∀ (k : Nat) (p : Int) (T : Term), n - p ≤ k → OKT n p0 p m T → LK w B n m op p0 p T := by
  intro k
  have done : ∀ (p : Int) (T : Term), OKT n p0 p m T → tWd B n p ≠ jwL m → LK w B n m op p0 p T := by
    intro p T ht hs
    refine Or.inr ⟨T, p, ht, fun d h q cnt hd hA hsg hq hc => ?_, fun w hM d h q hd hA hsg hq => ?_⟩
    · obtain ⟨L, g⟩ := JC_end (d := d) (op := op) (cnt := cnt) (by omega) hW hm hA hs
      exact ⟨h, L, g, CO_rf h, hA, hsg, fun _ _ => rfl⟩
    · obtain ⟨L, g⟩ := JM_end (d := d) (by omega) hM hm hA hs
      exact ⟨h, L, g, Mq_rf h, hA, hsg, fun _ _ => rfl⟩
  induction k with
  | zero =>
    intro p T hk ht
    refine done p T ht (fun hs => ?_)
    have e : p = n := by have := ht.2.1; omega
    have k1 := tWd_k hs (jw_ne hm)
    rw [e, tS_end.2.2] at k1
    omega
  | succ k ihk =>
    intro p T hk ht
    by_cases hs : tWd B n p = jwL m
    rotate_left
    · exact done p T ht hs
    have k1 := tWd_k hs (jw_ne hm)
    have ht0 := ht
    obtain ⟨t1, t2, t3, t4, t5, t6⟩ := ht
    have l2 := tE_lt t2 (show tK B n p ≠ 0 by omega)
    have l3 := tE_le (B := B) t2
    have l1 := tS_le (B := B) t2
    have hi464 : ∀ (d : Nat) (h : mm_H) (J v : Int), 1 ≤ d → ∃ h', mm_P d 200 [(2, 464), (0, J), (0, v)] w h = some ((9, 0), w, h') ∧ (∀ b : Int, b ≠ 464 → h' b = h b) ∧ (0 ≤ J ∧ J < 600 → h' = mUp h 464 J v) := by
      intro d h J v hd
      refine ⟨_, E_poke hd hW.2.2 (by decide) J v, fun b hb => ?_, fun hJ => if_pos hJ⟩
      split
      · exact mUp_row hb
      · rfl
    rcases ih (tE B n p) (by omega) l3.2.1 with ⟨f, i1, i2⟩ | ⟨U, p', ⟨u1, u2, u3, u4, u5, u6⟩, i1, i2⟩
    · refine Or.inl ⟨f, fun d h q cnt hd hA hsg hq hc => ?_, fun w hM d h q hd hA hsg hq => ?_⟩
      · have hn := CA_n hA
        obtain ⟨h1, a1, a2, a3, a4⟩ := JC_it (d := d) (op := op) (by omega) hW hm hA hs hc
        obtain ⟨h2, b1, b2, b3, _⟩ := E_emitWith (d := d) (by omega) hW a2 (by omega) (if m = 0 then 7 else 8) 0
        obtain ⟨h3, c1, c2, c3⟩ := i1 d h2 (q + lenC T + 2) (by omega) b3 (by omega)
        obtain ⟨h4, e1, e2, _⟩ := hi464 d h3 ((q + lenC T + 1 : Nat) : Int) (h3 463 2) (by omega)
        obtain ⟨g1, g2⟩ := CF_poke c3 e2
        obtain ⟨L, g⟩ := JC_endF (d := d) (op := op) (cnt := cnt + 1) (by omega) hW hm g2
        exact ⟨h4, L, by rw [a4 h2 h3 h4 _ b1 c1 c3.2.2.1 e1, g], CO_tr (CO_tr (CO_tr a1 b2) c2) g1, g2⟩
      · have hn := MA_n hA
        obtain ⟨h1, a1, a2, a3, a4⟩ := JM_it (d := d) (by omega) hM hm hA hs
        obtain ⟨h2, b1, b2, b3, b4, b5⟩ := E_M_wr (d := d) (by omega) hM a2 (by omega) (if m = 0 then 11 else 12)
        obtain ⟨h3, c1, c2, c3, c4, c5⟩ := E_M_wr (d := d) (by omega) hM b3 (by omega) 0
        obtain ⟨h4, e1, e2, e3⟩ := i2 w hM d h3 (q + lenM T + 2) (by omega) c3 (by omega)
        obtain ⟨g1, g2⟩ := MG_up e3 (b := 491) (i := ((q + lenM T + 1 : Nat) : Int)) (z := h4 483 22) (Or.inl rfl)
        obtain ⟨L, g⟩ := JM_endF (d := d) (by omega) hM hm g2
        exact ⟨_, L, by rw [a4 h2 h3 h4 _ b1 b3.2.2.2 (by omega) (by omega) c1 e1 (MH_21 e3.2.1), g], Mq_tr (Mq_tr (Mq_tr (Mq_tr a1 b2) c2) e2) g1, g2⟩
    · obtain ⟨z1, z2, z3, z4, z5, z6⟩ := mkJ_all hm T U
      have dm : decide (4 ≤ m) = false := by simp; omega
      have dm1 : decide (4 ≤ m + 1) = false := by simp; omega
      rw [dm] at t3
      rw [dm1] at u3
      have ht' : OKT n p0 p' m (mkJ m T U) := ⟨by omega, u2, by rw [dm]; exact z6.mpr ⟨t3, u3⟩, by rw [z2]; omega, by rw [z1]; omega, by rw [z3]; omega⟩
      have stepC : ∀ (d : Nat) (h : mm_H) (q : Nat) (cnt : Int), 40 * (5 - op) - 4 * m + 18 ≤ (d : Int) → CA w h B n p (q + lenC T) → Seg h 464 q (compC T q) → (q : Int) ≤ 2 * p0 → 0 ≤ cnt ∧ cnt ≤ p → ∃ h3, l_Cr_readJoined_0 (mm_P d) 463 m op (jwA m) cnt w h = l_Cr_readJoined_0 (mm_P d) 463 m op (jwA m) (cnt + 1) w h3 ∧ CO h h3 ∧ CA w h3 B n p' (q + lenC (mkJ m T U)) ∧ Seg h3 464 q (compC (mkJ m T U) q) ∧ ∀ j : Int, j < q → h3 464 j = h 464 j := by
        intro d h q cnt hd hA hsg hq hc
        have hn := CA_n hA
        obtain ⟨h1, a1, a2, a3, a4⟩ := JC_it (d := d) (op := op) (by omega) hW hm hA hs hc
        obtain ⟨h2, b1, b2, b3, b4, b5, b6⟩ := E_emitWith (d := d) (by omega) hW a2 (by omega) (if m = 0 then 7 else 8) 0
        obtain ⟨h3, c1, c2, c3, c4, c5⟩ := i1 d h2 (q + lenC T + 2) (by omega) b3 (by omega)
        obtain ⟨h4, e1, e2, e3⟩ := hi464 d h3 ((q + lenC T + 1 : Nat) : Int) (h3 463 2) (by omega)
        have e3 := e3 (by omega)
        obtain ⟨g1, g2⟩ := CA_poke c3 e2
        have v1 : h3 463 2 = ((q + lenC T + 2 + lenC U : Nat) : Int) := c3.2.2
        refine ⟨h4, a4 h2 h3 h4 _ b1 c1 c3.2.1.2.1 e1, CO_tr (CO_tr (CO_tr a1 b2) c2) g1, ?_, ?_, fun j hj => by rw [e3, mUp_n (Or.inr (by omega)), c5 j (by omega), b6 j (by omega) (by omega), a3]⟩
        · rw [z1, show q + (lenC T + lenC U + 2) = q + lenC T + 2 + lenC U by omega]; exact g2
        · have lT := compC_len T q
          have lU := compC_len U (q + lenC T + 2)
          rw [z4]
          refine Seg_app.mpr ⟨Seg_fr hsg (e := ((q + lenC T : Nat) : Int)) (by omega) (fun j _ hj => by rw [e3, mUp_n (Or.inr (by omega)), c5 j (by omega), b6 j (by omega) (by omega), a3]), Seg_cons.mpr ⟨?_, Seg_cons.mpr ⟨?_, ?_⟩⟩⟩
          · rw [lT, e3, mUp_n (Or.inr (by omega)), c5 _ (by omega)]; exact b4
          · rw [lT, e3, show ((q + lenC T + 1 : Nat) : Int) = ((q + lenC T + 1 : Nat) : Int) from rfl, mUp_s]; exact v1
          · rw [lT, e3]
            exact Seg_fr c4 (e := ((q + lenC T + 2 + lenC U : Nat) : Int)) (by omega) (fun j hj _ => mUp_n (Or.inr (by omega)))
      have stepM : ∀ w : mm_W, MW w → ∀ (d : Nat) (h : mm_H) (q : Nat), 40 * (5 - op) - 4 * m + 18 ≤ (d : Int) → MA h B n p op (q + lenM T) → Seg h 491 q (compM T q) → (q : Int) ≤ 2 * p0 → ∃ h3, LJ m d w h = LJ m d w h3 ∧ Mq h h3 ∧ MA h3 B n p' op (q + lenM (mkJ m T U)) ∧ Seg h3 491 q (compM (mkJ m T U) q) ∧ ∀ j : Int, j < q → h3 491 j = h 491 j := by
        intro w hM d h q hd hA hsg hq
        have hn := MA_n hA
        obtain ⟨h1, a1, a2, a3, a4⟩ := JM_it (d := d) (by omega) hM hm hA hs
        obtain ⟨h2, b1, b2, b3, b4, b5⟩ := E_M_wr (d := d) (by omega) hM a2 (by omega) (if m = 0 then 11 else 12)
        obtain ⟨h3, c1, c2, c3, c4, c5⟩ := E_M_wr (d := d) (by omega) hM b3 (by omega) 0
        obtain ⟨h4, e1, e2, e3, e4, e5⟩ := i2 w hM d h3 (q + lenM T + 2) (by omega) c3 (by omega)
        obtain ⟨g1, g2⟩ := MA_poke e3 ((q + lenM T + 1 : Nat) : Int) (h4 483 22)
        have v1 : h4 483 22 = ((q + lenM T + 2 + lenM U : Nat) : Int) := e3.2.2.2
        refine ⟨_, a4 h2 h3 h4 _ b1 b3.2.2.2 (by omega) (by omega) c1 e1 (MH_21 e3.2.1.1), Mq_tr (Mq_tr (Mq_tr (Mq_tr a1 b2) c2) e2) g1, ?_, ?_, fun j hj => by rw [mUp_n (Or.inr (by omega)), e5 j (by omega), c5 j (by omega), b5 j (by omega), a3]⟩
        · rw [z2, show q + (lenM T + lenM U + 2) = q + lenM T + 2 + lenM U by omega]; exact g2
        · have lT := compM_len T q
          have lU := compM_len U (q + lenM T + 2)
          rw [z5]
          refine Seg_app.mpr ⟨Seg_fr hsg (e := ((q + lenM T : Nat) : Int)) (by omega) (fun j _ hj => by rw [mUp_n (Or.inr (by omega)), e5 j (by omega), c5 j (by omega), b5 j (by omega), a3]), Seg_cons.mpr ⟨?_, Seg_cons.mpr ⟨?_, ?_⟩⟩⟩
          · rw [lT, mUp_n (Or.inr (by omega)), e5 _ (by omega), c5 _ (by omega)]; exact b4
          · rw [lT, mUp_s]; exact v1
          · rw [lT]
            exact Seg_fr e4 (e := ((q + lenM T + 2 + lenM U : Nat) : Int)) (by omega) (fun j hj _ => mUp_n (Or.inr (by omega)))
      rcases ihk p' (mkJ m T U) (by omega) ht' with ⟨f, j1, j2⟩ | ⟨T', p2, ht2, j1, j2⟩
      · refine Or.inl ⟨f, fun d h q cnt hd hA hsg hq hc => ?_, fun w hM d h q hd hA hsg hq => ?_⟩
        · obtain ⟨h3, a1, a2, a3, a4, a5⟩ := stepC d h q cnt hd hA hsg hq hc
          obtain ⟨h4, L, g1, g2, g3⟩ := j1 d h3 q (cnt + 1) hd a3 a4 hq (by omega)
          exact ⟨h4, L, by rw [a1, g1], CO_tr a2 g2, g3⟩
        · obtain ⟨h3, a1, a2, a3, a4, a5⟩ := stepM w hM d h q hd hA hsg hq
          obtain ⟨h4, L, g1, g2, g3⟩ := j2 w hM d h3 q hd a3 a4 hq
          exact ⟨h4, L, by rw [a1, g1], Mq_tr a2 g2, g3⟩
      · refine Or.inr ⟨T', p2, ht2, fun d h q cnt hd hA hsg hq hc => ?_, fun w hM d h q hd hA hsg hq => ?_⟩
        · obtain ⟨h3, a1, a2, a3, a4, a5⟩ := stepC d h q cnt hd hA hsg hq hc
          obtain ⟨h4, L, g1, g2, g3, g4, g5⟩ := j1 d h3 q (cnt + 1) hd a3 a4 hq (by omega)
          exact ⟨h4, L, by rw [a1, g1], CO_tr a2 g2, g3, g4, fun j hj => by rw [g5 j hj, a5 j hj]⟩
        · obtain ⟨h3, a1, a2, a3, a4, a5⟩ := stepM w hM d h q hd hA hsg hq
          obtain ⟨h4, L, g1, g2, g3, g4, g5⟩ := j2 w hM d h3 q hd a3 a4 hq
          exact ⟨h4, L, by rw [a1, g1], Mq_tr a2 g2, g3, g4, fun j hj => by rw [g5 j hj, a5 j hj]⟩
theorem RD_01 (hW : CW w) (hM : MW w) {m op : Int} (hm : m = 0 ∨ m = 1) (ho : 0 ≤ op ∧ op ≤ 4) (hp : 0 ≤ p ∧ p ≤ n) (h6 : RD w B n (m + 1) op p) (ih : ∀ p' : Int, p < p' → p' ≤ n → RD w B n (m + 1) op p') : RD w B n m op p := by
  have runM : ∀ w : mm_W, MW w → ∀ (d : Nat) (h h1 h' : mm_H) (L : List mm_V), mm_P d (mId (m + 1)) [(2, 483)] w h = some ((9, 0), w, h1) → LJ m d w h1 = some (.inr (47, L, w, h')) → mm_P (d + 1) (mId m) [(2, 483)] w h = some ((9, 0), w, h') := by
    intro w hM d h h1 h' L e1 e2
    have hw : (w.1 483).1 = 13 := by rw [hM.1]
    rcases hm with rfl | rfl
    · have e1 : mm_P d 269 [(2, 483)] w h = some ((9, 0), w, h1) := e1
      have e2 : l_M_readsCondition_0 (mm_P d) 483 w h1 = some (.inr (47, L, w, h')) := e2
      show mm_P (d + 1) 268 [(2, 483)] w h = _
      rw [P_M_readsCondition, mF_t hw, e1, mC_s, e2, mK_r, if_pos rfl]
    · have e1 : mm_P d 270 [(2, 483)] w h = some ((9, 0), w, h1) := e1
      have e2 : l_M_readsAll_0 (mm_P d) 483 w h1 = some (.inr (47, L, w, h')) := e2
      show mm_P (d + 1) 269 [(2, 483)] w h = _
      rw [P_M_readsAll, mF_t hw, e1, mC_s, e2, mK_r, if_pos rfl]
  have runC : ∀ (d : Nat) (h h1 h' : mm_H) (L : List mm_V), mm_P d 2 [(2, 463), (0, m + 1), (0, op)] w h = some ((9, 0), w, h1) → l_Cr_readJoined_0 (mm_P d) 463 m op (jwA m) 0 w h1 = some (.inr (87, L, w, h')) → mm_P (d + 1 + 1) 2 [(2, 463), (0, m), (0, op)] w h = some ((9, 0), w, h') := by
    intro d h h1 h' L e1 e2
    have hw : (w.1 463).1 = 1 := by rw [hW.2.1]
    refine C_l01 hW hm ?_
    rw [P_Cr_readJoined]
    simp only [mF_t hw]
    rw [mI_id (by omega) (by omega), e1, mC_s, mC_s]
    rcases hm with rfl | rfl
    · have e2 : l_Cr_readJoined_0 (mm_P d) 463 0 op (-12) 0 w h1 = some (.inr (87, L, w, h')) := e2
      rw [mEq_t rfl, e2, mK_r, if_pos rfl]
    · have e2 : l_Cr_readJoined_0 (mm_P d) 463 1 op (-14) 0 w h1 = some (.inr (87, L, w, h')) := e2
      rw [mEq_f (by decide), e2, mK_r, if_pos rfl]
  rcases h6 with ⟨f, i1, i2⟩ | ⟨T, p', ht, i1, i2⟩
  · refine Or.inl ⟨f, fun d h q hd hA hq => ?_, fun w hM d h q hd hA hq => ?_⟩
    · obtain ⟨d, rfl, hd2⟩ := mm_dS (show 35 + 1 ≤ d by omega)
      obtain ⟨d, rfl, hd3⟩ := mm_dS (show 34 + 1 ≤ d by omega)
      obtain ⟨h1, a1, a2, a3⟩ := i1 d h q (by omega) hA hq
      obtain ⟨L, g⟩ := JC_endF (d := d) (op := op) (cnt := 0) (by omega) hW hm a3
      exact ⟨h1, runC d h h1 h1 L a1 g, a2, a3⟩
    · obtain ⟨d, rfl, hd2⟩ := mm_dS (show 35 + 1 ≤ d by omega)
      obtain ⟨h1, a1, a2, a3⟩ := i2 w hM d h q (by omega) hA hq
      obtain ⟨L, g⟩ := JM_endF (d := d) (by omega) hM hm a3
      exact ⟨h1, runM w hM d h h1 h1 L a1 g, a2, a3⟩
  · have ht0 := OKT_up ht (by omega)
    rcases LK_all hW hM hm ho hp.1 ih (n - p').toNat p' T (by omega) ht0 with ⟨f, j1, j2⟩ | ⟨T', p2, ht2, j1, j2⟩
    · refine Or.inl ⟨f, fun d h q hd hA hq => ?_, fun w hM d h q hd hA hq => ?_⟩
      · obtain ⟨d, rfl, hd2⟩ := mm_dS (show 35 + 1 ≤ d by omega)
        obtain ⟨d, rfl, hd3⟩ := mm_dS (show 34 + 1 ≤ d by omega)
        obtain ⟨h1, a1, a2, a3, a4, a5⟩ := i1 d h q (by omega) hA hq
        obtain ⟨h2, L, g1, g2, g3⟩ := j1 d h1 q 0 (by omega) a3 a4 hq ⟨Int.le_refl _, by have := ht.1; omega⟩
        exact ⟨h2, runC d h h1 h2 L a1 g1, CO_tr a2 g2, g3⟩
      · obtain ⟨d, rfl, hd2⟩ := mm_dS (show 35 + 1 ≤ d by omega)
        obtain ⟨h1, a1, a2, a3, a4, a5⟩ := i2 w hM d h q (by omega) hA hq
        obtain ⟨h2, L, g1, g2, g3⟩ := j2 w hM d h1 q (by omega) a3 a4 hq
        exact ⟨h2, runM w hM d h h1 h2 L a1 g1, Mq_tr a2 g2, g3⟩
    · refine Or.inr ⟨T', p2, ht2, fun d h q hd hA hq => ?_, fun w hM d h q hd hA hq => ?_⟩
      · obtain ⟨d, rfl, hd2⟩ := mm_dS (show 35 + 1 ≤ d by omega)
        obtain ⟨d, rfl, hd3⟩ := mm_dS (show 34 + 1 ≤ d by omega)
        obtain ⟨h1, a1, a2, a3, a4, a5⟩ := i1 d h q (by omega) hA hq
        obtain ⟨h2, L, g1, g2, g3, g4, g5⟩ := j1 d h1 q 0 (by omega) a3 a4 hq ⟨Int.le_refl _, by have := ht.1; omega⟩
        exact ⟨h2, runC d h h1 h2 L a1 g1, CO_tr a2 g2, g3, g4, fun j hj => by rw [g5 j hj, a5 j hj]⟩
      · obtain ⟨d, rfl, hd2⟩ := mm_dS (show 35 + 1 ≤ d by omega)
        obtain ⟨h1, a1, a2, a3, a4, a5⟩ := i2 w hM d h q (by omega) hA hq
        obtain ⟨h2, L, g1, g2, g3, g4, g5⟩ := j2 w hM d h1 q (by omega) a3 a4 hq
        exact ⟨h2, runM w hM d h h1 h2 L a1 g1, Mq_tr a2 g2, g3, g4, fun j hj => by rw [g5 j hj, a5 j hj]⟩
/-- any level at any place -/
theorem RD_all (hW : CW w) (hM : MW w) : ∀ (k : Nat) (m op p : Int), n - p ≤ k → 0 ≤ m → m ≤ 6 → m ≠ 3 → 0 ≤ op → op ≤ 4 → 0 ≤ p → p ≤ n → RD w B n m op p := by
  intro k
  induction k using Nat.strongRecOn with
  | _ k ihk =>
    intro m op p hk m0 m1 m3 o0 o1 p0 p1
    have ih : ∀ m op' p' : Int, 0 ≤ m → m ≤ 6 → m ≠ 3 → 0 ≤ op' → op' ≤ 4 → p < p' → p' ≤ n → RD w B n m op' p' := fun m op' p' a1 a2 a3 a4 a5 a6 a7 => ihk (n - p').toNat (by omega) m op' p' (by omega) a1 a2 a3 a4 a5 (by omega) a7
    have h6 := RD_6 hW hM ⟨o0, o1⟩ ⟨p0, p1⟩ ih
    have h5 : RD w B n 5 op p := RD_45 hW hM (Or.inr rfl) ⟨o0, o1⟩ ⟨p0, p1⟩ h6 (fun p' a b => ih _ op p' (by decide) (by decide) (by decide) o0 o1 a b)
    have h4 : RD w B n 4 op p := RD_45 hW hM (Or.inl rfl) ⟨o0, o1⟩ ⟨p0, p1⟩ h5 (fun p' a b => ih _ op p' (by decide) (by decide) (by decide) o0 o1 a b)
    have h2 := RD_2 hW hM ⟨o0, o1⟩ ⟨p0, p1⟩ h4 ih
    have h1 : RD w B n 1 op p := RD_01 hW hM (Or.inr rfl) ⟨o0, o1⟩ ⟨p0, p1⟩ h2 (fun p' a b => ih _ op p' (by decide) (by decide) (by decide) o0 o1 a b)
    have h0 : RD w B n 0 op p := RD_01 hW hM (Or.inl rfl) ⟨o0, o1⟩ ⟨p0, p1⟩ h1 (fun p' a b => ih _ op p' (by decide) (by decide) (by decide) o0 o1 a b)
    have : m = 0 ∨ m = 1 ∨ m = 2 ∨ m = 4 ∨ m = 5 ∨ m = 6 := by omega
    rcases this with rfl | rfl | rfl | rfl | rfl | rfl <;> assumption
end PU
