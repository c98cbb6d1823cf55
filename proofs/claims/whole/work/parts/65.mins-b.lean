/-! PURE: insert on the reference's row, whole. -/
theorem rIns_row {y a n b : Int} {R : Int → Int} {f v : Int} (hv : R (b + f) = v) : rIns y a n (fun f => R (b + f)) f = if (f = y ∨ f = 2 + y) ∧ a ≤ v then v + n else v := by
  subst hv
  rfl
theorem rIns_val {y a n : Int} {g : Int → Int} {f v : Int} (hv : g f = v) : rIns y a n g f = if (f = y ∨ f = 2 + y) ∧ a ≤ v then v + n else v := by
  subst hv
  rfl
section PU
variable {d : Nat} {w : mm_W} {h : mm_H} {s : aS}
theorem L_M_ins3 (hd : 2 ≤ d) (hW : MW w) {y a n was k ac : Int} {u : Int → Int → Int} {H0 : Int → Int} (hy : y = 0 ∨ y = 1) (ha : 0 ≤ a ∧ a ≤ was) (hn : 1 ≤ n) (hz : was + n ≤ 16) (hk : a ≤ k ∧ k < a + n) (hac : ac ≤ 16) (hu : ∀ q x : Int, 0 ≤ q → q < 4 → 0 ≤ x → x < ac → u q x = if (if a = 0 then -1 else H0 (391 + 256 * q + ix y (a - 1) x)) = (if a = was then -1 else H0 (391 + 256 * q + ix y (a + n) x)) then (if a = 0 then -1 else H0 (391 + 256 * q + ix y (a - 1) x)) else -1) : ∀ (m : Nat) (X : Int) (h : mm_H), MH h → h 484 (1 - y) = ac → (∀ q x : Int, 0 ≤ q → q < 4 → 0 ≤ x → x < ac → (a ≠ 0 → h 484 (391 + 256 * q + ix y (a - 1) x) = H0 (391 + 256 * q + ix y (a - 1) x)) ∧ (a ≠ was → h 484 (391 + 256 * q + ix y (a + n) x) = H0 (391 + 256 * q + ix y (a + n) x))) → 0 ≤ X → X + m = ac → ∃ h', l_M_doInsert_3 (mm_P d) 483 y a n was k X w h = some (.inr (294, [(2, 483), (0, y), (0, a), (0, n), (0, was), (0, k), (0, ac), (9, 0), (9, 0), (9, 0)], w, h')) ∧ (∀ b : Int, b ≠ 484 → h' b = h b) ∧ (∀ j : Int, j < 135 ∨ 1415 ≤ j → h' 484 j = h 484 j) ∧ (∀ l x : Int, 0 ≤ l → l < 16 → 0 ≤ x → x < ac → h' 484 (135 + ix y l x) = if l = k ∧ X ≤ x then 0 else h 484 (135 + ix y l x)) ∧ ∀ q l x : Int, 0 ≤ q → q < 4 → 0 ≤ l → l < 16 → 0 ≤ x → x < ac → h' 484 (391 + 256 * q + ix y l x) = if l = k ∧ X ≤ x then u q x else h 484 (391 + 256 * q + ix y l x) := by
  have hw : (w.1 483).1 = 13 := by rw [hW.1]
  intro m
  induction m with
  | zero =>
    intro X h a1 ac1 s2 a2 a3
    rw [l_M_doInsert_3_eq, mF_t hw, a1.1, mI_id (x := 1 - y) (by omega) (by omega), mA_t hW.2.1 (by omega) (by omega), ac1, mLe_t (by omega)]
    exact ⟨h, by rw [show X = ac by omega], fun _ _ => rfl, fun _ _ => rfl, fun l x _ _ _ _ => by rw [if_neg (by omega)], fun q l x _ _ _ _ _ _ => by rw [if_neg (by omega)]⟩
  | succ m ih =>
    intro X h a1 ac1 s2 a2 a3
    have bk := ix_b (y := y) (l := k) (x := X) (by omega) (by omega) a2 (by omega)
    have gk : mm_P d 230 [(0, y), (0, k), (0, X)] w h = some ((0, ix y k X), w, h) := E_M_crossed hd hy (by omega) (by omega) (by omega) (by omega)
    generalize hg : mUp h 484 (135 + ix y k X) 0 = ha'
    have b1 : ∀ b : Int, b ≠ 484 → ha' b = h b := fun b hb => by rw [← hg]; exact mUp_row hb
    have b2 : ∀ j : Int, j ≠ 135 + ix y k X → ha' 484 j = h 484 j := fun j hj => by rw [← hg]; exact mUp_n (Or.inr hj)
    have b3 : ha' 484 (135 + ix y k X) = 0 := by rw [← hg]; exact mUp_s
    have M1 : MH ha' := MH_fr a1 (fun i _ => by rw [b1 483 (by decide)])
    have cel : ∀ q l x : Int, 0 ≤ q → q < 4 → 0 ≤ l → l < 16 → 0 ≤ x → x < 16 → ha' 484 (391 + 256 * q + ix y l x) = h 484 (391 + 256 * q + ix y l x) := fun q l x q0 q1 l0 l1 x0 x1 => by
      have := ix_b (y := y) l0 l1 x0 x1
      exact b2 _ (by omega)
    obtain ⟨hb, c1, c2, c3, c4⟩ := L_M_ins4 (d := d) hd hW (X := X) (u := fun q => u q X) hy ha hn hz hk ⟨a2, by omega⟩ 4 0 ha' M1 (fun q q0 q1 => by
      show u q X = _
      have e := s2 q X q0 q1 a2 (by omega)
      rw [hu q X q0 q1 a2 (by omega)]
      by_cases z1 : a = 0
      · by_cases z2 : a = was
        · simp only [if_pos z1, if_pos z2]
        · simp only [if_pos z1, if_neg z2, cel q (a + n) X q0 q1 (by omega) (by omega) a2 (by omega), e.2 z2]
      · by_cases z2 : a = was
        · simp only [if_neg z1, if_pos z2, cel q (a - 1) X q0 q1 (by omega) (by omega) a2 (by omega), e.1 z1]
        · simp only [if_neg z1, if_neg z2, cel q (a - 1) X q0 q1 (by omega) (by omega) a2 (by omega), cel q (a + n) X q0 q1 (by omega) (by omega) a2 (by omega), e.1 z1, e.2 z2]) (by decide) (by decide)
    obtain ⟨h', g1, g2, g3, g4, g5⟩ := ih (X + 1) hb (MH_fr M1 (fun i _ => by rw [c2 483 (by decide)])) (by rw [c3 (1 - y) (by omega), b2 (1 - y) (by omega)]; exact ac1) (fun q x q0 q1 x0 x1 => by
      have e := s2 q x q0 q1 x0 x1
      refine ⟨fun z => ?_, fun z => ?_⟩
      · rw [c4 q (a - 1) x q0 q1 (by omega) (by omega) x0 (by omega), if_neg (by omega), cel q (a - 1) x q0 q1 (by omega) (by omega) x0 (by omega)]
        exact e.1 z
      · rw [c4 q (a + n) x q0 q1 (by omega) (by omega) x0 (by omega), if_neg (by omega), cel q (a + n) x q0 q1 (by omega) (by omega) x0 (by omega)]
        exact e.2 z) (by omega) (by omega)
    refine ⟨h', ?_, fun b hb' => by rw [g2 b hb', c2 b hb', b1 b hb'], fun j hj => by rw [g3 j hj, c3 j (by omega), b2 j (by omega)], fun l x l0 l1 x0 x1 => ?_, fun q l x q0 q1 l0 l1 x0 x1 => ?_⟩
    · rw [l_M_doInsert_3_eq, mF_t hw, a1.1, mI_id (x := 1 - y) (by omega) (by omega), mA_t hW.2.1 (by omega) (by omega), ac1, mLe_f (by omega), mF_t hw, gk, mC_s]
      try simp only [mF_t hw, a1.1]
      rw [mI_id (x := 135 + ix y k X) (by omega) (by omega), mAw_t hW.2.1 (by omega) (by omega) (by decide), hg]
      try dsimp only
      rw [c1, mK_r, if_pos rfl]
      simp only [mP_0, mP_1, mP_2, mP_3, mP_4, mP_5, mP_6]
      rw [mI_id (by omega) (by omega), g1]
    · have bl := ix_b (y := y) l0 l1 x0 (show x < 16 by omega)
      rw [g4 l x l0 l1 x0 x1, c3 (135 + ix y l x) (by omega)]
      by_cases q1 : l = k ∧ x = X
      · rw [q1.1, q1.2, if_neg (by omega), if_pos (by omega)]
        exact b3
      · rw [b2 (135 + ix y l x) (fun z => q1 (ix_e hy l0 l1 x0 (by omega) (by omega) (by omega) a2 (by omega) (by omega)))]
        by_cases q2 : l = k ∧ X ≤ x
        · rw [if_pos q2, if_pos (by omega)]
        · rw [if_neg q2, if_neg (by omega)]
    · rw [g5 q l x q0 q1 l0 l1 x0 x1, c4 q l x q0 q1 l0 l1 x0 (by omega), cel q l x q0 q1 l0 l1 x0 (by omega)]
      by_cases q3 : l = k ∧ x = X
      · rw [if_neg (by omega), if_pos ⟨q0, q3⟩, if_pos (by omega), q3.2]
      · rw [if_neg (show ¬ (0 ≤ q ∧ l = k ∧ x = X) from fun z => q3 z.2)]
        by_cases q2 : l = k ∧ X ≤ x
        · rw [if_pos q2, if_pos (by omega)]
        · rw [if_neg q2, if_neg (by omega)]
theorem L_M_ins1 (hd : 2 ≤ d) (hW : MW w) {y a n was ac : Int} {u : Int → Int → Int} {H0 : Int → Int} (hy : y = 0 ∨ y = 1) (ha : 0 ≤ a ∧ a ≤ was) (hn : 1 ≤ n) (hz : was + n ≤ 16) (hac : 0 ≤ ac ∧ ac ≤ 16) (hu : ∀ q x : Int, 0 ≤ q → q < 4 → 0 ≤ x → x < ac → u q x = if (if a = 0 then -1 else H0 (391 + 256 * q + ix y (a - 1) x)) = (if a = was then -1 else H0 (391 + 256 * q + ix y (a + n) x)) then (if a = 0 then -1 else H0 (391 + 256 * q + ix y (a - 1) x)) else -1) : ∀ (m : Nat) (k : Int) (h : mm_H), MH h → h 484 (1 - y) = ac → nwl y ac a k H0 (h 484) u → a ≤ k → k + m = a + n → ∃ h', l_M_doInsert_1 (mm_P d) 483 y a n was k w h = some (.inr (300, [(2, 483), (0, y), (0, a), (0, n), (0, was), (0, a + n), (9, 0), (9, 0), (9, 0), (9, 0)], w, h')) ∧ (∀ b : Int, b ≠ 484 → h' b = h b) ∧ nwl y ac a (a + n) H0 (h' 484) u := by
  have hw : (w.1 483).1 = 13 := by rw [hW.1]
  intro m
  induction m with
  | zero =>
    intro k h a1 ac1 hl a2 a3
    rw [l_M_doInsert_1_eq, mI_id (x := a + n) (by omega) (by omega), mLe_t (by omega)]
    have e : k = a + n := by omega
    rw [e] at hl
    exact ⟨h, by rw [e], fun _ _ => rfl, hl⟩
  | succ m ih =>
    intro k h a1 ac1 hl a2 a3
    obtain ⟨h1, b1, b2, b3, b4⟩ := L_M_ins2 (d := d) (by omega) hW (a := a) (n := n) (was := was) (k := k) hy (by omega) 4 0 h a1 (by decide) (by decide)
    have M1 : MH h1 := MH_fr a1 (fun i _ => by rw [b2 483 (by decide)])
    have cel : ∀ q l x : Int, 0 ≤ q → q < 4 → 0 ≤ l → l < 16 → 0 ≤ x → x < 16 → h1 484 (391 + 256 * q + ix y l x) = h 484 (391 + 256 * q + ix y l x) := fun q l x q0 q1 l0 l1 x0 x1 => by
      have := ix_b (y := y) l0 l1 x0 x1
      exact b3 _ (by omega)
    obtain ⟨h2, c1, c2, c3, c4, c5⟩ := L_M_ins3 (d := d) hd hW (k := k) hy ha hn hz (by omega) hac.2 hu ac.toNat 0 h1 M1 (by rw [b3 (1 - y) (by omega)]; exact ac1) (fun q x q0 q1 x0 x1 => by
      refine ⟨fun z => ?_, fun z => ?_⟩
      · rw [cel q (a - 1) x q0 q1 (by omega) (by omega) x0 (by omega), hl.2.2.2.2 q (a - 1) x q0 q1 (by omega) (by omega) x0 x1, if_neg (by omega)]
      · rw [cel q (a + n) x q0 q1 (by omega) (by omega) x0 (by omega), hl.2.2.2.2 q (a + n) x q0 q1 (by omega) (by omega) x0 x1, if_neg (by omega)]) (by decide) (by omega)
    obtain ⟨h', g1, g2, g3⟩ := ih (k + 1) h2 (MH_fr M1 (fun i _ => by rw [c2 483 (by decide)])) (by rw [c3 (1 - y) (by omega), b3 (1 - y) (by omega)]; exact ac1) (by
      refine ⟨fun j hj => by rw [c3 j (by omega), b3 j (by omega)]; exact hl.1 j hj, fun q i q0 q1 i0 i1 => ?_, fun q i q0 q1 i0 i1 => ?_, fun l x l0 l1 x0 x1 => ?_, fun q l x q0 q1 l0 l1 x0 x1 => ?_⟩
      · rw [c3 _ (by omega), b4 y q i hy q0 q1 i0 i1, hl.2.1 q i q0 q1 i0 i1]
        by_cases e : i = k
        · rw [if_pos ⟨rfl, q0, e⟩, if_pos (by omega)]
        · rw [if_neg (fun z => e z.2.2)]
          by_cases e2 : a ≤ i ∧ i < k
          · rw [if_pos e2, if_pos (by omega)]
          · rw [if_neg e2, if_neg (by omega)]
      · rw [c3 _ (by omega), b4 (1 - y) q i (by omega) q0 q1 i0 i1, if_neg (by omega)]
        exact hl.2.2.1 q i q0 q1 i0 i1
      · have bl := ix_b (y := y) l0 l1 x0 (show x < 16 by omega)
        rw [c4 l x l0 l1 x0 x1, b3 _ (by omega), hl.2.2.2.1 l x l0 l1 x0 x1]
        by_cases e : l = k
        · rw [if_pos ⟨e, x0⟩, if_pos (by omega)]
        · rw [if_neg (fun z => e z.1)]
          by_cases e2 : a ≤ l ∧ l < k
          · rw [if_pos e2, if_pos (by omega)]
          · rw [if_neg e2, if_neg (by omega)]
      · rw [c5 q l x q0 q1 l0 l1 x0 x1, cel q l x q0 q1 l0 l1 x0 (by omega), hl.2.2.2.2 q l x q0 q1 l0 l1 x0 x1]
        by_cases e : l = k
        · rw [if_pos ⟨e, x0⟩, if_pos (by omega)]
        · rw [if_neg (fun z => e z.1)]
          by_cases e2 : a ≤ l ∧ l < k
          · rw [if_pos e2, if_pos (by omega)]
          · rw [if_neg e2, if_neg (by omega)]) (by omega) (by omega)
    refine ⟨h', ?_, fun b hb => by rw [g2 b hb, c2 b hb, b2 b hb], g3⟩
    rw [l_M_doInsert_1_eq, mI_id (x := a + n) (by omega) (by omega), mLe_f (by omega), b1, mK_r, if_pos rfl]
    simp only [mP_0, mP_1, mP_2, mP_3, mP_4, mP_5, mP_6]
    rw [c1, mK_r, if_pos rfl]
    simp only [mP_0, mP_1, mP_2, mP_3, mP_4, mP_5, mP_6]
    rw [mI_id (by omega) (by omega), g1]
/-- the rules make room -/
theorem L_M_ins5 (hW : MW w) {y a n was N : Int} (hy : y = 0 ∨ y = 1) (hn : 0 ≤ n ∧ n ≤ 16) (hN : N ≤ 6) : ∀ (m : Nat) (k : Int) (h : mm_H), MH h → h 484 2 = N → (∀ i f : Int, k ≤ i → i < N → 0 ≤ f → f < 4 → 0 ≤ h 484 (1415 + 408 * i + f) ∧ h 484 (1415 + 408 * i + f) ≤ 16) → 0 ≤ k → k + m = N → ∃ h', l_M_doInsert_5 (mm_P d) 483 y a n was k w h = some (.inr (388, [(2, 483), (0, y), (0, a), (0, n), (0, was), (0, N), (9, 0), (9, 0), (9, 0), (9, 0)], w, h')) ∧ (∀ b : Int, b ≠ 484 → h' b = h b) ∧ (∀ j : Int, j < 1415 → h' 484 j = h 484 j) ∧ ∀ i f : Int, 0 ≤ i → i < N → 0 ≤ f → f < 408 → h' 484 (1415 + 408 * i + f) = if k ≤ i then rIns y a n (fun f => h 484 (1415 + 408 * i + f)) f else h 484 (1415 + 408 * i + f) := by
  have hw : (w.1 483).1 = 13 := by rw [hW.1]
  intro m
  induction m with
  | zero =>
    intro k h a1 a2 a3 a4 a5
    rw [l_M_doInsert_5_eq, mF_t hw, a1.1, mA_t hW.2.1 (by decide) (by decide), a2, mLe_t (by omega)]
    exact ⟨h, by rw [show k = N by omega], fun _ _ => rfl, fun _ _ => rfl, fun i f i0 i1 _ _ => by rw [if_neg (by omega)]⟩
  | succ m ih =>
    intro k h a1 a2 a3 a4 a5
    have v0 := a3 k y (Int.le_refl _) (by omega) (by omega) (by omega)
    have v2 := a3 k (2 + y) (Int.le_refl _) (by omega) (by omega) (by omega)
    -- one rule
    have step : ∀ hx : mm_H, (∀ b : Int, b ≠ 484 → hx b = h b) → (∀ j : Int, j ≠ 1415 + 408 * k + y → j ≠ 1415 + 408 * k + 2 + y → hx 484 j = h 484 j) → hx 484 (1415 + 408 * k + y) = (if a ≤ h 484 (1415 + 408 * k + y) then h 484 (1415 + 408 * k + y) + n else h 484 (1415 + 408 * k + y)) → hx 484 (1415 + 408 * k + 2 + y) = (if a ≤ h 484 (1415 + 408 * k + 2 + y) then h 484 (1415 + 408 * k + 2 + y) + n else h 484 (1415 + 408 * k + 2 + y)) → ∃ h', l_M_doInsert_5 (mm_P d) 483 y a n was (k + 1) w hx = some (.inr (388, [(2, 483), (0, y), (0, a), (0, n), (0, was), (0, N), (9, 0), (9, 0), (9, 0), (9, 0)], w, h')) ∧ (∀ b : Int, b ≠ 484 → h' b = h b) ∧ (∀ j : Int, j < 1415 → h' 484 j = h 484 j) ∧ ∀ i f : Int, 0 ≤ i → i < N → 0 ≤ f → f < 408 → h' 484 (1415 + 408 * i + f) = if k ≤ i then rIns y a n (fun f => h 484 (1415 + 408 * i + f)) f else h 484 (1415 + 408 * i + f) := by
      intro hx e1 e2 e3 e4
      obtain ⟨h', g1, g2, g3, g4⟩ := ih (k + 1) hx (MH_fr a1 (fun i _ => by rw [e1 483 (by decide)])) (by rw [e2 2 (by omega) (by omega)]; exact a2) (fun i f i0 i1 f0 f1 => by
        rw [e2 _ (by omega) (by omega)]
        exact a3 i f (by omega) i1 f0 f1) (by omega) (by omega)
      refine ⟨h', g1, fun b hb => by rw [g2 b hb, e1 b hb], fun j hj => by rw [g3 j hj, e2 j (by omega) (by omega)], fun i f i0 i1 f0 f1 => ?_⟩
      rw [g4 i f i0 i1 f0 f1]
      by_cases q : i = k
      · subst q
        rw [if_neg (by omega), if_pos (Int.le_refl _)]
        by_cases f1' : f = y
        · subst f1'
          rw [rIns_row (R := h 484) (v := h 484 (1415 + 408 * i + f)) rfl, e3]
          by_cases z : a ≤ h 484 (1415 + 408 * i + f)
          · rw [if_pos z, if_pos ⟨Or.inl rfl, z⟩]
          · rw [if_neg z, if_neg (fun q => z q.2)]
        · by_cases f2' : f = 2 + y
          · have ei : 1415 + 408 * i + f = 1415 + 408 * i + 2 + y := by omega
            rw [rIns_row (R := h 484) (v := h 484 (1415 + 408 * i + 2 + y)) (by rw [ei]), ei, e4]
            by_cases z : a ≤ h 484 (1415 + 408 * i + 2 + y)
            · rw [if_pos z, if_pos ⟨Or.inr f2', z⟩]
            · rw [if_neg z, if_neg (fun q => z q.2)]
          · rw [rIns_row (R := h 484) (v := h 484 (1415 + 408 * i + f)) rfl, e2 _ (by omega) (by omega), if_neg (fun q => by rcases q.1 with z | z; exact f1' z; exact f2' z)]
      · rw [e2 (1415 + 408 * i + f) (by omega) (by omega)]
        by_cases q2 : k + 1 ≤ i
        · rw [if_pos q2, if_pos (by omega), rIns_val (g := fun f => hx 484 (1415 + 408 * i + f)) (v := h 484 (1415 + 408 * i + f)) (e2 _ (by omega) (by omega)), rIns_val (g := fun f => h 484 (1415 + 408 * i + f)) (v := h 484 (1415 + 408 * i + f)) rfl]
        · rw [if_neg q2, if_neg (by omega)]
    rw [show 1415 + 408 * k + (2 + y) = 1415 + 408 * k + 2 + y by omega] at v2
    rw [l_M_doInsert_5_eq, mF_t hw, a1.1, mA_t hW.2.1 (by decide) (by decide), a2, mLe_f (by omega)]
    try dsimp only
    simp only [mF_t hw]
    rw [mI_id (x := 408 * k) (by omega) (by omega), mI_id (x := 1415 + 408 * k) (by omega) (by omega), mI_id (x := 1415 + 408 * k + y) (by omega) (by omega), mI_id (x := 1415 + 408 * k + 2) (by omega) (by omega), mI_id (x := 1415 + 408 * k + 2 + y) (by omega) (by omega), mA_t hW.2.1 (by omega) (by omega)]
    by_cases c1 : h 484 (1415 + 408 * k + y) < a
    · rw [mLt_t c1, mA_t hW.2.1 (by omega) (by omega)]
      by_cases c2 : h 484 (1415 + 408 * k + 2 + y) < a
      · rw [mLt_t c2, mI_id (x := k + 1) (by omega) (by omega)]
        exact step h (fun _ _ => rfl) (fun _ _ _ => rfl) (by rw [if_neg (by omega)]) (by rw [if_neg (by omega)])
      · rw [mLt_f (by omega), mA_t hW.2.1 (by omega) (by omega), mAw_t hW.2.1 (by omega) (by omega) (by decide), mI_id (x := h 484 (1415 + 408 * k + 2 + y) + n) (by omega) (by omega), mI_id (x := k + 1) (by omega) (by omega)]
        exact step _ (fun b hb => mUp_row hb) (fun j _ j2 => mUp_n (Or.inr j2)) (by rw [mUp_n (Or.inr (by omega)), if_neg (by omega)]) (by rw [mUp_s, if_pos (by omega)])
    · rw [mLt_f (by omega), mA_t hW.2.1 (by omega) (by omega), mAw_t hW.2.1 (by omega) (by omega) (by decide), mUp_n (h := h) (a := 484) (b := 483) (j := 0) (Or.inl (by decide)), a1.1, mI_id (x := h 484 (1415 + 408 * k + y) + n) (by omega) (by omega), mA_t hW.2.1 (by omega) (by omega), mUp_n (h := h) (a := 484) (b := 484) (j := 1415 + 408 * k + 2 + y) (Or.inr (by omega))]
      by_cases c2 : h 484 (1415 + 408 * k + 2 + y) < a
      · rw [mLt_t c2, mI_id (x := k + 1) (by omega) (by omega)]
        exact step _ (fun b hb => mUp_row hb) (fun j j1 _ => mUp_n (Or.inr j1)) (by rw [mUp_s, if_pos (by omega)]) (by rw [mUp_n (Or.inr (by omega)), if_neg (by omega)])
      · rw [mLt_f (by omega), mA_t hW.2.1 (by omega) (by omega), mAw_t hW.2.1 (by omega) (by omega) (by decide), mI_id (x := h 484 (1415 + 408 * k + 2 + y) + n) (by omega) (by omega), mI_id (x := k + 1) (by omega) (by omega)]
        exact step _ (fun b hb => by rw [mUp_row hb, mUp_row hb]) (fun j j1 j2 => by rw [mUp_n (Or.inr j2), mUp_n (Or.inr j1)]) (by rw [mUp_n (Or.inr (by omega)), mUp_s, if_pos (by omega)]) (by rw [mUp_s, if_pos (by omega)])
theorem E_M_doInsert (hd : 4 ≤ d) (hW : MW w) (hH : MH h) (hI : aI s) (hR : RM (h 484) s) (y a n : Int) (i3 : -2147483648 ≤ n ∧ n < 2147483648) : (¬ okIns s y a n ∧ mm_P d 241 [(2, 483), (0, y), (0, a), (0, n)] w h = some ((0, -2), w, h)) ∨ ((okIns s y a n ∧ 16 < aSz s y + n) ∧ mm_P d 241 [(2, 483), (0, y), (0, a), (0, n)] w h = some ((0, -4), w, h)) ∨ ((okIns s y a n ∧ aSz s y + n ≤ 16) ∧ ∃ h', mm_P d 241 [(2, 483), (0, y), (0, a), (0, n)] w h = some ((0, aSz s y + n), w, h') ∧ RM (h' 484) (F_insert s y a n) ∧ ∀ b : Int, b ≠ 484 → h' b = h b) := by
  obtain ⟨d, rfl, hd2⟩ := mm_dS hd; clear hd; have hd := hd2; clear hd2
  have hw : (w.1 483).1 = 13 := by rw [hW.1]
  have hs := aSz_le hI y
  have h1 := hI.1; have h2 := hI.2.1; have h3 := hI.2.2.1
  unfold okIns
  rw [P_M_doInsert, E_M_in (by omega), mC_s, bI_eq (Q := y = 0 ∨ y = 1) (by omega)]
  by_cases c0 : y = 0 ∨ y = 1
  rotate_left
  · rw [bI_f c0, mEq_t rfl]
    exact Or.inl ⟨fun h => c0 h.1, rfl⟩
  rw [bI_t c0, mEq_f (by decide), mF_t hw, hH.1, mA_t hW.2.1 (by omega) (by omega), RM_sz hR c0, E_M_in (by omega), mC_s]
  by_cases c1 : 0 ≤ a ∧ a ≤ aSz s y
  rotate_left
  · rw [bI_f c1, mEq_t rfl]
    exact Or.inl ⟨fun h => c1 h.2.1, rfl⟩
  rw [bI_t c1, mEq_f (by decide), E_M_in (by omega), mC_s]
  by_cases c2 : 1 ≤ n ∧ n ≤ 16
  rotate_left
  · rw [bI_f c2, mEq_t rfl]
    exact Or.inl ⟨fun h => c2 h.2.2, rfl⟩
  rw [bI_t c2, mEq_f (by decide), mF_t hw, hH.1, mA_t hW.2.1 (by omega) (by omega), RM_sz hR c0]
  try dsimp only
  rw [mI_id (x := aSz s y + n) (by omega) (by omega)]
  by_cases c5 : 16 < aSz s y + n
  · rw [mLe_f c5]
    exact Or.inr (Or.inl ⟨⟨⟨c0, c1, c2⟩, c5⟩, rfl⟩)
  rw [mLe_t (by omega), mI_id (x := aSz s y - 1) (by omega) (by omega)]
  refine Or.inr (Or.inr ⟨⟨⟨c0, c1, c2⟩, by omega⟩, ?_⟩)
  have ac : h 484 (1 - y) = aSz s (1 - y) := RM_sz hR (by omega)
  have hac := aSz_le hI (1 - y)
  obtain ⟨ha, a1, a2, a3⟩ := L_M_ins0 (d := d) (by omega) hW (a := a) (n := n) (was := aSz s y) (ac := aSz s (1 - y)) (R := h 484) c0 c1.1 c2.1 (by omega) (by omega) (aSz s y - a).toNat (aSz s y - 1) h hH ac (by omega) (by omega) (lnm_ext lnm_rf (fun l _ _ => by rw [if_neg (by omega)]))
  have Ma : MH ha := MH_fr hH (fun i _ => by rw [a2 483 (by decide)])
  obtain ⟨hb, b1, b2, b3⟩ := L_M_ins1 (d := d) (by omega) hW (a := a) (n := n) (was := aSz s y) (ac := aSz s (1 - y)) (H0 := ha 484) (u := fun q x => if (if a = 0 then -1 else ha 484 (391 + 256 * q + ix y (a - 1) x)) = (if a = aSz s y then -1 else ha 484 (391 + 256 * q + ix y (a + n) x)) then (if a = 0 then -1 else ha 484 (391 + 256 * q + ix y (a - 1) x)) else -1) c0 c1 c2.1 (by omega) (by omega) (fun _ _ _ _ _ _ => rfl) n.toNat a ha Ma (by rw [a3.1 (1 - y) (by omega)]; exact ac) ⟨fun _ _ => rfl, fun q i _ _ _ _ => by rw [if_neg (by omega)], fun _ _ _ _ _ _ => rfl, fun l x _ _ _ _ => by rw [if_neg (by omega)], fun q l x _ _ _ _ _ _ => by rw [if_neg (by omega)]⟩ (Int.le_refl _) (by omega)
  have Mb : MH hb := MH_fr Ma (fun i _ => by rw [b2 483 (by decide)])
  have lowb : ∀ j : Int, j < 7 ∨ 1415 ≤ j → hb 484 j = h 484 j := fun j hj => by rw [b3.1 j hj, a3.1 j hj]
  obtain ⟨hc, e1, e2, e3, e4⟩ := L_M_ins5 (d := d) hW (a := a) (n := n) (was := aSz s y) (N := aN s) c0 (by omega) (by omega) (aN s).toNat 0 hb Mb (by rw [lowb 2 (by omega)]; exact hR.1.2.2) (fun i f i0 i1 f0 f1 => by
    rw [lowb _ (by omega), (hR.2.2.2.2.2.2 i i0 i1).1 f f0 (by omega)]
    have hv := hI.2.2.2.2.2.2.2.2 i i0 i1
    rcases (show f = 0 ∨ f = 1 ∨ f = 2 ∨ f = 3 by omega) with rfl | rfl | rfl | rfl <;> omega) (by decide) (by omega)
  refine ⟨mUp hc 484 y (aSz s y + n), ?_, ?_, fun b hb' => by rw [mUp_row hb', e2 b hb', b2 b hb', a2 b hb']⟩
  · rw [a1, mK_r, if_pos rfl]
    simp only [mP_0, mP_1, mP_2, mP_3, mP_4, mP_5, mP_6]
    rw [b1, mK_r, if_pos rfl]
    simp only [mP_0, mP_1, mP_2, mP_3, mP_4, mP_5, mP_6]
    rw [e1, mK_r, if_pos rfl]
    simp only [mP_0, mP_1, mP_2, mP_3, mP_4, mP_5, mP_6]
    rw [mF_t hw, e2 483 (by decide), Mb.1, mAw_t hW.2.1 (by omega) (by omega) (by decide), mI_id (x := aSz s y + n) (by omega) (by omega)]
  · generalize hg : mUp hc 484 y (aSz s y + n) 484 = row
    have r0 : row y = aSz s y + n := by rw [← hg]; exact mUp_s
    have r1 : ∀ j : Int, j ≠ y → j < 1415 → row j = hb 484 j := fun j hj h2 => by rw [← hg, mUp_n (Or.inr hj)]; exact e3 j h2
    have r2 : ∀ j : Int, 1415 ≤ j → row j = hc 484 j := fun j hj => by rw [← hg]; exact mUp_n (Or.inr (by omega))
    -- the lines that were moved
    have ol : ∀ l : Int, 0 ≤ l → l < aSz s y + n → ¬ (a ≤ l ∧ l < a + n) → (if a + n ≤ l ∧ l < aSz s y + n then l - n else l) = oIns a n l ∧ 0 ≤ oIns a n l ∧ oIns a n l < aSz s y := fun l l0 l1 q => by
      unfold oIns
      by_cases z : l < a
      · rw [if_neg (by omega), if_pos z]; omega
      · rw [if_pos (by omega), if_neg z, if_neg (by omega)]; omega
    have on : ∀ l : Int, a ≤ l → l < a + n → oIns a n l = -1 := fun l l0 l1 => by unfold oIns; rw [if_neg (by omega), if_pos l1]
    have ge : ∀ l : Int, 0 ≤ oIns a n l → ¬ oIns a n l < 0 := fun l q => by omega
    -- by line and place across
    have vals : ∀ l x : Int, 0 ≤ l → l < aSz s y + n → 0 ≤ x → x < aSz s (1 - y) → row (135 + ix y l x) = if oIns a n l < 0 then 0 else h 484 (135 + ix y (oIns a n l) x) := fun l x l0 l1 x0 x1 => by
      have bx := ix_b (y := y) l0 (show l < 16 by omega) x0 (show x < 16 by omega)
      rw [r1 _ (by omega) (by omega), b3.2.2.2.1 l x l0 (by omega) x0 x1]
      by_cases q : a ≤ l ∧ l < a + n
      · rw [if_pos q, on l q.1 q.2, if_pos (by decide)]
      · obtain ⟨o1, o2, o3⟩ := ol l l0 l1 q
        rw [if_neg q, a3.2.2.2.1 l x l0 (by omega) x0 x1]
        try dsimp only
        rw [o1, if_neg (ge l o2)]
    have cels : ∀ q l x : Int, 0 ≤ q → q < 4 → 0 ≤ l → l < aSz s y + n → 0 ≤ x → x < aSz s (1 - y) → row (391 + 256 * q + ix y l x) = if (0 < a ∧ a < aSz s y) ∧ (a ≤ l ∧ l < a + n) ∧ h 484 (391 + 256 * q + ix y (a - 1) x) = h 484 (391 + 256 * q + ix y a x) then h 484 (391 + 256 * q + ix y (a - 1) x) else if oIns a n l < 0 then -1 else h 484 (391 + 256 * q + ix y (oIns a n l) x) := fun q l x q0 q1 l0 l1 x0 x1 => by
      have bx := ix_b (y := y) l0 (show l < 16 by omega) x0 (show x < 16 by omega)
      rw [r1 _ (by omega) (by omega), b3.2.2.2.2 q l x q0 q1 l0 (by omega) x0 x1]
      by_cases z : a ≤ l ∧ l < a + n
      · rw [if_pos z, on l z.1 z.2, if_pos (show (-1 : Int) < 0 by decide)]
        try dsimp only
        by_cases z1 : a = 0
        · rw [if_pos z1, if_neg (show ¬ ((0 < a ∧ a < aSz s y) ∧ (a ≤ l ∧ l < a + n) ∧ h 484 (391 + 256 * q + ix y (a - 1) x) = h 484 (391 + 256 * q + ix y a x)) from fun v => by omega)]
          exact ite_self _
        · have A1 : ha 484 (391 + 256 * q + ix y (a - 1) x) = h 484 (391 + 256 * q + ix y (a - 1) x) := by
            have e := a3.2.2.2.2 q (a - 1) x q0 q1 (by omega) (by omega) x0 x1
            try dsimp only at e
            rw [if_neg (show ¬ (a + n ≤ a - 1 ∧ a - 1 < aSz s y + n) by omega)] at e
            exact e
          rw [if_neg z1, A1]
          by_cases z2 : a = aSz s y
          · rw [if_pos z2, if_neg (show ¬ ((0 < a ∧ a < aSz s y) ∧ (a ≤ l ∧ l < a + n) ∧ h 484 (391 + 256 * q + ix y (a - 1) x) = h 484 (391 + 256 * q + ix y a x)) from fun v => by omega)]
            split
            · rename_i v; exact v
            · rfl
          · have A2 : ha 484 (391 + 256 * q + ix y (a + n) x) = h 484 (391 + 256 * q + ix y a x) := by
              have e := a3.2.2.2.2 q (a + n) x q0 q1 (by omega) (by omega) x0 x1
              try dsimp only at e
              rw [if_pos (show a + n ≤ a + n ∧ a + n < aSz s y + n by omega), show a + n - n = a by omega] at e
              exact e
            rw [if_neg z2, A2]
            by_cases z3 : h 484 (391 + 256 * q + ix y (a - 1) x) = h 484 (391 + 256 * q + ix y a x)
            · rw [if_pos z3, if_pos ⟨by omega, z, z3⟩]
            · rw [if_neg z3, if_neg (fun v => z3 v.2.2)]
      · obtain ⟨o1, o2, o3⟩ := ol l l0 l1 z
        rw [if_neg z, if_neg (fun v => z v.2.1), a3.2.2.2.2 q l x q0 q1 l0 (by omega) x0 x1]
        try dsimp only
        rw [o1, if_neg (ge l o2)]
    have lins : ∀ q i : Int, 0 ≤ q → q < 4 → 0 ≤ i → i < aSz s y + n → row (7 + 64 * y + 16 * q + i) = if oIns a n i < 0 then -1 else h 484 (7 + 64 * y + 16 * q + oIns a n i) := fun q i q0 q1 i0 i1 => by
      rw [r1 _ (by omega) (by omega), b3.2.1 q i q0 q1 i0 (by omega)]
      by_cases z : a ≤ i ∧ i < a + n
      · rw [if_pos z, on i z.1 z.2, if_pos (by decide)]
      · obtain ⟨o1, o2, o3⟩ := ol i i0 i1 z
        rw [if_neg z, a3.2.1 q i q0 q1 i0 (by omega)]
        try dsimp only
        rw [o1, if_neg (ge i o2)]
    have linx : ∀ q i : Int, 0 ≤ q → q < 4 → 0 ≤ i → i < 16 → row (7 + 64 * (1 - y) + 16 * q + i) = h 484 (7 + 64 * (1 - y) + 16 * q + i) := fun q i q0 q1 i0 i1 => by
      rw [r1 _ (by omega) (by omega), b3.2.2.1 q i q0 q1 i0 i1, a3.2.2.1 q i q0 q1 i0 i1]
    have bnd : ∀ l : Int, 0 ≤ l → l < aSz s y + n → ¬ oIns a n l < 0 → 0 ≤ oIns a n l ∧ oIns a n l < aSz s y := fun l l0 l1 q => by
      have := okIns_sz hI (⟨c0, c1, c2⟩ : okIns s y a n) (by omega) l l0 l1
      omega
    obtain ⟨R1, R2, R3, R4, R5, R6, R7⟩ := hR
    rcases c0 with rfl | rfl
    · have z0 : aSz s 0 = aHi s := rfl
      have z1 : aSz s (1 - 0) = aWi s := rfl
      rw [z0] at r0 vals cels lins bnd ol c1 c5
      rw [z1] at vals cels
      refine ⟨⟨r0, by rw [r1 1 (by decide) (by decide), lowb 1 (by omega)]; exact R1.2.1, by rw [r1 2 (by decide) (by decide), lowb 2 (by omega)]; exact R1.2.2⟩, fun r c r0' r1' c0' c1' => ?_, fun p r c p0 p1 r0' r1' c0' c1' => ?_, fun p i p0 p1 i0 i1 => ?_, fun p i p0 p1 i0 i1 => ?_, fun p p0 p1 => by rw [r1 _ (by omega) (by omega), lowb _ (by omega)]; exact R6 p p0 p1, fun k k0 k1 => ?_⟩
      · have r1' : r < aHi s + n := r1'
        have c1' : c < aWi s := c1'
        show _ = if oIns a n r < 0 then 0 else aVal s (oIns a n r) c
        rw [show 135 + 16 * r + c = 135 + ix 0 r c by show _ = 135 + (16 * r + c); omega, vals r c r0' r1' c0' c1']
        by_cases q : oIns a n r < 0
        · rw [if_pos q, if_pos q]
        · have b := bnd r r0' r1' q
          rw [if_neg q, if_neg q, ← R2 _ c b.1 b.2 c0' c1']
          show h 484 (135 + (16 * oIns a n r + c)) = _
          first | (congr 1; omega) | congr 1
      · have r1' : r < aHi s + n := r1'
        have c1' : c < aWi s := c1'
        show _ = if (0 < a ∧ a < aHi s) ∧ (a ≤ r ∧ r < a + n) ∧ aCel s p (a - 1) c = aCel s p a c then aCel s p (a - 1) c else if oIns a n r < 0 then -1 else aCel s p (oIns a n r) c
        rw [show 391 + 256 * p + 16 * r + c = 391 + 256 * p + ix 0 r c by show _ = 391 + 256 * p + (16 * r + c); omega, cels p r c p0 p1 r0' r1' c0' c1']
        by_cases q : (0 < a ∧ a < aHi s) ∧ (a ≤ r ∧ r < a + n)
        · have t1 := R3 p (a - 1) c p0 p1 (by omega) (by omega) c0' c1'
          have t2 := R3 p a c p0 p1 (by omega) (by omega) c0' c1'
          rw [show 391 + 256 * p + ix 0 (a - 1) c = 391 + 256 * p + 16 * (a - 1) + c by show 391 + 256 * p + (16 * (a - 1) + c) = _; omega, show 391 + 256 * p + ix 0 a c = 391 + 256 * p + 16 * a + c by show 391 + 256 * p + (16 * a + c) = _; omega, t1, t2, on r q.2.1 q.2.2]
          by_cases z : aCel s p (a - 1) c = aCel s p a c
          · rw [if_pos ⟨q.1, q.2, z⟩, if_pos ⟨q.1, q.2, z⟩]
          · rw [if_neg (fun v => z v.2.2), if_pos (show (-1 : Int) < 0 by decide), if_neg (fun v => z v.2.2), if_pos (show (-1 : Int) < 0 by decide)]
        · by_cases z : oIns a n r < 0
          · rw [if_neg (fun v => q ⟨v.1, v.2.1⟩), if_pos z, if_neg (fun v => q ⟨v.1, v.2.1⟩), if_pos z]
          · have b := bnd r r0' r1' z
            rw [if_neg (fun v => q ⟨v.1, v.2.1⟩), if_neg z, if_neg (fun v => q ⟨v.1, v.2.1⟩), if_neg z, ← R3 p _ c p0 p1 b.1 b.2 c0' c1']
            show h 484 (391 + 256 * p + (16 * oIns a n r + c)) = _
            first | (congr 1; omega) | congr 1
      · have i1 : i < aHi s + n := i1
        show _ = if (0 : Int) = 0 then (if oIns a n i < 0 then -1 else aLin s 0 p (oIns a n i)) else aLin s 0 p i
        rw [if_pos rfl, show 7 + 16 * p + i = 7 + 64 * 0 + 16 * p + i by omega, lins p i p0 p1 i0 i1]
        by_cases z : oIns a n i < 0
        · rw [if_pos z, if_pos z]
        · have b := bnd i i0 i1 z
          rw [if_neg z, if_neg z, ← R4 p _ p0 p1 b.1 b.2]
          first | (congr 1; omega) | congr 1
      · have i1 : i < aWi s := i1
        show _ = if (1 : Int) = 0 then (if oIns a n i < 0 then -1 else aLin s 0 p (oIns a n i)) else aLin s 1 p i
        rw [if_neg (by decide), show 71 + 16 * p + i = 7 + 64 * (1 - 0) + 16 * p + i by omega, linx p i p0 p1 i0 (by omega), ← R5 p i p0 p1 i0 i1]
        congr 1
      · have k1 : k < aN s := k1
        have hr := R7 k k0 k1
        have ev := fun f f0 f1 => e4 k f k0 k1 f0 f1
        refine ⟨fun f f0 f1 => ?_, ?_, fun i hi => ?_⟩
        · rw [r2 _ (by omega), ev f f0 (by omega), if_pos k0]
          show _ = rIns 0 a n (aRul s k) f
          rw [rIns_row (R := hb 484) (v := aRul s k f) (by rw [lowb _ (by omega), hr.1 f f0 f1]), rIns_val (g := aRul s k) rfl]
        · rw [r2 _ (by omega), ev 7 (by decide) (by decide), if_pos k0, rIns_row (R := hb 484) rfl, if_neg (by omega)]
          rw [lowb _ (by omega)]
          exact hr.2.1
        · have hl : lenM (aCod s k) ≤ 400 := (hI.2.2.2.2.2.2.2.2 k k0 k1).2.2.2.2.2.2.1
          have hi : i < lenM (aCod s k) := hi
          rw [r2 _ (by omega), show 1415 + 408 * k + 8 + (i : Int) = 1415 + 408 * k + (8 + i) by omega, ev (8 + i) (by omega) (by omega), if_pos k0, rIns_row (R := hb 484) rfl, if_neg (by omega)]
          rw [lowb _ (by omega), show 1415 + 408 * k + (8 + (i : Int)) = 1415 + 408 * k + 8 + i by omega]
          exact hr.2.2 i hi
    · have z0 : aSz s 1 = aWi s := rfl
      have z1 : aSz s (1 - 1) = aHi s := rfl
      rw [z0] at r0 vals cels lins bnd ol c1 c5
      rw [z1] at vals cels
      refine ⟨⟨by rw [r1 0 (by decide) (by decide), lowb 0 (by omega)]; exact R1.1, r0, by rw [r1 2 (by decide) (by decide), lowb 2 (by omega)]; exact R1.2.2⟩, fun r c r0' r1' c0' c1' => ?_, fun p r c p0 p1 r0' r1' c0' c1' => ?_, fun p i p0 p1 i0 i1 => ?_, fun p i p0 p1 i0 i1 => ?_, fun p p0 p1 => by rw [r1 _ (by omega) (by omega), lowb _ (by omega)]; exact R6 p p0 p1, fun k k0 k1 => ?_⟩
      · have r1' : r < aHi s := r1'
        have c1' : c < aWi s + n := c1'
        show _ = if oIns a n c < 0 then 0 else aVal s r (oIns a n c)
        rw [show 135 + 16 * r + c = 135 + ix 1 c r by show _ = 135 + (16 * r + c); omega, vals c r c0' c1' r0' r1']
        by_cases q : oIns a n c < 0
        · rw [if_pos q, if_pos q]
        · have b := bnd c c0' c1' q
          rw [if_neg q, if_neg q, ← R2 r _ r0' r1' b.1 b.2]
          show h 484 (135 + (16 * r + oIns a n c)) = _
          first | (congr 1; omega) | congr 1
      · have r1' : r < aHi s := r1'
        have c1' : c < aWi s + n := c1'
        show _ = if (0 < a ∧ a < aWi s) ∧ (a ≤ c ∧ c < a + n) ∧ aCel s p r (a - 1) = aCel s p r a then aCel s p r (a - 1) else if oIns a n c < 0 then -1 else aCel s p r (oIns a n c)
        rw [show 391 + 256 * p + 16 * r + c = 391 + 256 * p + ix 1 c r by show _ = 391 + 256 * p + (16 * r + c); omega, cels p c r p0 p1 c0' c1' r0' r1']
        by_cases q : (0 < a ∧ a < aWi s) ∧ (a ≤ c ∧ c < a + n)
        · have t1 := R3 p r (a - 1) p0 p1 r0' r1' (by omega) (by omega)
          have t2 := R3 p r a p0 p1 r0' r1' (by omega) (by omega)
          rw [show 391 + 256 * p + ix 1 (a - 1) r = 391 + 256 * p + 16 * r + (a - 1) by show 391 + 256 * p + (16 * r + (a - 1)) = _; omega, show 391 + 256 * p + ix 1 a r = 391 + 256 * p + 16 * r + a by show 391 + 256 * p + (16 * r + a) = _; omega, t1, t2, on c q.2.1 q.2.2]
          by_cases z : aCel s p r (a - 1) = aCel s p r a
          · rw [if_pos ⟨q.1, q.2, z⟩, if_pos ⟨q.1, q.2, z⟩]
          · rw [if_neg (fun v => z v.2.2), if_pos (show (-1 : Int) < 0 by decide), if_neg (fun v => z v.2.2), if_pos (show (-1 : Int) < 0 by decide)]
        · by_cases z : oIns a n c < 0
          · rw [if_neg (fun v => q ⟨v.1, v.2.1⟩), if_pos z, if_neg (fun v => q ⟨v.1, v.2.1⟩), if_pos z]
          · have b := bnd c c0' c1' z
            rw [if_neg (fun v => q ⟨v.1, v.2.1⟩), if_neg z, if_neg (fun v => q ⟨v.1, v.2.1⟩), if_neg z, ← R3 p r _ p0 p1 r0' r1' b.1 b.2]
            show h 484 (391 + 256 * p + (16 * r + oIns a n c)) = _
            first | (congr 1; omega) | congr 1
      · have i1 : i < aHi s := i1
        show _ = if (0 : Int) = 1 then (if oIns a n i < 0 then -1 else aLin s 1 p (oIns a n i)) else aLin s 0 p i
        rw [if_neg (by decide), show 7 + 16 * p + i = 7 + 64 * (1 - 1) + 16 * p + i by omega, linx p i p0 p1 i0 (by omega), ← R4 p i p0 p1 i0 i1]
        first | (congr 1; omega) | congr 1
      · have i1 : i < aWi s + n := i1
        show _ = if (1 : Int) = 1 then (if oIns a n i < 0 then -1 else aLin s 1 p (oIns a n i)) else aLin s 1 p i
        rw [if_pos rfl, show 71 + 16 * p + i = 7 + 64 * 1 + 16 * p + i by omega, lins p i p0 p1 i0 i1]
        by_cases z : oIns a n i < 0
        · rw [if_pos z, if_pos z]
        · have b := bnd i i0 i1 z
          rw [if_neg z, if_neg z, ← R5 p _ p0 p1 b.1 b.2]
          congr 1
      · have k1 : k < aN s := k1
        have hr := R7 k k0 k1
        have ev := fun f f0 f1 => e4 k f k0 k1 f0 f1
        refine ⟨fun f f0 f1 => ?_, ?_, fun i hi => ?_⟩
        · rw [r2 _ (by omega), ev f f0 (by omega), if_pos k0]
          show _ = rIns 1 a n (aRul s k) f
          rw [rIns_row (R := hb 484) (v := aRul s k f) (by rw [lowb _ (by omega), hr.1 f f0 f1]), rIns_val (g := aRul s k) rfl]
        · rw [r2 _ (by omega), ev 7 (by decide) (by decide), if_pos k0, rIns_row (R := hb 484) rfl, if_neg (by omega)]
          rw [lowb _ (by omega)]
          exact hr.2.1
        · have hl : lenM (aCod s k) ≤ 400 := (hI.2.2.2.2.2.2.2.2 k k0 k1).2.2.2.2.2.2.1
          have hi : i < lenM (aCod s k) := hi
          rw [r2 _ (by omega), show 1415 + 408 * k + 8 + (i : Int) = 1415 + 408 * k + (8 + i) by omega, ev (8 + i) (by omega) (by omega), if_pos k0, rIns_row (R := hb 484) rfl, if_neg (by omega)]
          rw [lowb _ (by omega), show 1415 + 408 * k + (8 + (i : Int)) = 1415 + 408 * k + 8 + i by omega]
          exact hr.2.2 i hi
end PU
