/-! PURE: a line is moved, lines are ordered, in the reference's row. Printed by wip/whole/gen/gen63.py. -/
section PU
variable {d : Nat} {w : mm_W} {h : mm_H}
theorem L_M_movesLine_c (hd : 2 ≤ d) (hW : MW w) {y f t X : Int} {S : Int → Int} (hy : y = 0 ∨ y = 1) (hf : 0 ≤ f ∧ f < 16) (ht : 0 ≤ t ∧ t < 16) (hX : 0 ≤ X ∧ X < 16) (hft : f ≠ t) : ∀ (m : Nat) (p : Int) (h : mm_H), MH h → (∀ q : Int, 0 ≤ q → q < 4 → h 484 (391 + 256 * q + ix y f X) = S (391 + 256 * q + ix y f X)) → 0 ≤ p → p + m = 4 → ∃ h', l_M_movesLine_2 (mm_P d) 483 y f t X p w h = some (.inr (148, [(2, 483), (0, y), (0, f), (0, t), (0, X), (0, 4)], w, h')) ∧ (∀ b : Int, b ≠ 484 → h' b = h b) ∧ (∀ j : Int, j < 391 ∨ 1415 ≤ j → h' 484 j = h 484 j) ∧ ∀ q l x : Int, 0 ≤ q → q < 4 → 0 ≤ l → l < 16 → 0 ≤ x → x < 16 → h' 484 (391 + 256 * q + ix y l x) = if p ≤ q ∧ l = t ∧ x = X then S (391 + 256 * q + ix y f X) else h 484 (391 + 256 * q + ix y l x) := by
  have hw : (w.1 483).1 = 13 := by rw [hW.1]
  have e1 : 0 ≤ ix y f X ∧ ix y f X < 256 := by unfold ix; split <;> omega
  have e2 : 0 ≤ ix y t X ∧ ix y t X < 256 := by unfold ix; split <;> omega
  intro m
  induction m with
  | zero =>
    intro p h a1 as a2 a3
    rw [l_M_movesLine_2_eq, mLe_t (by omega)]
    exact ⟨h, by rw [show p = 4 by omega], fun _ _ => rfl, fun _ _ => rfl, fun q l x _ _ _ _ _ _ => by rw [if_neg (by omega)]⟩
  | succ m ih =>
    intro p h a1 as a2 a3
    have g1' : mm_P d 230 [(0, y), (0, t), (0, X)] w h = some ((0, ix y t X), w, h) := E_M_crossed hd hy (by omega) (by omega) (by omega) (by omega)
    have g2' : mm_P d 230 [(0, y), (0, f), (0, X)] w h = some ((0, ix y f X), w, h) := E_M_crossed hd hy (by omega) (by omega) (by omega) (by omega)
    rw [l_M_movesLine_2_eq, mLe_f (by omega), mF_t hw, g1', mC_s, mF_t hw, g2', mC_s]
    simp only [a1.1, a1.1]
    rw [mI_id (x := 256 * p) (by omega) (by omega), mI_id (x := 391 + 256 * p) (by omega) (by omega), mI_id (x := 391 + 256 * p + ix y f X) (by omega) (by omega), mI_id (x := 391 + 256 * p + ix y t X) (by omega) (by omega), mA_t hW.2.1 (by omega) (by omega), mAw_t hW.2.1 (by omega) (by omega) (by decide), mI_id (by omega) (by omega), as p a2 (by omega)]
    obtain ⟨h', g1, g2, g3, g4⟩ := ih (p + 1) (mUp h 484 (391 + 256 * p + ix y t X) (S (391 + 256 * p + ix y f X))) (MH_fr a1 (fun i _ => mUp_n (Or.inl (by decide)))) (fun q q0 q1 => by rw [mUp_n (Or.inr (fun z => hft (by unfold ix at z; rcases hy with rfl | rfl <;> simp at z <;> omega)))]; exact as q q0 q1) (by omega) (by omega)
    refine ⟨h', g1, fun b hb => by rw [g2 b hb, mUp_row hb], fun j hj => by rw [g3 j hj, mUp_n (Or.inr (by omega))], fun q l x q0 q1 l0 l1 x0 x1 => ?_⟩
    rw [g4 q l x q0 q1 l0 l1 x0 x1]
    by_cases c1 : p ≤ q ∧ l = t ∧ x = X
    · rw [if_pos c1]
      by_cases c2 : p + 1 ≤ q
      · rw [if_pos ⟨c2, c1.2⟩]
      · rw [if_neg (by omega), show q = p by omega, c1.2.1, c1.2.2]
        exact mUp_s
    · rw [if_neg c1, if_neg (by omega), mUp_n (Or.inr (fun z => c1 ?_))]
      unfold ix at z
      rcases hy with rfl | rfl
      · rw [if_pos rfl, if_pos rfl] at z; omega
      · rw [if_neg (by decide), if_neg (by decide)] at z; omega
theorem L_M_movesLine_x (hd : 2 ≤ d) (hW : MW w) {y f t ac : Int} {S : Int → Int} (hy : y = 0 ∨ y = 1) (hf : 0 ≤ f ∧ f < 16) (ht : 0 ≤ t ∧ t < 16) (hac : ac ≤ 16) (hft : f ≠ t) : ∀ (m : Nat) (X : Int) (h : mm_H), MH h → h 484 (1 - y) = ac → (∀ x : Int, 0 ≤ x → x < 16 → h 484 (135 + ix y f x) = S (135 + ix y f x)) → (∀ q x : Int, 0 ≤ q → q < 4 → 0 ≤ x → x < 16 → h 484 (391 + 256 * q + ix y f x) = S (391 + 256 * q + ix y f x)) → 0 ≤ X → X + m = ac → ∃ h', l_M_movesLine_1 (mm_P d) 483 y f t X w h = some (.inr (154, [(2, 483), (0, y), (0, f), (0, t), (0, ac), (9, 0)], w, h')) ∧ (∀ b : Int, b ≠ 484 → h' b = h b) ∧ (∀ j : Int, j < 135 ∨ 1415 ≤ j → h' 484 j = h 484 j) ∧ (∀ l x : Int, 0 ≤ l → l < 16 → 0 ≤ x → x < 16 → h' 484 (135 + ix y l x) = if l = t ∧ X ≤ x ∧ x < ac then S (135 + ix y f x) else h 484 (135 + ix y l x)) ∧ ∀ q l x : Int, 0 ≤ q → q < 4 → 0 ≤ l → l < 16 → 0 ≤ x → x < 16 → h' 484 (391 + 256 * q + ix y l x) = if l = t ∧ X ≤ x ∧ x < ac then S (391 + 256 * q + ix y f x) else h 484 (391 + 256 * q + ix y l x) := by
  have hw : (w.1 483).1 = 13 := by rw [hW.1]
  have ixb : ∀ l x : Int, 0 ≤ l → l < 16 → 0 ≤ x → x < 16 → 0 ≤ ix y l x ∧ ix y l x < 256 := fun l x _ _ _ _ => by unfold ix; split <;> omega
  have ixe : ∀ l x l' x' : Int, 0 ≤ l → l < 16 → 0 ≤ x → x < 16 → 0 ≤ l' → l' < 16 → 0 ≤ x' → x' < 16 → ix y l x = ix y l' x' → l = l' ∧ x = x' := fun l x l' x' _ _ _ _ _ _ _ _ e => by
    unfold ix at e
    rcases hy with rfl | rfl
    · rw [if_pos rfl, if_pos rfl] at e; omega
    · rw [if_neg (by decide), if_neg (by decide)] at e; omega
  intro m
  induction m with
  | zero =>
    intro X h a1 ac1 s1 s2 a2 a3
    rw [l_M_movesLine_1_eq, mF_t hw, a1.1, mI_id (x := 1 - y) (by omega) (by omega), mA_t hW.2.1 (by omega) (by omega), ac1, mLe_t (by omega)]
    exact ⟨h, by rw [show X = ac by omega], fun _ _ => rfl, fun _ _ => rfl, fun l x _ _ _ _ => by rw [if_neg (by omega)], fun q l x _ _ _ _ _ _ => by rw [if_neg (by omega)]⟩
  | succ m ih =>
    intro X h a1 ac1 s1 s2 a2 a3
    have bt := ixb t X ht.1 ht.2 a2 (by omega)
    have bf := ixb f X hf.1 hf.2 a2 (by omega)
    have g1' : mm_P d 230 [(0, y), (0, t), (0, X)] w h = some ((0, ix y t X), w, h) := E_M_crossed hd hy (by omega) (by omega) (by omega) (by omega)
    have g2' : mm_P d 230 [(0, y), (0, f), (0, X)] w h = some ((0, ix y f X), w, h) := E_M_crossed hd hy (by omega) (by omega) (by omega) (by omega)
    generalize hg : mUp h 484 (135 + ix y t X) (S (135 + ix y f X)) = ha
    have b1 : ∀ b : Int, b ≠ 484 → ha b = h b := fun b hb => by rw [← hg]; exact mUp_row hb
    have b2 : ∀ j : Int, j ≠ 135 + ix y t X → ha 484 j = h 484 j := fun j hj => by rw [← hg]; exact mUp_n (Or.inr hj)
    have b3 : ha 484 (135 + ix y t X) = S (135 + ix y f X) := by rw [← hg]; exact mUp_s
    have M1 : MH ha := MH_fr a1 (fun i _ => by rw [b1 483 (by decide)])
    have sc : ∀ q x : Int, 0 ≤ q → q < 4 → 0 ≤ x → x < 16 → ha 484 (391 + 256 * q + ix y f x) = S (391 + 256 * q + ix y f x) := fun q x q0 q1 x0 x1 => by
      have := ixb f x hf.1 hf.2 x0 x1
      rw [b2 _ (by omega)]; exact s2 q x q0 q1 x0 x1
    obtain ⟨hb, c1, c2, c3, c4⟩ := L_M_movesLine_c hd hW (S := S) hy hf ht ⟨a2, by omega⟩ hft 4 0 ha M1 (fun q q0 q1 => sc q X q0 q1 a2 (by omega)) (by decide) (by decide)
    obtain ⟨h', g1, g2, g3, g4, g5⟩ := ih (X + 1) hb (MH_fr M1 (fun i _ => by rw [c2 483 (by decide)])) (by rw [c3 (1 - y) (by omega), b2 (1 - y) (by omega)]; exact ac1) (fun x x0 x1 => by
      have := ixb f x hf.1 hf.2 x0 x1
      rw [c3 _ (by omega), b2 _ (fun z => hft (ixe f x t X hf.1 hf.2 x0 x1 ht.1 ht.2 a2 (by omega) (by omega)).1)]; exact s1 x x0 x1) (fun q x q0 q1 x0 x1 => by
      rw [c4 q f x q0 q1 hf.1 hf.2 x0 x1, if_neg (fun z => hft z.2.1)]; exact sc q x q0 q1 x0 x1) (by omega) (by omega)
    refine ⟨h', ?_, fun b hb' => by rw [g2 b hb', c2 b hb', b1 b hb'], fun j hj => by rw [g3 j hj, c3 j (by omega), b2 j (by omega)], fun l x l0 l1 x0 x1 => ?_, fun q l x q0 q1 l0 l1 x0 x1 => ?_⟩
    · rw [l_M_movesLine_1_eq, mF_t hw, a1.1, mI_id (x := 1 - y) (by omega) (by omega), mA_t hW.2.1 (by omega) (by omega), ac1, mLe_f (by omega), mF_t hw, g1', mC_s, mF_t hw, g2', mC_s]
      simp only [a1.1, a1.1]
      rw [mI_id (x := 135 + ix y f X) (by omega) (by omega), mI_id (x := 135 + ix y t X) (by omega) (by omega), mA_t hW.2.1 (by omega) (by omega), mAw_t hW.2.1 (by omega) (by omega) (by decide), s1 X a2 (by omega), hg, c1, mK_r, if_pos rfl]
      simp only [mP_0, mP_1, mP_2, mP_3, mP_4]
      rw [mI_id (by omega) (by omega), g1]
    · have bl := ixb l x l0 l1 x0 x1
      rw [g4 l x l0 l1 x0 x1, c3 (135 + ix y l x) (by omega)]
      by_cases q1 : l = t ∧ x = X
      · rw [q1.1, q1.2, if_neg (by omega), if_pos (by omega)]
        exact b3
      · rw [b2 (135 + ix y l x) (fun z => q1 (ixe l x t X l0 l1 x0 x1 ht.1 ht.2 a2 (by omega) (by omega)))]
        by_cases q2 : l = t ∧ X ≤ x ∧ x < ac
        · rw [if_pos q2, if_pos (by omega)]
        · rw [if_neg q2, if_neg (by omega)]
    · have bl := ixb l x l0 l1 x0 x1
      rw [g5 q l x q0 q1 l0 l1 x0 x1, c4 q l x q0 q1 l0 l1 x0 x1, b2 (391 + 256 * q + ix y l x) (by omega)]
      by_cases q3 : l = t ∧ x = X
      · rw [if_neg (by omega), if_pos ⟨q0, q3⟩, if_pos (by omega), q3.2]
      · rw [if_neg (show ¬ (0 ≤ q ∧ l = t ∧ x = X) from fun z => q3 z.2)]
        by_cases q2 : l = t ∧ X ≤ x ∧ x < ac
        · rw [if_pos q2, if_pos (by omega)]
        · rw [if_neg q2, if_neg (by omega)]
theorem L_M_movesLine_l (hd : 2 ≤ d) (hW : MW w) {y f t : Int} {S : Int → Int} (hy : y = 0 ∨ y = 1) (hf : 0 ≤ f ∧ f < 16) (ht : 0 ≤ t ∧ t < 16) (hft : f ≠ t) : ∀ (m : Nat) (p : Int) (h : mm_H), MH h → (∀ q : Int, 0 ≤ q → q < 4 → h 484 (7 + 64 * y + 16 * q + f) = S (7 + 64 * y + 16 * q + f)) → 0 ≤ p → p + m = 4 → ∃ h', l_M_movesLine_0 (mm_P d) 483 y f t p w h = some (.inr (39, [(2, 483), (0, y), (0, f), (0, t), (0, 4), (9, 0)], w, h')) ∧ (∀ b : Int, b ≠ 484 → h' b = h b) ∧ (∀ j : Int, j < 7 ∨ 135 ≤ j → h' 484 j = h 484 j) ∧ ∀ v q i : Int, (v = 0 ∨ v = 1) → 0 ≤ q → q < 4 → 0 ≤ i → i < 16 → h' 484 (7 + 64 * v + 16 * q + i) = if v = y ∧ p ≤ q ∧ i = t then S (7 + 64 * y + 16 * q + f) else h 484 (7 + 64 * v + 16 * q + i) := by
  have hw : (w.1 483).1 = 13 := by rw [hW.1]
  intro m
  induction m with
  | zero =>
    intro p h a1 as a2 a3
    rw [l_M_movesLine_0_eq, mLe_t (by omega)]
    exact ⟨h, by rw [show p = 4 by omega], fun _ _ => rfl, fun _ _ => rfl, fun v q i _ _ _ _ _ => by rw [if_neg (by omega)]⟩
  | succ m ih =>
    intro p h a1 as a2 a3
    rw [l_M_movesLine_0_eq, mLe_f (by omega), mF_t hw, E_M_lined (by omega) hy ⟨a2, by omega⟩ (by omega) (by omega), mC_s, mF_t hw, E_M_lined (by omega) hy ⟨a2, by omega⟩ (by omega) (by omega), mC_s]
    simp only [a1.1, a1.1]
    rw [mA_t hW.2.1 (by omega) (by omega), mAw_t hW.2.1 (by omega) (by omega) (by decide), mI_id (by omega) (by omega), as p a2 (by omega)]
    obtain ⟨h', g1, g2, g3, g4⟩ := ih (p + 1) (mUp h 484 (7 + 64 * y + 16 * p + t) (S (7 + 64 * y + 16 * p + f))) (MH_fr a1 (fun i _ => mUp_n (Or.inl (by decide)))) (fun q q0 q1 => by rw [mUp_n (Or.inr (by omega))]; exact as q q0 q1) (by omega) (by omega)
    refine ⟨h', g1, fun b hb => by rw [g2 b hb, mUp_row hb], fun j hj => by rw [g3 j hj, mUp_n (Or.inr (by omega))], fun v q i hv q0 q1 i0 i1 => ?_⟩
    rw [g4 v q i hv q0 q1 i0 i1]
    by_cases c1 : v = y ∧ p ≤ q ∧ i = t
    · rw [if_pos c1]
      by_cases c2 : p + 1 ≤ q
      · rw [if_pos ⟨c1.1, c2, c1.2.2⟩]
      · rw [if_neg (by omega), show q = p by omega, c1.1, c1.2.2]
        exact mUp_s
    · rw [if_neg c1, if_neg (by omega), mUp_n (Or.inr (by omega))]
theorem L_M_orders_c (hd : 2 ≤ d) (hW : MW w) {y f t X : Int} {S : Int → Int} (hy : y = 0 ∨ y = 1) (hf : 0 ≤ f ∧ f < 16) (ht : 0 ≤ t ∧ t < 16) (hX : 0 ≤ X ∧ X < 16) (hft : True) : ∀ (m : Nat) (p : Int) (h : mm_H), MH h → (∀ q : Int, 0 ≤ q → q < 4 → h 487 (391 + 256 * q + ix y f X) = S (391 + 256 * q + ix y f X)) → 0 ≤ p → p + m = 4 → ∃ h', l_M_orders_3 (mm_P d) 483 y t f X p w h = some (.inr (171, [(2, 483), (0, y), (0, t), (0, f), (0, X), (0, 4)], w, h')) ∧ (∀ b : Int, b ≠ 484 → h' b = h b) ∧ (∀ j : Int, j < 391 ∨ 1415 ≤ j → h' 484 j = h 484 j) ∧ ∀ q l x : Int, 0 ≤ q → q < 4 → 0 ≤ l → l < 16 → 0 ≤ x → x < 16 → h' 484 (391 + 256 * q + ix y l x) = if p ≤ q ∧ l = t ∧ x = X then S (391 + 256 * q + ix y f X) else h 484 (391 + 256 * q + ix y l x) := by
  have hw : (w.1 483).1 = 13 := by rw [hW.1]
  have e1 : 0 ≤ ix y f X ∧ ix y f X < 256 := by unfold ix; split <;> omega
  have e2 : 0 ≤ ix y t X ∧ ix y t X < 256 := by unfold ix; split <;> omega
  intro m
  induction m with
  | zero =>
    intro p h a1 as a2 a3
    rw [l_M_orders_3_eq, mLe_t (by omega)]
    exact ⟨h, by rw [show p = 4 by omega], fun _ _ => rfl, fun _ _ => rfl, fun q l x _ _ _ _ _ _ => by rw [if_neg (by omega)]⟩
  | succ m ih =>
    intro p h a1 as a2 a3
    have g1' : mm_P d 230 [(0, y), (0, t), (0, X)] w h = some ((0, ix y t X), w, h) := E_M_crossed hd hy (by omega) (by omega) (by omega) (by omega)
    have g2' : mm_P d 230 [(0, y), (0, f), (0, X)] w h = some ((0, ix y f X), w, h) := E_M_crossed hd hy (by omega) (by omega) (by omega) (by omega)
    rw [l_M_orders_3_eq, mLe_f (by omega), mF_t hw, g1', mC_s, mF_t hw, g2', mC_s]
    simp only [a1.2.2.2.1, a1.1]
    rw [mI_id (x := 256 * p) (by omega) (by omega), mI_id (x := 391 + 256 * p) (by omega) (by omega), mI_id (x := 391 + 256 * p + ix y f X) (by omega) (by omega), mI_id (x := 391 + 256 * p + ix y t X) (by omega) (by omega), mA_t hW.2.2.2.2.1 (by omega) (by omega), mAw_t hW.2.1 (by omega) (by omega) (by decide), mI_id (by omega) (by omega), as p a2 (by omega)]
    obtain ⟨h', g1, g2, g3, g4⟩ := ih (p + 1) (mUp h 484 (391 + 256 * p + ix y t X) (S (391 + 256 * p + ix y f X))) (MH_fr a1 (fun i _ => mUp_n (Or.inl (by decide)))) (fun q q0 q1 => by rw [mUp_row (by decide)]; exact as q q0 q1) (by omega) (by omega)
    refine ⟨h', g1, fun b hb => by rw [g2 b hb, mUp_row hb], fun j hj => by rw [g3 j hj, mUp_n (Or.inr (by omega))], fun q l x q0 q1 l0 l1 x0 x1 => ?_⟩
    rw [g4 q l x q0 q1 l0 l1 x0 x1]
    by_cases c1 : p ≤ q ∧ l = t ∧ x = X
    · rw [if_pos c1]
      by_cases c2 : p + 1 ≤ q
      · rw [if_pos ⟨c2, c1.2⟩]
      · rw [if_neg (by omega), show q = p by omega, c1.2.1, c1.2.2]
        exact mUp_s
    · rw [if_neg c1, if_neg (by omega), mUp_n (Or.inr (fun z => c1 ?_))]
      unfold ix at z
      rcases hy with rfl | rfl
      · rw [if_pos rfl, if_pos rfl] at z; omega
      · rw [if_neg (by decide), if_neg (by decide)] at z; omega
theorem L_M_orders_x (hd : 2 ≤ d) (hW : MW w) {y f t ac : Int} {S : Int → Int} (hy : y = 0 ∨ y = 1) (hf : 0 ≤ f ∧ f < 16) (ht : 0 ≤ t ∧ t < 16) (hac : ac ≤ 16) (hft : True) : ∀ (m : Nat) (X : Int) (h : mm_H), MH h → h 484 (1 - y) = ac → (∀ x : Int, 0 ≤ x → x < 16 → h 487 (135 + ix y f x) = S (135 + ix y f x)) → (∀ q x : Int, 0 ≤ q → q < 4 → 0 ≤ x → x < 16 → h 487 (391 + 256 * q + ix y f x) = S (391 + 256 * q + ix y f x)) → 0 ≤ X → X + m = ac → ∃ h', l_M_orders_2 (mm_P d) 483 y t f X w h = some (.inr (177, [(2, 483), (0, y), (0, t), (0, f), (0, ac), (9, 0)], w, h')) ∧ (∀ b : Int, b ≠ 484 → h' b = h b) ∧ (∀ j : Int, j < 135 ∨ 1415 ≤ j → h' 484 j = h 484 j) ∧ (∀ l x : Int, 0 ≤ l → l < 16 → 0 ≤ x → x < 16 → h' 484 (135 + ix y l x) = if l = t ∧ X ≤ x ∧ x < ac then S (135 + ix y f x) else h 484 (135 + ix y l x)) ∧ ∀ q l x : Int, 0 ≤ q → q < 4 → 0 ≤ l → l < 16 → 0 ≤ x → x < 16 → h' 484 (391 + 256 * q + ix y l x) = if l = t ∧ X ≤ x ∧ x < ac then S (391 + 256 * q + ix y f x) else h 484 (391 + 256 * q + ix y l x) := by
  have hw : (w.1 483).1 = 13 := by rw [hW.1]
  have ixb : ∀ l x : Int, 0 ≤ l → l < 16 → 0 ≤ x → x < 16 → 0 ≤ ix y l x ∧ ix y l x < 256 := fun l x _ _ _ _ => by unfold ix; split <;> omega
  have ixe : ∀ l x l' x' : Int, 0 ≤ l → l < 16 → 0 ≤ x → x < 16 → 0 ≤ l' → l' < 16 → 0 ≤ x' → x' < 16 → ix y l x = ix y l' x' → l = l' ∧ x = x' := fun l x l' x' _ _ _ _ _ _ _ _ e => by
    unfold ix at e
    rcases hy with rfl | rfl
    · rw [if_pos rfl, if_pos rfl] at e; omega
    · rw [if_neg (by decide), if_neg (by decide)] at e; omega
  intro m
  induction m with
  | zero =>
    intro X h a1 ac1 s1 s2 a2 a3
    rw [l_M_orders_2_eq, mF_t hw, a1.1, mI_id (x := 1 - y) (by omega) (by omega), mA_t hW.2.1 (by omega) (by omega), ac1, mLe_t (by omega)]
    exact ⟨h, by rw [show X = ac by omega], fun _ _ => rfl, fun _ _ => rfl, fun l x _ _ _ _ => by rw [if_neg (by omega)], fun q l x _ _ _ _ _ _ => by rw [if_neg (by omega)]⟩
  | succ m ih =>
    intro X h a1 ac1 s1 s2 a2 a3
    have bt := ixb t X ht.1 ht.2 a2 (by omega)
    have bf := ixb f X hf.1 hf.2 a2 (by omega)
    have g1' : mm_P d 230 [(0, y), (0, t), (0, X)] w h = some ((0, ix y t X), w, h) := E_M_crossed hd hy (by omega) (by omega) (by omega) (by omega)
    have g2' : mm_P d 230 [(0, y), (0, f), (0, X)] w h = some ((0, ix y f X), w, h) := E_M_crossed hd hy (by omega) (by omega) (by omega) (by omega)
    generalize hg : mUp h 484 (135 + ix y t X) (S (135 + ix y f X)) = ha
    have b1 : ∀ b : Int, b ≠ 484 → ha b = h b := fun b hb => by rw [← hg]; exact mUp_row hb
    have b2 : ∀ j : Int, j ≠ 135 + ix y t X → ha 484 j = h 484 j := fun j hj => by rw [← hg]; exact mUp_n (Or.inr hj)
    have b3 : ha 484 (135 + ix y t X) = S (135 + ix y f X) := by rw [← hg]; exact mUp_s
    have M1 : MH ha := MH_fr a1 (fun i _ => by rw [b1 483 (by decide)])
    have sc : ∀ q x : Int, 0 ≤ q → q < 4 → 0 ≤ x → x < 16 → ha 487 (391 + 256 * q + ix y f x) = S (391 + 256 * q + ix y f x) := fun q x q0 q1 x0 x1 => by
      have := ixb f x hf.1 hf.2 x0 x1
      rw [b1 487 (by decide)]; exact s2 q x q0 q1 x0 x1
    obtain ⟨hb, c1, c2, c3, c4⟩ := L_M_orders_c hd hW (S := S) hy hf ht ⟨a2, by omega⟩ hft 4 0 ha M1 (fun q q0 q1 => sc q X q0 q1 a2 (by omega)) (by decide) (by decide)
    obtain ⟨h', g1, g2, g3, g4, g5⟩ := ih (X + 1) hb (MH_fr M1 (fun i _ => by rw [c2 483 (by decide)])) (by rw [c3 (1 - y) (by omega), b2 (1 - y) (by omega)]; exact ac1) (fun x x0 x1 => by
      have := ixb f x hf.1 hf.2 x0 x1
      rw [c2 487 (by decide), b1 487 (by decide)]; exact s1 x x0 x1) (fun q x q0 q1 x0 x1 => by
      rw [c2 487 (by decide)]; exact sc q x q0 q1 x0 x1) (by omega) (by omega)
    refine ⟨h', ?_, fun b hb' => by rw [g2 b hb', c2 b hb', b1 b hb'], fun j hj => by rw [g3 j hj, c3 j (by omega), b2 j (by omega)], fun l x l0 l1 x0 x1 => ?_, fun q l x q0 q1 l0 l1 x0 x1 => ?_⟩
    · rw [l_M_orders_2_eq, mF_t hw, a1.1, mI_id (x := 1 - y) (by omega) (by omega), mA_t hW.2.1 (by omega) (by omega), ac1, mLe_f (by omega), mF_t hw, g1', mC_s, mF_t hw, g2', mC_s]
      simp only [a1.2.2.2.1, a1.1]
      rw [mI_id (x := 135 + ix y f X) (by omega) (by omega), mI_id (x := 135 + ix y t X) (by omega) (by omega), mA_t hW.2.2.2.2.1 (by omega) (by omega), mAw_t hW.2.1 (by omega) (by omega) (by decide), s1 X a2 (by omega), hg, c1, mK_r, if_pos rfl]
      simp only [mP_0, mP_1, mP_2, mP_3, mP_4]
      rw [mI_id (by omega) (by omega), g1]
    · have bl := ixb l x l0 l1 x0 x1
      rw [g4 l x l0 l1 x0 x1, c3 (135 + ix y l x) (by omega)]
      by_cases q1 : l = t ∧ x = X
      · rw [q1.1, q1.2, if_neg (by omega), if_pos (by omega)]
        exact b3
      · rw [b2 (135 + ix y l x) (fun z => q1 (ixe l x t X l0 l1 x0 x1 ht.1 ht.2 a2 (by omega) (by omega)))]
        by_cases q2 : l = t ∧ X ≤ x ∧ x < ac
        · rw [if_pos q2, if_pos (by omega)]
        · rw [if_neg q2, if_neg (by omega)]
    · have bl := ixb l x l0 l1 x0 x1
      rw [g5 q l x q0 q1 l0 l1 x0 x1, c4 q l x q0 q1 l0 l1 x0 x1, b2 (391 + 256 * q + ix y l x) (by omega)]
      by_cases q3 : l = t ∧ x = X
      · rw [if_neg (by omega), if_pos ⟨q0, q3⟩, if_pos (by omega), q3.2]
      · rw [if_neg (show ¬ (0 ≤ q ∧ l = t ∧ x = X) from fun z => q3 z.2)]
        by_cases q2 : l = t ∧ X ≤ x ∧ x < ac
        · rw [if_pos q2, if_pos (by omega)]
        · rw [if_neg q2, if_neg (by omega)]
theorem L_M_orders_l (hd : 2 ≤ d) (hW : MW w) {y f t : Int} {S : Int → Int} (hy : y = 0 ∨ y = 1) (hf : 0 ≤ f ∧ f < 16) (ht : 0 ≤ t ∧ t < 16) (hft : True) : ∀ (m : Nat) (p : Int) (h : mm_H), MH h → (∀ q : Int, 0 ≤ q → q < 4 → h 487 (7 + 64 * y + 16 * q + f) = S (7 + 64 * y + 16 * q + f)) → 0 ≤ p → p + m = 4 → ∃ h', l_M_orders_1 (mm_P d) 483 y t f p w h = some (.inr (62, [(2, 483), (0, y), (0, t), (0, f), (0, 4), (9, 0)], w, h')) ∧ (∀ b : Int, b ≠ 484 → h' b = h b) ∧ (∀ j : Int, j < 7 ∨ 135 ≤ j → h' 484 j = h 484 j) ∧ ∀ v q i : Int, (v = 0 ∨ v = 1) → 0 ≤ q → q < 4 → 0 ≤ i → i < 16 → h' 484 (7 + 64 * v + 16 * q + i) = if v = y ∧ p ≤ q ∧ i = t then S (7 + 64 * y + 16 * q + f) else h 484 (7 + 64 * v + 16 * q + i) := by
  have hw : (w.1 483).1 = 13 := by rw [hW.1]
  intro m
  induction m with
  | zero =>
    intro p h a1 as a2 a3
    rw [l_M_orders_1_eq, mLe_t (by omega)]
    exact ⟨h, by rw [show p = 4 by omega], fun _ _ => rfl, fun _ _ => rfl, fun v q i _ _ _ _ _ => by rw [if_neg (by omega)]⟩
  | succ m ih =>
    intro p h a1 as a2 a3
    rw [l_M_orders_1_eq, mLe_f (by omega), mF_t hw, E_M_lined (by omega) hy ⟨a2, by omega⟩ (by omega) (by omega), mC_s, mF_t hw, E_M_lined (by omega) hy ⟨a2, by omega⟩ (by omega) (by omega), mC_s]
    simp only [a1.2.2.2.1, a1.1]
    rw [mA_t hW.2.2.2.2.1 (by omega) (by omega), mAw_t hW.2.1 (by omega) (by omega) (by decide), mI_id (by omega) (by omega), as p a2 (by omega)]
    obtain ⟨h', g1, g2, g3, g4⟩ := ih (p + 1) (mUp h 484 (7 + 64 * y + 16 * p + t) (S (7 + 64 * y + 16 * p + f))) (MH_fr a1 (fun i _ => mUp_n (Or.inl (by decide)))) (fun q q0 q1 => by rw [mUp_row (by decide)]; exact as q q0 q1) (by omega) (by omega)
    refine ⟨h', g1, fun b hb => by rw [g2 b hb, mUp_row hb], fun j hj => by rw [g3 j hj, mUp_n (Or.inr (by omega))], fun v q i hv q0 q1 i0 i1 => ?_⟩
    rw [g4 v q i hv q0 q1 i0 i1]
    by_cases c1 : v = y ∧ p ≤ q ∧ i = t
    · rw [if_pos c1]
      by_cases c2 : p + 1 ≤ q
      · rw [if_pos ⟨c1.1, c2, c1.2.2⟩]
      · rw [if_neg (by omega), show q = p by omega, c1.1, c1.2.2]
        exact mUp_s
    · rw [if_neg c1, if_neg (by omega), mUp_n (Or.inr (by omega))]
end PU
