/-! PURE: the reference's tokens. -/
/-- a word, its last letter first, as a number -/
def wG : List Int → Int
  | [] => 0
  | c :: l => 32 * wG l + (c - 96)
theorem wG_in : ∀ l : List Int, (∀ c ∈ l, 97 ≤ c ∧ c ≤ 122) → 0 ≤ wG l ∧ wG l < 32 ^ l.length := by
  intro l
  induction l with
  | nil => intro _; exact ⟨by decide, by decide⟩
  | cons c l ih =>
    intro h
    have h1 := ih (fun x hx => h x (List.mem_cons_of_mem _ hx))
    have h2 := h c (List.mem_cons_self)
    unfold wG
    rw [List.length_cons, Int.pow_succ]
    omega
theorem wG_inj : ∀ l m : List Int, (∀ c ∈ l, 97 ≤ c ∧ c ≤ 122) → (∀ c ∈ m, 97 ≤ c ∧ c ≤ 122) → wG l = wG m → l = m := by
  intro l
  induction l with
  | nil =>
    intro m _ hm h
    cases m with
    | nil => rfl
    | cons c m =>
      have h1 := wG_in m (fun x hx => hm x (List.mem_cons_of_mem _ hx))
      have h2 := hm c (List.mem_cons_self)
      unfold wG at h
      omega
  | cons c l ih =>
    intro m hl hm h
    have l1 := wG_in l (fun x hx => hl x (List.mem_cons_of_mem _ hx))
    have l2 := hl c (List.mem_cons_self)
    cases m with
    | nil => unfold wG at h; omega
    | cons e m =>
      have h1 := wG_in m (fun x hx => hm x (List.mem_cons_of_mem _ hx))
      have h2 := hm e (List.mem_cons_self)
      unfold wG at h
      have : c = e ∧ wG l = wG m := by omega
      rw [this.1, ih m (fun x hx => hl x (List.mem_cons_of_mem _ hx)) (fun x hx => hm x (List.mem_cons_of_mem _ hx)) this.2]
/-- what the reference makes of k letters from s on -/
def hsh (B : Int → Int) (s : Int) : Nat → Int
  | 0 => 0
  | k + 1 => if k < 12 then 32 * hsh B s k + B (s + k) - 97 + 1 else -1
theorem hsh_wG {B : Int → Int} {s : Int} : ∀ k : Nat, k ≤ 12 → hsh B s k = wG ((List.range k).map (fun (i : Nat) => B (s + i))).reverse := by
  intro k
  induction k with
  | zero => intro _; rfl
  | succ k ih =>
    intro h
    unfold hsh
    rw [if_pos (by omega), ih (by omega), List.range_succ, List.map_append, List.reverse_append]
    have e : ∀ (c : Int) (l : List Int), wG (c :: l) = 32 * wG l + (c - 96) := fun _ _ => rfl
    have e2 : ∀ l : List Int, (([k].map (fun (i : Nat) => B (s + i))).reverse ++ l) = B (s + k) :: l := fun _ => rfl
    rw [e2, e]
    omega
theorem hsh_big {B : Int → Int} {s : Int} {k : Nat} (h : 12 < k) : hsh B s k = -1 := by
  cases k with
  | zero => omega
  | succ k => unfold hsh; rw [if_neg (by omega)]
theorem hsh_in {B : Int → Int} {s : Int} {k : Nat} (h : k ≤ 11) (hb : ∀ i : Nat, i < k → 97 ≤ B (s + i) ∧ B (s + i) ≤ 122) : 0 ≤ hsh B s k ∧ hsh B s k < 36028797018963968 := by
  rw [hsh_wG k (by omega)]
  have h1 := wG_in ((List.range k).map (fun (i : Nat) => B (s + i))).reverse (fun c hc => by
    simp only [List.mem_reverse, List.mem_map, List.mem_range] at hc
    obtain ⟨i, i1, i2⟩ := hc
    rw [← i2]; exact hb i i1)
  have h2 : (32 : Int) ^ ((List.range k).map (fun (i : Nat) => B (s + i))).reverse.length ≤ 32 ^ 11 := by
    have h3 := Nat.pow_le_pow_right (n := 32) (by decide) h
    rw [List.length_reverse, List.length_map, List.length_range]
    have h4 : ((32 ^ k : Nat) : Int) ≤ ((32 ^ 11 : Nat) : Int) := Int.ofNat_le.mpr h3
    rw [Int.natCast_pow, Int.natCast_pow] at h4
    exact h4
  exact ⟨h1.1, Int.lt_of_lt_of_le h1.2 h2⟩
/-- the reference's kind of a token -/
def kM (z k : Int) : Prop := (k ≠ 3 ∧ z = k) ∨ (k = 3 ∧ z ≠ 0 ∧ z ≠ 1 ∧ z ≠ 2 ∧ z ∉ sgs)
theorem kM_iff {z k c : Int} (h : kM z k) (hc : c = 0 ∨ c = 1 ∨ c = 2 ∨ c ∈ sgs) : z = c ↔ k = c := by
  have h3 : c ≠ 3 := by
    rcases hc with rfl | rfl | rfl | hc
    · decide
    · decide
    · decide
    · rintro rfl; exact absurd hc (by decide)
  rcases h with ⟨h1, h2⟩ | ⟨h1, h2, h4, h5, h6⟩
  · rw [h2]
  · constructor
    · intro e
      rw [e] at h2 h4 h5 h6
      rcases hc with hc | hc | hc | hc
      · exact absurd hc h2
      · exact absurd hc h4
      · exact absurd hc h5
      · exact absurd hc h6
    · intro e; omega
/-- it holds the bytes B, n of them -/
def MB (h : mm_H) (B : Int → Int) (n : Int) : Prop := h 483 15 = n ∧ (0 ≤ n ∧ n ≤ 200) ∧ (∀ j : Int, 0 ≤ j → j < n → h 490 j = B j) ∧ ∀ j : Int, 0 ≤ j → j < n → 0 ≤ B j ∧ B j < 256
/-- the token behind p is before it, but for the fault -/
def MT0 (h : mm_H) (B : Int → Int) (n p : Int) : Prop := kM (h 483 18) (tK B n p) ∧ h 483 16 = tS B n p ∧ h 483 17 = tE B n p ∧ (tK B n p = 1 → h 483 23 = hsh B (tS B n p) (tE B n p - tS B n p).toNat) ∧ 0 ≤ p ∧ p ≤ n
def MT (h : mm_H) (B : Int → Int) (n p : Int) : Prop := MB h B n ∧ h 483 19 = -1 ∧ MT0 h B n p
/-- it has found the fault f -/
def MF (h : mm_H) (B : Int → Int) (n f : Int) : Prop := MB h B n ∧ h 483 19 = f ∧ f ≠ -1 ∧ h 483 18 = 0 ∧ h 483 16 = n ∧ h 483 17 = n
/-- only the reader's own fields have changed -/
def MO (h h' : mm_H) : Prop := (∀ b : Int, b ≠ 483 → h' b = h b) ∧ ∀ i : Int, ¬ (16 ≤ i ∧ i < 20) → i ≠ 23 → h' 483 i = h 483 i
theorem MO_rf (h : mm_H) : MO h h := ⟨fun _ _ => rfl, fun _ _ _ => rfl⟩
theorem MO_tr {a b c : mm_H} (x : MO a b) (y : MO b c) : MO a c := ⟨fun q hq => (y.1 q hq).trans (x.1 q hq), fun i hi hj => (y.2 i hi hj).trans (x.2 i hi hj)⟩
theorem MO_up {h : mm_H} {i z : Int} (hi : (16 ≤ i ∧ i < 20) ∨ i = 23) : MO h (mUp h 483 i z) := ⟨fun b hb => mUp_row hb, fun j hj hk => mUp_n (Or.inr (by omega))⟩
theorem MO_MH {h h' : mm_H} (o : MO h h') (hM : MH h) : MH h' := MH_fr hM (fun i hi => o.2 i (by unfold mRef at hi; omega) (by unfold mRef at hi; omega))
theorem MB_to {h h' : mm_H} {B : Int → Int} {n : Int} (hT : MB h B n) (o : MO h h') : MB h' B n := by
  obtain ⟨t1, t2, t3, t4⟩ := hT
  exact ⟨by rw [o.2 15 (by omega) (by omega)]; exact t1, t2, by rw [o.1 490 (by decide)]; exact t3, t4⟩
section PU
variable {d : Nat} {w : mm_W} {h : mm_H} {B : Int → Int} {n p : Int}
theorem MW_490 (hW : MW w) : w.1 490 = (50, 200) := hW.2.2.2.2.2.2.2.1
theorem MH_14 (hH : MH h) : h 483 14 = 490 := hH.2.2.2.2.2.2.1
theorem L_M_next0 (hW : MW w) : ∀ (k : Nat) (q : Int) (h : mm_H), MH h → MB h B n → h 483 16 = q → 0 ≤ q → q + k = n → ∃ h', l_M_next_0 (mm_P d) 483 w h = some (.inr (46, [(2, 483)], w, h')) ∧ MO h h' ∧ h' 483 16 = tSkip B n k q ∧ (∀ i : Int, i ≠ 16 → h' 483 i = h 483 i) := by
  have hw : (w.1 483).1 = 13 := by rw [hW.1]
  intro k
  induction k with
  | zero =>
    intro q h hM hT h4 h0 hq
    rw [l_M_next_0_eq, mF_t hw, mF_t hw, hT.1, h4, mLe_t (by omega)]
    exact ⟨h, rfl, MO_rf h, h4, fun _ _ => rfl⟩
  | succ k ih =>
    intro q h hM hT h4 h0 hq
    have hn := hT.2.1
    rw [l_M_next_0_eq, mF_t hw, mF_t hw, hT.1, h4, mLe_f (by omega), mF_t hw, mF_t hw, MH_14 hM, mA_t (MW_490 hW) h0 (by omega), hT.2.2.1 q h0 (by omega)]
    unfold tSkip
    by_cases hb : B q = 32
    · rw [mEq_t hb, mF_t hw, mF_t hw, if_pos ⟨by omega, hb⟩]
      dsimp only
      rw [mI_id (by omega) (by omega)]
      have o : MO h (mUp h 483 16 (q + 1)) := MO_up (by omega)
      obtain ⟨h', g1, g2, g3, g4⟩ := ih (q + 1) (mUp h 483 16 (q + 1)) (MO_MH o hM) (MB_to hT o) mUp_s (by omega) (by omega)
      exact ⟨h', g1, MO_tr o g2, g3, fun i hi => by rw [g4 i hi, mUp_n (Or.inr hi)]⟩
    · rw [mEq_f hb, if_neg (fun h => hb h.2)]
      exact ⟨h, rfl, MO_rf h, h4, fun _ _ => rfl⟩
theorem tSort_w (b : Int) : (97 ≤ b ∧ b ≤ 122) ↔ tSort b = 1 := by
  unfold tSort
  repeat' split
  all_goals omega
theorem tSort_d (b : Int) : (48 ≤ b ∧ b ≤ 57) ↔ tSort b = 2 := by
  unfold tSort
  repeat' split
  all_goals omega
theorem E_M_isWordAt (hd : 2 ≤ d) (hW : MW w) (hH : MH h) (hT : MB h B n) {k : Int} (hk : 0 ≤ k) : mm_P d 256 [(2, 483), (0, k)] w h = some ((0, bI (k < n ∧ tSort (B k) = 1)), w, h) := by
  obtain ⟨d, rfl, hd2⟩ := mm_dS hd; clear hd; have hd := hd2; clear hd2
  have hw : (w.1 483).1 = 13 := by rw [hW.1]
  have hn := hT.2.1
  rw [P_M_isWordAt, mF_t hw, hT.1]
  by_cases c : k < n
  rotate_left
  · rw [mLe_t (by omega), mZ_0, bI_f (fun x => c x.1)]
  rw [mLe_f c, mF_t hw, MH_14 hH, mA_t (MW_490 hW) hk (by omega), hT.2.2.1 k hk c, E_M_in hd, mC_s]
  by_cases c2 : tSort (B k) = 1
  · rw [bI_t ((tSort_w _).mpr c2), mEq_f (by decide), mZ_1, bI_t ⟨c, c2⟩]
  · rw [bI_f (fun x => c2 ((tSort_w _).mp x)), mEq_t rfl, mZ_0, bI_f (fun x => c2 x.2)]
theorem E_M_isFigureAt (hd : 2 ≤ d) (hW : MW w) (hH : MH h) (hT : MB h B n) {k : Int} (hk : 0 ≤ k) : mm_P d 257 [(2, 483), (0, k)] w h = some ((0, bI (k < n ∧ tSort (B k) = 2)), w, h) := by
  obtain ⟨d, rfl, hd2⟩ := mm_dS hd; clear hd; have hd := hd2; clear hd2
  have hw : (w.1 483).1 = 13 := by rw [hW.1]
  have hn := hT.2.1
  rw [P_M_isFigureAt, mF_t hw, hT.1]
  by_cases c : k < n
  rotate_left
  · rw [mLe_t (by omega), mZ_0, bI_f (fun x => c x.1)]
  rw [mLe_f c, mF_t hw, MH_14 hH, mA_t (MW_490 hW) hk (by omega), hT.2.2.1 k hk c, E_M_in hd, mC_s]
  by_cases c2 : tSort (B k) = 2
  · rw [bI_t ((tSort_d _).mpr c2), mEq_f (by decide), mZ_1, bI_t ⟨c, c2⟩]
  · rw [bI_f (fun x => c2 ((tSort_d _).mp x)), mEq_t rfl, mZ_0, bI_f (fun x => c2 x.2)]
theorem L_M_next2 (hd : 2 ≤ d) (hW : MW w) : ∀ (k : Nat) (q : Int) (h : mm_H), MH h → MB h B n → h 483 17 = q → 0 ≤ q → q + k = n → ∃ h', l_M_next_2 (mm_P d) 483 w h = some (.inr (249, [(2, 483)], w, h')) ∧ MO h h' ∧ h' 483 17 = tRun B n 2 k q ∧ (∀ i : Int, i ≠ 17 → h' 483 i = h 483 i) := by
  have hw : (w.1 483).1 = 13 := by rw [hW.1]
  intro k
  induction k with
  | zero =>
    intro q h hM hT h4 h0 hq
    rw [l_M_next_2_eq, mF_t hw, mF_t hw, h4, E_M_isFigureAt hd hW hM hT h0, mC_s, bI_f (by omega), mEq_t rfl]
    exact ⟨h, rfl, MO_rf h, h4, fun _ _ => rfl⟩
  | succ k ih =>
    intro q h hM hT h4 h0 hq
    have hn := hT.2.1
    rw [l_M_next_2_eq, mF_t hw, mF_t hw, h4, E_M_isFigureAt hd hW hM hT h0, mC_s]
    unfold tRun
    by_cases hb : q < n ∧ tSort (B q) = 2
    · rw [bI_t hb, mEq_f (by decide), mF_t hw, mF_t hw, if_pos hb]
      dsimp only
      rw [h4, mI_id (by omega) (by omega)]
      have o : MO h (mUp h 483 17 (q + 1)) := MO_up (by omega)
      obtain ⟨h', g1, g2, g3, g4⟩ := ih (q + 1) (mUp h 483 17 (q + 1)) (MO_MH o hM) (MB_to hT o) mUp_s (by omega) (by omega)
      exact ⟨h', g1, MO_tr o g2, g3, fun i hi => by rw [g4 i hi, mUp_n (Or.inr hi)]⟩
    · rw [bI_f hb, mEq_t rfl, if_neg hb]
      exact ⟨h, rfl, MO_rf h, h4, fun _ _ => rfl⟩
theorem L_M_next1 (hd : 2 ≤ d) (hW : MW w) {s : Int} (hs : 0 ≤ s) : ∀ (k : Nat) (q : Int) (h : mm_H), MH h → MB h B n → h 483 16 = s → h 483 17 = q → s ≤ q → q + k = n → (∀ j : Int, s ≤ j → j < q → 97 ≤ B j ∧ B j ≤ 122) → h 483 23 = hsh B s (q - s).toNat → ∃ h', l_M_next_1 (mm_P d) 483 w h = some (.inr (249, [(2, 483)], w, h')) ∧ MO h h' ∧ h' 483 17 = tRun B n 1 k q ∧ (∀ i : Int, i ≠ 17 → i ≠ 23 → h' 483 i = h 483 i) ∧ h' 483 23 = hsh B s (tRun B n 1 k q - s).toNat := by
  have hw : (w.1 483).1 = 13 := by rw [hW.1]
  intro k
  induction k with
  | zero =>
    intro q h hM hT h16 h4 h0 hq hl h23
    rw [l_M_next_1_eq, mF_t hw, mF_t hw, h4, E_M_isWordAt hd hW hM hT (by omega), mC_s, bI_f (by omega), mEq_t rfl]
    exact ⟨h, rfl, MO_rf h, h4, fun _ _ _ => rfl, h23⟩
  | succ k ih =>
    intro q h hM hT h16 h4 h0 hq hl h23
    have hn := hT.2.1
    rw [l_M_next_1_eq, mF_t hw, mF_t hw, h4, E_M_isWordAt hd hW hM hT (by omega), mC_s]
    unfold tRun
    by_cases hb : q < n ∧ tSort (B q) = 1
    · have hB := (tSort_w _).mpr hb.2
      rw [bI_t hb, mEq_f (by decide), mF_t hw, mF_t hw, if_pos hb, h4, h16, mI_id (by omega) (by omega)]
      have key : ∀ z : Int, z = hsh B s (q + 1 - s).toNat → ∃ h', l_M_next_1 (mm_P d) 483 w (mUp (mUp h 483 23 z) 483 17 (q + 1)) = some (.inr (249, [(2, 483)], w, h')) ∧ MO h h' ∧ h' 483 17 = tRun B n 1 k (q + 1) ∧ (∀ i : Int, i ≠ 17 → i ≠ 23 → h' 483 i = h 483 i) ∧ h' 483 23 = hsh B s (tRun B n 1 k (q + 1) - s).toNat := by
        intro z hz
        have o : MO h (mUp (mUp h 483 23 z) 483 17 (q + 1)) := MO_tr (MO_up (by omega)) (MO_up (by omega))
        obtain ⟨h', g1, g2, g3, g4, g5⟩ := ih (q + 1) (mUp (mUp h 483 23 z) 483 17 (q + 1)) (MO_MH o hM) (MB_to hT o) (by rw [mUp_n (Or.inr (by decide)), mUp_n (Or.inr (by decide))]; exact h16) mUp_s (by omega) (by omega) (fun j a b => by
          by_cases e : j = q
          · rw [e]; exact hB
          · exact hl j a (by omega)) (by rw [mUp_n (Or.inr (by decide)), mUp_s]; exact hz)
        exact ⟨h', g1, MO_tr o g2, g3, fun i hi hj => by rw [g4 i hi hj, mUp_n (Or.inr hi), mUp_n (Or.inr hj)], g5⟩
      have e1 : (q + 1 - s).toNat = (q - s).toNat + 1 := by omega
      by_cases c : 12 ≤ q - s
      · rw [mLe_t c, mF_t hw]
        try dsimp only
        simp only [mF_t hw]
        rw [mUp_n (Or.inr (by decide)), h4, mI_id (by omega) (by omega)]
        exact key (-1) (by rw [e1, hsh_big (by omega)])
      · have hv := hsh_in (B := B) (s := s) (k := (q - s).toNat) (by omega) (fun i hi => hl _ (by omega) (by omega))
        rw [mLe_f (by omega)]
        simp only [mF_t hw]
        rw [MH_14 hM, mA_t (MW_490 hW) (by omega) (by omega), hT.2.2.1 q (by omega) hb.1, h23]
        try dsimp only
        rw [mUp_n (Or.inr (by decide)), h4, mI_id (by omega) (by omega)]
        rw [mJ_id (x := 32 * hsh B s (q - s).toNat) (by omega) (by omega), mJ_id (x := 32 * hsh B s (q - s).toNat + B q) (by omega) (by omega), mJ_id (x := 32 * hsh B s (q - s).toNat + B q - 97) (by omega) (by omega), mJ_id (x := 32 * hsh B s (q - s).toNat + B q - 97 + 1) (by omega) (by omega)]
        refine key _ ?_
        rw [e1]
        show _ = if (q - s).toNat < 12 then 32 * hsh B s (q - s).toNat + B (s + ((q - s).toNat : Int)) - 97 + 1 else -1
        rw [if_pos (by omega), show s + ((q - s).toNat : Int) = q by omega]
    · rw [bI_f hb, mEq_t rfl, if_neg hb]
      exact ⟨h, rfl, MO_rf h, h4, fun _ _ _ => rfl, h23⟩
/-- the next token is taken, the last one ended at p -/
theorem E_M_next (hd : 3 ≤ d) (hW : MW w) (hH : MH h) (hT : MB h B n) (hp : h 483 17 = p) (p0 : 0 ≤ p) (p1 : p ≤ n) : ∃ h', mm_P d 258 [(2, 483)] w h = some ((9, 0), w, h') ∧ MO h h' ∧ h' 483 19 = h 483 19 ∧ MT0 h' B n p := by
  obtain ⟨d, rfl, hd2⟩ := mm_dS hd; clear hd; have hd := hd2; clear hd2
  have hw : (w.1 483).1 = 13 := by rw [hW.1]
  have hn := hT.2.1
  have l1 := tS_le (B := B) p1
  have l2 := tE_le (B := B) p1
  rw [P_M_next, mF_t hw, mF_t hw, hp]
  try dsimp only
  have o1 : MO h (mUp h 483 16 p) := MO_up (by omega)
  obtain ⟨h1, a1, a2, a3, a4⟩ := L_M_next0 (d := d) hW (n - p).toNat p (mUp h 483 16 p) (MO_MH o1 hH) (MB_to hT o1) mUp_s p0 (by omega)
  have o2 := MO_tr o1 a2
  have z16 : h1 483 16 = tS B n p := a3
  have z19 : h1 483 19 = h 483 19 := by rw [a4 19 (by decide), mUp_n (Or.inr (by decide))]
  rw [a1, mK_r, if_pos rfl]
  simp only [mP_0]
  rw [mF_t hw, mF_t hw]
  try dsimp only
  rw [z16]
  generalize hg : mUp h1 483 17 (tS B n p) = h2
  have o3 : MO h1 h2 := by rw [← hg]; exact MO_up (by omega)
  have o4 := MO_tr o2 o3
  have M2 : MH h2 := MO_MH o4 hH
  have T2 : MB h2 B n := MB_to hT o4
  have y16 : h2 483 16 = tS B n p := by rw [← hg, mUp_n (Or.inr (by decide))]; exact z16
  have y17 : h2 483 17 = tS B n p := by rw [← hg]; exact mUp_s
  have y19 : h2 483 19 = h 483 19 := by rw [← hg, mUp_n (Or.inr (by decide))]; exact z19
  rw [mF_t hw, mF_t hw, y16, T2.1]
  by_cases c : tS B n p = n
  · rw [mEq_t c, mF_t hw]
    have k0 : tK B n p = 0 := by unfold tK; rw [if_pos (by omega)]
    have e0 : tE B n p = n := by unfold tE; rw [if_pos (by omega)]
    refine ⟨_, rfl, MO_tr o4 (MO_up (by omega)), by rw [mUp_n (Or.inr (by decide))]; exact y19, ?_, ?_, ?_, ?_, p0, p1⟩
    · rw [mUp_s, k0]; exact Or.inl ⟨by decide, rfl⟩
    · rw [mUp_n (Or.inr (by decide))]; exact y16
    · rw [mUp_n (Or.inr (by decide)), y17, e0, c]
    · intro h1; omega
  have cn : tS B n p < n := by omega
  rw [mEq_f c, mF_t hw, mF_t hw, E_M_isWordAt (by omega) hW M2 T2 (by omega), mC_s]
  have s3 := tSort_3 (B (tS B n p))
  have hB := hT.2.2.2 (tS B n p) (by omega) cn
  by_cases c1 : tSort (B (tS B n p)) = 1
  · have k1 : tK B n p = 1 := by unfold tK; rw [if_neg (by omega), if_pos (by omega)]; exact c1
    have e1 : tE B n p = tRun B n 1 (n - (tS B n p + 1)).toNat (tS B n p + 1) := by unfold tE; rw [if_neg (by omega), if_neg (by omega), c1]
    have e2 : tRun B n 1 (n - tS B n p).toNat (tS B n p) = tE B n p := by
      rw [e1, show (n - tS B n p).toNat = (n - (tS B n p + 1)).toNat + 1 by omega]
      show (if tS B n p < n ∧ tSort (B (tS B n p)) = 1 then tRun B n 1 (n - (tS B n p + 1)).toNat (tS B n p + 1) else tS B n p) = _
      rw [if_pos ⟨cn, c1⟩]
    rw [bI_t ⟨cn, c1⟩, mEq_f (by decide), mF_t hw]
    try dsimp only
    rw [mF_t hw]
    have o5 : MO h2 (mUp (mUp h2 483 18 1) 483 23 0) := MO_tr (MO_up (by omega)) (MO_up (by omega))
    obtain ⟨h3, b1, b2, b3, b4, b5⟩ := L_M_next1 (d := d) (by omega) hW (s := tS B n p) (by omega) (n - tS B n p).toNat (tS B n p) (mUp (mUp h2 483 18 1) 483 23 0) (MO_MH o5 M2) (MB_to T2 o5) (by rw [mUp_n (Or.inr (by decide)), mUp_n (Or.inr (by decide))]; exact y16) (by rw [mUp_n (Or.inr (by decide)), mUp_n (Or.inr (by decide))]; exact y17) (Int.le_refl _) (by omega) (fun j a b => by omega) (by rw [mUp_s, Int.sub_self]; rfl)
    rw [b1, mK_r, if_pos rfl]
    refine ⟨h3, rfl, MO_tr o4 (MO_tr o5 b2), by rw [b4 19 (by decide) (by decide), mUp_n (Or.inr (by decide)), mUp_n (Or.inr (by decide))]; exact y19, ?_, ?_, ?_, ?_, p0, p1⟩
    · rw [b4 18 (by decide) (by decide), mUp_n (Or.inr (by decide)), mUp_s, k1]; exact Or.inl ⟨by decide, rfl⟩
    · rw [b4 16 (by decide) (by decide), mUp_n (Or.inr (by decide)), mUp_n (Or.inr (by decide))]; exact y16
    · rw [b3, e2]
    · intro _; rw [b5, e2]
  rw [bI_f (fun x => c1 x.2), mEq_t rfl, mF_t hw, mF_t hw, y16, E_M_isFigureAt (by omega) hW M2 T2 (by omega), mC_s]
  by_cases c2 : tSort (B (tS B n p)) = 2
  · have k1 : tK B n p = 2 := by unfold tK; rw [if_neg (by omega), if_pos (by omega)]; exact c2
    have e1 : tE B n p = tRun B n 2 (n - (tS B n p + 1)).toNat (tS B n p + 1) := by unfold tE; rw [if_neg (by omega), if_neg (by omega), c2]
    have e2 : tRun B n 2 (n - tS B n p).toNat (tS B n p) = tE B n p := by
      rw [e1, show (n - tS B n p).toNat = (n - (tS B n p + 1)).toNat + 1 by omega]
      show (if tS B n p < n ∧ tSort (B (tS B n p)) = 2 then tRun B n 2 (n - (tS B n p + 1)).toNat (tS B n p + 1) else tS B n p) = _
      rw [if_pos ⟨cn, c2⟩]
    rw [bI_t ⟨cn, c2⟩, mEq_f (by decide), mF_t hw]
    try dsimp only
    have o5 : MO h2 (mUp h2 483 18 2) := MO_up (by omega)
    obtain ⟨h3, b1, b2, b3, b4⟩ := L_M_next2 (d := d) (by omega) hW (n - tS B n p).toNat (tS B n p) (mUp h2 483 18 2) (MO_MH o5 M2) (MB_to T2 o5) (by rw [mUp_n (Or.inr (by decide))]; exact y17) (by omega) (by omega)
    rw [b1, mK_r, if_pos rfl]
    refine ⟨h3, rfl, MO_tr o4 (MO_tr o5 b2), by rw [b4 19 (by decide), mUp_n (Or.inr (by decide))]; exact y19, ?_, ?_, ?_, ?_, p0, p1⟩
    · rw [b4 18 (by decide), mUp_s, k1]; exact Or.inl ⟨by decide, rfl⟩
    · rw [b4 16 (by decide), mUp_n (Or.inr (by decide))]; exact y16
    · rw [b3, e2]
    · intro h1; omega
  have c3 : tSort (B (tS B n p)) = 3 := by omega
  have e1 : tE B n p = tS B n p + 1 := by unfold tE; rw [if_neg (by omega), if_pos c3]
  have k3 : tK B n p = if B (tS B n p) ∈ sgs then B (tS B n p) else 3 := by unfold tK; rw [if_neg (by omega), if_neg (by omega)]
  have fin : ∀ z : Int, kM z (tK B n p) → ∃ h', (some ((9, 0), w, mUp (mUp h2 483 18 z) 483 17 (mI (mUp h2 483 18 z 483 17 + 1))) : Option mm_R) = some ((9, 0), w, h') ∧ MO h h' ∧ h' 483 19 = h 483 19 ∧ MT0 h' B n p := by
    intro z hz
    rw [mUp_n (Or.inr (by decide)), y17, mI_id (by omega) (by omega)]
    refine ⟨_, rfl, MO_tr o4 (MO_tr (MO_up (by omega)) (MO_up (by omega))), by rw [mUp_n (Or.inr (by decide)), mUp_n (Or.inr (by decide))]; exact y19, ?_, ?_, ?_, ?_, p0, p1⟩
    · rw [mUp_n (Or.inr (by decide)), mUp_s]; exact hz
    · rw [mUp_n (Or.inr (by decide)), mUp_n (Or.inr (by decide))]; exact y16
    · rw [mUp_s, e1]
    · intro h1
      rw [k3] at h1
      split at h1
      · rename_i hm
        rw [h1] at hm
        exact absurd hm (by decide)
      · omega
  rw [bI_f (fun x => c2 x.2), mEq_t rfl]
  simp only [mF_t hw]
  rw [y16, MH_14 M2, mA_t (MW_490 hW) (by omega) (by omega), T2.2.2.1 _ (by omega) cn]
  by_cases c4 : 3 ≤ B (tS B n p)
  · rw [mLe_t c4, mA_t (MW_490 hW) (by omega) (by omega)]
    refine fin _ ?_
    rw [k3]
    have nd : B (tS B n p) ≠ 3 ∨ True := Or.inr trivial
    by_cases hm : B (tS B n p) ∈ sgs
    · rw [if_pos hm]
      refine Or.inl ⟨fun e => ?_, rfl⟩
      rw [e] at hm
      exact absurd hm (by decide)
    · rw [if_neg hm]
      exact Or.inr ⟨rfl, by omega, by omega, by omega, hm⟩
  · rw [mLe_f (by omega)]
    refine fin 300 ?_
    have hm : B (tS B n p) ∉ sgs := by
      intro hm
      simp [sgs] at hm
      omega
    rw [k3, if_neg hm]
    exact Or.inr ⟨rfl, by decide, by decide, by decide, by decide⟩
end PU
