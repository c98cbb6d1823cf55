/-! PURE: what is true of every sheet stays true. -/
theorem aI_paint {s : aS} (hI : aI s) {p v t l b r : Int} (hv : -1 ≤ v ∧ v ≤ 9) : aI (F_paint s p v t l b r) := aI_cel hI (fun q i j q0 q1 i0 i1 j0 j1 => by
  have := hI.2.2.2.2.1 q i j q0 q1 i0 i1 j0 j1
  try dsimp only
  split <;> omega)
theorem aI_lines {s : aS} (hI : aI s) {y p v a b : Int} (hv : -1 ≤ v ∧ v ≤ 9) : aI (F_lines s y p v a b) := by
  refine ⟨hI.1, hI.2.1, hI.2.2.1, hI.2.2.2.1, hI.2.2.2.2.1, fun q i q0 q1 i0 i1 => ?_, fun q i q0 q1 i0 i1 => ?_, hI.2.2.2.2.2.2.2⟩
  · have := hI.2.2.2.2.2.1 q i q0 q1 i0 i1
    show -1 ≤ (if 0 = y ∧ q = p ∧ a ≤ i ∧ i ≤ b then v else aLin s 0 q i) ∧ (if 0 = y ∧ q = p ∧ a ≤ i ∧ i ≤ b then v else aLin s 0 q i) ≤ 9
    split <;> omega
  · have := hI.2.2.2.2.2.2.1 q i q0 q1 i0 i1
    show -1 ≤ (if 1 = y ∧ q = p ∧ a ≤ i ∧ i ≤ b then v else aLin s 1 q i) ∧ (if 1 = y ∧ q = p ∧ a ≤ i ∧ i ≤ b then v else aLin s 1 q i) ≤ 9
    split <;> omega
theorem aI_ground {s : aS} (hI : aI s) {p v : Int} (hv : 0 ≤ v ∧ v ≤ 9) : aI (F_ground s p v) := by
  refine ⟨hI.1, hI.2.1, hI.2.2.1, hI.2.2.2.1, hI.2.2.2.2.1, hI.2.2.2.2.2.1, hI.2.2.2.2.2.2.1, fun q q0 q1 => ?_, hI.2.2.2.2.2.2.2.2⟩
  have := hI.2.2.2.2.2.2.2.1 q q0 q1
  show 0 ≤ (if q = p then v else aGro s q) ∧ (if q = p then v else aGro s q) ≤ 9
  split <;> omega
theorem aI_value {s : aS} (hI : aI s) {r c v : Int} (hv : -999 ≤ v ∧ v ≤ 999) : aI (F_value s r c v) := by
  refine ⟨hI.1, hI.2.1, hI.2.2.1, fun i j i0 i1 j0 j1 => ?_, hI.2.2.2.2⟩
  have := hI.2.2.2.1 i j i0 i1 j0 j1
  show -999 ≤ (if i = r ∧ j = c then v else aVal s i j) ∧ (if i = r ∧ j = c then v else aVal s i j) ≤ 999
  split <;> omega
theorem aI_copyC {s : aS} (hI : aI s) {t l b r t' l' b' r' tu : Int} (hk : okCopyC s t l b r t' l' b' r' tu) : aI (F_copyC s t l b r t' l' b' r' tu) := aI_cel hI (fun q i j q0 q1 i0 i1 j0 j1 => by
  have k1 := hI.2.2.2.2.1 q i j q0 q1 i0 i1 j0 j1
  try dsimp only
  unfold okCopyC at hk
  have m1 : ∀ z : Int, 0 ≤ z % (b - t + 1) ∧ z % (b - t + 1) < b - t + 1 := fun z => ⟨Int.emod_nonneg _ (by omega), Int.emod_lt_of_pos _ (by omega)⟩
  have m2 : ∀ z : Int, 0 ≤ z % (r - l + 1) ∧ z % (r - l + 1) < r - l + 1 := fun z => ⟨Int.emod_nonneg _ (by omega), Int.emod_lt_of_pos _ (by omega)⟩
  have y1 := m1 (if tu = 1 then j - l' else i - t')
  have y2 := m2 (if tu = 1 then i - t' else j - l')
  generalize (if tu = 1 then j - l' else i - t') % (b - t + 1) = u at y1 ⊢
  generalize (if tu = 1 then i - t' else j - l') % (r - l + 1) = v at y2 ⊢
  have k2 := hI.2.2.2.2.1 q (t + u) (l + v) q0 q1 (by omega) (by omega) (by omega) (by omega)
  split
  · exact k2
  · exact k1)
/-- a rule of a sheet of hi rows, wi columns -/
def rb (s : aS) (hi wi k : Int) : Prop := (0 ≤ aRul s k 0 ∧ aRul s k 0 ≤ aRul s k 2 ∧ aRul s k 2 < hi) ∧ (0 ≤ aRul s k 1 ∧ aRul s k 1 ≤ aRul s k 3 ∧ aRul s k 3 < wi) ∧ (0 ≤ aRul s k 4 ∧ aRul s k 4 < 4) ∧ (0 ≤ aRul s k 5 ∧ aRul s k 5 ≤ 9) ∧ (aRul s k 6 = 0 ∨ aRul s k 6 = 1) ∧ okT (aCod s k)
def aI0 (s : aS) : Prop := (1 ≤ aHi s ∧ aHi s ≤ 16) ∧ (1 ≤ aWi s ∧ aWi s ≤ 16) ∧
  (∀ r c : Int, 0 ≤ r → r < aHi s → 0 ≤ c → c < aWi s → -999 ≤ aVal s r c ∧ aVal s r c ≤ 999) ∧
  (∀ p r c : Int, 0 ≤ p → p < 4 → 0 ≤ r → r < aHi s → 0 ≤ c → c < aWi s → -1 ≤ aCel s p r c ∧ aCel s p r c ≤ 9) ∧
  (∀ p i : Int, 0 ≤ p → p < 4 → 0 ≤ i → i < aHi s → -1 ≤ aLin s 0 p i ∧ aLin s 0 p i ≤ 9) ∧
  (∀ p i : Int, 0 ≤ p → p < 4 → 0 ≤ i → i < aWi s → -1 ≤ aLin s 1 p i ∧ aLin s 1 p i ≤ 9) ∧
  (∀ p : Int, 0 ≤ p → p < 4 → 0 ≤ aGro s p ∧ aGro s p ≤ 9)
theorem aI_iff {s : aS} : aI s ↔ aI0 s ∧ (0 ≤ aN s ∧ aN s ≤ 6) ∧ ∀ k : Int, 0 ≤ k → k < aN s → rb s (aHi s) (aWi s) k :=
  ⟨fun h => ⟨⟨h.1, h.2.1, h.2.2.2.1, h.2.2.2.2.1, h.2.2.2.2.2.1, h.2.2.2.2.2.2.1, h.2.2.2.2.2.2.2.1⟩, h.2.2.1, h.2.2.2.2.2.2.2.2⟩, fun h => ⟨h.1.1, h.1.2.1, h.2.1, h.1.2.2.1, h.1.2.2.2.1, h.1.2.2.2.2.1, h.1.2.2.2.2.2.1, h.1.2.2.2.2.2.2, h.2.2⟩⟩
theorem aI_remL {y a b : Int} (hy : y = 0 ∨ y = 1) (ha : 0 ≤ a ∧ a ≤ b) : ∀ (m : Nat) (s : aS), aI0 s → (m : Int) ≤ aN s → aN s ≤ 6 → (∀ k : Int, m ≤ k → k < aN s → rb s (aHi s) (aWi s) k) → (∀ k : Int, 0 ≤ k → k < m → rb s (aHi s + (if y = 0 then b - a + 1 else 0)) (aWi s + (if y = 0 then 0 else b - a + 1)) k) → b < aSz s y + (b - a + 1) → aI (remL y a b m s) := by
  intro m
  induction m with
  | zero =>
    intro s h0 h1 h2 h3 h4 h5
    exact aI_iff.2 ⟨h0, ⟨h1, h2⟩, fun k k0 k1 => h3 k (by omega) k1⟩
  | succ m ih =>
    intro s h0 h1 h2 h3 h4 h5
    have hm := h4 (m : Int) (by omega) (by omega)
    show aI (remL y a b m (remS y a b (m : Int) s))
    -- the rule as it is left
    have L : ∀ x z : Int, losF a b x = (if x < a then x else if x ≤ b then a else x - (b - a + 1)) ∧ losL a b z = (if z < a then z else if z ≤ b then a - 1 else z - (b - a + 1)) := fun x z => ⟨rfl, rfl⟩
    have keep : ∀ k : Int, k ≠ m → aRul (F_rset s m (rLos y a b (aRul s m))) k = aRul s k := fun k hk => by
      show (if k = (m : Int) then rLos y a b (aRul s m) else aRul s k) = _
      rw [if_neg hk]
    have here : aRul (F_rset s m (rLos y a b (aRul s m))) m = rLos y a b (aRul s m) := by
      show (if (m : Int) = m then rLos y a b (aRul s m) else aRul s m) = _
      rw [if_pos rfl]
    by_cases c : rLos y a b (aRul s m) (2 + y) < rLos y a b (aRul s m) y
    · have es : remS y a b m s = F_drop (F_rset s m (rLos y a b (aRul s m))) m := by unfold remS; rw [if_pos c]
      rw [es]
      have dr : ∀ k : Int, aRul (F_drop (F_rset s m (rLos y a b (aRul s m))) m) k = aRul s (if k < m then k else k + 1) := fun k => by
        show aRul (F_rset s m (rLos y a b (aRul s m))) (if k < m then k else k + 1) = _
        exact keep _ (by split <;> omega)
      have dc : ∀ k : Int, aCod (F_drop (F_rset s m (rLos y a b (aRul s m))) m) k = aCod s (if k < m then k else k + 1) := fun k => rfl
      refine ih _ h0 (by show (m : Int) ≤ aN s - 1; omega) (by show aN s - 1 ≤ 6; omega) (fun k k0 k1 => ?_) (fun k k0 k1 => ?_) h5
      · have k1 : k < aN s - 1 := k1
        have := h3 (k + 1) (by omega) (by omega)
        unfold rb at this ⊢
        rw [dr, dc, if_neg (by omega)]
        exact this
      · have := h4 k k0 (by omega)
        unfold rb at this ⊢
        rw [dr, dc, if_pos k1]
        exact this
    · have es : remS y a b m s = F_rset s m (rLos y a b (aRul s m)) := by unfold remS; rw [if_neg c]
      rw [es]
      refine ih _ h0 (by show (m : Int) ≤ aN s; omega) h2 (fun k k0 k1 => ?_) (fun k k0 k1 => ?_) h5
      · have k1 : k < aN s := k1
        by_cases q : k = m
        · unfold rb at hm ⊢
          rw [q, here]
          obtain ⟨u1, u2, u3⟩ := hm
          rcases hy with rfl | rfl
          · have z : aSz s 0 = aHi s := rfl
            rw [z] at h5
            rw [if_pos rfl, if_pos rfl] at *
            have e0 : rLos 0 a b (aRul s m) 0 = losF a b (aRul s m 0) := rfl
            have e2 : rLos 0 a b (aRul s m) (2 + 0) = losL a b (aRul s m 2) := rfl
            have e2' : rLos 0 a b (aRul s m) 2 = losL a b (aRul s m 2) := rfl
            rw [e0, e2] at c
            refine ⟨?_, ?_, u3⟩
            · rw [e0, e2']
              refine ⟨?_, by omega, ?_⟩
              · rw [(L (aRul s m 0) 0).1]; repeat' split
                all_goals omega
              · show losL a b (aRul s m 2) < aHi s
                rw [(L 0 (aRul s m 2)).2]; repeat' split
                all_goals omega
            · show 0 ≤ aRul s m 1 ∧ aRul s m 1 ≤ aRul s m 3 ∧ aRul s m 3 < aWi s
              omega
          · have z : aSz s 1 = aWi s := rfl
            rw [z] at h5
            rw [if_neg (by decide), if_neg (by decide)] at *
            have e0 : rLos 1 a b (aRul s m) 1 = losF a b (aRul s m 1) := rfl
            have e2 : rLos 1 a b (aRul s m) (2 + 1) = losL a b (aRul s m 3) := rfl
            have e2' : rLos 1 a b (aRul s m) 3 = losL a b (aRul s m 3) := rfl
            rw [e0, e2] at c
            refine ⟨?_, ?_, u3⟩
            · show 0 ≤ aRul s m 0 ∧ aRul s m 0 ≤ aRul s m 2 ∧ aRul s m 2 < aHi s
              omega
            · rw [e0, e2']
              refine ⟨?_, by omega, ?_⟩
              · rw [(L (aRul s m 1) 0).1]; repeat' split
                all_goals omega
              · show losL a b (aRul s m 3) < aWi s
                rw [(L 0 (aRul s m 3)).2]; repeat' split
                all_goals omega
        · have := h3 k (by omega) k1
          unfold rb at this ⊢
          rw [keep k q]
          exact this
      · have := h4 k k0 (by omega)
        unfold rb at this ⊢
        rw [keep k (by omega)]
        exact this
theorem aI_remove {s : aS} (hI : aI s) {y a b : Int} (hy : y = 0 ∨ y = 1) (ha : 0 ≤ a ∧ a ≤ b ∧ b < aSz s y) (hb : b - a + 1 < aSz s y) : aI (F_remove s y a b) := by
  have hs := aSz_le hI y
  have hn := hI.2.2.1
  -- the lines first, on a sheet without rules
  have B := aI_bring (s := (((aHi s, aWi s, 0), s.2) : aS)) (y := y) (z := aSz s y - (b - a + 1)) (o := oRem a (b - a + 1)) ⟨hI.1, hI.2.1, (by show (0 : Int) ≤ 0 ∧ (0 : Int) ≤ 6; decide), hI.2.2.2.1, hI.2.2.2.2.1, hI.2.2.2.2.2.1, hI.2.2.2.2.2.2.1, hI.2.2.2.2.2.2.2.1, fun k k0 k1 => by have k1 : k < 0 := k1; omega⟩ hy (by omega) (fun l l0 l1 => by
    show oRem a (b - a + 1) l < aSz s y
    unfold oRem; split <;> omega) (fun k k0 k1 => by have k1 : k < 0 := k1; omega)
  have B0 : aI0 (F_bring s y (oRem a (b - a + 1)) (aSz s y - (b - a + 1))) := (aI_iff.1 B).1
  have hN : (((aN s).toNat : Nat) : Int) = aN s := by omega
  refine aI_remL hy (by omega) (aN s).toNat _ B0 (by rw [hN]; exact Int.le_refl _) hn.2 (fun k k0 k1 => by have k1 : k < aN s := k1; omega) (fun k k0 k1 => ?_) ?_
  · have := (aI_iff.1 hI).2.2 k k0 (by omega)
    unfold rb at this ⊢
    rcases hy with rfl | rfl
    · have z : aSz s 0 = aHi s := rfl
      rw [if_pos rfl, if_pos rfl, z]
      refine ⟨⟨this.1.1, this.1.2.1, ?_⟩, ⟨this.2.1.1, this.2.1.2.1, ?_⟩, this.2.2⟩
      · show aRul s k 2 < (aHi s - (b - a + 1)) + (b - a + 1); omega
      · show aRul s k 3 < aWi s + 0; omega
    · have z : aSz s 1 = aWi s := rfl
      rw [if_neg (by decide), if_neg (by decide), z]
      refine ⟨⟨this.1.1, this.1.2.1, ?_⟩, ⟨this.2.1.1, this.2.1.2.1, ?_⟩, this.2.2⟩
      · show aRul s k 2 < aHi s + 0; omega
      · show aRul s k 3 < (aWi s - (b - a + 1)) + (b - a + 1); omega
  · rcases hy with rfl | rfl
    · show b < (aSz s 0 - (b - a + 1)) + (b - a + 1); omega
    · show b < (aSz s 1 - (b - a + 1)) + (b - a + 1); omega
theorem aI_insert {s : aS} (hI : aI s) {y a n : Int} (hk : okIns s y a n) (hz : aSz s y + n ≤ 16) : aI (F_insert s y a n) := by
  have hs := aSz_le hI y
  have hn := hI.2.2.1
  unfold okIns at hk
  obtain ⟨hy, hk2, hk3⟩ := hk
  have B := aI_bring (s := (((aHi s, aWi s, 0), s.2) : aS)) (y := y) (z := aSz s y + n) (o := oIns a n) ⟨hI.1, hI.2.1, (by show (0 : Int) ≤ 0 ∧ (0 : Int) ≤ 6; decide), hI.2.2.2.1, hI.2.2.2.2.1, hI.2.2.2.2.2.1, hI.2.2.2.2.2.2.1, hI.2.2.2.2.2.2.2.1, fun k k0 k1 => by have k1 : k < 0 := k1; omega⟩ hy (by omega) (fun l l0 l1 => by
    show oIns a n l < aSz s y
    unfold oIns; (repeat' split) <;> omega) (fun k k0 k1 => by have k1 : k < 0 := k1; omega)
  have B0 : aI0 (F_bring s y (oIns a n) (aSz s y + n)) := (aI_iff.1 B).1
  obtain ⟨b1, b2, b3, b4, b5, b6, b7⟩ := B0
  have cel : ∀ p L X : Int, 0 ≤ p → p < 4 → 0 ≤ L → L < aSz s y → 0 ≤ X → X < aSz s (1 - y) → -1 ≤ celY s y p L X ∧ celY s y p L X ≤ 9 := fun p L X p0 p1 l0 l1 x0 x1 => by
    rcases hy with rfl | rfl
    · exact hI.2.2.2.2.1 p L X p0 p1 l0 l1 x0 x1
    · exact hI.2.2.2.2.1 p X L p0 p1 x0 x1 l0 l1
  have rule : ∀ k : Int, 0 ≤ k → k < aN s → rb (F_insert s y a n) (aHi (F_insert s y a n)) (aWi (F_insert s y a n)) k := fun k k0 k1 => by
    have := (aI_iff.1 hI).2.2 k k0 k1
    unfold rb at this ⊢
    obtain ⟨u1, u2, u3⟩ := this
    rcases hy with rfl | rfl
    · have R : ∀ f : Int, aRul (F_insert s 0 a n) k f = if (f = 0 ∨ f = 2 + 0) ∧ a ≤ aRul s k f then aRul s k f + n else aRul s k f := fun f => rfl
      have D1 : aHi (F_insert s 0 a n) = aHi s + n := rfl
      have D2 : aWi (F_insert s 0 a n) = aWi s := rfl
      simp only [R, D1, D2]
      refine ⟨?_, ?_, ?_, ?_, ?_, u3.2.2.2⟩
      · (repeat' split) <;> omega
      · rw [if_neg (by omega), if_neg (by omega)]; exact u2
      · rw [if_neg (by omega)]; exact u3.1
      · rw [if_neg (by omega)]; exact u3.2.1
      · rw [if_neg (by omega)]; exact u3.2.2.1
    · have R : ∀ f : Int, aRul (F_insert s 1 a n) k f = if (f = 1 ∨ f = 2 + 1) ∧ a ≤ aRul s k f then aRul s k f + n else aRul s k f := fun f => rfl
      have D1 : aHi (F_insert s 1 a n) = aHi s := rfl
      have D2 : aWi (F_insert s 1 a n) = aWi s + n := rfl
      simp only [R, D1, D2]
      refine ⟨?_, ?_, ?_, ?_, ?_, u3.2.2.2⟩
      · rw [if_neg (by omega), if_neg (by omega)]; exact u1
      · (repeat' split) <;> omega
      · rw [if_neg (by omega)]; exact u3.1
      · rw [if_neg (by omega)]; exact u3.2.1
      · rw [if_neg (by omega)]; exact u3.2.2.1
  refine aI_iff.2 ⟨?_, hn, rule⟩
  rcases hy with rfl | rfl
  · refine ⟨b1, b2, b3, fun p r c p0 p1 r0 r1 c0 c1 => ?_, b5, b6, b7⟩
    have t := b4 p r c p0 p1 r0 r1 c0 c1
    show -1 ≤ (if (0 < a ∧ a < aSz s 0) ∧ (a ≤ r ∧ r < a + n) ∧ celY s 0 p (a - 1) c = celY s 0 p a c then celY s 0 p (a - 1) c else aCel (F_bring s 0 (oIns a n) (aSz s 0 + n)) p r c) ∧ (if (0 < a ∧ a < aSz s 0) ∧ (a ≤ r ∧ r < a + n) ∧ celY s 0 p (a - 1) c = celY s 0 p a c then celY s 0 p (a - 1) c else aCel (F_bring s 0 (oIns a n) (aSz s 0 + n)) p r c) ≤ 9
    by_cases q : (0 < a ∧ a < aSz s 0) ∧ (a ≤ r ∧ r < a + n) ∧ celY s 0 p (a - 1) c = celY s 0 p a c
    · rw [if_pos q]; exact cel p (a - 1) c p0 p1 (by omega) (by omega) c0 c1
    · rw [if_neg q]; exact t
  · refine ⟨b1, b2, b3, fun p r c p0 p1 r0 r1 c0 c1 => ?_, b5, b6, b7⟩
    have t := b4 p r c p0 p1 r0 r1 c0 c1
    show -1 ≤ (if (0 < a ∧ a < aSz s 1) ∧ (a ≤ c ∧ c < a + n) ∧ celY s 1 p (a - 1) r = celY s 1 p a r then celY s 1 p (a - 1) r else aCel (F_bring s 1 (oIns a n) (aSz s 1 + n)) p r c) ∧ (if (0 < a ∧ a < aSz s 1) ∧ (a ≤ c ∧ c < a + n) ∧ celY s 1 p (a - 1) r = celY s 1 p a r then celY s 1 p (a - 1) r else aCel (F_bring s 1 (oIns a n) (aSz s 1 + n)) p r c) ≤ 9
    by_cases q : (0 < a ∧ a < aSz s 1) ∧ (a ≤ c ∧ c < a + n) ∧ celY s 1 p (a - 1) r = celY s 1 p a r
    · rw [if_pos q]; exact cel p (a - 1) r p0 p1 (by omega) (by omega) r0 r1
    · rw [if_neg q]; exact t
