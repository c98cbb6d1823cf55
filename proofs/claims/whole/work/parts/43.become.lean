/-! PURE: a sheet becomes another. -/
theorem mCy_t {α : Type} {w : mm_W} {s sp d dp n ns nd : Int} {bot k : α} (hs : w.1 s = (50, ns)) (hd : w.1 d = (50, nd)) (h1 : 0 < s) (h2 : 0 < d) (h3 : 0 ≤ sp) (h4 : 0 ≤ dp) (h5 : 0 ≤ n) (h6 : sp + n ≤ ns) (h7 : dp + n ≤ nd) : mCy w s sp d dp n bot k = k :=
  if_pos ⟨by rw [hs], by rw [hd], h1, h2, h3, h4, h5, by rw [hs]; exact h6, by rw [hd]; exact h7⟩
theorem mCpy_row {h : mm_H} {s sp d dp n b : Int} (hn : b ≠ d) : mCpy h s sp d dp n b = h b := funext fun j => if_neg (fun h => hn h.1)
theorem mCpy_in {h : mm_H} {s sp d dp n j : Int} (h1 : dp ≤ j) (h2 : j < dp + n) : mCpy h s sp d dp n d j = h s (sp + (j - dp)) := if_pos ⟨rfl, h1, h2⟩
theorem mCpy_out {h : mm_H} {s sp d dp n j : Int} (h1 : j < dp ∨ dp + n ≤ j) : mCpy h s sp d dp n d j = h d j := if_neg (by omega)
section PU
variable {d : Nat} {w : mm_W} {h : mm_H} {S T : Int}
theorem E_Ru_become (hd : 1 ≤ d) {a b : Int} (ha : w.1 a = (7, 8)) (hb : w.1 b = (7, 8)) (hab : a ≠ b) (h7 : 0 ≤ h b 7) : ∃ h', mm_P d 72 [(2, a), (2, b)] w h = some ((9, 0), w, h') ∧ (∀ c : Int, c ≠ a → h' c = h c) ∧ ∀ f : Int, 0 ≤ f → f < 8 → h' a f = h b f := by
  obtain ⟨d, rfl, hd2⟩ := mm_dS hd; have hd := hd2
  have hba : b ≠ a := fun e => hab e.symm
  rw [P_Ru_become]
  simp only [mF_t (show (w.1 a).1 = 7 by rw [ha]), mF_t (show (w.1 b).1 = 7 by rw [hb]), mUp_row hba, mLe_t h7]
  refine ⟨_, rfl, fun c hc => ?_, fun f h0 h8 => ?_⟩
  · simp only [mUp_row hc]
  · rcases (show f = 0 ∨ f = 1 ∨ f = 2 ∨ f = 3 ∨ f = 4 ∨ f = 5 ∨ f = 6 ∨ f = 7 by omega) with rfl | rfl | rfl | rfl | rfl | rfl | rfl | rfl <;> simp [mUp]
theorem L_become (hd : 2 ≤ d) (hT : ShW w T) (hS : ShW w S) (hdis : T + 13 ≤ S ∨ S + 13 ≤ T) : ∀ (n : Nat) (k : Int) (h : mm_H), ShH h T → ShH h S → 0 ≤ k → k + n = h T 2 → h T 2 ≤ 6 → (∀ i : Int, 0 ≤ i → i < h T 2 → 0 ≤ h (h (S + 5) i) 7) → ∃ h', l_Sh_become_0 (mm_P d) T S k w h = some (.inr (115, [(2, T), (2, S), (0, h T 2)], w, h')) ∧ (∀ b : Int, ¬ (T + 7 ≤ b ∧ b < T + 13) → h' b = h b) ∧ (∀ i : Int, 0 ≤ i → i < k → h' (h (T + 5) i) = h (h (T + 5) i)) ∧ ∀ i : Int, k ≤ i → i < h T 2 → ∀ f : Int, 0 ≤ f → f < 8 → h' (h (T + 5) i) f = h (h (S + 5) i) f := by
  have hw1 : (w.1 T).1 = 9 := by rw [hT.2.1]
  have hw2 : (w.1 S).1 = 9 := by rw [hS.2.1]
  intro n
  induction n with
  | zero =>
    intro k h h1 h2 h3 h4 h5 h6
    rw [l_Sh_become_0_eq, mF_t hw1, mLe_t (by omega)]
    refine ⟨h, by rw [show k = h T 2 by omega], fun _ _ => rfl, fun _ _ _ => rfl, fun i a b => by omega⟩
  | succ n ih =>
    intro k h h1 h2 h3 h4 h5 h6
    have hA := h1.2.2.2.2.2.2.1 k h3 (by omega)
    have hB := h2.2.2.2.2.2.2.1 k h3 (by omega)
    obtain ⟨hr, e1, e2, e3⟩ := E_Ru_become (by omega : 1 ≤ d) (w := w) (h := h) (Sh_rul hT h1 h3 (by omega)).1 (Sh_rul hS h2 h3 (by omega)).1 (by omega) (h6 k h3 (by omega))
    rw [l_Sh_become_0_eq, mF_t hw1, mLe_f (by omega), mF_t hw1, E_ruleAt (by omega) hT h1 h3 (by omega), mC_s, mF_t hw2, E_ruleAt (by omega) hS h2 h3 (by omega), mC_s, mF_t (by rw [(Sh_rul hT h1 h3 (by omega)).1]), e1, mC_s]
    have r0 : hr T = h T := e2 T (by omega)
    have r5 : hr (T + 5) = h (T + 5) := e2 (T + 5) (by omega)
    have s0 : hr S = h S := e2 S (by omega)
    have s5 : hr (S + 5) = h (S + 5) := e2 (S + 5) (by omega)
    obtain ⟨h', g1, g2, g3, g4⟩ := ih (k + 1) hr (ShH_fr h1 (fun i _ _ => by rw [r0]) r5) (ShH_fr h2 (fun i _ _ => by rw [s0]) s5) (by omega) (by rw [r0]; omega) (by rw [r0]; omega) (fun i i0 i1 => by
      rw [r0] at i1
      have hC := h2.2.2.2.2.2.2.1 i i0 (by omega)
      rw [s5, e2 _ (by omega)]
      exact h6 i i0 i1)
    refine ⟨h', ?_, ?_, ?_, ?_⟩
    · dsimp only
      rw [mI_id (by omega) (by omega), g1, r0]
    · intro b hb
      rw [g2 b hb]
      exact e2 b (by omega)
    · intro i i0 i1
      have hC := h1.2.2.2.2.2.2.1 i i0 (by omega)
      have hne : h (T + 5) i ≠ h (T + 5) k := fun e => by
        have := h1.2.2.2.2.2.2.2 i k i0 (by omega) h3 (by omega) e
        omega
      have := g3 i i0 (by omega)
      rw [r5] at this
      rw [this]
      exact e2 _ hne
    · intro i i0 i1 f f0 f1
      by_cases hik : i = k
      · subst hik
        have := g3 i h3 (by omega)
        rw [r5] at this
        rw [this]
        exact e3 f f0 f1
      · have := g4 i (by omega) (by rw [r0]; omega) f f0 f1
        have hC := h2.2.2.2.2.2.2.1 i (by omega) (by omega)
        rw [r5, s5, e2 (h (S + 5) i) (by omega)] at this
        exact this
theorem E_become (hd : 3 ≤ d) (hT : ShW w T) (hS : ShW w S) (hdis : T + 13 ≤ S ∨ S + 13 ≤ T) (hT5 : T + 13 ≤ 506) {s : aS} (hI : aI s) (hR : RC w h S s) (hHT : ShH h T) : ∃ h', mm_P d 86 [(2, T), (2, S)] w h = some ((9, 0), w, h') ∧ RC w h' T s ∧ ∀ b : Int, ¬ (T ≤ b ∧ b < T + 13) → h' b = h b := by
  obtain ⟨d, rfl, hd2⟩ := mm_dS hd; have hd := hd2
  have hw1 : (w.1 T).1 = 9 := by rw [hT.2.1]
  have hw2 : (w.1 S).1 = 9 := by rw [hS.2.1]
  obtain ⟨r1, r2, r3, r4, r5, r6, r7, r8⟩ := hR
  have hST : S ≠ T := by omega
  have p0 := hT.1
  have q0 := hS.1
  have c1 : ∀ (z : Int), 0 ≤ z → z < 7 → S ≠ T + z := fun z _ _ => by omega
  have c2 : ∀ (z : Int), 0 ≤ z → z < 7 → S + z ≠ T := fun z _ _ => by omega
  have tc : ∀ (z : Int), 0 < z → T ≠ T + z := fun z _ => by omega
  obtain ⟨t1, t2, t3, t4, t5, t6, t7, t8⟩ := hHT
  obtain ⟨s1, s2, s3, s4, s5, s6, s7, s8⟩ := id r1
  rw [P_Sh_become]
  simp only [mF_t hw1, mF_t hw2]
  generalize hg1 : mUp h T 0 (h S 0) = h1
  have a1 : ∀ b : Int, b ≠ T → h1 b = h b := fun b hb => by rw [← hg1]; exact mUp_row hb
  have b1 : ∀ i : Int, i ≠ 0 → h1 T i = h T i := fun i hi => by rw [← hg1]; exact mUp_n (Or.inr hi)
  have z1 : h1 T 0 = h S 0 := by rw [← hg1]; exact mUp_s
  rw [a1 S hST]
  generalize hg2 : mUp h1 T 1 (h S 1) = h2
  have a2 : ∀ b : Int, b ≠ T → h2 b = h b := fun b hb => by rw [← hg2, mUp_row hb]; exact a1 b hb
  have b2 : ∀ i : Int, i ≠ 0 → i ≠ 1 → h2 T i = h T i := fun i hi hj => by rw [← hg2, mUp_n (Or.inr hj)]; exact b1 i hi
  have z2 : h2 T 0 = h S 0 ∧ h2 T 1 = h S 1 := ⟨by rw [← hg2, mUp_n (Or.inr (by decide))]; exact z1, by rw [← hg2]; exact mUp_s⟩
  rw [a2 S hST]
  generalize hg3 : mUp h2 T 2 (h S 2) = h3
  have a3 : ∀ b : Int, b ≠ T → h3 b = h b := fun b hb => by rw [← hg3, mUp_row hb]; exact a2 b hb
  have b3 : ∀ i : Int, 3 ≤ i → h3 T i = h T i := fun i hi => by rw [← hg3, mUp_n (Or.inr (by omega))]; exact b2 i (by omega) (by omega)
  have z3 : h3 T 0 = h S 0 ∧ h3 T 1 = h S 1 ∧ h3 T 2 = h S 2 := ⟨by rw [← hg3, mUp_n (Or.inr (by decide))]; exact z2.1, by rw [← hg3, mUp_n (Or.inr (by decide))]; exact z2.2, by rw [← hg3]; exact mUp_s⟩
  rw [a3 S hST, b3 3 (by omega), s1, t1, mCy_t hS.2.2.1 hT.2.2.1 (by omega) (by omega) (by omega) (by omega) (by omega) (by omega) (by omega)]
  generalize hg4 : mCpy h3 (S + 1) 0 (T + 1) 0 256 = h4
  have a4 : ∀ b : Int, b ≠ T + 1 → h4 b = h3 b := fun b hb => by rw [← hg4]; exact mCpy_row hb
  rw [a4 S (by omega), a4 T (by omega), a3 S hST, b3 4 (by omega), s2, t2, mCy_t hS.2.2.2.1 hT.2.2.2.1 (by omega) (by omega) (by omega) (by omega) (by omega) (by omega) (by omega)]
  generalize hg5 : mCpy h4 (S + 2) 0 (T + 2) 0 1024 = h5
  have a5 : ∀ b : Int, b ≠ T + 2 → h5 b = h4 b := fun b hb => by rw [← hg5]; exact mCpy_row hb
  rw [a5 S (by omega), a5 T (by omega), a4 S (by omega), a4 T (by omega), a3 S hST, b3 5 (by omega), s3, t3, mCy_t hS.2.2.2.2.1 hT.2.2.2.2.1 (by omega) (by omega) (by omega) (by omega) (by omega) (by omega) (by omega)]
  generalize hg6 : mCpy h5 (S + 3) 0 (T + 3) 0 128 = h6
  have a6 : ∀ b : Int, b ≠ T + 3 → h6 b = h5 b := fun b hb => by rw [← hg6]; exact mCpy_row hb
  rw [a6 S (by omega), a6 T (by omega), a5 S (by omega), a5 T (by omega), a4 S (by omega), a4 T (by omega), a3 S hST, b3 6 (by omega), s4, t4, mCy_t hS.2.2.2.2.2.1 hT.2.2.2.2.2.1 (by omega) (by omega) (by omega) (by omega) (by omega) (by omega) (by omega)]
  generalize hg7 : mCpy h6 (S + 4) 0 (T + 4) 0 4 = h7
  have a7 : ∀ b : Int, b ≠ T + 4 → h7 b = h6 b := fun b hb => by rw [← hg7]; exact mCpy_row hb
  have A : ∀ b : Int, b ≠ T → b ≠ T + 1 → b ≠ T + 2 → b ≠ T + 3 → b ≠ T + 4 → h7 b = h b := fun b x0 x1 x2 x3 x4 => by rw [a7 b x4, a6 b x3, a5 b x2, a4 b x1, a3 b x0]
  have AT : h7 T = h3 T := by rw [a7 T (by omega), a6 T (by omega), a5 T (by omega), a4 T (by omega)]
  have v1 : ∀ j : Int, 0 ≤ j → j < 256 → h7 (T + 1) j = h (S + 1) j := fun j j0 j1 => by
    rw [a7 _ (by omega), a6 _ (by omega), a5 _ (by omega), ← hg4, mCpy_in j0 (by omega), a3 _ (by omega)]
    congr 1; omega
  have v2 : ∀ j : Int, 0 ≤ j → j < 1024 → h7 (T + 2) j = h (S + 2) j := fun j j0 j1 => by
    rw [a7 _ (by omega), a6 _ (by omega), ← hg5, mCpy_in j0 (by omega), a4 _ (by omega), a3 _ (by omega)]
    congr 1; omega
  have v3 : ∀ j : Int, 0 ≤ j → j < 128 → h7 (T + 3) j = h (S + 3) j := fun j j0 j1 => by
    rw [a7 _ (by omega), ← hg6, mCpy_in j0 (by omega), a5 _ (by omega), a4 _ (by omega), a3 _ (by omega)]
    congr 1; omega
  have v4 : ∀ j : Int, 0 ≤ j → j < 4 → h7 (T + 4) j = h (S + 4) j := fun j j0 j1 => by
    rw [← hg7, mCpy_in j0 (by omega), a6 _ (by omega), a5 _ (by omega), a4 _ (by omega), a3 _ (by omega)]
    congr 1; omega
  have hS0 : h7 S = h S := A S (by omega) (by omega) (by omega) (by omega) (by omega)
  have hS5 : h7 (S + 5) = h (S + 5) := A (S + 5) (by omega) (by omega) (by omega) (by omega) (by omega)
  have hT5' : h7 (T + 5) = h (T + 5) := A (T + 5) (by omega) (by omega) (by omega) (by omega) (by omega)
  have HT : ShH h7 T := ShH_fr ⟨t1, t2, t3, t4, t5, t6, t7, t8⟩ (fun i i0 i1 => by rw [AT]; exact b3 i i0) hT5'
  have HS : ShH h7 S := ShH_fr r1 (fun i _ _ => by rw [hS0]) hS5
  have hn := hI.2.2.1
  have h7n : h7 T 2 = aN s := by rw [AT, z3.2.2]; exact r2.2.2
  obtain ⟨h', g1, g2, g3, g4⟩ := L_become hd hT hS hdis (aN s).toNat 0 h7 HT HS (by omega) (by omega) (by omega) (fun i i0 i1 => by
    rw [h7n] at i1
    have := s7 i i0 (by omega)
    rw [hS5, A _ (by omega) (by omega) (by omega) (by omega) (by omega)]
    have := (r8 i i0 i1).2.1
    omega)
  rw [g1, mK_r, if_pos rfl]
  have kT : ∀ z : Int, 0 ≤ z → z < 7 → h' (T + z) = h7 (T + z) := fun z _ _ => g2 _ (by omega)
  have k0 : h' T = h7 T := g2 T (by omega)
  refine ⟨h', rfl, ⟨ShH_fr HT (fun i _ _ => by rw [k0]) (kT 5 (by omega) (by omega)), ⟨by rw [k0, AT, z3.1]; exact r2.1, by rw [k0, AT, z3.2.1]; exact r2.2.1, by rw [k0]; exact h7n⟩, ?_, ?_, ?_, ?_, ?_, ?_⟩, ?_⟩
  · intro r c x0 x1 x2 x3
    have := hI.1; have := hI.2.1
    rw [kT 1 (by omega) (by omega), v1 _ (by omega) (by omega)]
    exact r3 r c x0 x1 x2 x3
  · intro p r c y0 y1 x0 x1 x2 x3
    have := hI.1; have := hI.2.1
    rw [kT 2 (by omega) (by omega), v2 _ (by omega) (by omega)]
    exact r4 p r c y0 y1 x0 x1 x2 x3
  · intro p i y0 y1 x0 x1
    have := hI.1
    rw [kT 3 (by omega) (by omega), v3 _ (by omega) (by omega)]
    exact r5 p i y0 y1 x0 x1
  · intro p i y0 y1 x0 x1
    have := hI.2.1
    rw [kT 3 (by omega) (by omega), v3 _ (by omega) (by omega)]
    exact r6 p i y0 y1 x0 x1
  · intro p y0 y1
    rw [kT 4 (by omega) (by omega), v4 _ (by omega) (by omega)]
    exact r7 p y0 y1
  · intro k k0 k1
    have e := fun f f0 f1 => g4 k k0 (by rw [h7n]; exact k1) f f0 f1
    have sk := s7 k k0 (by omega)
    rw [hT5', hS5, A (h (S + 5) k) (by omega) (by omega) (by omega) (by omega) (by omega)] at e
    rw [kT 5 (by omega) (by omega), hT5', e 7 (by omega) (by omega)]
    refine ⟨fun f f0 f1 => ?_, CC_fr (r8 k k0 k1).2 ⟨Int.le_refl _, fun a a0 a1 => ⟨rfl, ?_⟩⟩⟩
    · rw [e f f0 (by omega)]
      exact (r8 k k0 k1).1 f f0 f1
    · rw [g2 a (by omega)]
      exact A a (by omega) (by omega) (by omega) (by omega) (by omega)
  · intro b hb
    rw [g2 b (by omega)]
    exact A b (by omega) (by omega) (by omega) (by omega) (by omega)
end PU
