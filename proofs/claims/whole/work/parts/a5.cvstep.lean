/-! PURE: how the class's cover grows, run by run. -/
section CV
variable {f : Int → Int → Int} {wi hi : Int}
theorem go_iff {I a b : Int} (hI : 0 < I) (hR : isR f wi I a b) (hv : f I a ≠ -1) : irn f wi (I - 1) a b (f I a) ↔ f (I - 1) a ≠ -1 ∧ rs f (I - 1) a = a ∧ re f wi (I - 1) (rs f (I - 1) a) = b ∧ f (I - 1) a = f I a := by
  have h0 := hR.1
  constructor
  · intro h
    obtain ⟨x, y⟩ := irn_isR h0 h
    have r := rs_eq x (c := a) ⟨Int.le_refl _, h0.2.1⟩
    exact ⟨by rw [y]; exact hv, r, by rw [r]; exact (isR_bg x).2.symm, y⟩
  · rintro ⟨h1, h2, h3, h4⟩
    have x := rs_ok (f := f) (wi := wi) (i := I - 1) (c := a) (by omega)
    rw [h2] at x h3
    rw [h3] at x
    rw [← h4]
    exact x.1.2
theorem own_eq {r a b c : Int} (hR : isR f wi r a b) (hc : a ≤ c ∧ c ≤ b) : own f wi r c = if f r a = -1 then -1 else cnQ f wi (16 * tp f wi r a + a).toNat := by
  unfold own
  rw [rs_eq hR hc, hR.2.1 c hc.1 hc.2]
/-- a rectangle that goes on to the row I, at one of the run's places, is the run's -/
theorem dwn_run {i j I a b : Int} (hj : 0 ≤ j ∧ j < wi) (hS : St f wi i j) (hi0 : 0 ≤ i ∧ i < hi) (hiI : i ≤ I) (hR : isR f wi I a b) (hab : a ≤ j ∧ j ≤ b) (hd : I ≤ dwn f wi hi i j) : j = a ∧ tp f wi I a = i ∧ f I a = f i j ∧ f I a ≠ -1 := by
  obtain ⟨x1, x2, x3, x4⟩ := St_in hj hS hi0 ⟨hiI, hd⟩
  have e := (isR_unique x1 hR (c := j) ⟨Int.le_refl _, x1.1.2.1⟩ hab).1
  rw [← e]
  exact ⟨rfl, x4, x2, by rw [x2]; exact hS.1⟩
/-- the cover as far as the place (I, J) -/
def CVc (h : mm_H) (f : Int → Int → Int) (wi hi I J : Int) : Prop := h 452 8 = cnQ f wi (16 * I + J).toNat ∧
  (∀ q : Nat, (q : Int) < 16 * I + J → stG f wi (q : Int) = 1 → h 453 (cnQ f wi q) = (q : Int) / 16 ∧ h 454 (cnQ f wi q) = (q : Int) % 16 ∧ h 456 (cnQ f wi q) = re f wi ((q : Int) / 16) ((q : Int) % 16) ∧ h 457 (cnQ f wi q) = f ((q : Int) / 16) ((q : Int) % 16) ∧ h 455 (cnQ f wi q) = mMin (dwn f wi hi ((q : Int) / 16) ((q : Int) % 16)) (if (q : Int) % 16 < J then I else I - 1)) ∧
  (∀ r c : Int, 0 ≤ r → r < hi → 0 ≤ c → c < wi → (r < I ∨ r = I ∧ c < J) → h 458 (16 * r + c) = own f wi r c) ∧
  ∀ r c : Int, 0 ≤ r → r < hi → 0 ≤ c → c < wi → ¬ (r < I ∨ r = I ∧ c < J) → h 458 (16 * r + c) = -1
theorem mMin_l {a b : Int} (h : a ≤ b) : mMin a b = a := by unfold mMin; rw [if_pos h]
theorem mMin_r {a b : Int} (h : b ≤ a) : mMin a b = b := by unfold mMin; split <;> omega
/-- no start among the places of a run but its first -/
theorem run_cn {I a b : Int} (hI : 0 ≤ I) (hw : wi ≤ 16) (hR : isR f wi I a b) : cnQ f wi (16 * I + (b + 1)).toNat = cnQ f wi (16 * I + a).toNat + bI (St f wi I a) ∧ ∀ q : Nat, 16 * I + a < (q : Int) → (q : Int) < 16 * I + (b + 1) → stG f wi (q : Int) = 0 := by
  have h0 := hR.1
  obtain ⟨k, hk⟩ : ∃ k : Nat, (k : Int) = 16 * I + a := ⟨(16 * I + a).toNat, by omega⟩
  have z : ∀ x : Nat, 1 ≤ x → (x : Int) ≤ b - a → stG f wi ((k + x : Nat) : Int) = 0 := fun x x0 x1 => run_zero hR hI hw hk x0 x1
  have e := cnQ_skip (f := f) (wi := wi) (n := k + 1) (b - a).toNat (fun j hj => by
    have := z (j + 1) (by omega) (by omega)
    rw [show k + 1 + j = k + (j + 1) by omega]; exact this)
  have s1 := cnQ_s (f := f) (wi := wi) k
  have st : stG f wi (k : Int) = bI (St f wi I a) := by
    rw [hk, stG_at (by omega)]
    exact bI_eq ⟨fun x => x.2, fun x => ⟨by omega, x⟩⟩
  refine ⟨?_, fun q q0 q1 => ?_⟩
  · rw [show (16 * I + (b + 1)).toNat = k + 1 + (b - a).toNat by omega, e, s1, st, show (16 * I + a).toNat = k by omega]
  · have := z (q - k) (by omega) (by omega)
    rw [show k + (q - k) = q by omega] at this
    exact this
/-- a run of nothing -/
theorem CV_none {h : mm_H} {I a b : Int} (hI : 0 ≤ I ∧ I < hi) (hw : wi ≤ 16) (hR : isR f wi I a b) (hv : f I a = -1) (hC : CVc h f wi hi I a) : CVc h f wi hi I (b + 1) := by
  have h0 := hR.1
  obtain ⟨rc, rz⟩ := run_cn hI.1 hw hR
  obtain ⟨c1, c2, c3, c4⟩ := hC
  have hns : ¬ St f wi I a := fun x => x.1 hv
  refine ⟨by rw [rc, bI_f hns, c1]; omega, fun q hq hs => ?_, fun r c r0 r1 x0 x1 hp => ?_, fun r c r0 r1 x0 x1 hp => c4 r c r0 r1 x0 x1 (by omega)⟩
  · have hlt : (q : Int) < 16 * I + a := by
      rcases Int.lt_trichotomy (q : Int) (16 * I + a) with g | g | g
      · exact g
      · exfalso
        have := stG_1.mp hs
        have e1 : (q : Int) / 16 = I := by omega
        have e2 : (q : Int) % 16 = a := by omega
        rw [e1, e2] at this
        exact hns this.2
      · have := rz q g hq; omega
    obtain ⟨y1, y2, y3, y4, y5⟩ := c2 q hlt hs
    refine ⟨y1, y2, y3, y4, ?_⟩
    rw [y5]
    obtain ⟨s1, s2⟩ := stG_1.mp hs
    by_cases g1 : (q : Int) % 16 < a
    · rw [if_pos g1, if_pos (by omega)]
    by_cases g2 : (q : Int) % 16 < b + 1
    · rw [if_neg g1, if_pos g2]
      have hd : dwn f wi hi ((q : Int) / 16) ((q : Int) % 16) ≤ I - 1 := by
        rcases Int.lt_or_le (dwn f wi hi ((q : Int) / 16) ((q : Int) % 16)) I with g | g
        · omega
        · exact absurd hv (dwn_run (by omega) s2 (by omega) (by omega) hR (by omega) g).2.2.2
      rw [mMin_l hd, mMin_l (by omega)]
    · rw [if_neg g1, if_neg g2]
  · by_cases g : r < I ∨ r = I ∧ c < a
    · exact c3 r c r0 r1 x0 x1 g
    · have e : r = I := by omega
      rw [c4 r c r0 r1 x0 x1 g, e, own_eq hR (c := c) (by omega), if_pos hv]
/-- a run that goes on with the rectangle above it -/
theorem CV_on {h h' : mm_H} {I a b k : Int} (hI : 0 < I ∧ I < hi) (hw : wi ≤ 16) (hR : isR f wi I a b) (hv : f I a ≠ -1) (hg : irn f wi (I - 1) a b (f I a)) (hC : CVc h f wi hi I a) (hk : k = own f wi (I - 1) a) (e1 : ∀ o : Int, o ≠ 455 → o ≠ 458 → h' o = h o) (e2 : ∀ x : Int, x ≠ k → h' 455 x = h 455 x) (e3 : h' 455 k = I) (e4 : ∀ x : Int, ¬ (16 * I + a ≤ x ∧ x ≤ 16 * I + b) → h' 458 x = h 458 x) (e5 : ∀ x : Int, 16 * I + a ≤ x → x ≤ 16 * I + b → h' 458 x = k) : CVc h' f wi hi I (b + 1) := by
  have h0 := hR.1
  obtain ⟨rc, rz⟩ := run_cn (by omega) hw hR
  obtain ⟨c1, c2, c3, c4⟩ := hC
  have hb := (isR_bg hR).2
  have hns : ¬ St f wi I a := fun x => x.2.2 ⟨hI.1, by rw [← hb]; exact hg⟩
  obtain ⟨hR1, hf1⟩ := irn_isR h0 hg
  have ht : tp f wi I a = tp f wi (I - 1) a := tp_t hI.1 (by rw [← hb]; exact hg)
  obtain ⟨t1, t2, t3, t4, t5⟩ := tp_St (hi := hi) (f := f) (wi := wi) (i := I) (by omega) hR hv
  have hko : k = cnQ f wi (16 * tp f wi I a + a).toNat := by
    rw [hk, own_eq hR1 (c := a) ⟨Int.le_refl _, h0.2.1⟩, if_neg (by rw [hf1]; exact hv), ht]
  obtain ⟨T, hT⟩ : ∃ T : Nat, (T : Int) = 16 * tp f wi I a + a := ⟨(16 * tp f wi I a + a).toNat, by omega⟩
  have hTs : stG f wi (T : Int) = 1 := by rw [hT, stG_at (by omega)]; exact bI_t ⟨by omega, t1⟩
  rw [show (16 * tp f wi I a + a).toNat = T by omega] at hko
  refine ⟨by rw [e1 452 (by decide) (by decide), rc, bI_f hns, c1]; omega, fun q hq hs => ?_, fun r c r0 r1 x0 x1 hp => ?_, fun r c r0 r1 x0 x1 hp => by rw [e4 _ (by omega)]; exact c4 r c r0 r1 x0 x1 (by omega)⟩
  · have hlt : (q : Int) < 16 * I + a := by
      rcases Int.lt_trichotomy (q : Int) (16 * I + a) with g | g | g
      · exact g
      · exfalso
        have := stG_1.mp hs
        have e1 : (q : Int) / 16 = I := by omega
        have e2 : (q : Int) % 16 = a := by omega
        rw [e1, e2] at this
        exact hns this.2
      · have := rz q g hq; omega
    obtain ⟨y1, y2, y3, y4, y5⟩ := c2 q hlt hs
    rw [e1 453 (by decide) (by decide), e1 454 (by decide) (by decide), e1 456 (by decide) (by decide), e1 457 (by decide) (by decide)]
    refine ⟨y1, y2, y3, y4, ?_⟩
    obtain ⟨s1, s2⟩ := stG_1.mp hs
    by_cases eq : q = T
    · have n1 : (T : Int) / 16 = tp f wi I a := by omega
      have n2 : (T : Int) % 16 = a := by omega
      rw [eq, n1, n2, ← hko, e3, if_pos (by omega), mMin_r t3]
    · have nk : cnQ f wi q ≠ k := fun x => eq (cnQ_inj hs hTs (by rw [x, hko]))
      rw [e2 _ nk, y5]
      by_cases g1 : (q : Int) % 16 < a
      · rw [if_pos g1, if_pos (by omega)]
      by_cases g2 : (q : Int) % 16 < b + 1
      · rw [if_neg g1, if_pos g2]
        have hd : dwn f wi hi ((q : Int) / 16) ((q : Int) % 16) ≤ I - 1 := by
          rcases Int.lt_or_le (dwn f wi hi ((q : Int) / 16) ((q : Int) % 16)) I with g | g
          · omega
          · obtain ⟨u1, u2, u3, u4⟩ := dwn_run (by omega) s2 (by omega) (by omega) hR (by omega) g
            exact absurd (show q = T by omega) eq
        rw [mMin_l hd, mMin_l (by omega)]
      · rw [if_neg g1, if_neg g2]
  · by_cases g : r < I ∨ r = I ∧ c < a
    · rw [e4 _ (by omega)]
      exact c3 r c r0 r1 x0 x1 g
    · have e : r = I := by omega
      rw [e, e5 _ (by omega) (by omega), own_eq hR (c := c) (by omega), if_neg hv, hko, show (16 * tp f wi I a + a).toNat = T by omega]
/-- a run that starts a rectangle -/
theorem CV_new {h h' : mm_H} {I a b k : Int} (hI : 0 ≤ I ∧ I < hi) (hw : wi ≤ 16) (hR : isR f wi I a b) (hv : f I a ≠ -1) (hg : ¬ (0 < I ∧ irn f wi (I - 1) a b (f I a))) (hC : CVc h f wi hi I a) (hk : k = cnQ f wi (16 * I + a).toNat) (e1 : ∀ x : Int, x ≠ k → h' 453 x = h 453 x ∧ h' 454 x = h 454 x ∧ h' 455 x = h 455 x ∧ h' 456 x = h 456 x ∧ h' 457 x = h 457 x) (e2 : h' 453 k = I ∧ h' 454 k = a ∧ h' 455 k = I ∧ h' 456 k = b ∧ h' 457 k = f I a) (e3 : h' 452 8 = k + 1) (e4 : ∀ x : Int, ¬ (16 * I + a ≤ x ∧ x ≤ 16 * I + b) → h' 458 x = h 458 x) (e5 : ∀ x : Int, 16 * I + a ≤ x → x ≤ 16 * I + b → h' 458 x = k) : CVc h' f wi hi I (b + 1) := by
  have h0 := hR.1
  obtain ⟨rc, rz⟩ := run_cn hI.1 hw hR
  obtain ⟨c1, c2, c3, c4⟩ := hC
  have hb := isR_bg hR
  have hS : St f wi I a := ⟨hv, hb.1, by rw [← hb.2]; exact hg⟩
  obtain ⟨T, hT⟩ : ∃ T : Nat, (T : Int) = 16 * I + a := ⟨(16 * I + a).toNat, by omega⟩
  have hTs : stG f wi (T : Int) = 1 := by rw [hT, stG_at (by omega)]; exact bI_t ⟨by omega, hS⟩
  have hko := hk
  rw [show (16 * I + a).toNat = T by omega] at hko
  have n1 : (T : Int) / 16 = I := by omega
  have n2 : (T : Int) % 16 = a := by omega
  refine ⟨by rw [e3, rc, bI_t hS, hk], fun q hq hs => ?_, fun r c r0 r1 x0 x1 hp => ?_, fun r c r0 r1 x0 x1 hp => by rw [e4 _ (by omega)]; exact c4 r c r0 r1 x0 x1 (by omega)⟩
  · obtain ⟨s1, s2⟩ := stG_1.mp hs
    by_cases eq : q = T
    · have dd := (dwn_ok (f := f) (wi := wi) (hi := hi) (a := a) (hi - 1 - I).toNat I b (by omega) hR).1
      rw [eq, n1, n2, ← hko, e2.1, e2.2.1, e2.2.2.1, e2.2.2.2.1, e2.2.2.2.2, if_pos (by omega), mMin_r dd.1]
      exact ⟨rfl, rfl, hb.2, rfl, rfl⟩
    · have hlt : (q : Int) < 16 * I + a := by
        rcases Int.lt_trichotomy (q : Int) (16 * I + a) with g | g | g
        · exact g
        · exact absurd (show q = T by omega) eq
        · have := rz q g hq; omega
      obtain ⟨y1, y2, y3, y4, y5⟩ := c2 q hlt hs
      have nk : cnQ f wi q ≠ k := fun x => eq (cnQ_inj hs hTs (by rw [x, hko]))
      obtain ⟨z1, z2, z3, z4, z5⟩ := e1 _ nk
      rw [z1, z2, z3, z4, z5]
      refine ⟨y1, y2, y3, y4, ?_⟩
      rw [y5]
      by_cases g1 : (q : Int) % 16 < a
      · rw [if_pos g1, if_pos (by omega)]
      by_cases g2 : (q : Int) % 16 < b + 1
      · rw [if_neg g1, if_pos g2]
        have hd : dwn f wi hi ((q : Int) / 16) ((q : Int) % 16) ≤ I - 1 := by
          rcases Int.lt_or_le (dwn f wi hi ((q : Int) / 16) ((q : Int) % 16)) I with g | g
          · omega
          · obtain ⟨u1, u2, u3, u4⟩ := dwn_run (by omega) s2 (by omega) (by omega) hR (by omega) g
            rw [St_tp hS] at u2
            exact absurd (show q = T by omega) eq
        rw [mMin_l hd, mMin_l (by omega)]
      · rw [if_neg g1, if_neg g2]
  · by_cases g : r < I ∨ r = I ∧ c < a
    · rw [e4 _ (by omega)]
      exact c3 r c r0 r1 x0 x1 g
    · have e : r = I := by omega
      rw [e, e5 _ (by omega) (by omega), own_eq hR (c := c) (by omega), if_neg hv, St_tp hS, hk]
/-- the next row -/
theorem CV_row {h : mm_H} {I : Int} (hI : 0 ≤ I) (hw : 1 ≤ wi ∧ wi ≤ 16) (hC : CVc h f wi hi I wi) : CVc h f wi hi (I + 1) 0 := by
  obtain ⟨c1, c2, c3, c4⟩ := hC
  have z : ∀ q : Nat, 16 * I + wi ≤ (q : Int) → (q : Int) < 16 * (I + 1) → stG f wi (q : Int) = 0 := fun q q0 q1 => by
    rw [show (q : Int) = 16 * I + ((q : Int) - 16 * I) by omega, stG_at (by omega)]
    exact bI_f (fun x => by omega)
  have e := cnQ_skip (f := f) (wi := wi) (n := (16 * I + wi).toNat) (16 - wi).toNat (fun j hj => z _ (by omega) (by omega))
  refine ⟨by rw [c1, ← e, show (16 * (I + 1) + 0).toNat = (16 * I + wi).toNat + (16 - wi).toNat by omega], fun q hq hs => ?_, fun r c r0 r1 x0 x1 hp => c3 r c r0 r1 x0 x1 (by omega), fun r c r0 r1 x0 x1 hp => c4 r c r0 r1 x0 x1 (by omega)⟩
  have hlt : (q : Int) < 16 * I + wi := by
    rcases Int.lt_or_le (q : Int) (16 * I + wi) with g | g
    · exact g
    · have := z q g (by omega); omega
  obtain ⟨y1, y2, y3, y4, y5⟩ := c2 q hlt hs
  have s1 := (stG_1.mp hs).1
  refine ⟨y1, y2, y3, y4, ?_⟩
  rw [y5, if_pos s1, if_neg (by omega), show I + 1 - 1 = I by omega]
end CV
