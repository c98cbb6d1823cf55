/-! PURE: a rule is put in; remove, on the class's draft. -/
def losF (a b x : Int) : Int := if x < a then x else if x ≤ b then a else x - (b - a + 1)
def losL (a b x : Int) : Int := if x < a then x else if x ≤ b then a - 1 else x - (b - a + 1)
def rLos (y a b : Int) (g : Int → Int) (f : Int) : Int := if f = y then losF a b (g f) else if f = 2 + y then losL a b (g f) else g f
/-- one rule loses the lines; it goes where none of its cells is left -/
def remS (y a b k : Int) (s : aS) : aS := if rLos y a b (aRul s k) (2 + y) < rLos y a b (aRul s k) y then F_drop (F_rset s k (rLos y a b (aRul s k))) k else F_rset s k (rLos y a b (aRul s k))
/-- the rules 0 .. k - 1 do, the last one first -/
def remL (y a b : Int) : Nat → aS → aS
  | 0, s => s
  | k + 1, s => remL y a b k (remS y a b (k : Int) s)
def oRem (a g L : Int) : Int := if L < a then L else L + g
def F_remove (s : aS) (y a b : Int) : aS := remL y a b (aN s).toNat (F_bring s y (oRem a (b - a + 1)) (aSz s y - (b - a + 1)))
section PU
variable {d : Nat} {w : mm_W} {h h' : mm_H} {s : aS}
theorem E_putRule (hd : 2 ≤ d) (hW : ShW w 4) (hI : aI s) (hR : RC w h 4 s) {r n pv st c : Int} {T : Term} (hr : 0 ≤ r ∧ r ≤ aN s) (h6 : aN s < 6) (hn : 0 ≤ n ∧ n < 2147483648) (hp : 0 ≤ pv ∧ pv < 40) (hC : CC w h c T) : ∃ h', mm_P d 104 [(2, 4), (0, r), (0, n), (0, pv), (0, st), (2, c)] w h = some ((0, aN s + 1), w, h') ∧ RC w h' 4 (F_put s r (n / 1000000) (n / 10000 % 100) (n / 100 % 100) (n % 100) (pv / 10) (pv % 10) st T) ∧ ∀ b : Int, b ≠ 4 → b ≠ 9 → ¬ (11 ≤ b ∧ b < 17) → h' b = h b := by
  obtain ⟨d, rfl, hd2⟩ := mm_dS hd; clear hd; have hd := hd2; clear hd2
  have w4 : (w.1 4).1 = 9 := by rw [hW.2.1]
  have hs := hI.2.2.1
  have e2 := hR.2.1.2.2
  obtain ⟨h1, b1, b2, b3, b4⟩ := E_carryRule hd hW hR.1 (f := aN s) (t := r) (by omega) (by omega)
  have f2 : h1 4 2 = aN s := by rw [b2 4 (by decide)]; exact e2
  generalize hg : mUp h1 4 2 (aN s + 1) = ha
  have a1 : ∀ b : Int, b ≠ 4 → ha b = h1 b := fun b hb => by rw [← hg]; exact mUp_row hb
  have a2 : ∀ i : Int, i ≠ 2 → ha 4 i = h1 4 i := fun i hi => by rw [← hg]; exact mUp_n (Or.inr hi)
  have a3 : ha 4 2 = aN s + 1 := by rw [← hg]; exact mUp_s
  have Sa : ShH ha 4 := ShH_fr b4 (fun i i0 _ => a2 i (by omega)) (a1 _ (by decide))
  have hv := Sa.2.2.2.2.2.2.1 r hr.1 (by omega)
  have hw := Sh_rul hW Sa hr.1 (show r < 6 by omega)
  rw [show (4 : Int) + 5 = 9 from rfl] at hv hw
  have w7 : (w.1 (ha 9 r)).1 = 7 := by rw [hw.1]
  have hc0 : 0 ≤ c := by have := hC.1; omega
  rw [P_Sh_putRule, mLt_f hr.1, mF_t w4, e2, mLt_f hr.2, mF_t w4, mLt_t h6, mF_t w4, mF_t w4, b1, mC_s]
  simp only [mF_t w4]
  rw [f2, mI_id (by omega) (by omega), hg, E_ruleAt hd hW Sa hr.1 (by omega), mC_s, show (4 : Int) + 5 = 9 from rfl]
  generalize ho : ha 9 r = o at hv hw w7
  rw [E_topOf hd hn.1 hn.2, mC_s, mF_t w7]
  try dsimp only
  rw [E_leftOf hd hn.1 hn.2, mC_s, mF_t w7]
  try dsimp only
  rw [E_bottomOf hd hn.1 hn.2, mC_s, mF_t w7]
  try dsimp only
  rw [E_rightOf hd hn.1 hn.2, mC_s, mF_t w7]
  try dsimp only
  rw [mD_t (by decide), mF_t w7, mD_t (by decide), mF_t w7, mF_t w7, mF_t w7, mLe_t hc0, mF_t w4, Int.tdiv_eq_ediv_of_nonneg hp.1, mI_id (by omega) (by omega), Int.tmod_eq_emod_of_nonneg hp.1]
  obtain ⟨X, hX⟩ : ∃ X, X = mUp (mUp (mUp (mUp (mUp (mUp (mUp (mUp ha o 0 (n / 1000000)) o 1 (n / 10000 % 100)) o 2 (n / 100 % 100)) o 3 (n % 100)) o 4 (pv / 10)) o 5 (pv % 10)) o 6 st) o 7 c := ⟨_, rfl⟩
  rw [← hX]
  have x1 : ∀ b : Int, b ≠ o → X b = ha b := fun b hb => by rw [hX]; simp only [mUp_row hb]
  have x7 : X o 7 = c := by rw [hX]; exact mUp_s
  have x2 : ∀ f : Int, 0 ≤ f → f < 7 → X o f = if f = 0 then n / 1000000 else if f = 1 then n / 10000 % 100 else if f = 2 then n / 100 % 100 else if f = 3 then n % 100 else if f = 4 then pv / 10 else if f = 5 then pv % 10 else st := fun f f0 f1 => by
    rw [hX]
    rcases (show f = 0 ∨ f = 1 ∨ f = 2 ∨ f = 3 ∨ f = 4 ∨ f = 5 ∨ f = 6 by omega) with rfl | rfl | rfl | rfl | rfl | rfl | rfl <;> simp [mUp]
  have o9 : h 9 (aN s) = o := by
    rw [← ho, a1 9 (by decide), b3 r hr.1 (by omega)]
    congr 1
    unfold crr
    rw [if_pos rfl]
  have xm : ∀ b : Int, b ≠ 4 → b ≠ 9 → ¬ (11 ≤ b ∧ b < 17) → X b = h b := fun b n4 n9 n11 => by rw [x1 b (by omega), a1 b n4, b2 b n9]
  refine ⟨X, by rw [x1 4 (by omega), a3], ⟨ShH_fr Sa (fun i _ _ => by rw [x1 4 (by omega)]) (x1 _ (by omega)), ⟨?_, ?_, ?_⟩, ?_, ?_, ?_, ?_, ?_, ?_⟩, xm⟩
  · rw [x1 4 (by omega), a2 0 (by decide), b2 4 (by decide)]; exact hR.2.1.1
  · rw [x1 4 (by omega), a2 1 (by decide), b2 4 (by decide)]; exact hR.2.1.2.1
  · rw [x1 4 (by omega), a3]; rfl
  · rw [xm (4 + 1) (by decide) (by decide) (by decide)]; exact hR.2.2.1
  · rw [xm (4 + 2) (by decide) (by decide) (by decide)]; exact hR.2.2.2.1
  · rw [xm (4 + 3) (by decide) (by decide) (by decide)]; exact hR.2.2.2.2.1
  · rw [xm (4 + 3) (by decide) (by decide) (by decide)]; exact hR.2.2.2.2.2.1
  · rw [xm (4 + 4) (by decide) (by decide) (by decide)]; exact hR.2.2.2.2.2.2.1
  · intro k k0 k1
    have k1 : k < aN s + 1 := k1
    have cs : CS w w h X := ⟨Int.le_refl _, fun x x0 _ => ⟨rfl, xm x (by omega) (by omega) (by omega)⟩⟩
    rw [show (4 : Int) + 5 = 9 from rfl, x1 9 (by omega), a1 9 (by decide), b3 k k0 (by omega)]
    have hH := hR.1
    show (∀ f : Int, 0 ≤ f → f < 7 → X (h 9 (crr (aN s) r k)) f = (if k < r then aRul s k else if k = r then (fun f => if f = 0 then n / 1000000 else if f = 1 then n / 10000 % 100 else if f = 2 then n / 100 % 100 else if f = 3 then n % 100 else if f = 4 then pv / 10 else if f = 5 then pv % 10 else st) else aRul s (k - 1)) f) ∧ CC w X (X (h 9 (crr (aN s) r k)) 7) (if k < r then aCod s k else if k = r then T else aCod s (k - 1))
    have old : ∀ i : Int, 0 ≤ i → i < aN s → (∀ f : Int, 0 ≤ f → f < 7 → X (h 9 i) f = aRul s i f) ∧ CC w X (X (h 9 i) 7) (aCod s i) := fun i i0 i1 => by
      have hri := hR.2.2.2.2.2.2.2 i i0 i1
      have hqi := hH.2.2.2.2.2.2.1 i i0 (by omega)
      rw [show (4 : Int) + 5 = 9 from rfl] at hri hqi
      have hne : h 9 i ≠ o := fun e => by
        have := hH.2.2.2.2.2.2.2 i (aN s) i0 (by omega) (by omega) (by omega) (by show h 9 i = h 9 (aN s); rw [o9]; exact e)
        omega
      rw [x1 _ hne, a1 _ (by omega), b2 _ (by omega)]
      exact ⟨hri.1, CC_fr hri.2 cs⟩
    by_cases kr : k = r
    · rw [show crr (aN s) r k = aN s by unfold crr; rw [if_pos kr], o9, if_neg (by omega), if_pos kr, if_neg (by omega), if_pos kr, x7]
      exact ⟨x2, CC_fr hC cs⟩
    · by_cases kl : k < r
      · rw [show crr (aN s) r k = k by unfold crr; rw [if_neg kr, if_neg (by omega), if_neg (by omega)], if_pos kl, if_pos kl]
        exact old k k0 (by omega)
      · rw [show crr (aN s) r k = k - 1 by unfold crr; rw [if_neg kr, if_neg (by omega), if_pos (by omega)], if_neg kl, if_neg kr, if_neg kl, if_neg kr]
        exact old (k - 1) (by omega) (by omega)
theorem E_firstLeft (hd : 1 ≤ d) {x a b : Int} (hx : 0 ≤ x ∧ x < 100) (ha : 0 ≤ a ∧ a ≤ b) (hb : b < 100) : mm_P d 76 [(0, x), (0, a), (0, b)] w h = some ((0, losF a b x), w, h) := by
  obtain ⟨d, rfl, hd2⟩ := mm_dS hd; clear hd; have hd := hd2; clear hd2
  rw [P_Ru_firstLeft]
  unfold losF
  by_cases c : a ≤ x
  · rw [mLe_t c, if_neg (by omega)]
    try dsimp only
    rw [mI_id (x := b + 1) (by omega) (by omega), mI_id (x := b - a) (by omega) (by omega), mI_id (x := b - a + 1) (by omega) (by omega)]
    unfold mMax
    by_cases c2 : x ≤ b
    · rw [if_pos (by omega), if_pos c2, mI_id (by omega) (by omega), show b + 1 - (b - a + 1) = a by omega]
    · rw [if_neg c2]
      by_cases c3 : x ≤ b + 1
      · rw [if_pos c3, mI_id (by omega) (by omega), show b + 1 - (b - a + 1) = x - (b - a + 1) by omega]
      · rw [if_neg c3, mI_id (by omega) (by omega)]
  · rw [mLe_f (by omega), if_pos (by omega)]
theorem E_lastLeft (hd : 1 ≤ d) {x a b : Int} (hx : 0 ≤ x ∧ x < 100) (ha : 0 ≤ a ∧ a ≤ b) (hb : b < 100) : mm_P d 77 [(0, x), (0, a), (0, b)] w h = some ((0, losL a b x), w, h) := by
  obtain ⟨d, rfl, hd2⟩ := mm_dS hd; clear hd; have hd := hd2; clear hd2
  rw [P_Ru_lastLeft]
  unfold losL
  by_cases c : a ≤ x
  · rw [mLe_t c, if_neg (by omega)]
    try dsimp only
    rw [mI_id (x := b - a) (by omega) (by omega), mI_id (x := b - a + 1) (by omega) (by omega)]
    unfold mMax
    by_cases c2 : x ≤ b
    · rw [if_pos c2, if_pos c2, mI_id (by omega) (by omega), show b - (b - a + 1) = a - 1 by omega]
    · rw [if_neg c2, if_neg c2, mI_id (by omega) (by omega)]
  · rw [mLe_f (by omega), if_pos (by omega)]
theorem E_loseLines (hd : 2 ≤ d) {o : Int} (ho : w.1 o = (7, 8)) {y a b : Int} (hy : y = 0 ∨ y = 1) (ha : 0 ≤ a ∧ a ≤ b) (hb : b < 100) (hx : ∀ f : Int, 0 ≤ f → f < 4 → 0 ≤ h o f ∧ h o f < 100) (hne : h o (1 - y) ≤ h o (3 - y)) : ∃ h', mm_P d 75 [(2, o), (0, y), (0, a), (0, b)] w h = some ((0, bI (¬ rLos y a b (h o) (2 + y) < rLos y a b (h o) y)), w, h') ∧ (∀ b : Int, b ≠ o → h' b = h b) ∧ ∀ f : Int, h' o f = rLos y a b (h o) f := by
  obtain ⟨d, rfl, hd2⟩ := mm_dS hd; clear hd; have hd := hd2; clear hd2
  have hw : (w.1 o).1 = 7 := by rw [ho]
  have b0 := hx 0 (by decide) (by decide)
  have b1 := hx 1 (by decide) (by decide)
  have b2 := hx 2 (by decide) (by decide)
  have b3 := hx 3 (by decide) (by decide)
  rw [P_Ru_loseLines]
  simp only [mF_t hw]
  rcases hy with rfl | rfl
  · have hne : h o 1 ≤ h o 3 := hne
    rw [mEq_t rfl, E_firstLeft hd b0 ha hb, mC_s]
    try dsimp only
    rw [mUp_n (Or.inr (by decide)), E_lastLeft hd b2 ha hb, mC_s]
    simp only [mF_t hw]
    have e2 : rLos 0 a b (h o) (2 + 0) = losL a b (h o 2) := by unfold rLos; rw [if_neg (by decide), if_pos rfl]; rfl
    have e0 : rLos 0 a b (h o) 0 = losF a b (h o 0) := by unfold rLos; rw [if_pos rfl]
    have g0 : mUp (mUp h o 0 (losF a b (h o 0))) o 2 (losL a b (h o 2)) o 0 = losF a b (h o 0) := by rw [mUp_n (Or.inr (by decide)), mUp_s]
    have g1 : mUp (mUp h o 0 (losF a b (h o 0))) o 2 (losL a b (h o 2)) o 1 = h o 1 := by rw [mUp_n (Or.inr (by decide)), mUp_n (Or.inr (by decide))]
    have g3 : mUp (mUp h o 0 (losF a b (h o 0))) o 2 (losL a b (h o 2)) o 3 = h o 3 := by rw [mUp_n (Or.inr (by decide)), mUp_n (Or.inr (by decide))]
    rw [mUp_s, g0, g1, g3, e2, e0]
    refine ⟨mUp (mUp h o 0 (losF a b (h o 0))) o 2 (losL a b (h o 2)), ?_, fun b hb => by rw [mUp_row hb, mUp_row hb], fun f => ?_⟩
    · by_cases c : losL a b (h o 2) < losF a b (h o 0)
      · rw [mLt_t c, mZ_0, bI_f (by omega)]
      · rw [mLt_f (by omega), mLt_f hne, mZ_1, bI_t c]
    · unfold rLos
      by_cases f2 : f = 2
      · subst f2; rw [mUp_s, if_neg (by decide), if_pos (by decide)]
      · rw [mUp_n (Or.inr f2)]
        by_cases f0 : f = 0
        · subst f0; rw [mUp_s, if_pos rfl]
        · rw [mUp_n (Or.inr f0), if_neg f0, if_neg (by omega)]
  · have hne : h o 0 ≤ h o 2 := hne
    rw [mEq_f (by decide), E_firstLeft hd b1 ha hb, mC_s]
    try dsimp only
    rw [mUp_n (Or.inr (by decide)), E_lastLeft hd b3 ha hb, mC_s]
    simp only [mF_t hw]
    have e2 : rLos 1 a b (h o) (2 + 1) = losL a b (h o 3) := by unfold rLos; rw [if_neg (by decide), if_pos rfl]; rfl
    have e0 : rLos 1 a b (h o) 1 = losF a b (h o 1) := by unfold rLos; rw [if_pos rfl]
    have g0 : mUp (mUp h o 1 (losF a b (h o 1))) o 3 (losL a b (h o 3)) o 1 = losF a b (h o 1) := by rw [mUp_n (Or.inr (by decide)), mUp_s]
    have g1 : mUp (mUp h o 1 (losF a b (h o 1))) o 3 (losL a b (h o 3)) o 0 = h o 0 := by rw [mUp_n (Or.inr (by decide)), mUp_n (Or.inr (by decide))]
    have g3 : mUp (mUp h o 1 (losF a b (h o 1))) o 3 (losL a b (h o 3)) o 2 = h o 2 := by rw [mUp_n (Or.inr (by decide)), mUp_n (Or.inr (by decide))]
    rw [mUp_s, g0, g1, g3, e2, e0]
    refine ⟨mUp (mUp h o 1 (losF a b (h o 1))) o 3 (losL a b (h o 3)), ?_, fun b hb => by rw [mUp_row hb, mUp_row hb], fun f => ?_⟩
    · rw [mLt_f hne]
      by_cases c : losL a b (h o 3) < losF a b (h o 1)
      · rw [mLt_t c, mZ_0, bI_f (by omega)]
      · rw [mLt_f (by omega), mZ_1, bI_t c]
    · unfold rLos
      by_cases f2 : f = 3
      · subst f2; rw [mUp_s, if_neg (by decide), if_pos (by decide)]
      · rw [mUp_n (Or.inr f2)]
        by_cases f0 : f = 1
        · subst f0; rw [mUp_s, if_pos rfl]
        · rw [mUp_n (Or.inr f0), if_neg f0, if_neg (by omega)]
/-- the rules' rectangles lie on a sheet of at most 16 by 16 -/
def rOk (s : aS) (k : Int) : Prop := ∀ i : Int, 0 ≤ i → i < k → (∀ f : Int, 0 ≤ f → f < 4 → 0 ≤ aRul s i f ∧ aRul s i f < 100) ∧ aRul s i 0 ≤ aRul s i 2 ∧ aRul s i 1 ≤ aRul s i 3
theorem L_remR (hd : 3 ≤ d) (hW : ShW w 4) {y n a b g z : Int} (hy : y = 0 ∨ y = 1) (ha : 0 ≤ a ∧ a ≤ b) (hb : b < 100) : ∀ (m : Nat) (s : aS) (h : mm_H), RC w h 4 s → (0 ≤ aN s ∧ aN s ≤ 6) → (m : Int) ≤ aN s → rOk s m → ∃ h', l_Ed_removeLines_1 (mm_P d) 420 4 y n a b g z ((m : Int) - 1) w h = some (.inr (152, [(2, 420), (2, 4), (0, y), (0, n), (0, a), (0, b), (0, g), (0, z), (0, -1)], w, h')) ∧ RC w h' 4 (remL y a b m s) ∧ ∀ b : Int, b ≠ 4 → b ≠ 9 → ¬ (11 ≤ b ∧ b < 17) → h' b = h b := by
  have w4 : (w.1 4).1 = 9 := by rw [hW.2.1]
  intro m
  induction m with
  | zero =>
    intro s h hR hs hm hr
    rw [l_Ed_removeLines_1_eq, mLt_t (by omega)]
    exact ⟨h, rfl, hR, fun _ _ _ _ => rfl⟩
  | succ m ih =>
    intro s h hR hs hm hr
    have e1 : ((m + 1 : Nat) : Int) - 1 = m := by omega
    have hq := hR.1.2.2.2.2.2.2.1 (m : Int) (by omega) (by omega)
    have hw := Sh_rul hW hR.1 (show (0 : Int) ≤ m by omega) (show (m : Int) < 6 by omega)
    have hk := hR.2.2.2.2.2.2.2 (m : Int) (by omega) (by omega)
    rw [show (4 : Int) + 5 = 9 from rfl] at hq hw hk
    have hrk := hr (m : Int) (by omega) (by omega)
    obtain ⟨h1, b1, b2, b3⟩ := E_loseLines (by omega : 2 ≤ d) (w := w) (h := h) hw.1 (y := y) hy ha hb (fun f f0 f1 => by rw [hk.1 f f0 (by omega)]; exact hrk.1 f f0 f1) (by
      rcases hy with rfl | rfl
      · show h (h 9 m) 1 ≤ h (h 9 m) 3
        rw [hk.1 1 (by decide) (by decide), hk.1 3 (by decide) (by decide)]; exact hrk.2.2
      · show h (h 9 m) 0 ≤ h (h 9 m) 2
        rw [hk.1 0 (by decide) (by decide), hk.1 2 (by decide) (by decide)]; exact hrk.2.1)
    have ef : ∀ f : Int, 0 ≤ f → f < 7 → rLos y a b (h (h 9 m)) f = rLos y a b (aRul s m) f := fun f f0 f1 => by
      unfold rLos
      rw [hk.1 f f0 f1]
    have R1 : RC w h1 4 (F_rset s m (rLos y a b (aRul s m))) := RC_rset hR hs.2 (by omega) (fun f f0 f1 => by rw [b3, ef f f0 f1]) (by
      rw [b3]; unfold rLos; rw [if_neg (by omega), if_neg (by omega)]) b2
    have cond : rLos y a b (h (h 9 m)) (2 + y) < rLos y a b (h (h 9 m)) y ↔ rLos y a b (aRul s m) (2 + y) < rLos y a b (aRul s m) y := by
      rw [ef y (by omega) (by omega), ef (2 + y) (by omega) (by omega)]
    have ok1 : ∀ (s2 : aS), (∀ i : Int, 0 ≤ i → i < m → aRul s2 i = aRul s i) → rOk s2 m := fun s2 e i i0 i1 => by
      rw [e i i0 i1]; exact hr i i0 (by omega)
    rw [l_Ed_removeLines_1_eq, e1, mLt_f (by omega), mF_t w4, E_ruleAt (by omega) hW hR.1 (by omega) (by omega), mC_s, show (4 : Int) + 5 = 9 from rfl, mF_t (by rw [hw.1]), b1, mC_s]
    by_cases c : rLos y a b (aRul s m) (2 + y) < rLos y a b (aRul s m) y
    · rw [bI_f (fun z => z (cond.mpr c)), mEq_t rfl, mF_t w4]
      rcases E_dropRule (s := F_rset s m (rLos y a b (aRul s m))) (by omega : 2 ≤ d) hW hs R1 (m : Int) with ⟨-, h2, c1, c2, c3⟩ | ⟨z, -⟩
      · rw [show aN (F_rset s m (rLos y a b (aRul s m))) = aN s from rfl] at c1
        rw [c1, mC_s]
        try dsimp only
        rw [mI_id (by omega) (by omega), show (m : Int) + -1 = m - 1 by omega]
        have es : remS y a b m s = F_drop (F_rset s m (rLos y a b (aRul s m))) m := by unfold remS; rw [if_pos c]
        obtain ⟨h', g1, g2, g3⟩ := ih (remS y a b m s) h2 (by rw [es]; exact c2) (by rw [es]; show 0 ≤ aN s - 1 ∧ aN s - 1 ≤ 6; omega) (by rw [es]; show (m : Int) ≤ aN s - 1; omega) (by
          rw [es]
          refine ok1 _ (fun i i0 i1 => ?_)
          show (if (if i < (m : Int) then i else i + 1) = (m : Int) then rLos y a b (aRul s m) else aRul s (if i < (m : Int) then i else i + 1)) = aRul s i
          rw [if_pos i1, if_neg (by omega)])
        exact ⟨h', g1, g2, fun x n4 n9 n11 => by rw [g3 x n4 n9 n11, c3 x n4 n9, b2 x (by omega)]⟩
      · exact absurd (show 0 ≤ (m : Int) ∧ (m : Int) < aN s by omega) z
    · rw [bI_t (fun z => c (cond.mp z)), mEq_f (by decide)]
      try dsimp only
      rw [mI_id (by omega) (by omega), show (m : Int) + -1 = m - 1 by omega]
      have es : remS y a b m s = F_rset s m (rLos y a b (aRul s m)) := by unfold remS; rw [if_neg c]
      obtain ⟨h', g1, g2, g3⟩ := ih (remS y a b m s) h1 (by rw [es]; exact R1) (by rw [es]; exact hs) (by rw [es]; show (m : Int) ≤ aN s; omega) (by
        rw [es]
        refine ok1 _ (fun i i0 i1 => ?_)
        show (if i = (m : Int) then rLos y a b (aRul s m) else aRul s i) = aRul s i
        rw [if_neg (by omega)])
      exact ⟨h', g1, g2, fun x n4 n9 n11 => by rw [g3 x n4 n9 n11, b2 x (by omega)]⟩
theorem L_rem0 (hd : 1 ≤ d) (hE : w.1 420 = (3, 2)) (hO : w.1 434 = (50, 16)) {y n a b g z : Int} (hz : z ≤ 16) (hg : 0 ≤ g ∧ g ≤ 16) : ∀ (m : Nat) (k : Int) (h : mm_H), EdH h → 0 ≤ k → k + m = z → ∃ h', l_Ed_removeLines_0 (mm_P d) 420 4 y n a b g z k w h = some (.inr (101, [(2, 420), (2, 4), (0, y), (0, n), (0, a), (0, b), (0, g), (0, z), (0, z)], w, h')) ∧ (∀ b : Int, b ≠ 434 → h' b = h b) ∧ ∀ j : Int, h' 434 j = if k ≤ j ∧ j < z then oRem a g j else h 434 j := by
  have hw : (w.1 420).1 = 3 := by rw [hE]
  intro m
  induction m with
  | zero =>
    intro k h a1 a2 a3
    rw [l_Ed_removeLines_0_eq, mLe_t (by omega)]
    exact ⟨h, by rw [show k = z by omega], fun _ _ => rfl, fun j => by rw [if_neg (by omega)]⟩
  | succ m ih =>
    intro k h a1 a2 a3
    have fin : ∀ q : Int, q = oRem a g k → ∃ h', l_Ed_removeLines_0 (mm_P d) 420 4 y n a b g z (k + 1) w (mUp h 434 k q) = some (.inr (101, [(2, 420), (2, 4), (0, y), (0, n), (0, a), (0, b), (0, g), (0, z), (0, z)], w, h')) ∧ (∀ b : Int, b ≠ 434 → h' b = h b) ∧ ∀ j : Int, h' 434 j = if k ≤ j ∧ j < z then oRem a g j else h 434 j := by
      intro q hq
      obtain ⟨h', g1, g2, g3⟩ := ih (k + 1) (mUp h 434 k q) (by unfold EdH; rw [mUp_row (by decide)]; exact a1) (by omega) (by omega)
      refine ⟨h', g1, fun b hb => by rw [g2 b hb, mUp_row hb], fun j => ?_⟩
      rw [g3]
      by_cases hj : j = k
      · subst hj
        rw [if_neg (by omega), if_pos (by omega), ← hq]; exact mUp_s
      · rw [mUp_n (Or.inr hj)]
        by_cases hh : k ≤ j ∧ j < z
        · rw [if_pos hh, if_pos (by omega)]
        · rw [if_neg hh, if_neg (by omega)]
    rw [l_Ed_removeLines_0_eq, mLe_f (by omega), mF_t hw]
    by_cases c1 : a ≤ k
    · rw [mLe_t c1, mI_id (x := k + g) (by omega) (by omega), a1.2, E_poke_t hd hO (by decide) a2 (by omega), mC_s]
      try dsimp only
      rw [mI_id (by omega) (by omega)]
      exact fin _ (by unfold oRem; rw [if_neg (by omega)])
    · rw [mLe_f (by omega), a1.2, E_poke_t hd hO (by decide) a2 (by omega), mC_s]
      try dsimp only
      rw [mI_id (by omega) (by omega)]
      exact fin _ (by unfold oRem; rw [if_pos (by omega)])
theorem rOk_of (hI : aI s) {y : Int} {o : Int → Int} {z : Int} : rOk (F_bring s y o z) (aN s) := by
  intro k k0 k1
  have hv := hI.2.2.2.2.2.2.2.2 k k0 k1
  have h1 := hI.1; have h2 := hI.2.1
  refine ⟨fun f f0 f1 => ?_, hv.1.2.1, hv.2.1.2.1⟩
  show 0 ≤ aRul s k f ∧ aRul s k f < 100
  rcases (show f = 0 ∨ f = 1 ∨ f = 2 ∨ f = 3 by omega) with rfl | rfl | rfl | rfl <;> omega
theorem E_removeLines (hd : 5 ≤ d) (hE : w.1 420 = (3, 2)) (hO : w.1 434 = (50, 16)) (hW : ShW w 4) (hW2 : ShW w 421) (hI : aI s) (hR : RC w h 4 s) (hH2 : ShH h 421) (he : EdH h) (y : Int) {n : Int} (hn : n < 2147483648) : (¬ ((y = 0 ∨ y = 1) ∧ isAB (aSz s y) n) ∧ mm_P d 35 [(2, 420), (2, 4), (0, y), (0, n)] w h = some ((0, -2), w, h)) ∨ ((((y = 0 ∨ y = 1) ∧ isAB (aSz s y) n) ∧ aSz s y = n % 100 - n / 100 + 1) ∧ mm_P d 35 [(2, 420), (2, 4), (0, y), (0, n)] w h = some ((0, -3), w, h)) ∨ ((((y = 0 ∨ y = 1) ∧ isAB (aSz s y) n) ∧ n % 100 - n / 100 + 1 < aSz s y) ∧ ∃ h', mm_P d 35 [(2, 420), (2, 4), (0, y), (0, n)] w h = some ((0, aSz s y - (n % 100 - n / 100 + 1)), w, h') ∧ RC w h' 4 (F_remove s y (n / 100) (n % 100)) ∧ ShH h' 421 ∧ ∀ b : Int, ¬ (4 ≤ b ∧ b < 17) → ¬ (421 ≤ b ∧ b < 435) → h' b = h b) := by
  obtain ⟨d, rfl, hd2⟩ := mm_dS hd; clear hd; have hd := hd2; clear hd2
  have hw : (w.1 420).1 = 3 := by rw [hE]
  have w4 : (w.1 4).1 = 9 := by rw [hW.2.1]
  have hs := aSz_le hI y
  have h3 := hI.2.2.1
  rw [P_Ed_removeLines, E_isFlag (by omega), mC_s]
  by_cases c0 : y = 0 ∨ y = 1
  rotate_left
  · rw [bI_f c0, mEq_t rfl]
    exact Or.inl ⟨fun h => c0 h.1, rfl⟩
  rw [bI_t c0, mEq_f (by decide), mF_t w4, E_hasLines (by omega) hW y hn, mC_s, hR.2.1.1, hR.2.1.2.1, show (if y = 0 then aHi s else aWi s) = aSz s y from rfl]
  by_cases c1 : isAB (aSz s y) n
  rotate_left
  · rw [bI_f c1, mEq_t rfl]
    exact Or.inl ⟨fun h => c1 h.2, rfl⟩
  have c2 := c1
  unfold isAB at c2
  have esz : mm_P d 87 [(2, 4), (0, y)] w h = some ((0, aSz s y), w, h) := by
    rw [E_size (by omega) hW, hR.2.1.1, hR.2.1.2.1]; rfl
  rw [bI_t c1, mEq_f (by decide), mD_t (by decide), mD_t (by decide)]
  try dsimp only
  rw [Int.tdiv_eq_ediv_of_nonneg c2.1, Int.tmod_eq_emod_of_nonneg c2.1, mI_id (x := n / 100) (by omega) (by omega), mI_id (x := n % 100 - n / 100) (by omega) (by omega), mI_id (x := n % 100 - n / 100 + 1) (by omega) (by omega), mF_t w4, esz, mC_s]
  try dsimp only
  rw [mI_id (by omega) (by omega)]
  by_cases c3 : aSz s y - (n % 100 - n / 100 + 1) < 1
  · rw [mLe_f c3]
    exact Or.inr (Or.inl ⟨⟨⟨c0, c1⟩, by omega⟩, rfl⟩)
  refine Or.inr (Or.inr ⟨⟨⟨c0, c1⟩, by omega⟩, ?_⟩)
  obtain ⟨ha, a1, a2, a3⟩ := L_rem0 (d := d) (by omega) hE hO (y := y) (n := n) (a := n / 100) (b := n % 100) (g := n % 100 - n / 100 + 1) (z := aSz s y - (n % 100 - n / 100 + 1)) (by omega) (by omega) (aSz s y - (n % 100 - n / 100 + 1)).toNat 0 h he (by decide) (by omega)
  have CSa : CS w w h ha := ⟨Int.le_refl _, fun x x0 _ => ⟨rfl, a2 x (by omega)⟩⟩
  have Ra : RC w ha 4 s := RC_fr hR hI CSa (fun b p q => a2 b (by omega))
  have H421 : ShH ha 421 := ShH_fr hH2 (fun i _ _ => by rw [a2 421 (by decide)]) (a2 _ (by decide))
  have Ea : EdH ha := by unfold EdH; rw [a2 420 (by decide)]; exact he
  obtain ⟨hb, b1, b2, b3, b4, b5⟩ := E_bringLines hd hE hO hW hW2 hI Ra H421 Ea (z := aSz s y - (n % 100 - n / 100 + 1)) (o := oRem (n / 100) (n % 100 - n / 100 + 1)) c0 (by omega) (fun l l0 l1 => by unfold oRem; split <;> omega) (fun l l0 l1 => by rw [a3, if_pos ⟨l0, l1⟩])
  obtain ⟨h', g1, g2, g3⟩ := L_remR (d := d) (by omega) hW (y := y) (n := n) (a := n / 100) (b := n % 100) (g := n % 100 - n / 100 + 1) (z := aSz s y - (n % 100 - n / 100 + 1)) c0 (by omega) (by omega) (aN s).toNat _ hb b2 h3 (by show ((aN s).toNat : Int) ≤ aN s; omega) (by rw [show (((aN s).toNat : Nat) : Int) = aN s by omega]; exact rOk_of hI)
  refine ⟨h', ?_, g2, ShH_fr b3.1 (fun i _ _ => by rw [g3 421 (by decide) (by decide) (by decide)]) (g3 _ (by decide) (by decide) (by decide)), fun b n1 n2 => by rw [g3 b (by omega) (by omega) (by omega), b4 b (by omega) (by omega), a2 b (by omega)]⟩
  rw [mLe_t (by omega), a1, mK_r, if_pos rfl]
  simp only [mP_0, mP_1, mP_2, mP_3, mP_4, mP_5, mP_6, mP_7]
  rw [mF_t hw, b1, mC_s, mF_t w4]
  try dsimp only
  rw [show hb 4 2 = aN s from b2.2.1.2.2, mI_id (by omega) (by omega)]
  rw [show (((aN s).toNat : Nat) : Int) = aN s by omega] at g1
  rw [g1, mK_r, if_pos rfl]
  simp only [mP_7]
end PU
