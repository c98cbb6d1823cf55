/-! PURE: a cover, as numbers: the runs of a row, the rectangles of them. -/
/-- the cells from a to b of the row i are all v, and no more of it on either side -/
def irn (f : Int → Int → Int) (wi i a b v : Int) : Prop := (∀ c : Int, a ≤ c → c ≤ b → f i c = v) ∧ (a = 0 ∨ f i (a - 1) ≠ v) ∧ (b = wi - 1 ∨ f i (b + 1) ≠ v)
def isR (f : Int → Int → Int) (wi i a b : Int) : Prop := (0 ≤ a ∧ a ≤ b ∧ b < wi) ∧ irn f wi i a b (f i a)
theorem irn_isR {f : Int → Int → Int} {wi i a b v : Int} (h : 0 ≤ a ∧ a ≤ b ∧ b < wi) (r : irn f wi i a b v) : isR f wi i a b ∧ f i a = v := by
  have e := r.1 a (Int.le_refl _) h.2.1
  refine ⟨⟨h, ?_⟩, e⟩
  rw [e]; exact r
theorem isR_unique {f : Int → Int → Int} {wi i a b a' b' c : Int} (h : isR f wi i a b) (h' : isR f wi i a' b') (c1 : a ≤ c ∧ c ≤ b) (c2 : a' ≤ c ∧ c ≤ b') : a = a' ∧ b = b' := by
  obtain ⟨⟨l1, l2, l3⟩, r1, r2, r3⟩ := h
  obtain ⟨⟨m1, m2, m3⟩, s1, s2, s3⟩ := h'
  have e1 := r1 c c1.1 c1.2
  have e2 := s1 c c2.1 c2.2
  have ev : f i a = f i a' := by rw [← e1, e2]
  constructor
  · rcases Int.lt_trichotomy a a' with q | q | q
    · rcases s2 with s | s
      · omega
      · exact absurd (by rw [r1 (a' - 1) (by omega) (by omega), ev]) s
    · exact q
    · rcases r2 with s | s
      · omega
      · exact absurd (by rw [s1 (a - 1) (by omega) (by omega), ev]) s
  · rcases Int.lt_trichotomy b b' with q | q | q
    · rcases r3 with s | s
      · omega
      · exact absurd (by rw [s1 (b + 1) (by omega) (by omega), ev]) s
    · exact q
    · rcases s3 with s | s
      · omega
      · exact absurd (by rw [r1 (b' + 1) (by omega) (by omega), ev]) s
/-- the end of a cell's run, its start -/
def reN (f : Int → Int → Int) (i : Int) : Nat → Int → Int
  | 0, j => j
  | m + 1, j => if f i (j + 1) = f i j then reN f i m (j + 1) else j
def rsN (f : Int → Int → Int) (i : Int) : Nat → Int → Int
  | 0, j => j
  | m + 1, j => if f i (j - 1) = f i j then rsN f i m (j - 1) else j
def re (f : Int → Int → Int) (wi i j : Int) : Int := reN f i (wi - 1 - j).toNat j
def rs (f : Int → Int → Int) (i j : Int) : Int := rsN f i j.toNat j
theorem reN_ok {f : Int → Int → Int} {i : Int} : ∀ (m : Nat) (j : Int), j ≤ reN f i m j ∧ reN f i m j ≤ j + m ∧ (∀ c : Int, j ≤ c → c ≤ reN f i m j → f i c = f i j) ∧ (reN f i m j = j + m ∨ f i (reN f i m j + 1) ≠ f i j) := by
  intro m
  induction m with
  | zero => intro j; exact ⟨Int.le_refl _, by show j ≤ j + ((0 : Nat) : Int); omega, fun c c0 c1 => by rw [show c = j from Int.le_antisymm c1 c0], Or.inl (by show j = j + ((0 : Nat) : Int); omega)⟩
  | succ m ih =>
    intro j
    unfold reN
    by_cases q : f i (j + 1) = f i j
    · rw [if_pos q]
      obtain ⟨h1, h2, h3, h4⟩ := ih (j + 1)
      refine ⟨by omega, by omega, fun c c0 c1 => ?_, ?_⟩
      · by_cases e : c = j
        · rw [e]
        · rw [h3 c (by omega) c1, q]
      · rcases h4 with h | h
        · exact Or.inl (by omega)
        · exact Or.inr (by rw [← q]; exact h)
    · rw [if_neg q]
      exact ⟨Int.le_refl _, by omega, fun c c0 c1 => by rw [show c = j from Int.le_antisymm c1 c0], Or.inr q⟩
theorem rsN_ok {f : Int → Int → Int} {i : Int} : ∀ (m : Nat) (j : Int), rsN f i m j ≤ j ∧ j - m ≤ rsN f i m j ∧ (∀ c : Int, rsN f i m j ≤ c → c ≤ j → f i c = f i j) ∧ (rsN f i m j = j - m ∨ f i (rsN f i m j - 1) ≠ f i j) := by
  intro m
  induction m with
  | zero => intro j; exact ⟨Int.le_refl _, by show j - ((0 : Nat) : Int) ≤ j; omega, fun c c0 c1 => by rw [show c = j from Int.le_antisymm c1 c0], Or.inl (by show j = j - ((0 : Nat) : Int); omega)⟩
  | succ m ih =>
    intro j
    unfold rsN
    by_cases q : f i (j - 1) = f i j
    · rw [if_pos q]
      obtain ⟨h1, h2, h3, h4⟩ := ih (j - 1)
      refine ⟨by omega, by omega, fun c c0 c1 => ?_, ?_⟩
      · by_cases e : c = j
        · rw [e]
        · rw [h3 c c0 (by omega), q]
      · rcases h4 with h | h
        · exact Or.inl (by omega)
        · exact Or.inr (by rw [← q]; exact h)
    · rw [if_neg q]
      exact ⟨Int.le_refl _, by omega, fun c c0 c1 => by rw [show c = j from Int.le_antisymm c1 c0], Or.inr q⟩
section CV
variable {f : Int → Int → Int} {wi hi : Int}
/-- a run starts here -/
def bg (f : Int → Int → Int) (i j : Int) : Prop := j = 0 ∨ f i (j - 1) ≠ f i j
theorem re_ok {i j : Int} (hj : 0 ≤ j ∧ j < wi) : j ≤ re f wi i j ∧ re f wi i j < wi ∧ (∀ c : Int, j ≤ c → c ≤ re f wi i j → f i c = f i j) ∧ (re f wi i j = wi - 1 ∨ f i (re f wi i j + 1) ≠ f i j) := by
  obtain ⟨h1, h2, h3, h4⟩ := reN_ok (f := f) (i := i) (wi - 1 - j).toNat j
  unfold re
  refine ⟨h1, by omega, h3, ?_⟩
  rcases h4 with h | h
  · exact Or.inl (by omega)
  · exact Or.inr h
theorem bg_isR {i j : Int} (hj : 0 ≤ j ∧ j < wi) (hb : bg f i j) : isR f wi i j (re f wi i j) := by
  obtain ⟨h1, h2, h3, h4⟩ := re_ok (f := f) (wi := wi) (i := i) hj
  exact ⟨⟨hj.1, h1, h2⟩, h3, hb, h4⟩
theorem isR_bg {i a b : Int} (h : isR f wi i a b) : bg f i a ∧ b = re f wi i a := by
  have hb : bg f i a := h.2.2.1
  have hj : 0 ≤ a ∧ a < wi := by have := h.1; omega
  have r := bg_isR (wi := wi) hj hb
  exact ⟨hb, (isR_unique h r (c := a) ⟨Int.le_refl _, h.1.2.1⟩ ⟨Int.le_refl _, r.1.2.1⟩).2⟩
theorem rs_ok {i c : Int} (hc : 0 ≤ c ∧ c < wi) : isR f wi i (rs f i c) (re f wi i (rs f i c)) ∧ rs f i c ≤ c ∧ c ≤ re f wi i (rs f i c) ∧ f i (rs f i c) = f i c := by
  obtain ⟨h1, h2, h3, h4⟩ := rsN_ok (f := f) (i := i) c.toNat c
  have e1 : f i (rs f i c) = f i c := h3 _ (Int.le_refl _) h1
  have hb : bg f i (rs f i c) := by
    rcases h4 with h | h
    · exact Or.inl (by unfold rs; omega)
    · exact Or.inr (by rw [e1]; exact h)
  have hj : 0 ≤ rs f i c ∧ rs f i c < wi := by unfold rs; omega
  have r := bg_isR (wi := wi) hj hb
  refine ⟨r, h1, ?_, e1⟩
  rcases Int.lt_or_le (re f wi i (rs f i c)) c with q | q
  · rcases r.2.2.2 with s | s
    · omega
    · exact absurd (by rw [e1, h3 (re f wi i (rs f i c) + 1) (by have := r.1.2.1; unfold rs at this q ⊢; omega) (by omega)]) s
  · exact q
theorem rs_eq {i a b c : Int} (h : isR f wi i a b) (hc : a ≤ c ∧ c ≤ b) : rs f i c = a := by
  have r := rs_ok (f := f) (wi := wi) (i := i) (c := c) (by have := h.1; omega)
  exact (isR_unique r.1 h ⟨r.2.1, r.2.2.1⟩ hc).1
/-- a rectangle of the cover starts here -/
def St (f : Int → Int → Int) (wi i j : Int) : Prop := f i j ≠ -1 ∧ bg f i j ∧ ¬ (0 < i ∧ irn f wi (i - 1) j (re f wi i j) (f i j))
noncomputable def tpN (f : Int → Int → Int) (wi a : Int) : Nat → Int → Int
  | 0, i => i
  | m + 1, i => @ite _ (irn f wi (i - 1) a (re f wi i a) (f i a)) (Classical.propDecidable _) (tpN f wi a m (i - 1)) i
noncomputable def dnN (f : Int → Int → Int) (wi a : Int) : Nat → Int → Int
  | 0, i => i
  | m + 1, i => @ite _ (irn f wi (i + 1) a (re f wi i a) (f i a)) (Classical.propDecidable _) (dnN f wi a m (i + 1)) i
/-- the top of a run's rectangle; its bottom -/
noncomputable def tp (f : Int → Int → Int) (wi i a : Int) : Int := tpN f wi a i.toNat i
noncomputable def dwn (f : Int → Int → Int) (wi hi i a : Int) : Int := dnN f wi a (hi - 1 - i).toNat i
theorem tp_t {i a : Int} (hi : 0 < i) (h : irn f wi (i - 1) a (re f wi i a) (f i a)) : tp f wi i a = tp f wi (i - 1) a := by
  unfold tp
  rw [show i.toNat = (i - 1).toNat + 1 by omega]
  unfold tpN
  rw [if_pos h]
  cases (i - 1).toNat <;> rfl
theorem tp_f {i a : Int} (h : ¬ (0 < i ∧ irn f wi (i - 1) a (re f wi i a) (f i a))) : tp f wi i a = i := by
  unfold tp
  cases e : i.toNat with
  | zero => rfl
  | succ n =>
    unfold tpN
    rw [if_neg (fun x => h ⟨by omega, x⟩)]
theorem dwn_t {i a : Int} (hh : i < hi - 1) (h : irn f wi (i + 1) a (re f wi i a) (f i a)) : dwn f wi hi i a = dwn f wi hi (i + 1) a := by
  unfold dwn
  rw [show (hi - 1 - i).toNat = (hi - 1 - (i + 1)).toNat + 1 by omega]
  unfold dnN
  rw [if_pos h]
  cases (hi - 1 - (i + 1)).toNat <;> rfl
theorem dwn_f {i a : Int} (hh : i < hi) (h : ¬ (i < hi - 1 ∧ irn f wi (i + 1) a (re f wi i a) (f i a))) : dwn f wi hi i a = i := by
  unfold dwn
  cases e : (hi - 1 - i).toNat with
  | zero => rfl
  | succ n =>
    unfold dnN
    rw [if_neg (fun x => h ⟨by omega, x⟩)]
theorem tp_ok {a : Int} : ∀ (m : Nat) (i b : Int), i = (m : Int) → isR f wi i a b → (0 ≤ tp f wi i a ∧ tp f wi i a ≤ i) ∧ isR f wi (tp f wi i a) a b ∧ f (tp f wi i a) a = f i a ∧ ¬ (0 < tp f wi i a ∧ irn f wi (tp f wi i a - 1) a b (f i a)) ∧ ∀ r : Int, tp f wi i a ≤ r → r ≤ i → irn f wi r a b (f i a) := by
  intro m
  induction m with
  | zero =>
    intro i b hi hR
    have hb := (isR_bg hR).2
    have e : tp f wi i a = i := tp_f (fun x => by omega)
    rw [e]
    exact ⟨by omega, hR, rfl, fun x => by omega, fun r r0 r1 => by rw [show r = i by omega]; exact hR.2⟩
  | succ m ih =>
    intro i b hi hR
    have hb := (isR_bg hR).2
    by_cases c : irn f wi (i - 1) a (re f wi i a) (f i a)
    · rw [tp_t (by omega) c]
      rw [← hb] at c
      obtain ⟨hR2, e2⟩ := irn_isR hR.1 c
      obtain ⟨h1, h2, h3, h4, h5⟩ := ih (i - 1) b (by omega) hR2
      rw [e2] at h3 h4 h5
      refine ⟨by omega, h2, h3, h4, fun r r0 r1 => ?_⟩
      by_cases e : r = i
      · rw [e]; exact hR.2
      · exact h5 r r0 (by omega)
    · have e : tp f wi i a = i := tp_f (fun x => c x.2)
      rw [e]
      exact ⟨by omega, hR, rfl, fun x => c (by rw [← hb]; exact x.2), fun r r0 r1 => by rw [show r = i by omega]; exact hR.2⟩
theorem dwn_ok {a : Int} : ∀ (m : Nat) (i b : Int), i + m = hi - 1 → isR f wi i a b → (i ≤ dwn f wi hi i a ∧ dwn f wi hi i a ≤ hi - 1) ∧ (∀ r : Int, i ≤ r → r ≤ dwn f wi hi i a → irn f wi r a b (f i a)) ∧ (dwn f wi hi i a = hi - 1 ∨ ¬ irn f wi (dwn f wi hi i a + 1) a b (f i a)) := by
  intro m
  induction m with
  | zero =>
    intro i b hi' hR
    have e : dwn f wi hi i a = i := dwn_f (by omega) (fun x => by omega)
    rw [e]
    exact ⟨by omega, fun r r0 r1 => by rw [show r = i by omega]; exact hR.2, Or.inl (by omega)⟩
  | succ m ih =>
    intro i b hi' hR
    have hb := (isR_bg hR).2
    by_cases c : irn f wi (i + 1) a (re f wi i a) (f i a)
    · rw [dwn_t (by omega) c]
      rw [← hb] at c
      obtain ⟨hR2, e2⟩ := irn_isR hR.1 c
      obtain ⟨h1, h2, h3⟩ := ih (i + 1) b (by omega) hR2
      rw [e2] at h2 h3
      refine ⟨by omega, fun r r0 r1 => ?_, h3⟩
      by_cases e : r = i
      · rw [e]; exact hR.2
      · exact h2 r (by omega) r1
    · have e : dwn f wi hi i a = i := dwn_f (by omega) (fun x => c x.2)
      rw [e]
      exact ⟨by omega, fun r r0 r1 => by rw [show r = i by omega]; exact hR.2, Or.inr (by rw [← hb] at c; exact c)⟩
theorem St_R {i a : Int} (ha : 0 ≤ a ∧ a < wi) (h : St f wi i a) : isR f wi i a (re f wi i a) := bg_isR ha h.2.1
theorem St_tp {i a : Int} (h : St f wi i a) : tp f wi i a = i := tp_f h.2.2
/-- the runs of a rectangle -/
theorem St_in {i a r : Int} (ha : 0 ≤ a ∧ a < wi) (h : St f wi i a) (hi0 : 0 ≤ i ∧ i < hi) (hr : i ≤ r ∧ r ≤ dwn f wi hi i a) : isR f wi r a (re f wi i a) ∧ f r a = f i a ∧ re f wi r a = re f wi i a ∧ tp f wi r a = i := by
  have hR := St_R ha h
  obtain ⟨h1, h2, h3⟩ := dwn_ok (hi := hi) (hi - 1 - i).toNat i _ (by omega) hR
  have g : ∀ r : Int, i ≤ r → r ≤ dwn f wi hi i a → isR f wi r a (re f wi i a) ∧ f r a = f i a ∧ re f wi r a = re f wi i a := fun r r0 r1 => by
    obtain ⟨x, y⟩ := irn_isR hR.1 (h2 r r0 r1)
    exact ⟨x, y, (isR_bg x).2.symm⟩
  obtain ⟨g1, g2, g3⟩ := g r hr.1 hr.2
  refine ⟨g1, g2, g3, ?_⟩
  have key : ∀ (m : Nat), i + m ≤ dwn f wi hi i a → tp f wi (i + m) a = i := by
    intro m
    induction m with
    | zero => intro _; rw [show i + ((0 : Nat) : Int) = i by omega]; exact St_tp h
    | succ m ih =>
      intro hm
      obtain ⟨x1, x2, x3⟩ := g (i + ((m + 1 : Nat) : Int)) (by omega) hm
      have y := h2 (i + (m : Int)) (by omega) (by omega)
      rw [tp_t (by omega) (by rw [x3, x2, show i + ((m + 1 : Nat) : Int) - 1 = i + (m : Int) by omega]; exact y), show i + ((m + 1 : Nat) : Int) - 1 = i + (m : Int) by omega]
      exact ih (by omega)
  have := key (r - i).toNat (by omega)
  rw [show i + (((r - i).toNat : Nat) : Int) = r by omega] at this
  exact this
/-- a run lies in the rectangle of its top -/
theorem tp_St {i a b : Int} (hi0 : 0 ≤ i ∧ i < hi) (hR : isR f wi i a b) (hv : f i a ≠ -1) : St f wi (tp f wi i a) a ∧ (0 ≤ tp f wi i a ∧ tp f wi i a ≤ i) ∧ i ≤ dwn f wi hi (tp f wi i a) a ∧ f (tp f wi i a) a = f i a ∧ re f wi (tp f wi i a) a = b := by
  obtain ⟨h1, h2, h3, h4, h5⟩ := tp_ok (f := f) (wi := wi) (a := a) i.toNat i b (by omega) hR
  have hb := isR_bg h2
  have hS : St f wi (tp f wi i a) a := ⟨by rw [h3]; exact hv, hb.1, by rw [← hb.2, h3]; exact h4⟩
  refine ⟨hS, h1, ?_, h3, hb.2.symm⟩
  obtain ⟨d1, d2, d3⟩ := dwn_ok (hi := hi) (hi - 1 - tp f wi i a).toNat (tp f wi i a) b (by omega) h2
  rcases Int.lt_or_le (dwn f wi hi (tp f wi i a) a) i with q | q
  · rcases d3 with s | s
    · omega
    · exact absurd (by rw [h3]; exact h5 _ (by omega) (by omega)) s
  · exact q
/-- how many start ahead of a place, 16 places a row -/
noncomputable def stG (f : Int → Int → Int) (wi q : Int) : Int := bI (q % 16 < wi ∧ St f wi (q / 16) (q % 16))
theorem stG_in (f : Int → Int → Int) (wi : Int) : ∀ q, 0 ≤ stG f wi q ∧ stG f wi q ≤ 1 := fun q => bI_le _
noncomputable def cnQ (f : Int → Int → Int) (wi : Int) (n : Nat) : Int := pr1 (stG f wi) n
theorem cnQ_s (n : Nat) : cnQ f wi (n + 1) = cnQ f wi n + stG f wi (n : Int) := rfl
theorem cnQ_in (n : Nat) : 0 ≤ cnQ f wi n ∧ cnQ f wi n ≤ n := pr1_in (stG_in f wi) n
theorem cnQ_le {n : Nat} : ∀ k : Nat, cnQ f wi n ≤ cnQ f wi (n + k) := by
  intro k
  induction k with
  | zero => exact Int.le_refl _
  | succ k ih =>
    have := cnQ_s (f := f) (wi := wi) (n + k)
    have := stG_in f wi ((n + k : Nat) : Int)
    rw [show n + (k + 1) = n + k + 1 by omega]
    omega
theorem cnQ_lt {n m : Nat} (h : n < m) (hs : stG f wi (n : Int) = 1) : cnQ f wi n < cnQ f wi m := by
  have h1 := cnQ_s (f := f) (wi := wi) n
  have h2 := cnQ_le (f := f) (wi := wi) (n := n + 1) (m - (n + 1))
  rw [show n + 1 + (m - (n + 1)) = m by omega] at h2
  omega
theorem cnQ_inj {n m : Nat} (hn : stG f wi (n : Int) = 1) (hm : stG f wi (m : Int) = 1) (e : cnQ f wi n = cnQ f wi m) : n = m := by
  rcases Nat.lt_trichotomy n m with h | h | h
  · have := cnQ_lt h hn; omega
  · exact h
  · have := cnQ_lt h hm; omega
/-- none start on the way -/
theorem cnQ_skip {n : Nat} : ∀ k : Nat, (∀ j : Nat, j < k → stG f wi ((n + j : Nat) : Int) = 0) → cnQ f wi (n + k) = cnQ f wi n := by
  intro k
  induction k with
  | zero => intro _; rfl
  | succ k ih =>
    intro h
    have h1 := cnQ_s (f := f) (wi := wi) (n + k)
    have h2 := h k (by omega)
    rw [show n + (k + 1) = n + k + 1 by omega, h1, h2, ih (fun j hj => h j (by omega))]
    omega
theorem cnQ_ex {k : Int} (hk : 0 ≤ k) : ∀ m : Nat, k < cnQ f wi m → ∃ n : Nat, n < m ∧ stG f wi (n : Int) = 1 ∧ cnQ f wi n = k := by
  intro m
  induction m with
  | zero => intro h; have : cnQ f wi 0 = 0 := rfl; omega
  | succ m ih =>
    intro h
    have h1 := cnQ_s (f := f) (wi := wi) m
    have h2 := stG_in f wi (m : Int)
    by_cases c : k < cnQ f wi m
    · obtain ⟨n, a, b⟩ := ih c
      exact ⟨n, by omega, b⟩
    · exact ⟨m, by omega, by omega, by omega⟩
theorem stG_1 {q : Int} : stG f wi q = 1 ↔ q % 16 < wi ∧ St f wi (q / 16) (q % 16) := by
  unfold stG
  by_cases c : q % 16 < wi ∧ St f wi (q / 16) (q % 16)
  · rw [bI_t c]; exact ⟨fun _ => c, fun _ => rfl⟩
  · rw [bI_f c]; exact ⟨fun x => absurd x (by decide), fun x => absurd x c⟩
theorem stG_at {i j : Int} (hj : 0 ≤ j ∧ j < 16) : stG f wi (16 * i + j) = bI (j < wi ∧ St f wi i j) := by
  have e1 : (16 * i + j) / 16 = i := by omega
  have e2 : (16 * i + j) % 16 = j := by omega
  unfold stG
  rw [e1, e2]
/-- the place where the k-th starts -/
noncomputable def kSt (f : Int → Int → Int) (wi k : Int) : Nat := @dite _ (∃ n : Nat, stG f wi (n : Int) = 1 ∧ cnQ f wi n = k) (Classical.propDecidable _) (fun h => Classical.choose h) (fun _ => 0)
theorem kSt_eq {n : Nat} {k : Int} (hn : stG f wi (n : Int) = 1) (e : cnQ f wi n = k) : kSt f wi k = n := by
  have h : ∃ n : Nat, stG f wi (n : Int) = 1 ∧ cnQ f wi n = k := ⟨n, hn, e⟩
  unfold kSt
  rw [dif_pos h]
  have c := Classical.choose_spec h
  exact cnQ_inj c.1 hn (by rw [c.2, e])
/-- which rectangle a cell lies in; -1: none -/
noncomputable def own (f : Int → Int → Int) (wi r c : Int) : Int := if f r c = -1 then -1 else cnQ f wi (16 * tp f wi r (rs f r c) + rs f r c).toNat
/-- of the rectangle that starts at n: top, left, bottom, right, number -/
noncomputable def cvD (f : Int → Int → Int) (wi hi : Int) (n : Nat) (q : Int) : Int := if q = 0 then (n : Int) / 16 else if q = 1 then (n : Int) % 16 else if q = 2 then dwn f wi hi ((n : Int) / 16) ((n : Int) % 16) else if q = 3 then re f wi ((n : Int) / 16) ((n : Int) % 16) else f ((n : Int) / 16) ((n : Int) % 16)
/-- how many -/
noncomputable def cvN (f : Int → Int → Int) (wi hi : Int) : Int := cnQ f wi (16 * hi).toNat
end CV
