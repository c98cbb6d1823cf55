/-! PURE: ranks: what sorting rests on. -/
theorem sumN_mono {f g : Int → Int} : ∀ (m : Nat) (i : Int), (∀ j : Int, i ≤ j → j < i + m → f j ≤ g j) → sumN f m i ≤ sumN g m i := by
  intro m
  induction m with
  | zero => intro i h; exact Int.le_refl _
  | succ m ih =>
    intro i h
    have h0 := h i (Int.le_refl _) (by omega)
    have h1 := ih (i + 1) (fun j j0 j1 => h j (by omega) (by omega))
    unfold sumN
    omega
theorem sumN_lt {f g : Int → Int} : ∀ (m : Nat) (i k : Int), (∀ j : Int, i ≤ j → j < i + m → f j ≤ g j) → i ≤ k → k < i + m → f k < g k → sumN f m i < sumN g m i := by
  intro m
  induction m with
  | zero => intro i k h h0 h1; omega
  | succ m ih =>
    intro i k h h0 h1 h2
    have h3 := h i (Int.le_refl _) (by omega)
    unfold sumN
    by_cases hk : k = i
    · subst hk
      have h4 := sumN_mono m (k + 1) (fun j j0 j1 => h j (by omega) (by omega))
      omega
    · have h4 := ih (i + 1) k (fun j j0 j1 => h j (by omega) (by omega)) (by omega) (by omega) h2
      omega
theorem sumN_add {f g : Int → Int} : ∀ (m : Nat) (i : Int), sumN (fun j => f j + g j) m i = sumN f m i + sumN g m i := by
  intro m
  induction m with
  | zero => intro i; rfl
  | succ m ih =>
    intro i
    unfold sumN
    rw [ih]
    omega
theorem sumN_zero {f : Int → Int} : ∀ (m : Nat) (i : Int), (∀ j : Int, i ≤ j → j < i + m → f j = 0) → sumN f m i = 0 := by
  intro m
  induction m with
  | zero => intro i _; rfl
  | succ m ih =>
    intro i h
    unfold sumN
    rw [h i (Int.le_refl _) (by omega), ih (i + 1) (fun j j0 j1 => h j (by omega) (by omega))]
    rfl
theorem sumN_one {e : Int} : ∀ (m : Nat) (i : Int), i ≤ e → e < i + m → sumN (fun j => bI (j = e)) m i = 1 := by
  intro m
  induction m with
  | zero => intro i h0 h1; omega
  | succ m ih =>
    intro i h0 h1
    unfold sumN
    by_cases he : i = e
    · subst he
      rw [bI_t rfl, sumN_zero m (i + 1) (fun j j0 j1 => bI_f (by omega))]
      rfl
    · rw [bI_f he, ih (i + 1) (by omega) (by omega)]
      rfl
/-- ahead of: by the key, then by the place -/
def kLt (K : Int → Int) (i j : Int) : Prop := K i < K j ∨ (K i = K j ∧ i < j)
/-- the place of k among f .. f + m - 1 -/
noncomputable def rk (K : Int → Int) (f : Int) (m : Nat) (k : Int) : Int := f + sumN (fun i => bI (kLt K i k)) m f
theorem kLt_tr {K : Int → Int} {a b c : Int} (h1 : kLt K a b) (h2 : kLt K b c) : kLt K a c := by
  unfold kLt at *; omega
theorem kLt_ir {K : Int → Int} {a : Int} : ¬ kLt K a a := by
  unfold kLt; omega
theorem kLt_tot {K : Int → Int} {a b : Int} (h : a ≠ b) : kLt K a b ∨ kLt K b a := by
  unfold kLt; omega
theorem rk_in {K : Int → Int} {f : Int} {m : Nat} {k : Int} (h0 : f ≤ k) (h1 : k < f + m) : f ≤ rk K f m k ∧ rk K f m k < f + m := by
  unfold rk
  have a := sumN_le (f := fun i => bI (kLt K i k)) (a := 0) (b := 1) m f (fun i _ _ => bI_le _)
  have b := sumN_lt (f := fun i => bI (kLt K i k)) (g := fun _ => 1) m f k (fun i _ _ => (bI_le _).2) h0 h1 (by show bI (kLt K k k) < 1; rw [bI_f kLt_ir]; decide)
  have c := sumN_le (f := fun _ => (1 : Int)) (a := 1) (b := 1) m f (fun i _ _ => ⟨by decide, by decide⟩)
  omega
theorem rk_lt {K : Int → Int} {f : Int} {m : Nat} {a b : Int} (h0 : f ≤ a) (h1 : a < f + m) (h : kLt K a b) : rk K f m a < rk K f m b := by
  unfold rk
  have := sumN_lt (f := fun i => bI (kLt K i a)) (g := fun i => bI (kLt K i b)) m f a (fun i _ _ => by
    by_cases c : kLt K i a
    · show bI (kLt K i a) ≤ bI (kLt K i b)
      rw [bI_t c, bI_t (kLt_tr c h)]; exact Int.le_refl _
    · show bI (kLt K i a) ≤ bI (kLt K i b)
      rw [bI_f c]; exact (bI_le _).1) h0 h1 (by
    show bI (kLt K a a) < bI (kLt K a b)
    rw [bI_f kLt_ir, bI_t h]; decide)
  omega
theorem rk_inj {K : Int → Int} {f : Int} {m : Nat} {a b : Int} (a0 : f ≤ a) (a1 : a < f + m) (b0 : f ≤ b) (b1 : b < f + m) (h : rk K f m a = rk K f m b) : a = b := by
  by_cases c : a = b
  · exact c
  · rcases kLt_tot (K := K) c with z | z
    · have := rk_lt a0 a1 z; omega
    · have := rk_lt b0 b1 z; omega
/-- the order o is sorted on f .. f + m - 1 -/
def srt (K : Int → Int) (f : Int) (m : Nat) (o : Int → Int) : Prop := ∀ L : Int, f ≤ L → L < f + m → (f ≤ o L ∧ o L < f + m) ∧ rk K f m (o L) = L
/-- one more, n = f + m, put in at R -/
theorem srt_ins {K : Int → Int} {f : Int} {m : Nat} {o o' : Int → Int} {R : Int} (ho : srt K f m o) (hR : f ≤ R ∧ R ≤ f + m) (h1 : ∀ L : Int, R ≤ L → L < f + m → K (f + m) < K (o L)) (h2 : R = f ∨ K (o (R - 1)) ≤ K (f + m)) (h3 : ∀ L : Int, f ≤ L → L < f + (m + 1 : Nat) → o' L = if L < R then o L else if L = R then f + m else o (L - 1)) : srt K f (m + 1) o' := by
  have pos : ∀ i : Int, f ≤ i → i < f + m → o (rk K f m i) = i := fun i i0 i1 => by
    have a := rk_in (K := K) i0 i1
    have b := ho _ a.1 a.2
    exact rk_inj b.1.1 b.1.2 i0 i1 b.2
  have low : ∀ L : Int, f ≤ L → L < R → K (o L) ≤ K (f + m) := fun L l0 l1 => by
    rcases h2 with z | z
    · omega
    · by_cases c : L = R - 1
      · rw [c]; exact z
      · have a := ho L l0 (by omega)
        have b := ho (R - 1) (by omega) (by omega)
        rcases kLt_tot (K := K) (a := o L) (b := o (R - 1)) (fun e => by rw [e] at a; omega) with y | y
        · unfold kLt at y; omega
        · have := rk_lt b.1.1 b.1.2 y; omega
  have key : ∀ i : Int, f ≤ i → i < f + m → (kLt K i (f + m) ↔ rk K f m i < R) := fun i i0 i1 => by
    have a := rk_in (K := K) i0 i1
    have b := pos i i0 i1
    constructor
    · intro hl
      rcases Int.lt_or_le (rk K f m i) R with z | z
      · exact z
      · have := h1 _ z a.2
        rw [b] at this
        unfold kLt at hl; omega
    · intro hl
      have := low _ a.1 hl
      rw [b] at this
      unfold kLt; omega
  have last : ∀ k : Int, rk K f (m + 1) k = rk K f m k + bI (kLt K (f + m) k) := fun k => by
    unfold rk
    rw [sumN_last]
    omega
  have rn : rk K f m (f + m) = R := by
    unfold rk
    by_cases c : R = f
    · rw [sumN_zero m f (fun i i0 i1 => bI_f (fun z => by
        have := (key i i0 i1).mp z
        have := rk_in (K := K) i0 i1
        omega))]
      omega
    · have e := ho (R - 1) (by omega) (by omega)
      have s1 : sumN (fun i => bI (kLt K i (f + m))) m f = sumN (fun i => bI (kLt K i (o (R - 1))) + bI (i = o (R - 1))) m f := sumN_congr m f (fun i i0 i1 => by
        have a := key i i0 i1
        by_cases c1 : i = o (R - 1)
        · have : rk K f m i = R - 1 := by rw [c1]; exact e.2
          rw [bI_t (a.mpr (by omega)), bI_t c1, c1, bI_f kLt_ir]; rfl
        · rw [bI_f c1, Int.add_zero]
          refine bI_eq (a.trans ⟨fun z => ?_, fun z => ?_⟩)
          · rcases kLt_tot (K := K) c1 with y | y
            · exact y
            · have := rk_lt e.1.1 e.1.2 y
              have hne : rk K f m i ≠ R - 1 := fun q => c1 (rk_inj i0 i1 e.1.1 e.1.2 (by rw [q, e.2]))
              omega
          · have := rk_lt i0 i1 z
            omega)
      rw [s1, sumN_add, sumN_one m f e.1.1 e.1.2]
      have := e.2
      unfold rk at this
      omega
  intro L l0 l1
  rw [h3 L l0 l1]
  by_cases c1 : L < R
  · rw [if_pos c1]
    have a := ho L l0 (by omega)
    have b := low L l0 c1
    refine ⟨by omega, ?_⟩
    rw [last, a.2, bI_f (fun z => by unfold kLt at z; omega)]
    omega
  · rw [if_neg c1]
    by_cases c2 : L = R
    · rw [if_pos c2]
      refine ⟨by omega, ?_⟩
      rw [last, rn, bI_f kLt_ir]
      omega
    · rw [if_neg c2]
      have a := ho (L - 1) (by omega) (by omega)
      have b := h1 (L - 1) (by omega) (by omega)
      refine ⟨by omega, ?_⟩
      rw [last, a.2, bI_t (show kLt K (f + m) (o (L - 1)) from Or.inl b)]
      omega
theorem srt_one (K : Int → Int) (f : Int) {o : Int → Int} (h : o f = f) : srt K f 1 o := by
  intro L l0 l1
  have : L = f := by omega
  subst this
  rw [h]
  refine ⟨by omega, ?_⟩
  unfold rk
  rw [sumN_zero 1 L (fun i i0 i1 => bI_f (by rw [show i = L by omega]; exact kLt_ir))]
  omega
/-- the sorted order itself -/
noncomputable def oSort (K : Int → Int) (f : Int) (m : Nat) (L : Int) : Int := @ite _ (f ≤ L ∧ L < f + m) (Classical.propDecidable _) (@Classical.epsilon Int ⟨0⟩ (fun k => (f ≤ k ∧ k < f + m) ∧ rk K f m k = L)) L
theorem oSort_eq {K : Int → Int} {f : Int} {m : Nat} {o : Int → Int} (h : srt K f m o) {L : Int} (l0 : f ≤ L) (l1 : L < f + m) : oSort K f m L = o L := by
  have a := h L l0 l1
  have b := @Classical.epsilon_spec Int (fun k => (f ≤ k ∧ k < f + m) ∧ rk K f m k = L) ⟨o L, a⟩
  unfold oSort
  rw [if_pos ⟨l0, l1⟩]
  exact rk_inj b.1.1 b.1.2 a.1.1 a.1.2 (by rw [b.2, a.2])
theorem oSort_out {K : Int → Int} {f : Int} {m : Nat} {L : Int} (h : L < f ∨ f + m ≤ L) : oSort K f m L = L := by
  unfold oSort
  rw [if_neg (by omega)]
