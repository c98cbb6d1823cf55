/-! What a frame of the machine is, when the mini machine stands at a place. -/
theorem mI_lo (z : Int) : -2147483648 ≤ mI z := by
  have := Int.le_bmod (x := z) (m := 4294967296) (by decide)
  unfold mI; omega
theorem mI_hi (z : Int) : mI z < 2147483648 := by
  have := Int.bmod_lt (x := z) (m := 4294967296) (by decide)
  unfold mI; omega
theorem mI_r (z : Int) : mm_i32 (mI z) := ⟨mI_lo z, mI_hi z⟩
theorem mI_of {z : Int} (h1 : -2147483648 ≤ z) (h2 : z < 2147483648) : mI z = z := by
  unfold mI
  rw [Int.bmod_eq_iff (by decide)]
  omega
theorem mJ_r (z : Int) : mm_i64 (mJ z) := by
  have h1 := Int.le_bmod (x := z) (m := 18446744073709551616) (by decide)
  have h2 := Int.bmod_lt (x := z) (m := 18446744073709551616) (by decide)
  unfold mJ mm_i64; omega
theorem mI_I (z : Int) : Int32.ofInt (mI z) = Int32.ofInt z := by
  rw [Int32.ofInt_eq_iff_bmod_eq_toInt, Int32.toInt_ofInt]
  exact Int.bmod_bmod
theorem mJ_J (z : Int) : Int64.ofInt (mJ z) = Int64.ofInt z := by
  rw [Int64.ofInt_eq_iff_bmod_eq_toInt, Int64.toInt_ofInt]
  exact Int.bmod_bmod
theorem i32_t (x : Int32) : mm_i32 x.toInt := ⟨by have := Int32.le_toInt x; omega, by have := Int32.toInt_lt x; omega⟩
theorem i32_o {z : Int} (h : mm_i32 z) : (Int32.ofInt z).toInt = z := Int32.toInt_ofInt_of_le h.1 h.2
theorem i64_o {z : Int} (h : mm_i64 z) : (Int64.ofInt z).toInt = z := Int64.toInt_ofInt_of_le h.1 h.2
theorem i32_lt {x y : Int} (hx : mm_i32 x) (hy : mm_i32 y) : Int32.ofInt x < Int32.ofInt y ↔ x < y := by
  rw [Int32.lt_iff_toInt_lt, i32_o hx, i32_o hy]
theorem i32_le {x y : Int} (hx : mm_i32 x) (hy : mm_i32 y) : Int32.ofInt x ≤ Int32.ofInt y ↔ x ≤ y := by
  rw [Int32.le_iff_toInt_le, i32_o hx, i32_o hy]
theorem i32_eq {x y : Int} (hx : mm_i32 x) (hy : mm_i32 y) : Int32.ofInt x = Int32.ofInt y ↔ x = y := by
  rw [← Int32.toInt_inj, i32_o hx, i32_o hy]
theorem i32_0 : Int32.ofInt 0 = 0 := rfl
theorem i32_z : mm_i32 0 := by unfold mm_i32; omega
theorem i32_cl {x : Int} (h0 : 0 ≤ x) (hx : mm_i32 x) : (Int32.ofInt x).toNatClampNeg = x.toNat := by
  show (Int32.ofInt x).toInt.toNat = _
  rw [i32_o hx]
theorem i32_in {j n : Int} (h0 : 0 ≤ j) (h1 : j < n) (hj : mm_i32 j) : vp_in (Int32.ofInt j) n.toNat := by
  intro q
  rcases q with q | q
  · have := (i32_lt hj i32_z).mp q
    omega
  · rw [i32_cl h0 hj] at q
    omega
theorem i32_div {x y : Int} (hx : mm_i32 x) (hy : mm_i32 y) : Int32.ofInt x / Int32.ofInt y = Int32.ofInt (mI (Int.tdiv x y)) := by
  rw [← Int32.toInt_inj, Int32.toInt_div, i32_o hx, i32_o hy, i32_o (mI_r _)]
  rfl
theorem i32_rem {x y : Int} (hx : mm_i32 x) (hy : mm_i32 y) : Int32.ofInt x - Int32.ofInt x / Int32.ofInt y * Int32.ofInt y = Int32.ofInt (Int.tmod x y) := by
  rw [i32_div hx hy, mI_I, ← Int32.ofInt_mul, ← Int32.ofInt_sub]
  congr 1
  rw [Int.tmod_def, Int.mul_comm]
theorem i32_tmod {x y : Int} (hx : mm_i32 x) (hy : ¬ y = 0) (hy2 : mm_i32 y) : mm_i32 (Int.tmod x y) := by
  have h := Int32.toInt_mod (Int32.ofInt x) (Int32.ofInt y)
  rw [i32_o hx, i32_o hy2] at h
  rw [← h]
  exact i32_t _
theorem i64_cmp {x y : Int} (hx : mm_i64 x) (hy : mm_i64 y) : lg_cmp (Int64.ofInt x) (Int64.ofInt y) = Int32.ofInt (mCmp x y) := by
  unfold lg_cmp mCmp
  simp only [gt_iff_lt, Int64.lt_iff_toInt_lt, ← Int64.toInt_inj, i64_o hx, i64_o hy]
  by_cases h1 : x < y
  · rw [if_neg (by omega), if_neg (by omega), if_pos h1]; rfl
  · by_cases h2 : x = y
    · rw [if_neg (by omega), if_pos h2, if_neg h1, if_pos h2]; rfl
    · rw [if_pos (by omega), if_neg h1, if_neg h2]; rfl
theorem mCmp_r (x y : Int) : mm_i32 (mCmp x y) := by
  unfold mCmp mm_i32
  split
  · omega
  · split <;> omega
def mm_VR (old : Int → Nat) (ρ : List Nat) (v : mm_V) (x : Value) : Prop := match v.1 with
  | 0 => mm_i32 v.2 ∧ x = .int (Int32.ofInt v.2)
  | 1 => mm_i64 v.2 ∧ x = .long (Int64.ofInt v.2)
  | 2 => v.2 ≤ ρ.length ∧ x = va_rf (mm_adr old ρ v.2)
  | 3 => ∃ r : Option Nat, x = va_rf r
  | _ => False
def mm_SR (old : Int → Nat) (ρ : List Nat) : List mm_V → List Value → Prop
  | [], [] => True
  | v :: st, x :: sv => mm_VR old ρ v x ∧ mm_SR old ρ st sv
  | _, _ => False
def mm_LR (old : Int → Nat) (ρ : List Nat) (nL : Nat) (L : List mm_V) (ls : Array Slot) : Prop := ls.size = nL ∧ lv_wf ls ∧ ∀ (i : Nat) (v : mm_V), L[i]? = some v → v.1 ≤ 3 → ∃ x, ls[i]? = some (.val x) ∧ mm_VR old ρ v x
theorem mm_SR_cons {old : Int → Nat} {ρ : List Nat} {v : mm_V} {st : List mm_V} {sv : List Value} (h : mm_SR old ρ (v :: st) sv) : ∃ x sv', sv = x :: sv' ∧ mm_VR old ρ v x ∧ mm_SR old ρ st sv' := by
  cases sv with
  | nil => exact h.elim
  | cons x sv' => exact ⟨x, sv', rfl, h.1, h.2⟩
theorem mm_SR_nil {old : Int → Nat} {ρ : List Nat} {sv : List Value} (h : mm_SR old ρ [] sv) : sv = [] := by
  cases sv with
  | nil => rfl
  | cons _ _ => exact h.elim
theorem mm_VR_cat {old : Int → Nat} {ρ : List Nat} {v : mm_V} {x : Value} (h : mm_VR old ρ v x) : x.category = 2 ↔ v.1 = 1 := by
  unfold mm_VR at h
  split at h
  · next e => rw [h.2, e]; simp [Value.category]
  · next e => rw [h.2, e]; simp [Value.category]
  · next e => rw [h.2, e]; cases mm_adr old ρ v.2 <;> simp [va_rf, Value.category]
  · next e => obtain ⟨r, rfl⟩ := h; rw [e]; cases r <;> simp [va_rf, Value.category]
  · exact h.elim
theorem mm_VR_app {old : Int → Nat} {ρ : List Nat} (ρ2 : List Nat) {v : mm_V} {x : Value} (h : mm_VR old ρ v x) : mm_VR old (ρ ++ ρ2) v x := by
  unfold mm_VR at h ⊢
  split at h
  · next e => exact h
  · next e => exact h
  · next e => exact ⟨by rw [List.length_append]; omega, by rw [mm_adr_app h.1]; exact h.2⟩
  · next e => exact h
  · exact h.elim
theorem mm_SR_app {old : Int → Nat} {ρ : List Nat} (ρ2 : List Nat) : ∀ {st : List mm_V} {sv : List Value}, mm_SR old ρ st sv → mm_SR old (ρ ++ ρ2) st sv
  | [], [], _ => trivial
  | [], _ :: _, h => h
  | _ :: _, [], h => h
  | _ :: _, _ :: _, h => ⟨mm_VR_app ρ2 h.1, mm_SR_app ρ2 h.2⟩
theorem mm_LR_app {old : Int → Nat} {ρ : List Nat} (ρ2 : List Nat) {nL : Nat} {L : List mm_V} {ls : Array Slot} (h : mm_LR old ρ nL L ls) : mm_LR old (ρ ++ ρ2) nL L ls :=
  ⟨h.1, h.2.1, fun i v hi hv => by obtain ⟨x, h1, h2⟩ := h.2.2 i v hi hv; exact ⟨x, h1, mm_VR_app ρ2 h2⟩⟩
theorem mm_get_eq : ∀ (n : Nat) (L : List mm_V), mm_get n L = (L[n]?).getD (9, 0)
  | 0, [] => rfl
  | _ + 1, [] => rfl
  | 0, _ :: _ => rfl
  | n + 1, _ :: L => by rw [mm_get, mm_get_eq n L, List.getElem?_cons_succ]
theorem mm_get_at {n : Nat} {L : List mm_V} {v : mm_V} (h : mm_get n L = v) (hv : v.1 ≤ 3) : L[n]? = some v := by
  rw [mm_get_eq] at h
  cases hn : L[n]? with
  | some x => rw [hn] at h; exact congrArg some h
  | none => rw [hn] at h; subst h; exact absurd hv (by decide)
theorem mm_put_at : ∀ (n : Nat) (v : mm_V) (L : List mm_V) (i : Nat), (mm_put n v L)[i]? = if i = n ∧ n < L.length then some v else L[i]?
  | _, _, [], i => by simp [mm_put]
  | 0, v, x :: L, 0 => by simp [mm_put]
  | 0, v, x :: L, i + 1 => by simp [mm_put]
  | n + 1, v, x :: L, 0 => by simp [mm_put]
  | n + 1, v, x :: L, i + 1 => by
    rw [mm_put, List.getElem?_cons_succ, mm_put_at n v L i]
    simp
theorem mm_set_at : ∀ (n : Nat) (v : mm_V) (L : List mm_V) (i : Nat) (x : mm_V), (mm_set n v L)[i]? = some x → (i = n ∧ x = v) ∨ (i ≠ n ∧ (x = (9, 0) ∨ (L[i]? = some x ∧ (i + 1 = n → x.1 ≠ 1))))
  | _, _, [], i, x, h => by simp [mm_set] at h
  | 0, v, y :: L, 0, x, h => by simp [mm_set] at h; exact Or.inl ⟨rfl, h.symm⟩
  | 0, v, y :: L, i + 1, x, h => by simp [mm_set] at h; exact Or.inr ⟨by omega, Or.inr ⟨by simpa using h, by omega⟩⟩
  | 1, v, [y], i, x, h => by
    cases i with
    | zero =>
      simp [mm_set] at h
      refine Or.inr ⟨by decide, ?_⟩
      unfold mm_nl at h
      split at h
      · exact Or.inl h.symm
      · next q => subst h; exact Or.inr ⟨rfl, fun _ e => q y.2 (by rw [← e])⟩
    | succ i => simp [mm_set] at h
  | 1, v, y :: z :: L, 0, x, h => by
    simp [mm_set] at h
    refine Or.inr ⟨by decide, ?_⟩
    unfold mm_nl at h
    split at h
    · exact Or.inl h.symm
    · next q => subst h; exact Or.inr ⟨rfl, fun _ e => q y.2 (by rw [← e])⟩
  | 1, v, y :: z :: L, 1, x, h => by simp [mm_set] at h; exact Or.inl ⟨rfl, h.symm⟩
  | 1, v, y :: z :: L, i + 2, x, h => by simp [mm_set] at h; exact Or.inr ⟨by omega, Or.inr ⟨by simpa using h, by omega⟩⟩
  | n + 2, v, y :: L, 0, x, h => by simp [mm_set] at h; exact Or.inr ⟨by omega, Or.inr ⟨by simpa using h, by omega⟩⟩
  | n + 2, v, y :: L, i + 1, x, h => by
    rw [mm_set, List.getElem?_cons_succ] at h
    rcases mm_set_at (n + 1) v L i x h with ⟨h1, h2⟩ | ⟨h1, h2 | ⟨h2, h3⟩⟩
    · exact Or.inl ⟨by omega, h2⟩
    · exact Or.inr ⟨by omega, Or.inl h2⟩
    · exact Or.inr ⟨by omega, Or.inr ⟨by simpa using h2, fun e => h3 (by omega)⟩⟩
def mm_lv (ls : Array Slot) : List (Nat × Value) := (List.range ls.size).filterMap (fun i => match (ls[i]? : Option Slot) with
  | some (Slot.val x) => some (i, x)
  | _ => none)
theorem mm_lv_mem {ls : Array Slot} {i : Nat} {x : Value} (h : ls[i]? = some (.val x)) : (i, x) ∈ mm_lv ls := by
  unfold mm_lv
  rw [List.mem_filterMap]
  exact ⟨i, List.mem_range.mpr (Array.getElem?_eq_some_iff.mp h).1, by rw [h]⟩
theorem mm_lv_has {ls : Array Slot} {nL : Nat} (h1 : ls.size = nL) (h2 : lv_wf ls) : lv_has ls nL (mm_lv ls) := by
  refine ⟨h1, h2, fun q hq => ?_⟩
  unfold mm_lv at hq
  obtain ⟨i, -, hi⟩ := List.mem_filterMap.mp hq
  split at hi
  · next x hx => cases hi; exact hx
  · cases hi
/-- a store of a value of one slot -/
theorem mm_LR_set {old : Int → Nat} {ρ : List Nat} {nL n : Nat} {L : List mm_V} {ls ls' : Array Slot} {v : mm_V} {x : Value} (h : mm_LR old ρ nL L ls) (hv : mm_VR old ρ v x) (h' : lv_has ls' nL ((n, x) :: (mm_lv ls).filter (fun q => !(q.1 == n) && !(q.1 + 1 == n && q.2.category == 2)))) : mm_LR old ρ nL (mm_set n v L) ls' := by
  refine ⟨h'.1, h'.2.1, fun i y hi hy => ?_⟩
  rcases mm_set_at n v L i y hi with ⟨rfl, rfl⟩ | ⟨hne, rfl | ⟨hi, hc⟩⟩
  · exact ⟨x, h'.2.2 (_, _) List.mem_cons_self, hv⟩
  · exact absurd hy (by decide)
  · obtain ⟨z, h1, h2⟩ := h.2.2 i y hi hy
    refine ⟨z, h'.2.2 (i, z) (List.mem_cons_of_mem _ (List.mem_filter.mpr ⟨mm_lv_mem h1, ?_⟩)), h2⟩
    have e := mm_VR_cat h2
    by_cases hn : i + 1 = n
    · have hz : ¬ z.category = 2 := fun q => hc hn (e.mp q)
      simp [hne, hz]
    · simp [hne, hn]
