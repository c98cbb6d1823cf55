def mm_nf (k : Nat) : Nat := (mm_nth [] (k - 1) mm_ftl).length
def mm_ft (k i : Nat) : Nat := mm_nth 9 i (mm_nth [] (k - 1) mm_ftl)
def mm_i32 (z : Int) : Prop := -2147483648 ≤ z ∧ z < 2147483648
def mm_i64 (z : Int) : Prop := -9223372036854775808 ≤ z ∧ z < 9223372036854775808
/-- the array classes by kind: 50 int, 51 short, 52 boolean, 53 long, 107 rules, 109 sheets, 150 rows of ints -/
def mm_ki (k : Nat) : Nat := match k with
  | 50 => 0
  | 51 => 1
  | 52 => 2
  | 53 => 3
  | 107 => 4
  | 109 => 5
  | _ => 6
def mm_tyk (k : Nat) : FieldType := match k with
  | 50 => .int
  | 51 => .short
  | 52 => .boolean
  | 53 => .long
  | 107 => .object "FewRectangles$Rule"
  | 109 => .object "FewRectangles$Sheet"
  | _ => .array .int
/-- where a reference lies: ahead of the world's start, null, or the world's cell -/
def mm_adr (old : Int → Nat) (ρ : List Nat) (z : Int) : Option Nat := if z < 0 then some (old z) else if z = 0 then none else ρ[z.toNat - 1]?
def mm_val (old : Int → Nat) (ρ : List Nat) (t : Nat) (z : Int) : Value := match t with
  | 0 => .int (Int32.ofInt z)
  | 1 => .long (Int64.ofInt z)
  | _ => va_rf (mm_adr old ρ z)
def mm_cA (tys : List (ClassId × FieldType)) (k : Nat) : ClassId := (tys.getD (mm_ki k) (0, .int)).1
def mm_ent (old : Int → Nat) (tys : List (ClassId × FieldType)) (ρ : List Nat) (w : mm_W) (h : mm_H) (a : Int) : va_E :=
  if (w.1 a).1 < 50 then .inr ((w.1 a).1 - 1, (List.range (mm_nf (w.1 a).1)).map (fun i => mm_val old ρ (mm_ft (w.1 a).1 i) (h a i)))
  else if (w.1 a).1 < 53 then .inl (mm_cA tys (w.1 a).1, (w.1 a).2.toNat, .inl (fun j => Int32.ofInt (h a j)))
  else if (w.1 a).1 = 53 then .inl (mm_cA tys (w.1 a).1, (w.1 a).2.toNat, .inr (.inl (fun j => Int64.ofInt (h a j))))
  else .inl (mm_cA tys (w.1 a).1, (w.1 a).2.toNat, .inr (.inr (.inr (.inr (fun j => mm_adr old ρ (h a j))))))
def mm_ws (old : Int → Nat) (tys : List (ClassId × FieldType)) (ρ : List Nat) (w : mm_W) (h : mm_H) : va_W := (List.range ρ.length).map (fun i => (ρ.getD i 0, mm_ent old tys ρ w h ((i : Int) + 1)))
theorem mm_ws_len {old : Int → Nat} {tys : List (ClassId × FieldType)} {ρ : List Nat} {w : mm_W} {h : mm_H} : (mm_ws old tys ρ w h).length = ρ.length := by simp [mm_ws]
theorem mm_ws_get {old : Int → Nat} {tys : List (ClassId × FieldType)} {ρ : List Nat} {w : mm_W} {h : mm_H} {i : Nat} (hi : i < ρ.length) : (mm_ws old tys ρ w h)[i]? = some (ρ.getD i 0, mm_ent old tys ρ w h ((i : Int) + 1)) := by
  simp [mm_ws, hi]
theorem mm_ws_set {old : Int → Nat} {tys : List (ClassId × FieldType)} {ρ : List Nat} {w : mm_W} {h h2 : mm_H} {i : Nat} (hh : ∀ b j, b ≠ (i : Int) + 1 → h2 b j = h b j) : (mm_ws old tys ρ w h).set i (ρ.getD i 0, mm_ent old tys ρ w h2 ((i : Int) + 1)) = mm_ws old tys ρ w h2 := by
  apply List.ext_getElem?
  intro k
  by_cases hk : k < ρ.length
  · rw [mm_ws_get hk]
    by_cases e : k = i
    · subst e
      rw [List.getElem?_set_self (by rw [mm_ws_len]; exact hk)]
    · rw [List.getElem?_set_ne (Ne.symm e), mm_ws_get hk]
      have hne : (k : Int) + 1 ≠ (i : Int) + 1 := by omega
      have e2 : h2 ((k : Int) + 1) = h ((k : Int) + 1) := funext fun j => hh _ j hne
      unfold mm_ent
      rw [e2]
  · rw [List.getElem?_eq_none (by rw [List.length_set, mm_ws_len]; omega), List.getElem?_eq_none (by rw [mm_ws_len]; omega)]
/-- a reference's bounds in a cell -/
def mm_good (n : Nat) (w : mm_W) (h : mm_H) (a : Int) : Prop :=
  (1 ≤ (w.1 a).1 ∧ (w.1 a).1 ≤ 13 ∧ ∀ i : Nat, i < mm_nf (w.1 a).1 → match mm_ft (w.1 a).1 i with
    | 0 => mm_i32 (h a i)
    | 1 => mm_i64 (h a i)
    | _ => 0 ≤ h a i ∧ h a i ≤ n) ∨
  (((w.1 a).1 = 50 ∨ (w.1 a).1 = 51 ∨ (w.1 a).1 = 52) ∧ 0 ≤ (w.1 a).2 ∧ (w.1 a).2 ≤ 1000000 ∧ ∀ j : Int, mm_i32 (h a j)) ∨
  ((w.1 a).1 = 53 ∧ 0 ≤ (w.1 a).2 ∧ (w.1 a).2 ≤ 1000000 ∧ ∀ j : Int, mm_i64 (h a j)) ∨
  (((w.1 a).1 = 107 ∨ (w.1 a).1 = 109 ∨ (w.1 a).1 = 150) ∧ 0 ≤ (w.1 a).2 ∧ (w.1 a).2 ≤ 1000000 ∧ ∀ j : Int, 0 ≤ h a j ∧ h a j ≤ n)
theorem mm_good_up {n n2 : Nat} (hn : n ≤ n2) {w w2 : mm_W} {h h2 : mm_H} {a : Int} (hw : w2.1 a = w.1 a) (hh : ∀ j, h2 a j = h a j) (hg : mm_good n w h a) : mm_good n2 w2 h2 a := by
  have e2 : h2 a = h a := funext hh
  unfold mm_good at hg ⊢
  rw [hw, e2]
  rcases hg with ⟨h1, h2, h3⟩ | h1 | h1 | ⟨h1, h2, h3, h4⟩
  · refine Or.inl ⟨h1, h2, fun i hi => ?_⟩
    have h4 := h3 i hi
    split at h4 <;> simp_all <;> omega
  · exact Or.inr (Or.inl h1)
  · exact Or.inr (Or.inr (Or.inl h1))
  · exact Or.inr (Or.inr (Or.inr ⟨h1, h2, h3, fun j => ⟨(h4 j).1, by have := (h4 j).2; omega⟩⟩))
theorem mm_adr_app {old : Int → Nat} {ρ ρ2 : List Nat} {z : Int} (h : z ≤ ρ.length) : mm_adr old (ρ ++ ρ2) z = mm_adr old ρ z := by
  unfold mm_adr
  split
  · rfl
  · split
    · rfl
    · rw [List.getElem?_append_left (by omega)]
theorem mm_ent_app {old : Int → Nat} {tys : List (ClassId × FieldType)} {ρ ρ2 : List Nat} {w w2 : mm_W} {h h2 : mm_H} {a : Int} (hg : mm_good ρ.length w h a) (hw : w2.1 a = w.1 a) (hh : ∀ j, h2 a j = h a j) : mm_ent old tys (ρ ++ ρ2) w2 h2 a = mm_ent old tys ρ w h a := by
  have e2 : h2 a = h a := funext hh
  unfold mm_ent
  rw [hw, e2]
  rcases hg with ⟨h1, h2, h3⟩ | ⟨h1, -⟩ | ⟨h1, -⟩ | ⟨h1, h2, h3, h4⟩
  · rw [if_pos (by omega), if_pos (by omega)]
    congr 2
    apply List.map_congr_left
    intro i hi
    have h4 := h3 i (List.mem_range.mp hi)
    unfold mm_val
    split at h4
    · rfl
    · rfl
    · rw [mm_adr_app h4.2]
  · rcases h1 with h1 | h1 | h1 <;> rw [h1] <;> rfl
  · rw [h1]; rfl
  · have : (fun j : Nat => mm_adr old (ρ ++ ρ2) (h a j)) = fun j : Nat => mm_adr old ρ (h a j) := funext fun j => mm_adr_app (h4 j).2
    have k1 : ¬ (w.1 a).1 < 50 := by omega
    have k2 : ¬ (w.1 a).1 < 53 := by omega
    have k3 : ¬ (w.1 a).1 = 53 := by omega
    rw [if_neg k1, if_neg k2, if_neg k3, if_neg k1, if_neg k2, if_neg k3, this]
theorem mm_ws_push {old : Int → Nat} {tys : List (ClassId × FieldType)} {ρ : List Nat} {w : mm_W} {h : mm_H} (q k : Nat) (n : Int) (hx : w.2.1 = (ρ.length : Int) + 1) (hg : ∀ a : Int, 1 ≤ a → a ≤ ρ.length → mm_good ρ.length w h a) : mm_ws old tys (ρ ++ [q]) (mNew w k n) (mZero h w.2.1) = mm_ws old tys ρ w h ++ [(q, mm_ent old tys (ρ ++ [q]) (mNew w k n) (mZero h w.2.1) w.2.1)] := by
  unfold mm_ws
  rw [List.length_append, List.length_singleton, List.range_succ, List.map_append, List.map_singleton]
  congr 1
  · apply List.map_congr_left
    intro i hi
    have hi := List.mem_range.mp hi
    have hne : (i : Int) + 1 ≠ w.2.1 := by omega
    rw [mm_ent_app (hg _ (by omega) (by omega)) (by simp [mNew, hne]) (fun j => by simp [mZero, hne])]
    simp [List.getD, List.getElem?_append_left hi]
  · rw [hx]
    simp [List.getD]
