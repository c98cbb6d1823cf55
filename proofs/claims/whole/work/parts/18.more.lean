section MM
variable {D : va_G} {tys : List (ClassId × FieldType)} {B : Nat} {old : Int → Nat} {L0 : Nat} {scr : Nat → Int32}
variable {p : Program} {l : Launch} {e : Env} {R : Room} {s : State} {m : MethodId} {args : Array Value} {below : List Frame} {meth : Method} {c : Code} {nL : Nat} {ρ0 : List Nat} {w0 : mm_W} {Q : State → Prop}
variable {own : String} {cc : ByteArray} {mn : String} {rt : Option FieldType} {pc : Nat} {L st : List mm_V} {w : mm_W} {h : mm_H} {nx : Nat} {tx : String}

theorem st_objinit (F : mm_Fr D tys B old L0 scr p s m args meth c nL own cc mn rt) {i : Nat} {a : Int} (hw1 : Jvm.Cond.methodLink own i Lib.objectInit ∈ lw_g) (hw2 : Jvm.Cond.instanceMethod Lib.objectInit ∈ lw_g) (hw3 : Jvm.Cond.code Lib.objectInit ⟨#[0xb1]⟩ 1 none ∈ lw_g) (hR : 1 ≤ R.frames ∧ 24 + 13 ≤ R.locals) (hc : mm_cats st ≤ 24) (ha : 0 < a) (hd : decode cc pc = .ok (.invokespecial i, 3)) (k : mm_Wc D tys B old L0 scr p l e R s m args below meth c nL ρ0 w0 Q (pc + 3) L st w h) : mm_Wc D tys B old L0 scr p l e R s m args below meth c nL ρ0 w0 Q pc L ((2, a) :: st) w h := by
  intro ρ H locs ls sv hρ hH hS hL hst
  obtain ⟨v, sv, rfl, ⟨hx, rfl⟩, hs2⟩ := mm_SR_cons hst
  have hx : a ≤ ρ.length := hx
  rw [show mm_adr old ρ ((2, a) : mm_V).2 = _ from mm_adr_at ha hx]
  have hcs := mm_cats_at hs2
  exact W.objInit F.1 F.2.1 F.2.2.2.1 (F.2.2.2.2.1 _ hw1) (F.2.2.2.2.1 _ hw2) (F.2.2.2.2.1 _ hw3) rfl (hL.1.trans F.2.2.1.symm) rfl hd hR.1 (by show 2 * 0 + _ + 12 ≤ _; omega) (k ρ H locs ls sv hρ hH hS hL hs2)
theorem st_max (F : mm_Fr D tys B old L0 scr p s m args meth c nL own cc mn rt) {i : Nat} {x y : Int} (hw1 : Jvm.Cond.methodLink own i Lib.Math.max.name ∈ lw_g) (hw2 : Jvm.Cond.static Lib.Math.max.name ∈ lw_g) (hw3 : Jvm.Cond.initialized "java/lang/Math" ∈ lw_g) (hw4 : Jvm.Cond.code Lib.Math.max.name Lib.Math.max.code 2 (some .int) ∈ lw_g) (hR : 1 ≤ R.frames ∧ 24 + 13 ≤ R.locals) (hc : mm_cats st ≤ 24) (hf : ∀ ρ, mm_Px ρ0 w0 ρ w → (w.2.1 - w0.2.1).toNat ≤ R.cells ∧ (w.2.2 - w0.2.2).toNat ≤ R.slots) (hd : decode cc pc = .ok (.invokestatic i, 3)) (k : mm_Wc D tys B old L0 scr p l e R s m args below meth c nL ρ0 w0 Q (pc + 3) L ((0, mMax x y) :: st) w h) : mm_Wc D tys B old L0 scr p l e R s m args below meth c nL ρ0 w0 Q pc L ((0, y) :: (0, x) :: st) w h := by
  intro ρ H locs ls sv hρ hH hS hL hst
  obtain ⟨v, sv, rfl, ⟨hy, rfl⟩, hs1⟩ := mm_SR_cons hst
  obtain ⟨v, sv, rfl, ⟨hx, rfl⟩, hs2⟩ := mm_SR_cons hs1
  have hx : mm_i32 x := hx
  have hy : mm_i32 y := hy
  have hcs := mm_cats_at hs2
  have hv : (if Int32.ofInt x < Int32.ofInt y then Int32.ofInt y else Int32.ofInt x) = Int32.ofInt (mMax x y) ∧ mm_i32 (mMax x y) := by
    unfold mMax
    by_cases q : x < y
    · rw [if_pos ((i32_lt hx hy).mpr q), if_pos (by omega)]; exact ⟨rfl, hy⟩
    · rw [if_neg (fun z => q ((i32_lt hx hy).mp z))]
      by_cases q2 : x ≤ y
      · have : x = y := by omega
        subst this
        rw [if_pos (by omega)]; exact ⟨rfl, hx⟩
      · rw [if_neg q2]; exact ⟨rfl, hx⟩
  obtain ⟨f1, f2⟩ := hf ρ hρ
  refine va_mmax F.1 F.2.1 (F.2.2.1.trans hL.1.symm) F.2.2.2.1 (F.2.2.2.2.1 _ hw1) (F.2.2.2.2.1 _ hw2) (F.2.2.2.2.1 _ hw3) (F.2.2.2.2.1 _ hw4) hR.1 (by omega) f1 f2 hd ?_
  rw [hv.1]
  exact k ρ H locs ls (.int (Int32.ofInt (mMax x y)) :: sv) hρ hH hS hL ⟨⟨hv.2, rfl⟩, hs2⟩
theorem st_min (F : mm_Fr D tys B old L0 scr p s m args meth c nL own cc mn rt) {i : Nat} {x y : Int} (hw1 : Jvm.Cond.methodLink own i Lib.Math.min.name ∈ lw_g) (hw2 : Jvm.Cond.static Lib.Math.min.name ∈ lw_g) (hw3 : Jvm.Cond.initialized "java/lang/Math" ∈ lw_g) (hw4 : Jvm.Cond.code Lib.Math.min.name Lib.Math.min.code 2 (some .int) ∈ lw_g) (hR : 1 ≤ R.frames ∧ 24 + 13 ≤ R.locals) (hc : mm_cats st ≤ 24) (hf : ∀ ρ, mm_Px ρ0 w0 ρ w → (w.2.1 - w0.2.1).toNat ≤ R.cells ∧ (w.2.2 - w0.2.2).toNat ≤ R.slots) (hd : decode cc pc = .ok (.invokestatic i, 3)) (k : mm_Wc D tys B old L0 scr p l e R s m args below meth c nL ρ0 w0 Q (pc + 3) L ((0, mMin x y) :: st) w h) : mm_Wc D tys B old L0 scr p l e R s m args below meth c nL ρ0 w0 Q pc L ((0, y) :: (0, x) :: st) w h := by
  intro ρ H locs ls sv hρ hH hS hL hst
  obtain ⟨v, sv, rfl, ⟨hy, rfl⟩, hs1⟩ := mm_SR_cons hst
  obtain ⟨v, sv, rfl, ⟨hx, rfl⟩, hs2⟩ := mm_SR_cons hs1
  have hx : mm_i32 x := hx
  have hy : mm_i32 y := hy
  have hcs := mm_cats_at hs2
  have hv : mm_i32 (mMin x y) := by
    unfold mMin
    split
    · exact hx
    · exact hy
  obtain ⟨f1, f2⟩ := hf ρ hρ
  have kk := k ρ H locs ls (.int (Int32.ofInt (mMin x y)) :: sv) hρ hH hS hL ⟨⟨hv, rfl⟩, hs2⟩
  refine va_mmin F.1 F.2.1 (F.2.2.1.trans hL.1.symm) F.2.2.2.1 (F.2.2.2.2.1 _ hw1) (F.2.2.2.2.1 _ hw2) (F.2.2.2.2.1 _ hw3) (F.2.2.2.2.1 _ hw4) hR.1 (by omega) f1 f2 hd ?_
  refine W.eq (g2 := F0 m (pc + 3) ls (.int (Int32.ofInt (mMin x y)) :: sv)) ?_ kk
  congr 3
  show _ = Int32.ofInt (mMin x y)
  unfold mMin
  by_cases q : x ≤ y
  · rw [if_pos q]
    first
      | rw [if_pos ((i32_le hx hy).mpr q)]
      | (by_cases q2 : x < y
         · first | rw [if_pos ((i32_lt hx hy).mpr q2)] | rw [if_neg (fun z => by have := (i32_lt hy hx).mp z; omega)]
         · have e : x = y := by omega
           subst e; split <;> rfl)
  · rw [if_neg q]
    first
      | rw [if_neg (fun z => q ((i32_le hx hy).mp z))]
      | rw [if_neg (fun z => by have := (i32_lt hx hy).mp z; omega)]
      | rw [if_pos ((i32_lt hy hx).mpr (by omega))]
end MM
