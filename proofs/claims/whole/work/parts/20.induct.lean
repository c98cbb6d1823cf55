/-- what is known of a pool's entry -/
def mm_PK (own : String) (i : Nat) : Instr → Prop
  | .iconst n => Jvm.Cond.constant own i (Int32.ofInt n) ∈ lw_g
  | .jsr n => Jvm.Cond.constantLong own i (Int64.ofInt n) ∈ lw_g
  | .sipush n => ∃ (q : Nat) (tx : String), q < 12 ∧ n = -(10 + 2 * (q : Int)) ∧ mm_nth ("", 0, "") q mm_str = (own, i, tx)
  | .nop => Jvm.Cond.fieldLink own i "java/lang/String" "COMPACT_STRINGS" "Z" ∈ lw_g
  | .pop2 => Jvm.Cond.fieldLink own i "jdk/internal/util/Preconditions" "SIOOBE_FORMATTER" "Ljava/util/function/BiFunction;" ∈ lw_g
  | .getfield x => (∃ ci k, Nat.div x 256 = ci + 1 ∧ Nat.mod (Nat.div x 4) 64 = k ∧ Nat.mod x 4 = mm_ft (ci + 1) k ∧ mm_fOK own i ci k) ∨ (x = 3586 ∧ Jvm.Cond.fieldLink own i "java/lang/String" "value" "[B" ∈ lw_g) ∨ (x = 3588 ∧ Jvm.Cond.fieldLink own i "java/lang/String" "coder" "B" ∈ lw_g)
  | .putfield x => ∃ ci k C T N, Nat.div x 256 = ci + 1 ∧ Nat.mod (Nat.div x 4) 64 = k ∧ Nat.mod x 4 = mm_ft (ci + 1) k ∧ mm_fOK own i ci k ∧ mm_cls[ci]? = some (C, T, N) ∧ (T k).2.2.2 = false ∧ (T k).2.2.1 ≠ "Z"
  | .ret x => ∃ ci k C T N, Nat.div x 256 = ci + 1 ∧ Nat.mod (Nat.div x 4) 64 = k ∧ Nat.mod x 4 = mm_ft (ci + 1) k ∧ mm_fOK own i ci k ∧ mm_cls[ci]? = some (C, T, N) ∧ (T k).2.2.2 = true ∧ (T k).1 = own ∧ (T k).2.2.1 ≠ "Z"
  | .putstatic x => ∃ ci k C T N, Nat.div x 256 = ci + 1 ∧ Nat.mod (Nat.div x 4) 64 = k ∧ mm_ft (ci + 1) k = 0 ∧ mm_fOK own i ci k ∧ mm_cls[ci]? = some (C, T, N) ∧ (T k).2.2.2 = false ∧ (T k).2.2.1 = "Z"
  | .new x => ∃ ci, Nat.div x 64 = ci + 1 ∧ Nat.mod x 64 = mm_nf (ci + 1) ∧ mm_nOK own i ci
  | .anewarray k => (k = 107 ∧ Jvm.Cond.classLink own i "FewRectangles$Rule" ∈ lw_g) ∨ (k = 109 ∧ Jvm.Cond.classLink own i "FewRectangles$Sheet" ∈ lw_g) ∨ (k = 150 ∧ Jvm.Cond.classLink own i (FieldType.array .int).toString ∈ lw_g)
  | .daload => Jvm.Cond.methodLink own i arraycopyName ∈ lw_g
  | .dadd => Jvm.Cond.methodLink own i Lib.Math.max.name ∈ lw_g
  | .dsub => Jvm.Cond.methodLink own i Lib.Math.min.name ∈ lw_g
  | .pop => Jvm.Cond.methodLink own i Lib.objectInit ∈ lw_g
  | .invokestatic x => mm_cOK own i 0 (mm_inf (Nat.div x 65536)).1 (Nat.mod (Nat.div x 4096) 16)
  | .invokevirtual x => mm_cOK own i 1 (mm_inf (Nat.div x 65536)).1 (Nat.mod (Nat.div x 4096) 16) ∧ ((∃ ci, ∃ q : vw_C, mm_cls[ci]? = some q ∧ q.1 = (mm_inf (Nat.div x 65536)).1.cls ∧ Nat.mod x 256 = ci + 1) ∨ ((mm_inf (Nat.div x 65536)).1.cls = "java/lang/String" ∧ Nat.mod x 256 = 14))
  | .invokespecial x => mm_cOK own i 2 (mm_inf (Nat.div x 65536)).1 (Nat.mod (Nat.div x 4096) 16) ∧ (mm_inf (Nat.div x 65536)).2.2.2 = none ∧ ((∃ ci, ∃ q : vw_C, mm_cls[ci]? = some q ∧ q.1 = (mm_inf (Nat.div x 65536)).1.cls ∧ Nat.mod x 256 = ci + 1) ∨ ((mm_inf (Nat.div x 65536)).1.cls = "java/lang/String" ∧ Nat.mod x 256 = 14))
  | _ => True
/-- words that hold wherever -/
def mm_KW : Prop := Jvm.Cond.native arraycopyName ∈ lw_g ∧ Jvm.Cond.static arraycopyName ∈ lw_g ∧ Jvm.Cond.initialized "java/lang/System" ∈ lw_g ∧ Jvm.Cond.static Lib.Math.max.name ∈ lw_g ∧ Jvm.Cond.initialized "java/lang/Math" ∈ lw_g ∧ Jvm.Cond.code Lib.Math.max.name Lib.Math.max.code 2 (some .int) ∈ lw_g ∧ Jvm.Cond.static Lib.Math.min.name ∈ lw_g ∧ Jvm.Cond.code Lib.Math.min.name Lib.Math.min.code 2 (some .int) ∈ lw_g ∧ Jvm.Cond.instanceMethod Lib.objectInit ∈ lw_g ∧ Jvm.Cond.code Lib.objectInit ⟨#[0xb1]⟩ 1 none ∈ lw_g ∧ Jvm.Cond.arrayClass .int ∈ lw_g ∧ Jvm.Cond.arrayClass .short ∈ lw_g ∧ Jvm.Cond.arrayClass .boolean ∈ lw_g ∧ Jvm.Cond.arrayClass .long ∈ lw_g
def mm_le (w w2 : mm_W) : Prop := w.2.1 ≤ w2.2.1 ∧ w.2.2 ≤ w2.2.2
theorem mm_le_rf (w : mm_W) : mm_le w w := ⟨Int.le_refl _, Int.le_refl _⟩
theorem mm_le_tr {a b c : mm_W} (h1 : mm_le a b) (h2 : mm_le b c) : mm_le a c := ⟨Int.le_trans h1.1 h2.1, Int.le_trans h1.2 h2.2⟩
def mm_yw : mm_Y → mm_W
  | .inl r => r.2.1
  | .inr x => x.2.2.2.1
theorem ck1 {cc : ByteArray} {pc nx n k : Nat} {i : Instr} (h : (mm_is cc pc i n && Nat.beq nx k) = true) : decode cc pc = .ok (i, n) ∧ nx = k := by
  simp only [Bool.and_eq_true] at h
  exact ⟨mm_is_eq h.1, Nat.eq_of_beq_eq_true h.2⟩
theorem mm_ifT {α : Type} {b : Bool} {x y : Option α} {z : α} (h : mm_if b x y = some z) (hy : y = none) : b = true ∧ x = some z := by
  cases b with
  | true => exact ⟨rfl, h⟩
  | false => rw [show mm_if false x y = y from rfl, hy] at h; cases h
theorem mm_itT {α : Type} {c : Prop} [Decidable c] {x : Option α} {z : α} (h : (if c then x else none) = some z) : c ∧ x = some z := by
  by_cases q : c
  · rw [if_pos q] at h; exact ⟨q, h⟩
  · rw [if_neg q] at h; cases h
theorem mm_cl_eq {ci : Nat} {x y : vw_C} (h1 : mm_cls[ci]? = some x) (h2 : mm_cls[ci]? = some y) : x = y := Option.some.inj (h1.symm.trans h2)
theorem mm_okt_LR {old : Int → Nat} {ρ : List Nat} {nL : Nat} {tags : List Nat} {L : List mm_V} {ls : Array Slot} (hk : mm_okt tags 0 L = true) (h : mm_LR old ρ nL L ls) : mm_LR old ρ nL (mm_nrm tags 0 L) ls := by
  refine ⟨h.1, h.2.1, ?_⟩
  have key : ∀ (tags : List Nat) (k : Nat), mm_okt tags k L = true → ∀ (i : Nat) (v : mm_V), (mm_nrm tags k L)[i]? = some v → v.1 ≤ 3 → L[k + i]? = some v := by
    intro tags
    induction tags with
    | nil => intro k _ i v hv; simp [mm_nrm] at hv
    | cons t ts ih =>
      intro k hk i v hv h3
      simp only [mm_okt, Bool.and_eq_true, Bool.or_eq_true] at hk
      rw [mm_nrm] at hv
      cases i with
      | zero =>
        simp only [List.getElem?_cons_zero, Option.some.injEq] at hv
        cases h9 : Nat.beq t 9 with
        | true => rw [h9] at hv; subst hv; exact absurd h3 (by show ¬ (9 : Nat) ≤ 3; decide)
        | false =>
          rw [h9] at hv
          cases h8 : Nat.beq t 8 with
          | true => rw [h8] at hv; subst hv; exact absurd h3 (by show ¬ (8 : Nat) ≤ 3; decide)
          | false =>
            rw [h8] at hv
            have hv : (t, mP k L) = v := hv
            have ht : Nat.beq (mm_get k L).1 t = true := by
              rcases hk.1 with q | q | q
              · rw [h9] at q; cases q
              · rw [h8] at q; cases q
              · exact q
            have ht := Nat.eq_of_beq_eq_true ht
            have : mm_get k L = v := by
              rw [← hv]
              refine Prod.ext ht ?_
              show (mm_get k L).2 = mP k L
              rw [mm_get_eq]
              unfold mP
              rw [List.getD_eq_getElem?_getD]
            exact mm_get_at this h3
      | succ i =>
        simp only [List.getElem?_cons_succ] at hv
        have := ih (k + 1) hk.2 i v hv h3
        rw [show k + (i + 1) = k + 1 + i by omega]
        exact this
  intro i v hv h3
  have := key tags 0 hk i v hv h3
  rw [Nat.zero_add] at this
  exact h.2.2 i v this h3
section MM
variable {D : va_G} {tys : List (ClassId × FieldType)} {B : Nat} {old : Int → Nat} {L0 : Nat} {scr : Nat → Int32}
variable {p : Program} {l : Launch} {e : Env} {R : Room} {s : State} {m : MethodId} {args : Array Value} {below : List Frame} {meth : Method} {c : Code} {nL : Nat} {ρ0 : List Nat} {w0 : mm_W} {Q : State → Prop}
variable {own : String} {cc : ByteArray} {mn : String} {rt : Option FieldType} {pc : Nat} {L st : List mm_V} {w : mm_W} {h : mm_H} {nx : Nat} {tx : String}

variable {wC wS : Int} {rs : mm_R} {out : mm_Y} {lt : List mm_T} {pool : List (Nat × Instr)} {isI : Bool} {O : mm_O} {lp : mm_L} {hi : Nat} {tl : List (Nat × Instr)}
/-- what is owed behind a region -/
def mm_Ct (D : va_G) (tys : List (ClassId × FieldType)) (B : Nat) (old : Int → Nat) (L0 : Nat) (scr : Nat → Int32) (p : Program) (l : Launch) (e : Env) (R : Room) (s : State) (m : MethodId) (args : Array Value) (below : List Frame) (meth : Method) (c : Code) (nL : Nat) (ρ0 : List Nat) (w0 : mm_W) (Q : State → Prop) (rs : mm_R) : mm_Y → Prop
  | .inl r => r = rs
  | .inr x => mm_le x.2.2.2.1 rs.2.1 ∧ mm_Wc D tys B old L0 scr p l e R s m args below meth c nL ρ0 w0 Q x.1 x.2.1 x.2.2.1 x.2.2.2.1 x.2.2.2.2
def mm_GO (D : va_G) (tys : List (ClassId × FieldType)) (B : Nat) (old : Int → Nat) (L0 : Nat) (scr : Nat → Int32) (p : Program) (l : Launch) (e : Env) (R : Room) (s : State) (m : MethodId) (args : Array Value) (below : List Frame) (meth : Method) (c : Code) (nL : Nat) (ρ0 : List Nat) (w0 : mm_W) (Q : State → Prop) (rs : mm_R) (out : mm_Y) (pc : Nat) (L st : List mm_V) (w : mm_W) (h : mm_H) : Prop :=
  mm_le w (mm_yw out) ∧ (mm_Ct D tys B old L0 scr p l e R s m args below meth c nL ρ0 w0 Q rs out → mm_le w rs.2.1 ∧ mm_Wc D tys B old L0 scr p l e R s m args below meth c nL ρ0 w0 Q pc L st w h)
theorem mm_GO.step {pc2 : Nat} {L2 st2 : List mm_V} {w2 : mm_W} {h2 : mm_H} (g : mm_GO D tys B old L0 scr p l e R s m args below meth c nL ρ0 w0 Q rs out pc2 L2 st2 w2 h2) (hw : mm_le w w2) (k : mm_le w2 rs.2.1 → mm_Wc D tys B old L0 scr p l e R s m args below meth c nL ρ0 w0 Q pc2 L2 st2 w2 h2 → mm_Wc D tys B old L0 scr p l e R s m args below meth c nL ρ0 w0 Q pc L st w h) : mm_GO D tys B old L0 scr p l e R s m args below meth c nL ρ0 w0 Q rs out pc L st w h :=
  ⟨mm_le_tr hw g.1, fun hc => ⟨mm_le_tr hw (g.2 hc).1, k (g.2 hc).1 (g.2 hc).2⟩⟩
theorem mm_GO.one {pc2 : Nat} {L2 st2 : List mm_V} {h2 : mm_H} (g : mm_GO D tys B old L0 scr p l e R s m args below meth c nL ρ0 w0 Q rs out pc2 L2 st2 w h2) (k : mm_Wc D tys B old L0 scr p l e R s m args below meth c nL ρ0 w0 Q pc2 L2 st2 w h2 → mm_Wc D tys B old L0 scr p l e R s m args below meth c nL ρ0 w0 Q pc L st w h) : mm_GO D tys B old L0 scr p l e R s m args below meth c nL ρ0 w0 Q rs out pc L st w h := g.step (mm_le_rf _) (fun _ => k)
theorem mm_GO.two {q : Prop} {pc2 pc3 : Nat} {L2 st2 : List mm_V} {h2 : mm_H} (gt : q → mm_GO D tys B old L0 scr p l e R s m args below meth c nL ρ0 w0 Q rs out pc2 L2 st2 w h2) (gf : ¬ q → mm_GO D tys B old L0 scr p l e R s m args below meth c nL ρ0 w0 Q rs out pc3 L2 st2 w h2) (k : (q → mm_Wc D tys B old L0 scr p l e R s m args below meth c nL ρ0 w0 Q pc2 L2 st2 w h2) → (¬ q → mm_Wc D tys B old L0 scr p l e R s m args below meth c nL ρ0 w0 Q pc3 L2 st2 w h2) → mm_Wc D tys B old L0 scr p l e R s m args below meth c nL ρ0 w0 Q pc L st w h) : mm_GO D tys B old L0 scr p l e R s m args below meth c nL ρ0 w0 Q rs out pc L st w h := by
  by_cases hq : q
  · exact ⟨(gt hq).1, fun hc => ⟨((gt hq).2 hc).1, k (fun _ => ((gt hq).2 hc).2) (fun z => absurd hq z)⟩⟩
  · exact ⟨(gf hq).1, fun hc => ⟨((gf hq).2 hc).1, k (fun z => absurd z hq) (fun _ => ((gf hq).2 hc).2)⟩⟩
/-- room for what is made -/
def mm_Rm (R : Room) (ρ0 : List Nat) (w0 : mm_W) (wf : mm_W) : Prop := (wf.2.1 - w0.2.1).toNat ≤ R.cells ∧ (wf.2.2 - w0.2.2).toNat ≤ R.slots
theorem mm_Rm_le {w2 wf : mm_W} (h : mm_Rm R ρ0 w0 wf) (hl : mm_le w2 wf) : (w2.2.1 - w0.2.1).toNat ≤ R.cells ∧ (w2.2.2 - w0.2.2).toNat ≤ R.slots := by
  obtain ⟨h1, h2⟩ := h
  obtain ⟨h3, h4⟩ := hl
  exact ⟨by omega, by omega⟩
end MM

