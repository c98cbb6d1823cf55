/-! From the check to the step, one by one. -/
theorem mm_an {a b : Bool} (h : (a && b) = true) : a = true ∧ b = true := by simpa using h
theorem mm_blt {a b : Nat} (h : Nat.blt a b = true) : a < b := Nat.le_of_ble_eq_true h
theorem mm_tg {pc : Nat} {off t : Int} (h : (pc : Int) + off = t ∧ 0 ≤ t) : (pc : Int) + off = ((t.toNat : Nat) : Int) := by omega
section MM
variable {D : va_G} {tys : List (ClassId × FieldType)} {B : Nat} {old : Int → Nat} {L0 : Nat} {scr : Nat → Int32}
variable {p : Program} {l : Launch} {e : Env} {R : Room} {s : State} {m : MethodId} {args : Array Value} {below : List Frame} {meth : Method} {c : Code} {nL : Nat} {ρ0 : List Nat} {w0 : mm_W} {Q : State → Prop}
variable {own : String} {cc : ByteArray} {mn : String} {rt : Option FieldType} {pc : Nat} {L st : List mm_V} {w : mm_W} {h : mm_H} {nx : Nat} {tx : String}

variable {lt : List mm_T} {pool : List (Nat × Instr)} {isI : Bool}
theorem sg_iconst (F : mm_Fr D tys B old L0 scr p s m args meth c nL own cc mn rt) (hp : ∀ q ∈ pool, mm_PK own q.1 q.2) {n : Int} (hc : mm_ck lt pool isI rt cc nL pc nx (.iconst n) = true) (k : mm_Wc D tys B old L0 scr p l e R s m args below meth c nL ρ0 w0 Q nx L ((0, n) :: st) w h) : mm_Wc D tys B old L0 scr p l e R s m args below meth c nL ρ0 w0 Q pc L st w h := by
  unfold mm_ck at hc
  obtain ⟨hn, hc⟩ := mm_an hc
  have hn := of_decide_eq_true hn
  rcases (Bool.or_eq_true _ _).mp hc with hc | hc
  · obtain ⟨h1, h2⟩ := mm_an hc
    have h2 := Nat.eq_of_beq_eq_true h2
    exact st_const F hn (Or.inl ⟨by rw [h2, show pc + 1 - pc = 1 by omega]; exact mm_is_eq h1, h2⟩) k
  rcases (Bool.or_eq_true _ _).mp hc with hc | hc
  · obtain ⟨h1, h2⟩ := mm_an hc
    obtain ⟨h2, h3⟩ := mm_an h2
    have h3 := of_decide_eq_true h3
    exact st_const F hn (Or.inr (Or.inl ⟨mm_is_eq h1, Nat.eq_of_beq_eq_true h2, h3.1, h3.2⟩)) k
  rcases (Bool.or_eq_true _ _).mp hc with hc | hc
  · obtain ⟨h1, h2⟩ := mm_an hc
    obtain ⟨h2, h3⟩ := mm_an h2
    have h3 := of_decide_eq_true h3
    exact st_const F hn (Or.inr (Or.inr ⟨mm_is_eq h1, Nat.eq_of_beq_eq_true h2, h3.1, h3.2⟩)) k
  split at hc
  · next i e =>
    obtain ⟨h1, h2⟩ := mm_an hc
    exact st_ldc F hn (hp _ (mm_has_mem h1)) (Or.inl ⟨mm_op_eq e (by decide), Nat.eq_of_beq_eq_true h2⟩) k
  · next i e =>
    obtain ⟨h1, h2⟩ := mm_an hc
    exact st_ldc F hn (hp _ (mm_has_mem h1)) (Or.inr ⟨mm_op_eq e (by decide), Nat.eq_of_beq_eq_true h2⟩) k
  · next i e =>
    obtain ⟨h0, h1⟩ := mm_an hc
    obtain ⟨h1, h2⟩ := mm_an h1
    have h0 := of_decide_eq_true h0
    subst h0
    rw [Nat.eq_of_beq_eq_true h2] at k
    exact st_getsI F (hp _ (mm_has_mem h1)) (mm_op_eq e (by decide)) k
  · cases hc
theorem sg_jsr (F : mm_Fr D tys B old L0 scr p s m args meth c nL own cc mn rt) (hp : ∀ q ∈ pool, mm_PK own q.1 q.2) {n : Int} (hc : mm_ck lt pool isI rt cc nL pc nx (.jsr n) = true) (k : mm_Wc D tys B old L0 scr p l e R s m args below meth c nL ρ0 w0 Q nx L ((1, n) :: st) w h) : mm_Wc D tys B old L0 scr p l e R s m args below meth c nL ρ0 w0 Q pc L st w h := by
  unfold mm_ck at hc
  obtain ⟨hn, hc⟩ := mm_an hc
  have hn := of_decide_eq_true hn
  split at hc
  · next q e =>
    obtain ⟨h1, h2⟩ := mm_an hc
    have h1 := of_decide_eq_true h1
    rw [Nat.eq_of_beq_eq_true h2, ← h1] at k
    exact st_lconst F (mm_op_eq e (by decide)) k
  · next i e =>
    obtain ⟨h1, h2⟩ := mm_an hc
    rw [Nat.eq_of_beq_eq_true h2] at k
    exact st_ldc2 F hn (hp _ (mm_has_mem h1)) (mm_op_eq e (by decide)) k
  · cases hc
theorem sg_sipush (F : mm_Fr D tys B old L0 scr p s m args meth c nL own cc mn rt) (hp : ∀ q ∈ pool, mm_PK own q.1 q.2) {n : Int} (hc : mm_ck lt pool isI rt cc nL pc nx (.sipush n) = true) (k : mm_Wc D tys B old L0 scr p l e R s m args below meth c nL ρ0 w0 Q nx L ((2, n) :: st) w h) : mm_Wc D tys B old L0 scr p l e R s m args below meth c nL ρ0 w0 Q pc L st w h := by
  unfold mm_ck at hc
  rcases (Bool.or_eq_true _ _).mp hc with hc | hc
  · obtain ⟨h0, h1⟩ := mm_an hc
    obtain ⟨h1, h2⟩ := mm_an h1
    have h0 := of_decide_eq_true h0
    subst h0
    rw [Nat.eq_of_beq_eq_true h2] at k
    exact st_null F (mm_is_eq h1) k
  split at hc
  · next i e =>
    obtain ⟨h1, h2⟩ := mm_an hc
    rw [Nat.eq_of_beq_eq_true h2] at k
    obtain ⟨q, tx, hq, rfl, hw⟩ := hp _ (mm_has_mem h1)
    exact st_ldcS F hq hw (mm_op_eq e (by decide)) k
  · cases hc
theorem sg_getstatic (F : mm_Fr D tys B old L0 scr p s m args meth c nL own cc mn rt) (hp : ∀ q ∈ pool, mm_PK own q.1 q.2) {n : Nat} (hc : mm_ck lt pool isI rt cc nL pc nx (.getstatic n) = true) (k : mm_Wc D tys B old L0 scr p l e R s m args below meth c nL ρ0 w0 Q nx L ((3, 0) :: st) w h) : mm_Wc D tys B old L0 scr p l e R s m args below meth c nL ρ0 w0 Q pc L st w h := by
  unfold mm_ck at hc
  dsimp only at hc
  split at hc
  · next i e =>
    obtain ⟨h1, h2⟩ := mm_an hc
    rw [Nat.eq_of_beq_eq_true h2] at k
    exact st_getsR F (hp _ (mm_has_mem h1)) (mm_op_eq e (by decide)) k
  · cases hc
theorem ck_iload {n : Nat} (hc : mm_ck lt pool isI rt cc nL pc nx (.iload n) = true) : (decode cc pc = .ok (.iload n, 2) ∧ nx = pc + 2) ∨ (∃ k : Fin 4, decode cc pc = .ok (.iload_n k, 1) ∧ (k : Nat) = n ∧ nx = pc + 1) := by
  unfold mm_ck at hc
  rcases (Bool.or_eq_true _ _).mp hc with hc | hc
  · obtain ⟨h1, h2⟩ := mm_an hc
    exact Or.inl ⟨mm_is_eq h1, Nat.eq_of_beq_eq_true h2⟩
  split at hc
  · next i e =>
    obtain ⟨h1, h2⟩ := mm_an hc
    exact Or.inr ⟨i, mm_op_eq e (by decide), Nat.eq_of_beq_eq_true h1, Nat.eq_of_beq_eq_true h2⟩
  · cases hc
theorem ck_lload {n : Nat} (hc : mm_ck lt pool isI rt cc nL pc nx (.lload n) = true) : (decode cc pc = .ok (.lload n, 2) ∧ nx = pc + 2) ∨ (∃ k : Fin 4, decode cc pc = .ok (.lload_n k, 1) ∧ (k : Nat) = n ∧ nx = pc + 1) := by
  unfold mm_ck at hc
  rcases (Bool.or_eq_true _ _).mp hc with hc | hc
  · obtain ⟨h1, h2⟩ := mm_an hc
    exact Or.inl ⟨mm_is_eq h1, Nat.eq_of_beq_eq_true h2⟩
  split at hc
  · next i e =>
    obtain ⟨h1, h2⟩ := mm_an hc
    exact Or.inr ⟨i, mm_op_eq e (by decide), Nat.eq_of_beq_eq_true h1, Nat.eq_of_beq_eq_true h2⟩
  · cases hc
theorem ck_aload {n : Nat} (hc : mm_ck lt pool isI rt cc nL pc nx (.aload n) = true) : (decode cc pc = .ok (.aload n, 2) ∧ nx = pc + 2) ∨ (∃ k : Fin 4, decode cc pc = .ok (.aload_n k, 1) ∧ (k : Nat) = n ∧ nx = pc + 1) := by
  unfold mm_ck at hc
  rcases (Bool.or_eq_true _ _).mp hc with hc | hc
  · obtain ⟨h1, h2⟩ := mm_an hc
    exact Or.inl ⟨mm_is_eq h1, Nat.eq_of_beq_eq_true h2⟩
  split at hc
  · next i e =>
    obtain ⟨h1, h2⟩ := mm_an hc
    exact Or.inr ⟨i, mm_op_eq e (by decide), Nat.eq_of_beq_eq_true h1, Nat.eq_of_beq_eq_true h2⟩
  · cases hc
theorem ck_istore {n : Nat} (hc : mm_ck lt pool isI rt cc nL pc nx (.istore n) = true) : n < nL ∧ ((decode cc pc = .ok (.istore n, 2) ∧ nx = pc + 2) ∨ (∃ k : Fin 4, decode cc pc = .ok (.istore_n k, 1) ∧ (k : Nat) = n ∧ nx = pc + 1)) := by
  unfold mm_ck at hc
  obtain ⟨hn, hc⟩ := mm_an hc
  refine ⟨mm_blt hn, ?_⟩
  rcases (Bool.or_eq_true _ _).mp hc with hc | hc
  · obtain ⟨h1, h2⟩ := mm_an hc
    exact Or.inl ⟨mm_is_eq h1, Nat.eq_of_beq_eq_true h2⟩
  split at hc
  · next i e =>
    obtain ⟨h1, h2⟩ := mm_an hc
    exact Or.inr ⟨i, mm_op_eq e (by decide), Nat.eq_of_beq_eq_true h1, Nat.eq_of_beq_eq_true h2⟩
  · cases hc
theorem ck_astore {n : Nat} (hc : mm_ck lt pool isI rt cc nL pc nx (.astore n) = true) : n < nL ∧ ((decode cc pc = .ok (.astore n, 2) ∧ nx = pc + 2) ∨ (∃ k : Fin 4, decode cc pc = .ok (.astore_n k, 1) ∧ (k : Nat) = n ∧ nx = pc + 1)) := by
  unfold mm_ck at hc
  obtain ⟨hn, hc⟩ := mm_an hc
  refine ⟨mm_blt hn, ?_⟩
  rcases (Bool.or_eq_true _ _).mp hc with hc | hc
  · obtain ⟨h1, h2⟩ := mm_an hc
    exact Or.inl ⟨mm_is_eq h1, Nat.eq_of_beq_eq_true h2⟩
  split at hc
  · next i e =>
    obtain ⟨h1, h2⟩ := mm_an hc
    exact Or.inr ⟨i, mm_op_eq e (by decide), Nat.eq_of_beq_eq_true h1, Nat.eq_of_beq_eq_true h2⟩
  · cases hc
theorem ck_lstore {n : Nat} (hc : mm_ck lt pool isI rt cc nL pc nx (.lstore n) = true) : n + 1 < nL ∧ ((decode cc pc = .ok (.lstore n, 2) ∧ nx = pc + 2) ∨ (∃ k : Fin 4, decode cc pc = .ok (.lstore_n k, 1) ∧ (k : Nat) = n ∧ nx = pc + 1)) := by
  unfold mm_ck at hc
  obtain ⟨hn, hc⟩ := mm_an hc
  refine ⟨mm_blt hn, ?_⟩
  rcases (Bool.or_eq_true _ _).mp hc with hc | hc
  · obtain ⟨h1, h2⟩ := mm_an hc
    exact Or.inl ⟨mm_is_eq h1, Nat.eq_of_beq_eq_true h2⟩
  split at hc
  · next i e =>
    obtain ⟨h1, h2⟩ := mm_an hc
    exact Or.inr ⟨i, mm_op_eq e (by decide), Nat.eq_of_beq_eq_true h1, Nat.eq_of_beq_eq_true h2⟩
  · cases hc
theorem ck_iinc {n : Nat} {y : Int} (hc : mm_ck lt pool isI rt cc nL pc nx (.iinc n y) = true) : n < nL ∧ decode cc pc = .ok (.iinc n y, 3) ∧ nx = pc + 3 := by
  unfold mm_ck at hc
  obtain ⟨hn, hc⟩ := mm_an hc
  obtain ⟨h1, h2⟩ := mm_an hc
  exact ⟨mm_blt hn, mm_is_eq h1, Nat.eq_of_beq_eq_true h2⟩
theorem ck_goto {t : Int} (hc : mm_ck lt pool isI rt cc nL pc nx (.goto t) = true) : ∃ off, decode cc pc = .ok (.goto off, 3) ∧ (pc : Int) + off = ((t.toNat : Nat) : Int) := by
  unfold mm_ck at hc
  dsimp only at hc
  split at hc
  · next off e => exact ⟨off, mm_op_eq e (by decide), mm_tg (of_decide_eq_true hc)⟩
  · cases hc
theorem ck_icmp {q : Jvm.ClassFile.Cond} {t : Int} (hc : mm_ck lt pool isI rt cc nL pc nx (.if_icmp q t) = true) : ∃ off, decode cc pc = .ok (.if_icmp q off, 3) ∧ (pc : Int) + off = ((t.toNat : Nat) : Int) ∧ nx = pc + 3 := by
  unfold mm_ck at hc
  dsimp only at hc
  split at hc
  · next c2 off e =>
    obtain ⟨h0, h1⟩ := mm_an hc
    obtain ⟨h1, h2⟩ := mm_an h1
    have h0 := of_decide_eq_true h0
    subst h0
    exact ⟨off, mm_op_eq e (by decide), mm_tg (of_decide_eq_true h1), Nat.eq_of_beq_eq_true h2⟩
  · cases hc
theorem ck_if {q : Jvm.ClassFile.Cond} {t : Int} (hc : mm_ck lt pool isI rt cc nL pc nx (.ifCond q t) = true) : ∃ off, decode cc pc = .ok (.ifCond q off, 3) ∧ (pc : Int) + off = ((t.toNat : Nat) : Int) ∧ nx = pc + 3 := by
  unfold mm_ck at hc
  dsimp only at hc
  split at hc
  · next c2 off e =>
    obtain ⟨h0, h1⟩ := mm_an hc
    obtain ⟨h1, h2⟩ := mm_an h1
    have h0 := of_decide_eq_true h0
    subst h0
    exact ⟨off, mm_op_eq e (by decide), mm_tg (of_decide_eq_true h1), Nat.eq_of_beq_eq_true h2⟩
  · cases hc
theorem ck_null {t : Int} (hc : mm_ck lt pool isI rt cc nL pc nx (.ifnull t) = true) : ∃ off, decode cc pc = .ok (.ifnull off, 3) ∧ (pc : Int) + off = ((t.toNat : Nat) : Int) ∧ nx = pc + 3 := by
  unfold mm_ck at hc
  dsimp only at hc
  split at hc
  · next off e =>
    obtain ⟨h1, h2⟩ := mm_an hc
    exact ⟨off, mm_op_eq e (by decide), mm_tg (of_decide_eq_true h1), Nat.eq_of_beq_eq_true h2⟩
  · cases hc
theorem ck_nonnull {t : Int} (hc : mm_ck lt pool isI rt cc nL pc nx (.ifnonnull t) = true) : ∃ off, decode cc pc = .ok (.ifnonnull off, 3) ∧ (pc : Int) + off = ((t.toNat : Nat) : Int) ∧ nx = pc + 3 := by
  unfold mm_ck at hc
  dsimp only at hc
  split at hc
  · next off e =>
    obtain ⟨h1, h2⟩ := mm_an hc
    exact ⟨off, mm_op_eq e (by decide), mm_tg (of_decide_eq_true h1), Nat.eq_of_beq_eq_true h2⟩
  · cases hc
end MM

