/-! From the check to the step: what is made, what is called. -/
section MM
variable {D : va_G} {tys : List (ClassId × FieldType)} {B : Nat} {old : Int → Nat} {L0 : Nat} {scr : Nat → Int32}
variable {p : Program} {l : Launch} {e : Env} {R : Room} {s : State} {m : MethodId} {args : Array Value} {below : List Frame} {meth : Method} {c : Code} {nL : Nat} {ρ0 : List Nat} {w0 : mm_W} {Q : State → Prop}
variable {own : String} {cc : ByteArray} {mn : String} {rt : Option FieldType} {pc : Nat} {L st : List mm_V} {w : mm_W} {h : mm_H} {nx : Nat} {tx : String}

variable {lt : List mm_T} {pool : List (Nat × Instr)} {isI : Bool}
theorem sg_new (F : mm_Fr D tys B old L0 scr p s m args meth c nL own cc mn rt) (hp : ∀ q ∈ pool, mm_PK own q.1 q.2) {x : Nat} (hc : mm_ck lt pool isI rt cc nL pc nx (.new x) = true) (hr : ((mNew w (Nat.div x 64) (Int.ofNat (Nat.mod x 64))).2.1 - w0.2.1).toNat ≤ R.cells ∧ ((mNew w (Nat.div x 64) (Int.ofNat (Nat.mod x 64))).2.2 - w0.2.2).toNat ≤ R.slots) (k : mm_Wc D tys B old L0 scr p l e R s m args below meth c nL ρ0 w0 Q nx L ((2, w.2.1) :: st) (mNew w (Nat.div x 64) (Int.ofNat (Nat.mod x 64))) (mZero h w.2.1)) : mm_Wc D tys B old L0 scr p l e R s m args below meth c nL ρ0 w0 Q pc L st w h := by
  unfold mm_ck at hc
  dsimp only at hc
  split at hc
  · next i e =>
    obtain ⟨h1, h2⟩ := mm_an hc
    rw [Nat.eq_of_beq_eq_true h2] at k
    obtain ⟨ci, g1, g2, g3⟩ := hp _ (mm_has_mem h1)
    rw [g1, g2] at k hr
    exact st_new F g3 (mm_op_eq e (by decide)) (fun _ _ => hr) k
  · cases hc
theorem sg_anew (F : mm_Fr D tys B old L0 scr p s m args meth c nL own cc mn rt) (KW : mm_KW) (hp : ∀ q ∈ pool, mm_PK own q.1 q.2) {n : Int} {q : Nat} (hc : mm_ck lt pool isI rt cc nL pc nx (.anewarray q) = true) (h0 : 0 ≤ n) (h1 : n ≤ 1000000) (hr : ((mNew w q n).2.1 - w0.2.1).toNat ≤ R.cells ∧ ((mNew w q n).2.2 - w0.2.2).toNat ≤ R.slots) (k : mm_Wc D tys B old L0 scr p l e R s m args below meth c nL ρ0 w0 Q nx L ((2, w.2.1) :: st) (mNew w q n) (mZero h w.2.1)) : mm_Wc D tys B old L0 scr p l e R s m args below meth c nL ρ0 w0 Q pc L ((0, n) :: st) w h := by
  obtain ⟨-, -, -, -, -, -, -, -, -, -, kI, kS, kZ, kJ⟩ := KW
  unfold mm_ck at hc
  dsimp only at hc
  split at hc
  · next aty e =>
    obtain ⟨g1, g2⟩ := mm_an hc
    rw [Nat.eq_of_beq_eq_true g2] at k
    have e := mm_op_eq e (by decide)
    rcases (Bool.or_eq_true _ _).mp g1 with g1 | g1
    · obtain ⟨a1, a2⟩ := mm_an g1
      have a1 := Nat.eq_of_beq_eq_true a1
      subst a1
      exact st_newa F (of_decide_eq_true a2) (Or.inl ⟨rfl, rfl⟩) kI e h0 h1 (fun _ _ => hr) k
    rcases (Bool.or_eq_true _ _).mp g1 with g1 | g1
    · obtain ⟨a1, a2⟩ := mm_an g1
      have a1 := Nat.eq_of_beq_eq_true a1
      subst a1
      exact st_newa F (of_decide_eq_true a2) (Or.inr (Or.inl ⟨rfl, rfl⟩)) kS e h0 h1 (fun _ _ => hr) k
    rcases (Bool.or_eq_true _ _).mp g1 with g1 | g1
    · obtain ⟨a1, a2⟩ := mm_an g1
      have a1 := Nat.eq_of_beq_eq_true a1
      subst a1
      exact st_newa F (of_decide_eq_true a2) (Or.inr (Or.inr ⟨rfl, rfl⟩)) kZ e h0 h1 (fun _ _ => hr) k
    · obtain ⟨a1, a2⟩ := mm_an g1
      have a1 := Nat.eq_of_beq_eq_true a1
      subst a1
      exact st_newaJ F (of_decide_eq_true a2) kJ e h0 h1 (fun _ _ => hr) k
  · next i e =>
    obtain ⟨g1, g2⟩ := mm_an hc
    rw [Nat.eq_of_beq_eq_true g2] at k
    have e := mm_op_eq e (by decide)
    rcases hp _ (mm_has_mem g1) with ⟨rfl, g⟩ | ⟨rfl, g⟩ | ⟨rfl, g⟩
    · exact st_anew F (Or.inl ⟨rfl, rfl⟩) g e h0 h1 (fun _ _ => hr) k
    · exact st_anew F (Or.inr ⟨rfl, rfl⟩) g e h0 h1 (fun _ _ => hr) k
    · exact st_anewI F g e h0 h1 (fun _ _ => hr) k
  · cases hc
theorem sg_copy (F : mm_Fr D tys B old L0 scr p s m args meth c nL own cc mn rt) (KW : mm_KW) (hp : ∀ q ∈ pool, mm_PK own q.1 q.2) {a0 sp d dp n : Int} (hc : mm_ck lt pool isI rt cc nL pc nx .daload = true) (hR : 1 ≤ R.frames ∧ nativeFrameWords "java/lang/System" "arraycopy" 5 + 11 ≤ R.locals) (hq : (w.1 a0).1 = 50 ∧ (w.1 d).1 = 50 ∧ 0 < a0 ∧ 0 < d ∧ 0 ≤ sp ∧ 0 ≤ dp ∧ 0 ≤ n ∧ sp + n ≤ (w.1 a0).2 ∧ dp + n ≤ (w.1 d).2) (k : mm_Wc D tys B old L0 scr p l e R s m args below meth c nL ρ0 w0 Q nx L [] w (mCpy h a0 sp d dp n)) : mm_Wc D tys B old L0 scr p l e R s m args below meth c nL ρ0 w0 Q pc L [(0, n), (0, dp), (2, d), (0, sp), (2, a0)] w h := by
  obtain ⟨k1, k2, k3, -⟩ := KW
  unfold mm_ck at hc
  dsimp only at hc
  split at hc
  · next i e =>
    obtain ⟨g1, g2⟩ := mm_an hc
    rw [Nat.eq_of_beq_eq_true g2] at k
    exact st_copy F (hp _ (mm_has_mem g1)) k1 k2 k3 hR (mm_op_eq e (by decide)) hq k
  · cases hc
theorem sg_max (F : mm_Fr D tys B old L0 scr p s m args meth c nL own cc mn rt) (KW : mm_KW) (hp : ∀ q ∈ pool, mm_PK own q.1 q.2) {x y : Int} (hc : mm_ck lt pool isI rt cc nL pc nx .dadd = true) (hR : 1 ≤ R.frames ∧ 24 + 13 ≤ R.locals) (hs : mm_cats st ≤ 24) (hf : (w.2.1 - w0.2.1).toNat ≤ R.cells ∧ (w.2.2 - w0.2.2).toNat ≤ R.slots) (k : mm_Wc D tys B old L0 scr p l e R s m args below meth c nL ρ0 w0 Q nx L ((0, mMax x y) :: st) w h) : mm_Wc D tys B old L0 scr p l e R s m args below meth c nL ρ0 w0 Q pc L ((0, y) :: (0, x) :: st) w h := by
  obtain ⟨-, -, -, k1, k2, k3, -⟩ := KW
  unfold mm_ck at hc
  dsimp only at hc
  split at hc
  · next i e =>
    obtain ⟨g1, g2⟩ := mm_an hc
    rw [Nat.eq_of_beq_eq_true g2] at k
    exact st_max F (hp _ (mm_has_mem g1)) k1 k2 k3 hR hs (fun _ _ => hf) (mm_op_eq e (by decide)) k
  · cases hc
theorem sg_min (F : mm_Fr D tys B old L0 scr p s m args meth c nL own cc mn rt) (KW : mm_KW) (hp : ∀ q ∈ pool, mm_PK own q.1 q.2) {x y : Int} (hc : mm_ck lt pool isI rt cc nL pc nx .dsub = true) (hR : 1 ≤ R.frames ∧ 24 + 13 ≤ R.locals) (hs : mm_cats st ≤ 24) (hf : (w.2.1 - w0.2.1).toNat ≤ R.cells ∧ (w.2.2 - w0.2.2).toNat ≤ R.slots) (k : mm_Wc D tys B old L0 scr p l e R s m args below meth c nL ρ0 w0 Q nx L ((0, mMin x y) :: st) w h) : mm_Wc D tys B old L0 scr p l e R s m args below meth c nL ρ0 w0 Q pc L ((0, y) :: (0, x) :: st) w h := by
  obtain ⟨-, -, -, -, k2, -, k1, k3, -⟩ := KW
  unfold mm_ck at hc
  dsimp only at hc
  split at hc
  · next i e =>
    obtain ⟨g1, g2⟩ := mm_an hc
    rw [Nat.eq_of_beq_eq_true g2] at k
    exact st_min F (hp _ (mm_has_mem g1)) k1 k2 k3 hR hs (fun _ _ => hf) (mm_op_eq e (by decide)) k
  · cases hc
theorem sg_oinit (F : mm_Fr D tys B old L0 scr p s m args meth c nL own cc mn rt) (KW : mm_KW) (hp : ∀ q ∈ pool, mm_PK own q.1 q.2) {a : Int} {q : Nat} (hc : mm_ck lt pool isI rt cc nL pc nx (.checkcast q) = true) (hR : 1 ≤ R.frames ∧ 24 + 13 ≤ R.locals) (hs : mm_cats st ≤ 24) (hk : (w.1 a).1 = q) (k : mm_Wc D tys B old L0 scr p l e R s m args below meth c nL ρ0 w0 Q nx L st w h) : mm_Wc D tys B old L0 scr p l e R s m args below meth c nL ρ0 w0 Q pc L ((2, a) :: st) w h := by
  obtain ⟨-, -, -, -, -, -, -, -, k1, k2, -⟩ := KW
  unfold mm_ck at hc
  dsimp only at hc
  split at hc
  · next i e =>
    obtain ⟨g1, g2⟩ := mm_an hc
    rw [Nat.eq_of_beq_eq_true g2] at k
    obtain ⟨g1, g3⟩ := mm_an g1
    obtain ⟨g3, g4⟩ := mm_an g3
    have g3 := Nat.le_of_ble_eq_true g3
    have g4 := Nat.le_of_ble_eq_true g4
    intro ρ H locs ls sv hρ hH hS hL hst
    obtain ⟨p1, p2⟩ := mm_pos (a := a) hH (by omega) (by omega) (by omega) (Or.inl (by omega))
    exact st_objinit F (hp _ (mm_has_mem g1)) k1 k2 hR hs (by omega) (mm_op_eq e (by decide)) k ρ H locs ls sv hρ hH hS hL hst
  · cases hc
/-- what is known of a callee's run -/
def mm_OK (D : va_G) (tys : List (ClassId × FieldType)) (B : Nat) (old : Int → Nat) (L0 : Nat) (scr : Nat → Int32) (l : Launch) (R : Room) (x : Nat) (as : List mm_V) (w : mm_W) (h : mm_H) (r : mm_R) : Prop := mm_le w r.2.1 ∧ Jvm.Cond.code (mm_inf x).1 (mm_inf x).2.1 (mm_inf x).2.2.1 (mm_inf x).2.2.2 ∈ lw_g ∧ ∃ d, d + 1 ≤ R.frames ∧ 24 + ((mm_inf x).2.2.1 + 11) + 96 * d ≤ R.locals ∧ mm_Met D tys B old L0 scr l d (mm_inf x).1 (mm_inf x).2.1 (mm_inf x).2.2.1 (mm_inf x).2.2.2 as w h r
theorem sg_static (F : mm_Fr D tys B old L0 scr p s m args meth c nL own cc mn rt) (hp : ∀ q ∈ pool, mm_PK own q.1 q.2) {x : Nat} {as st2 : List mm_V} {r : mm_R} (hc : mm_ck lt pool isI rt cc nL pc nx (.invokestatic x) = true) (hsp : mm_split (Nat.mod (Nat.div x 4096) 16) [] st = some (as, st2)) (hs : mm_cats st2 ≤ 24) (hO : mm_OK D tys B old L0 scr l R (Nat.div x 65536) as w h r) (hr : (r.2.1.2.1 - w0.2.1).toNat ≤ R.cells ∧ (r.2.1.2.2 - w0.2.2).toNat ≤ R.slots) (ht : r.1.1 = Nat.mod (Nat.div x 256) 16) (k : mm_Wc D tys B old L0 scr p l e R s m args below meth c nL ρ0 w0 Q nx L (if Nat.beq (Nat.mod (Nat.div x 256) 16) 9 = true then st2 else r.1 :: st2) r.2.1 r.2.2) : mm_Wc D tys B old L0 scr p l e R s m args below meth c nL ρ0 w0 Q pc L st w h := by
  unfold mm_ck at hc
  obtain ⟨hc, ht2⟩ := mm_an hc
  split at hc
  · next i e =>
    obtain ⟨g1, g2⟩ := mm_an hc
    rw [Nat.eq_of_beq_eq_true g2] at k
    obtain ⟨h1, h2, d, h3, h4, h5⟩ := hO
    refine st_call F h5 h1 h2 (fun q => absurd q (by decide)) (hp _ (mm_has_mem g1)) ⟨h3, h4⟩ (Or.inl ⟨rfl, mm_op_eq e (by decide)⟩) hsp hs (fun q => absurd rfl q) (fun _ _ => hr) ?_
    by_cases q : Nat.beq (Nat.mod (Nat.div x 256) 16) 9 = true
    · rw [if_pos q] at k
      exact Or.inl ⟨ht.trans (Nat.eq_of_beq_eq_true q), k⟩
    · rw [if_neg q] at k
      refine Or.inr ⟨?_, k⟩
      rw [ht]
      rcases (Bool.or_eq_true _ _).mp ht2 with z | z
      · exact Nat.le_of_ble_eq_true z
      · exact absurd z q
  · cases hc
theorem sg_virtual (F : mm_Fr D tys B old L0 scr p s m args meth c nL own cc mn rt) (hp : ∀ q ∈ pool, mm_PK own q.1 q.2) {x : Nat} {a : Int} {as st2 : List mm_V} {r : mm_R} (hc : mm_ck lt pool isI rt cc nL pc nx (.invokevirtual x) = true) (hsp : mm_split (Nat.mod (Nat.div x 4096) 16) [] st = some ((2, a) :: as, st2)) (hs : mm_cats st2 ≤ 24) (hk : (w.1 a).1 = Nat.mod x 256) (hO : mm_OK D tys B old L0 scr l R (Nat.div x 65536) ((2, a) :: as) w h r) (hr : (r.2.1.2.1 - w0.2.1).toNat ≤ R.cells ∧ (r.2.1.2.2 - w0.2.2).toNat ≤ R.slots) (ht : r.1.1 = Nat.mod (Nat.div x 256) 16) (k : mm_Wc D tys B old L0 scr p l e R s m args below meth c nL ρ0 w0 Q nx L (if Nat.beq (Nat.mod (Nat.div x 256) 16) 9 = true then st2 else r.1 :: st2) r.2.1 r.2.2) : mm_Wc D tys B old L0 scr p l e R s m args below meth c nL ρ0 w0 Q pc L st w h := by
  unfold mm_ck at hc
  obtain ⟨hc, ht2⟩ := mm_an hc
  have fin : (r.1.1 = 9 ∧ mm_Wc D tys B old L0 scr p l e R s m args below meth c nL ρ0 w0 Q nx L st2 r.2.1 r.2.2) ∨ (r.1.1 ≤ 2 ∧ mm_Wc D tys B old L0 scr p l e R s m args below meth c nL ρ0 w0 Q nx L (r.1 :: st2) r.2.1 r.2.2) := by
    by_cases q : Nat.beq (Nat.mod (Nat.div x 256) 16) 9 = true
    · rw [if_pos q] at k
      exact Or.inl ⟨ht.trans (Nat.eq_of_beq_eq_true q), k⟩
    · rw [if_neg q] at k
      refine Or.inr ⟨?_, k⟩
      rw [ht]
      rcases (Bool.or_eq_true _ _).mp ht2 with z | z
      · exact Nat.le_of_ble_eq_true z
      · exact absurd z q
  obtain ⟨h1, h2, d, h3, h4, h5⟩ := hO
  split at hc
  · next i e =>
    obtain ⟨g1, g2⟩ := mm_an hc
    rw [Nat.eq_of_beq_eq_true g2] at fin
    obtain ⟨c1, c2⟩ := hp _ (mm_has_mem g1)
    refine st_call F h5 h1 h2 (fun q => absurd q (by decide)) c1 ⟨h3, h4⟩ (Or.inr (Or.inl ⟨rfl, mm_op_eq e (by decide)⟩)) hsp hs (fun _ => ⟨a, as, rfl, ?_⟩) (fun _ _ => hr) fin
    rcases c2 with ⟨ci, q, e1, e2, e3⟩ | ⟨e1, e2⟩
    · exact Or.inl ⟨ci, q, e1, e2, hk.trans e3⟩
    · exact Or.inr ⟨e1, hk.trans e2⟩
  · next i e =>
    obtain ⟨g1, g2⟩ := mm_an hc
    rw [Nat.eq_of_beq_eq_true g2] at fin
    obtain ⟨c1, c0, c2⟩ := hp _ (mm_has_mem g1)
    refine st_call F h5 h1 h2 (fun _ => c0) c1 ⟨h3, h4⟩ (Or.inr (Or.inr ⟨rfl, mm_op_eq e (by decide)⟩)) hsp hs (fun _ => ⟨a, as, rfl, ?_⟩) (fun _ _ => hr) fin
    rcases c2 with ⟨ci, q, e1, e2, e3⟩ | ⟨e1, e2⟩
    · exact Or.inl ⟨ci, q, e1, e2, hk.trans e3⟩
    · exact Or.inr ⟨e1, hk.trans e2⟩
  · cases hc
end MM

