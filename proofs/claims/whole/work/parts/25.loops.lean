/-! Loops. -/
theorem mm_okt_of : ∀ (tags : List Nat) (k : Nat) (M : List mm_V), (∀ (i t : Nat), tags[i]? = some t → t = 9 ∨ t = 8 ∨ (mm_get (k + i) M).1 = t) → mm_okt tags k M = true
  | [], _, _, _ => rfl
  | t :: ts, k, M, hh => by
    rw [mm_okt, mm_okt_of ts (k + 1) M (fun i u hu => by rw [show k + 1 + i = k + (i + 1) by omega]; exact hh (i + 1) u hu)]
    rcases hh 0 t rfl with q | q | q
    · subst q; rfl
    · subst q; rfl
    · have q : (mm_get k M).1 = t := q
      rw [q]
      have : Nat.beq t t = true := Nat.beq_refl t
      rw [this]
      simp
theorem mm_nrm_get : ∀ (tags : List Nat) (k i t : Nat) (L : List mm_V), tags[i]? = some t → t ≠ 9 → t ≠ 8 → (mm_get i (mm_nrm tags k L)).1 = t
  | [], _, i, t, _, h, _, _ => by simp at h
  | u :: ts, k, 0, t, L, h, h9, h8 => by
    simp only [List.getElem?_cons_zero, Option.some.injEq] at h
    subst h
    rw [mm_nrm]
    have b9 : Nat.beq u 9 = false := by
      cases q : Nat.beq u 9 with
      | true => exact absurd (Nat.eq_of_beq_eq_true q) h9
      | false => rfl
    have b8 : Nat.beq u 8 = false := by
      cases q : Nat.beq u 8 with
      | true => exact absurd (Nat.eq_of_beq_eq_true q) h8
      | false => rfl
    rw [b9, b8]
    rfl
  | u :: ts, k, i + 1, t, L, h, h9, h8 => by
    simp only [List.getElem?_cons_succ] at h
    rw [mm_nrm, mm_get]
    exact mm_nrm_get ts (k + 1) i t L h h9 h8
theorem mm_okt_nrm (tags : List Nat) (L : List mm_V) : mm_okt tags 0 (mm_nrm tags 0 L) = true := by
  refine mm_okt_of tags 0 _ (fun i t hi => ?_)
  by_cases h9 : t = 9
  · exact Or.inl h9
  by_cases h8 : t = 8
  · exact Or.inr (Or.inl h8)
  rw [Nat.zero_add]
  exact Or.inr (Or.inr (mm_nrm_get tags 0 i t L hi h9 h8))
theorem mm_from_chk {lt : List mm_T} {pool : List (Nat × Instr)} {isI : Bool} {rt : Option FieldType} {cc : ByteArray} {nL : Nat} {j : Nat} : ∀ (code : List (Nat × Instr)), mm_chk lt pool isI rt cc nL code = true → mm_chk lt pool isI rt cc nL (mm_from j code) = true ∧ (mm_from j code = [] ∨ mm_nx (mm_from j code) = (mm_row lt j).1)
  | [], _ => ⟨rfl, Or.inl rfl⟩
  | (pc, i) :: tl, h => by
    obtain ⟨h1, h2⟩ := mm_an h
    have ih := mm_from_chk (j := j) tl h2
    rw [mm_from.eq_def]
    dsimp only
    split
    · next k =>
      cases hb : Nat.beq k.toNat j with
      | true =>
        show mm_chk lt pool isI rt cc nL tl = true ∧ (tl = [] ∨ mm_nx tl = (mm_row lt j).1)
        obtain ⟨g1, g2⟩ := mm_an h1
        refine ⟨h2, Or.inr ?_⟩
        rw [← Nat.eq_of_beq_eq_true hb, ← Nat.eq_of_beq_eq_true g2]
        exact Nat.eq_of_beq_eq_true g1
      | false => exact ih
    · exact ih
section MM
variable {D : va_G} {tys : List (ClassId × FieldType)} {B : Nat} {old : Int → Nat} {L0 : Nat} {scr : Nat → Int32}
variable {p : Program} {l : Launch} {e : Env} {R : Room} {s : State} {m : MethodId} {args : Array Value} {below : List Frame} {meth : Method} {c : Code} {nL : Nat} {ρ0 : List Nat} {w0 : mm_W} {Q : State → Prop}
variable {own : String} {cc : ByteArray} {mn : String} {rt : Option FieldType} {pc : Nat} {L st : List mm_V} {w : mm_W} {h : mm_H} {nx : Nat} {tx : String}

variable {rs : mm_R} {lt : List mm_T} {pool : List (Nat × Instr)} {isI : Bool} {O : mm_O} {lp : mm_L} {hi : Nat}
theorem mm_slp (F : mm_Fr D tys B old L0 scr p s m args meth c nL own cc mn rt) (KW : mm_KW) (hp : ∀ q ∈ pool, mm_PK own q.1 q.2) (hI : isI = true → mn = "<init>") (hRm : mm_Rm R ρ0 w0 rs.2.1) (hR : 1 ≤ R.frames ∧ 24 + 13 ≤ R.locals ∧ nativeFrameWords "java/lang/System" "arraycopy" 5 + 11 ≤ R.locals) (hO : ∀ x as w h r, O x as w h = some r → mm_OK D tys B old L0 scr l R x as w h r) (hQ : mm_HQ D tys B old L0 scr p l e R s m args below meth c nL ρ0 w0 Q rs cc rt) (hQ0 : ∀ (pc : Nat) (L : List mm_V) (w : mm_W) (h : mm_H), rs = ((9, 0), w, h) → decode cc pc = .ok (.return_, 1) → mm_rt rt 6 = true → mm_Wc D tys B old L0 scr p l e R s m args below meth c nL ρ0 w0 Q pc L [] w h) (code : List (Nat × Instr)) (hc : mm_chk lt pool isI rt cc nL code = true) : ∀ d, mm_HL D tys B old L0 scr p l e R s m args below meth c nL ρ0 w0 Q rs lt (mm_LP O lt code d) := by
  intro d
  induction d with
  | zero => intro j L w h y H; cases H
  | succ d ihd =>
    intro j L w h y H0
    have H1 := mm_lim_some H0
    clear H0
    obtain ⟨n, H⟩ := H1
    obtain ⟨hc2, hnx⟩ := mm_from_chk (j := j) code hc
    induction n generalizing L w h with
    | zero => cases H
    | succ n ihn =>
      rw [mm_it] at H
      have key : ∃ out, mm_go (α := Option mm_Y) O (mm_LP O lt code d) (mm_lt2 lt) (mm_row lt j).2.1 none (fun r => some (.inl r)) (fun t L st w h => some (.inr (t, L, st, w, h))) (mm_from j code) 0 L [] w h = some out := by
        generalize mm_go (α := Option mm_Y) O (mm_LP O lt code d) (mm_lt2 lt) (mm_row lt j).2.1 none (fun r => some (.inl r)) (fun t L st w h => some (.inr (t, L, st, w, h))) (mm_from j code) 0 L [] w h = z at H
        cases z with
        | none => cases H
        | some out => exact ⟨out, rfl⟩
      obtain ⟨out, ho⟩ := key
      rw [ho] at H
      have g := mm_sg F KW hp hI hRm hR hO ihd hQ hQ0 (mm_from j code) hc2 0 L [] w h out ho
      rw [if_pos rfl] at g
      have hnx2 : mm_nx (mm_from j code) = (mm_row lt j).1 := by
        rcases hnx with q | q
        · rw [q, mm_go] at ho; cases ho
        · exact q
      rw [hnx2] at g
      cases out with
      | inl r =>
        cases H
        exact ⟨g, fun x hx => by cases hx⟩
      | inr x =>
        obtain ⟨t, L2, st2, w2, h2⟩ := x
        cases st2 with
        | cons _ _ => cases H
        | nil =>
          obtain ⟨hk, H⟩ := mm_ifT H rfl
          rcases mm_ifB H with ⟨b, H⟩ | ⟨b, H⟩
          · have b := Nat.eq_of_beq_eq_true b
            subst b
            obtain ⟨g1, g2⟩ := ihn _ _ _ H
            have g3 := g1.one (mm_Wc_nrm hk)
            exact ⟨⟨mm_le_tr g.1 g3.1, fun z => g.2 (g3.2 z)⟩, g2⟩
          · cases H
            refine ⟨⟨g.1, fun z => g.2 ⟨z.1, mm_Wc_nrm hk z.2⟩⟩, fun x hx => ?_⟩
            cases hx
            exact mm_okt_nrm _ _
end MM

