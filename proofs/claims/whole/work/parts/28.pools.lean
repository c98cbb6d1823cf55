/-! Pools: what a class's constant pool says, by the words' positions. -/
theorem mm_cf {ci : Nat} {C : String} {T : u_T} {N : Nat} (h : mm_cls[ci]? = some (C, T, N)) : ∃ ty : Nat → FieldType, N = mm_nf (ci + 1) ∧ (∀ w ∈ u_ws C T N, w ∈ lw_g) ∧ (∀ j, j < N → parseFieldDescriptor (T j).2.2.1 = some (ty j)) ∧ (∀ a, a < N → ∀ b, b < N → a ≠ b → (T a).2.1 ≠ (T b).2.1) := by
  have hl := mm_cls_lt h
  match ci, h, hl with
  | 0, h, _ => cases h; exact ⟨mm_Y0, rfl, mm_I0, mm_Y0_ok, mm_N0⟩
  | 1, h, _ => cases h; exact ⟨mm_Y1, rfl, mm_I1, mm_Y1_ok, mm_N1⟩
  | 2, h, _ => cases h; exact ⟨mm_Y2, rfl, mm_I2, mm_Y2_ok, mm_N2⟩
  | 3, h, _ => cases h; exact ⟨mm_Y3, rfl, mm_I3, mm_Y3_ok, mm_N3⟩
  | 4, h, _ => cases h; exact ⟨mm_Y4, rfl, mm_I4, mm_Y4_ok, mm_N4⟩
  | 5, h, _ => cases h; exact ⟨mm_Y5, rfl, mm_I5, mm_Y5_ok, mm_N5⟩
  | 6, h, _ => cases h; exact ⟨mm_Y6, rfl, mm_I6, mm_Y6_ok, mm_N6⟩
  | 7, h, _ => cases h; exact ⟨mm_Y7, rfl, mm_I7, mm_Y7_ok, mm_N7⟩
  | 8, h, _ => cases h; exact ⟨mm_Y8, rfl, mm_I8, mm_Y8_ok, mm_N8⟩
  | 9, h, _ => cases h; exact ⟨mm_Y9, rfl, mm_I9, mm_Y9_ok, mm_N9⟩
  | 10, h, _ => cases h; exact ⟨mm_Y10, rfl, mm_I10, mm_Y10_ok, mm_N10⟩
  | 11, h, _ => cases h; exact ⟨mm_Y11, rfl, mm_I11, mm_Y11_ok, mm_N11⟩
  | 12, h, _ => cases h; exact ⟨mm_Y12, rfl, mm_I12, mm_Y12_ok, mm_N12⟩
  | n + 13, _, hl => exact absurd hl (by omega)
def mm_hw (p : Nat) (w : Jvm.Cond) : Bool := decide (lw_tbl[p]? = some w) && goodWord w
theorem mm_hw_g {p : Nat} {w : Jvm.Cond} (h : mm_hw p w = true) : w ∈ lw_g := by
  obtain ⟨h1, h2⟩ := mm_an h
  exact List.mem_filter.mpr ⟨List.mem_of_getElem? (of_decide_eq_true h1), h2⟩
theorem mm_tyq {t : Nat} {d : String} {ty : FieldType} (ht : mm_tyok t d = true) (hd : parseFieldDescriptor d = some ty) : (t = 0 ∧ (ty = .int ∨ ty = .boolean)) ∨ (t = 1 ∧ ty = .long) ∨ (t = 2 ∧ ((∃ n, ty = .object n) ∨ ∃ n, ty = .array n)) := by
  unfold mm_tyok at ht
  split at ht
  · rcases (Bool.or_eq_true _ _).mp ht with q | q
    · have q := eq_of_beq q
      subst q
      rw [show parseFieldDescriptor "I" = some .int by decide +kernel] at hd
      exact Or.inl ⟨rfl, Or.inl (Option.some.inj hd).symm⟩
    · have q := eq_of_beq q
      subst q
      rw [show parseFieldDescriptor "Z" = some .boolean by decide +kernel] at hd
      exact Or.inl ⟨rfl, Or.inr (Option.some.inj hd).symm⟩
  · have q := eq_of_beq ht
    subst q
    rw [show parseFieldDescriptor "J" = some .long by decide +kernel] at hd
    exact Or.inr (Or.inl ⟨rfl, (Option.some.inj hd).symm⟩)
  · rw [hd] at ht
    split at ht
    · next q =>
      cases q
      exact Or.inr (Or.inr ⟨rfl, Or.inl ⟨_, rfl⟩⟩)
    · next q =>
      cases q
      exact Or.inr (Or.inr ⟨rfl, Or.inr ⟨_, rfl⟩⟩)
    · cases ht
  · cases ht
def mm_pf (own : String) (i x p : Nat) (f : String × String × String × Bool → Bool) : Bool := match Nat.div x 256 with
  | 0 => false
  | ci + 1 => match mm_cls[ci]? with
    | none => false
    | some (C, T, N) => decide (Nat.mod x 4 = mm_ft (ci + 1) (Nat.mod (Nat.div x 4) 64)) && (decide (Nat.mod (Nat.div x 4) 64 < N) && (mm_hw p (.fieldLink own i C (T (Nat.mod (Nat.div x 4) 64)).2.1 (T (Nat.mod (Nat.div x 4) 64)).2.2.1) && (decide ((T (Nat.mod (Nat.div x 4) 64)).1 = C) && f (T (Nat.mod (Nat.div x 4) 64)))))
theorem mm_pf_g {own : String} {i x p : Nat} {f : String × String × String × Bool → Bool} (h : mm_pf own i x p f = true) : ∃ ci k C T N, Nat.div x 256 = ci + 1 ∧ Nat.mod (Nat.div x 4) 64 = k ∧ Nat.mod x 4 = mm_ft (ci + 1) k ∧ mm_fOK own i ci k ∧ mm_cls[ci]? = some (C, T, N) ∧ f (T k) = true := by
  unfold mm_pf at h
  split at h
  · cases h
  · next ci e =>
    split at h
    · cases h
    · next C T N e2 =>
      obtain ⟨h1, h⟩ := mm_an h
      obtain ⟨h2, h⟩ := mm_an h
      obtain ⟨h3, h⟩ := mm_an h
      obtain ⟨h4, h5⟩ := mm_an h
      obtain ⟨ty, g1, g2, g3, g4⟩ := mm_cf e2
      exact ⟨ci, _, C, T, N, e, rfl, of_decide_eq_true h1, ⟨C, T, N, ty, e2, g1, of_decide_eq_true h2, g2, g3, g4, mm_hw_g h3, of_decide_eq_true h4, mm_tyq (mm_ty_at e2 (Nat.lt_of_lt_of_eq (of_decide_eq_true h2) g1)) (g3 _ (of_decide_eq_true h2))⟩, e2, h5⟩
def mm_hn (own : String) (i p : Nat) (y : MethodName) : Bool := match lw_tbl[p]? with
  | some (.methodLinkNest o j z _) => decide (o = own ∧ j = i ∧ z = y)
  | _ => false
theorem mm_hn_g {own : String} {i p : Nat} {y : MethodName} (h : mm_hn own i p y = true) : ∃ host, Jvm.Cond.methodLinkNest own i y host ∈ lw_tbl := by
  unfold mm_hn at h
  split at h
  · next o j z host e =>
    obtain ⟨rfl, rfl, rfl⟩ := of_decide_eq_true h
    exact ⟨host, List.mem_of_getElem? e⟩
  · cases h
def mm_hc (own : String) (i kd : Nat) (y : MethodName) (n p0 p1 p2 p3 : Nat) : Bool := mm_hw p0 (.initialized y.cls) && (decide (y.cls ≠ "java/lang/invoke/MethodHandle" ∧ y.cls ≠ "java/lang/invoke/VarHandle") && ((mm_hw p1 (.methodLink own i y) || mm_hn own i p1 y) && (match kd, n with
  | 0, n => mm_hw p2 (.static y) && decide ((parseMethodDescriptor y.desc).map (fun d => d.parameters.length) = some n)
  | 1, n1 + 1 => mm_hw p2 (.instanceMethod y) && (mm_hw p3 (.selects y.cls y y) && decide ((parseMethodDescriptor y.desc).map (fun d => d.parameters.length) = some n1))
  | 2, n1 + 1 => decide (y.name = "<init>") && (mm_hw p2 (.instanceMethod y) && decide ((parseMethodDescriptor y.desc).map (fun d => d.parameters.length) = some n1))
  | _, _ => false)))
theorem mm_hc_g {own : String} {i kd : Nat} {y : MethodName} {n p0 p1 p2 p3 : Nat} (h : mm_hc own i kd y n p0 p1 p2 p3 = true) : mm_cOK own i kd y n := by
  unfold mm_hc at h
  obtain ⟨h1, h⟩ := mm_an h
  obtain ⟨h2, h⟩ := mm_an h
  obtain ⟨h3, h⟩ := mm_an h
  refine ⟨mm_hw_g h1, of_decide_eq_true h2, ?_, ?_⟩
  · rcases (Bool.or_eq_true _ _).mp h3 with q | q
    · exact Or.inl (mm_hw_g q)
    · exact Or.inr (mm_hn_g q)
  · split at h
    · obtain ⟨a, b⟩ := mm_an h
      exact Or.inl ⟨rfl, mm_hw_g a, of_decide_eq_true b⟩
    · obtain ⟨a, b⟩ := mm_an h
      obtain ⟨b, c⟩ := mm_an b
      exact Or.inr (Or.inl ⟨rfl, mm_hw_g a, mm_hw_g b, _, rfl, of_decide_eq_true c⟩)
    · obtain ⟨a, b⟩ := mm_an h
      obtain ⟨b, c⟩ := mm_an b
      exact Or.inr (Or.inr ⟨rfl, of_decide_eq_true a, mm_hw_g b, _, rfl, of_decide_eq_true c⟩)
    · cases h
def mm_rc (y : MethodName) (k : Nat) : Bool := (match k with
  | 0 => false
  | ci + 1 => match mm_cls[ci]? with
    | some q => decide (q.1 = y.cls)
    | none => false) || (decide (y.cls = "java/lang/String") && decide (k = 14))
theorem mm_rc_g {y : MethodName} {k : Nat} (h : mm_rc y k = true) : (∃ ci, ∃ q : vw_C, mm_cls[ci]? = some q ∧ q.1 = y.cls ∧ k = ci + 1) ∨ (y.cls = "java/lang/String" ∧ k = 14) := by
  unfold mm_rc at h
  rcases (Bool.or_eq_true _ _).mp h with h | h
  · split at h
    · cases h
    · next ci hO =>
      split at h
      · next q e => exact Or.inl ⟨ci, q, e, of_decide_eq_true h, rfl⟩
      · cases h
  · obtain ⟨a, b⟩ := mm_an h
    exact Or.inr ⟨of_decide_eq_true a, of_decide_eq_true b⟩
def mm_pe (own : String) (i : Nat) (ps : List Nat) : Instr → Bool
  | .iconst n => mm_hw (mm_nth 0 0 ps) (.constant own i (Int32.ofInt n))
  | .jsr n => mm_hw (mm_nth 0 0 ps) (.constantLong own i (Int64.ofInt n))
  | .sipush n => decide (mm_nth 0 0 ps < 12) && (decide (n = -(10 + 2 * ((mm_nth 0 0 ps : Nat) : Int))) && decide ((mm_nth ("", 0, "") (mm_nth 0 0 ps) mm_str).1 = own ∧ (mm_nth ("", 0, "") (mm_nth 0 0 ps) mm_str).2.1 = i))
  | .nop => mm_hw (mm_nth 0 0 ps) (.fieldLink own i "java/lang/String" "COMPACT_STRINGS" "Z")
  | .pop2 => mm_hw (mm_nth 0 0 ps) (.fieldLink own i "jdk/internal/util/Preconditions" "SIOOBE_FORMATTER" "Ljava/util/function/BiFunction;")
  | .getfield x => mm_pf own i x (mm_nth 0 0 ps) (fun _ => true) || ((Nat.beq x 3586 && mm_hw (mm_nth 0 0 ps) (.fieldLink own i "java/lang/String" "value" "[B")) || (Nat.beq x 3588 && mm_hw (mm_nth 0 0 ps) (.fieldLink own i "java/lang/String" "coder" "B")))
  | .putfield x => mm_pf own i x (mm_nth 0 0 ps) (fun q => decide (q.2.2.2 = false ∧ q.2.2.1 ≠ "Z"))
  | .ret x => mm_pf own i x (mm_nth 0 0 ps) (fun q => decide (q.2.2.2 = true ∧ q.1 = own ∧ q.2.2.1 ≠ "Z"))
  | .putstatic x => decide (Nat.mod x 4 = 0) && mm_pf own i x (mm_nth 0 0 ps) (fun q => decide (q.2.2.2 = false ∧ q.2.2.1 = "Z"))
  | .anewarray k => (Nat.beq k 107 && mm_hw (mm_nth 0 0 ps) (.classLink own i "FewRectangles$Rule")) || ((Nat.beq k 109 && mm_hw (mm_nth 0 0 ps) (.classLink own i "FewRectangles$Sheet")) || (Nat.beq k 150 && mm_hw (mm_nth 0 0 ps) (.classLink own i (FieldType.array .int).toString)))
  | .daload => mm_hw (mm_nth 0 0 ps) (.methodLink own i arraycopyName)
  | .dadd => mm_hw (mm_nth 0 0 ps) (.methodLink own i Lib.Math.max.name)
  | .dsub => mm_hw (mm_nth 0 0 ps) (.methodLink own i Lib.Math.min.name)
  | .pop => mm_hw (mm_nth 0 0 ps) (.methodLink own i Lib.objectInit)
  | .invokestatic x => mm_hc own i 0 (mm_inf (Nat.div x 65536)).1 (Nat.mod (Nat.div x 4096) 16) (mm_nth 0 0 ps) (mm_nth 0 1 ps) (mm_nth 0 2 ps) (mm_nth 0 3 ps)
  | .invokevirtual x => mm_hc own i 1 (mm_inf (Nat.div x 65536)).1 (Nat.mod (Nat.div x 4096) 16) (mm_nth 0 0 ps) (mm_nth 0 1 ps) (mm_nth 0 2 ps) (mm_nth 0 3 ps) && mm_rc (mm_inf (Nat.div x 65536)).1 (Nat.mod x 256)
  | .invokespecial x => mm_hc own i 2 (mm_inf (Nat.div x 65536)).1 (Nat.mod (Nat.div x 4096) 16) (mm_nth 0 0 ps) (mm_nth 0 1 ps) (mm_nth 0 2 ps) (mm_nth 0 3 ps) && (decide ((mm_inf (Nat.div x 65536)).2.2.2 = none) && mm_rc (mm_inf (Nat.div x 65536)).1 (Nat.mod x 256))
  | .new x => (match Nat.div x 64 with
    | 0 => false
    | ci + 1 => match mm_cls[ci]? with
      | some q => decide (Nat.mod x 64 = mm_nf (ci + 1)) && (mm_hw (mm_nth 0 0 ps) (.classLink own i q.1) && (mm_hw (mm_nth 0 1 ps) (.instantiable q.1 q.2.2) && mm_hw (mm_nth 0 2 ps) (.initialized q.1)))
      | none => false)
  | _ => false
theorem mm_def0 {t : Nat} {ty : FieldType} : ((t = 0 ∧ (ty = .int ∨ ty = .boolean)) ∨ (t = 1 ∧ ty = .long) ∨ (t = 2 ∧ ((∃ n, ty = .object n) ∨ ∃ n, ty = .array n))) → t ≤ 2 ∧ defaultValue ty = (match t with | 0 => .int 0 | 1 => .long 0 | _ => .null) := by
  intro h
  rcases h with ⟨rfl, rfl | rfl⟩ | ⟨rfl, rfl⟩ | ⟨rfl, ⟨n, rfl⟩ | ⟨n, rfl⟩⟩ <;> exact ⟨by decide, rfl⟩
theorem mm_pe_g {own : String} {i : Nat} {ps : List Nat} {x : Instr} (h : mm_pe own i ps x = true) : mm_PK own i x := by
  unfold mm_pe at h
  split at h
  · exact mm_hw_g h
  · exact mm_hw_g h
  · obtain ⟨h1, h⟩ := mm_an h
    obtain ⟨h2, h3⟩ := mm_an h
    obtain ⟨h3, h4⟩ := of_decide_eq_true h3
    exact ⟨mm_nth 0 0 ps, (mm_nth ("", 0, "") (mm_nth 0 0 ps) mm_str).2.2, of_decide_eq_true h1, of_decide_eq_true h2, Prod.ext h3 (Prod.ext h4 rfl)⟩
  · exact mm_hw_g h
  · exact mm_hw_g h
  · rcases (Bool.or_eq_true _ _).mp h with h | h
    · obtain ⟨ci, k, C, T, N, g1, g2, g3, g4, -, -⟩ := mm_pf_g h
      exact Or.inl ⟨ci, k, g1, g2, g3, g4⟩
    rcases (Bool.or_eq_true _ _).mp h with h | h
    · obtain ⟨a, b⟩ := mm_an h
      exact Or.inr (Or.inl ⟨Nat.eq_of_beq_eq_true a, mm_hw_g b⟩)
    · obtain ⟨a, b⟩ := mm_an h
      exact Or.inr (Or.inr ⟨Nat.eq_of_beq_eq_true a, mm_hw_g b⟩)
  · obtain ⟨ci, k, C, T, N, g1, g2, g3, g4, g5, g6⟩ := mm_pf_g h
    obtain ⟨g6, g7⟩ := of_decide_eq_true g6
    exact ⟨ci, k, C, T, N, g1, g2, g3, g4, g5, g6, g7⟩
  · obtain ⟨ci, k, C, T, N, g1, g2, g3, g4, g5, g6⟩ := mm_pf_g h
    obtain ⟨g6, g7, g8⟩ := of_decide_eq_true g6
    exact ⟨ci, k, C, T, N, g1, g2, g3, g4, g5, g6, g7, g8⟩
  · obtain ⟨h0, h⟩ := mm_an h
    obtain ⟨ci, k, C, T, N, g1, g2, g3, g4, g5, g6⟩ := mm_pf_g h
    obtain ⟨g6, g7⟩ := of_decide_eq_true g6
    exact ⟨ci, k, C, T, N, g1, g2, g3.symm.trans (of_decide_eq_true h0), g4, g5, g6, g7⟩
  · rcases (Bool.or_eq_true _ _).mp h with h | h
    · obtain ⟨a, b⟩ := mm_an h
      exact Or.inl ⟨Nat.eq_of_beq_eq_true a, mm_hw_g b⟩
    rcases (Bool.or_eq_true _ _).mp h with h | h
    · obtain ⟨a, b⟩ := mm_an h
      exact Or.inr (Or.inl ⟨Nat.eq_of_beq_eq_true a, mm_hw_g b⟩)
    · obtain ⟨a, b⟩ := mm_an h
      exact Or.inr (Or.inr ⟨Nat.eq_of_beq_eq_true a, mm_hw_g b⟩)
  · exact mm_hw_g h
  · exact mm_hw_g h
  · exact mm_hw_g h
  · exact mm_hw_g h
  · exact mm_hc_g h
  · obtain ⟨a, b⟩ := mm_an h
    exact ⟨mm_hc_g a, mm_rc_g b⟩
  · obtain ⟨a, b⟩ := mm_an h
    obtain ⟨b, c⟩ := mm_an b
    exact ⟨mm_hc_g a, of_decide_eq_true b, mm_rc_g c⟩
  · split at h
    · cases h
    · next ci e =>
      split at h
      · next q e2 =>
        obtain ⟨C, T, N⟩ := q
        obtain ⟨h1, h⟩ := mm_an h
        obtain ⟨h2, h⟩ := mm_an h
        obtain ⟨h3, h4⟩ := mm_an h
        obtain ⟨ty, g1, g2, g3, g4⟩ := mm_cf e2
        exact ⟨ci, e, of_decide_eq_true h1, C, T, N, ty, e2, g1, g2, g3, mm_hw_g h2, mm_hw_g h3, mm_hw_g h4, fun j hj => mm_def0 (mm_tyq (mm_ty_at e2 (Nat.lt_of_lt_of_eq hj g1)) (g3 j hj))⟩
      · cases h
  · cases h
theorem mm_pool_g {own : String} {pool : List (Nat × Instr)} (hints : List (List Nat)) (h : (pool.zip hints).all (fun q => mm_pe own q.1.1 q.2 q.1.2) = true) (hl : pool.length = hints.length) : ∀ q ∈ pool, mm_PK own q.1 q.2 := by
  intro q hq
  obtain ⟨k, hk, rfl⟩ := List.getElem_of_mem hq
  have := List.all_eq_true.mp h (pool[k], hints[k]'(by omega)) (by
    rw [← List.getElem_zip (h := by simp; omega)]
    exact List.getElem_mem _)
  exact mm_pe_g this
