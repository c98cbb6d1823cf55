/-! A method's run is its contract. -/
theorem mm_pad_at : ∀ (n : Nat) (l : List mm_V) (i : Nat) (v : mm_V), (mm_pad n l)[i]? = some v → v.1 ≤ 3 → l[i]? = some v
  | 0, _, i, v, h, _ => by simp [mm_pad] at h
  | n + 1, [], 0, v, h, h3 => by
    simp only [mm_pad, List.getElem?_cons_zero, Option.some.injEq] at h
    subst h
    exact absurd h3 (by decide)
  | n + 1, [], i + 1, v, h, h3 => by
    simp only [mm_pad, List.getElem?_cons_succ] at h
    have := mm_pad_at n [] i v h h3
    simp at this
  | n + 1, x :: l, 0, v, h, h3 => by
    simpa only [mm_pad, List.getElem?_cons_zero] using h
  | n + 1, x :: l, i + 1, v, h, h3 => by
    simp only [mm_pad, List.getElem?_cons_succ] at h ⊢
    exact mm_pad_at n l i v h h3
theorem mm_loc_one (z : Int) (vs : List mm_V) : mm_loc ((1, z) :: vs) = (1, z) :: (8, 0) :: mm_loc vs := rfl
theorem mm_loc_two (t : Nat) (z : Int) (vs : List mm_V) (h : t ≠ 1) : mm_loc ((t, z) :: vs) = (t, z) :: mm_loc vs := by
  rw [mm_loc.eq_def]
  split
  · next e => cases e
  · next e => cases e; exact absurd rfl h
  · next e => cases e; rfl
theorem mm_loc_len {old : Int → Nat} {ρ : List Nat} : ∀ {as : List mm_V} {av : List Value}, mm_SR old ρ as av → mm_len (mm_loc as) = (lg_sl av).length
  | [], [], _ => rfl
  | [], _ :: _, h => h.elim
  | _ :: _, [], h => h.elim
  | (t, z) :: as, x :: av, h => by
    have ih := mm_loc_len h.2
    have e := mm_VR_cat h.1
    have hs : lg_sl (x :: av) = (if x.category = 2 then [Slot.val x, Slot.second] else [Slot.val x]) ++ lg_sl av := rfl
    by_cases q : t = 1
    · subst q
      rw [mm_loc_one, hs, if_pos (e.mpr rfl), List.length_append, ← ih]
      show Nat.succ (Nat.succ (mm_len (mm_loc as))) = 2 + mm_len (mm_loc as)
      omega
    · rw [mm_loc_two t z as q, hs, if_neg (fun c => q (e.mp c)), List.length_append, ← ih]
      show Nat.succ (mm_len (mm_loc as)) = 1 + mm_len (mm_loc as)
      omega
theorem mm_loc_at {old : Int → Nat} {ρ : List Nat} : ∀ {as : List mm_V} {av : List Value} (k : Nat), mm_SR old ρ as av → ∀ (i : Nat) (v : mm_V), (mm_loc as)[i]? = some v → v.1 ≤ 3 → ∃ x, (k + i, x) ∈ lv_args k av ∧ mm_VR old ρ v x
  | [], [], k, _, i, v, hi, _ => by simp [mm_loc] at hi
  | [], _ :: _, _, h, _, _, _, _ => h.elim
  | _ :: _, [], _, h, _, _, _, _ => h.elim
  | (t, z) :: as, x :: av, k, h, i, v, hi, h3 => by
    have e := mm_VR_cat h.1
    have hs : lv_args k (x :: av) = (k, x) :: lv_args (if x.category = 2 then k + 2 else k + 1) av := rfl
    by_cases q : t = 1
    · subst q
      rw [mm_loc_one] at hi
      rw [hs, if_pos (e.mpr rfl)]
      match i, hi with
      | 0, hi =>
        simp only [List.getElem?_cons_zero, Option.some.injEq] at hi
        subst hi
        exact ⟨x, List.mem_cons_self, h.1⟩
      | 1, hi =>
        simp only [List.getElem?_cons_succ, List.getElem?_cons_zero, Option.some.injEq] at hi
        subst hi
        exact absurd h3 (by decide)
      | i + 2, hi =>
        simp only [List.getElem?_cons_succ] at hi
        obtain ⟨y, h1, h2⟩ := mm_loc_at (k + 2) h.2 i v hi h3
        exact ⟨y, List.mem_cons_of_mem _ (by rw [show k + (i + 2) = k + 2 + i by omega]; exact h1), h2⟩
    · rw [mm_loc_two t z as q] at hi
      rw [hs, if_neg (fun c => q (e.mp c))]
      match i, hi with
      | 0, hi =>
        simp only [List.getElem?_cons_zero, Option.some.injEq] at hi
        subst hi
        exact ⟨x, List.mem_cons_self, h.1⟩
      | i + 1, hi =>
        simp only [List.getElem?_cons_succ] at hi
        obtain ⟨y, h1, h2⟩ := mm_loc_at (k + 1) h.2 i v hi h3
        exact ⟨y, List.mem_cons_of_mem _ (by rw [show k + (i + 1) = k + 1 + i by omega]; exact h1), h2⟩
theorem mm_LR_in {old : Int → Nat} {ρ : List Nat} {as : List mm_V} {av : List Value} {nL : Nat} (h : mm_SR old ρ as av) (hn : mm_len (mm_loc as) ≤ nL) : mm_LR old ρ nL (mm_pad nL (mm_loc as)) ((lg_sl av ++ List.replicate (nL - (lg_sl av).length) Slot.unset).toArray) := by
  rw [mm_loc_len h] at hn
  have hl := lv_entry av hn
  refine ⟨hl.1, hl.2.1, fun i v hi hv => ?_⟩
  obtain ⟨x, h1, h2⟩ := mm_loc_at 0 h i v (mm_pad_at _ _ i v hi hv) hv
  rw [Nat.zero_add] at h1
  exact ⟨x, hl.2.2 (i, x) h1, h2⟩
theorem mm_rt0 {rt : Option FieldType} (h : mm_rt rt 0 = true) : rt = some .int := by
  cases rt with
  | none => cases h
  | some ty => cases ty <;> first | rfl | cases h
theorem mm_rt1 {rt : Option FieldType} (h : mm_rt rt 1 = true) : rt = some .boolean := by
  cases rt with
  | none => cases h
  | some ty => cases ty <;> first | rfl | cases h
theorem mm_rt2 {rt : Option FieldType} (h : mm_rt rt 2 = true) : rt = some .char := by
  cases rt with
  | none => cases h
  | some ty => cases ty <;> first | rfl | cases h
theorem mm_rt3 {rt : Option FieldType} (h : mm_rt rt 3 = true) : rt = some .byte := by
  cases rt with
  | none => cases h
  | some ty => cases ty <;> first | rfl | cases h
theorem mm_rt4 {rt : Option FieldType} (h : mm_rt rt 4 = true) : rt = some .long := by
  cases rt with
  | none => cases h
  | some ty => cases ty <;> first | rfl | cases h
theorem mm_rt5 {rt : Option FieldType} (h : mm_rt rt 5 = true) : ∃ ty, rt = some ty ∧ ((∃ n, ty = .object n) ∨ ∃ t, ty = .array t) := by
  cases rt with
  | none => cases h
  | some ty => cases ty <;> first | exact ⟨_, rfl, Or.inl ⟨_, rfl⟩⟩ | exact ⟨_, rfl, Or.inr ⟨_, rfl⟩⟩ | cases h
theorem mm_rt6 {rt : Option FieldType} (h : mm_rt rt 6 = true) : rt = none := by
  cases rt with
  | none => rfl
  | some ty => cases ty <;> cases h
theorem mm_nar_c {z : Int} (h0 : 0 ≤ z) (h1 : z < 65536) : narrow .char (.int (Int32.ofInt z)) = .int (Int32.ofInt z) := by
  show Value.int (Int32.ofInt z).toUInt32.toUInt16.toUInt32.toInt32 = _
  congr 1
  have e := mm_char (x := z) ⟨by omega, by omega⟩
  unfold mC6 at e
  rw [show Int.emod z 65536 = z from Int.emod_eq_of_lt h0 h1] at e
  rw [UInt32.toUInt32_toUInt16]
  exact e
theorem mm_nar_b {z : Int} (h0 : -128 ≤ z) (h1 : z < 128) : narrow .byte (.int (Int32.ofInt z)) = .int (Int32.ofInt z) := by
  show Value.int (Int32.ofInt z).toInt8.toInt32 = _
  congr 1
  rw [← Int32.toInt_inj, Int8.toInt_toInt32, Int32.toInt_toInt8, i32_o ⟨by omega, by omega⟩]
  exact (Int.bmod_eq_iff (by decide)).mpr (by omega)
theorem mm_nat_room : nativeFrameWords "java/lang/System" "arraycopy" 5 + 11 ≤ 96 := by decide +kernel
section MM
variable {D : va_G} {tys : List (ClassId × FieldType)} {B : Nat} {old : Int → Nat} {L0 : Nat} {scr : Nat → Int32}
variable {p : Program} {l : Launch} {e : Env} {R : Room} {s : State} {m : MethodId} {args : Array Value} {below : List Frame} {meth : Method} {c : Code} {nL : Nat} {ρ0 : List Nat} {w0 : mm_W} {Q : State → Prop}
variable {own : String} {cc : ByteArray} {mn : String} {rt : Option FieldType} {pc : Nat} {L st : List mm_V} {w : mm_W} {h : mm_H} {nx : Nat} {tx : String}

theorem mm_met {y : MethodName} {lt : List mm_T} {pool : List (Nat × Instr)} {isI : Bool} {O : mm_O} {code : List (Nat × Instr)} {as : List mm_V} {r : mm_R} {d : Nat} (KW : mm_KW) (hy : plainName y.cls = true) (hp : ∀ q ∈ pool, mm_PK y.cls q.1 q.2) (hI : isI = true → y.name = "<init>") (hc : mm_chk lt pool isI rt cc nL code = true) (h0 : mm_nx code = 0) (hd : 1 ≤ d) (hO1 : ∀ x as w h r, O x as w h = some r → mm_le w r.2.1) (hO : ∀ mc ms x as w h r, O x as w h = some r → mm_OK D tys B old L0 scr l (mm_rm d mc ms) x as w h r) (H : mm_run O (code, nL, lt) as w h = some r) : mm_Met D tys B old L0 scr l d y cc nL rt as w h r := by
  have hle := mm_run_le hO1 H
  obtain ⟨hn, H⟩ := mm_run_go H
  intro ρ
  refine Met.ofW (cc := cc) (maxL := nL) (ret := rt) hy rfl ?_
  intro p e s m args below meth c s₁ Bd hml hv
  obtain ⟨av, rfl, hst, hE, hHR⟩ := hv
  have hts := atoms_spec (ws := Jvm.Cond.code y cc nL rt :: lw_g) Bd.pre
  have hown : s.vm.findClass y.cls = some m.cls := findClass_of_methodNamed Bd.named
  have hin : meth.name = y.name := (name_of_methodNamed Bd.named Bd.method).1
  have F : mm_Fr D tys B old L0 scr p s m av.toArray meth c nL y.cls cc y.name rt := ⟨Bd.exec, Bd.bytes, hml, hown, fun w hw => hts w (List.mem_cons_of_mem _ hw), hE, hin, Bd.returns, Bd.notSynchronized⟩
  have h96 : 96 ≤ 96 * d := by omega
  have hfin : ∀ (ρ2 : List Nat) (v : mm_V) (wr : mm_W) (hr : mm_H) (H2 : Heap) (locs : List Loc) (o : Outcome), r = (v, wr, hr) → mm_Px ρ w ρ2 wr → mm_HR D tys B old L0 scr ρ2 wr hr H2 → va_S (mm_A B) s.heap H2 locs → mm_out old ρ2 v o → ∀ t : State, t.heap = H2 → s.WarmedH t.vm → mm_CQ D tys B old L0 scr ρ r av.toArray s o t := by
    rintro ρ2 v wr hr H2 locs o rfl ⟨⟨ρx, rfl⟩, -⟩ hH hS ho t ht -
    exact ⟨⟨ρx, ho, by rw [ht]; exact hH⟩, hS.F ht⟩
  have hQ : mm_HQ D tys B old L0 scr p l e (mm_rm d (r.2.1.2.1 - w.2.1).toNat (r.2.1.2.2 - w.2.2).toNat) s m av.toArray below meth c nL ρ w (MQ below (mm_CQ D tys B old L0 scr ρ r) av.toArray s (r.2.1.2.1 - w.2.1).toNat (r.2.1.2.2 - w.2.2).toNat (mm_A B)) r cc rt := by
    intro pc L v w2 h2 hr hk ρ2 H2 locs ls sv hρ hH hS hL hst2
    obtain ⟨x, sv, rfl, hx, hst3⟩ := mm_SR_cons hst2
    have hst3 := mm_SR_nil hst3
    subst hst3
    have hf := fun (o : Outcome) (ho : mm_out old ρ2 v o) => hfin ρ2 v w2 h2 H2 locs o hr hρ hH hS ho
    subst hr
    rcases hk with ⟨hdg, hv0, hk⟩ | ⟨hdg, hv0, hk⟩ | ⟨hdg, hv0, hk⟩
    · obtain ⟨t, z⟩ := v
      have hv0 : t = 0 := hv0
      subst hv0
      obtain ⟨hz, rfl⟩ := hx
      have ho := hf (.returned (some (.int (Int32.ofInt z)))) (Or.inr ⟨Nat.le_of_ble_eq_true rfl, _, rfl, hz, rfl⟩)
      rcases hk with hk | ⟨hk, hz2⟩ | ⟨hk, hz2⟩ | ⟨hk, hz2⟩
      · have e1 := mm_rt0 hk
        exact W.iret F.1 F.2.1 (Bd.returns.trans e1) ho hS.2.2 hdg Bd.notSynchronized
      · have e1 := mm_rt1 hk
        refine W.zret F.1 F.2.1 (Bd.returns.trans e1) ?_ ho hS.2.2 hdg Bd.notSynchronized
        have hz2 : z = 0 ∨ z = 1 := hz2
        rcases hz2 with rfl | rfl <;> rfl
      · have e1 := mm_rt2 hk
        refine W.zret F.1 F.2.1 (Bd.returns.trans e1) ?_ ho hS.2.2 hdg Bd.notSynchronized
        exact mm_nar_c hz2.1 hz2.2
      · have e1 := mm_rt3 hk
        refine W.zret F.1 F.2.1 (Bd.returns.trans e1) ?_ ho hS.2.2 hdg Bd.notSynchronized
        exact mm_nar_b hz2.1 hz2.2
    · obtain ⟨t, z⟩ := v
      have hv0 : t = 1 := hv0
      subst hv0
      obtain ⟨hz, rfl⟩ := hx
      have ho := hf (.returned (some (.long (Int64.ofInt z)))) (Or.inr ⟨Nat.le_of_ble_eq_true rfl, _, rfl, hz, rfl⟩)
      have e1 := mm_rt4 hk
      exact W.lret F.1 F.2.1 (Bd.returns.trans e1) ho hS.2.2 hdg Bd.notSynchronized
    · obtain ⟨t, z⟩ := v
      have hv0 : t = 2 := hv0
      subst hv0
      obtain ⟨hz, rfl⟩ := hx
      have ho := hf (.returned (some (va_rf (mm_adr old ρ2 z)))) (Or.inr ⟨Nat.le_of_ble_eq_true rfl, _, rfl, hz, rfl⟩)
      have e1 := mm_rt5 hk
      obtain ⟨ty, e1, e2⟩ := e1
      refine W.aret F.1 F.2.1 (Bd.returns.trans e1) e2 ?_ ho hS.2.2 hdg Bd.notSynchronized
      show va_rf (mm_adr old ρ2 z) = .null ∨ ∃ a, va_rf (mm_adr old ρ2 z) = .ref a
      cases mm_adr old ρ2 z with
      | none => exact Or.inl rfl
      | some a => exact Or.inr ⟨a, rfl⟩
  have hQ0 : ∀ (pc : Nat) (L : List mm_V) (w2 : mm_W) (h2 : mm_H), r = ((9, 0), w2, h2) → decode cc pc = .ok (.return_, 1) → mm_rt rt 6 = true → mm_Wc D tys B old L0 scr p l e (mm_rm d (r.2.1.2.1 - w.2.1).toNat (r.2.1.2.2 - w.2.2).toNat) s m av.toArray below meth c nL ρ w (MQ below (mm_CQ D tys B old L0 scr ρ r) av.toArray s (r.2.1.2.1 - w.2.1).toNat (r.2.1.2.2 - w.2.2).toNat (mm_A B)) pc L [] w2 h2 := by
    intro pc L w2 h2 hr hdg hk ρ2 H2 locs ls sv hρ hH hS hL hst2
    have hst3 := mm_SR_nil hst2
    subst hst3
    have ho := hfin ρ2 (9, 0) w2 h2 H2 locs (.returned none) hr hρ hH hS (Or.inl ⟨rfl, rfl⟩)
    subst hr
    have e1 := mm_rt6 hk
    exact W.vret F.1 F.2.1 (Bd.returns.trans e1) ho hS.2.2 hdg Bd.notSynchronized
  have hRm : mm_Rm (mm_rm d (r.2.1.2.1 - w.2.1).toNat (r.2.1.2.2 - w.2.2).toNat) ρ w r.2.1 := ⟨Nat.le_refl _, Nat.le_refl _⟩
  have hR : 1 ≤ (mm_rm d (r.2.1.2.1 - w.2.1).toNat (r.2.1.2.2 - w.2.2).toNat).frames ∧ 24 + 13 ≤ (mm_rm d (r.2.1.2.1 - w.2.1).toNat (r.2.1.2.2 - w.2.2).toNat).locals ∧ nativeFrameWords "java/lang/System" "arraycopy" 5 + 11 ≤ (mm_rm d (r.2.1.2.1 - w.2.1).toNat (r.2.1.2.2 - w.2.2).toNat).locals := ⟨hd, Nat.le_trans (by decide) h96, Nat.le_trans mm_nat_room h96⟩
  have hlp := mm_slp F KW hp hI hRm hR (hO _ _) hQ hQ0 code hc 6
  have g := mm_sg F KW hp hI hRm hR (hO _ _) hlp hQ hQ0 code hc 0 _ [] w h _ H
  rw [if_pos rfl, h0] at g
  have k := (g.2 rfl).2 ρ s.heap [] _ [] ⟨⟨[], by simp⟩, Int.le_refl _, Int.le_refl _⟩ hHR va_S.rf (mm_LR_in hst hn) trivial
  rw [lg_entry_eq]
  have z1 : (w.2.1 - w.2.1).toNat = 0 := by omega
  have z2 : (w.2.2 - w.2.2).toNat = 0 := by omega
  rw [z1, z2] at k
  exact k
end MM

