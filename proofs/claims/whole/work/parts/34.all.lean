/-! All methods, by depth. Printed by wip/whole/gen/part34.py. -/
section K2
variable {p : Program} {l : Launch} {e : Env}
theorem Met.ofWF {l : Launch} {y : MethodName} {ws ws' : List Cond} {rm : Room} {Pc : Array Value → State → Prop} {Qc : Array Value → State → Outcome → State → Prop} {mc ms : Nat} {free : Addr → Prop} {cc : ByteArray} {maxL : Nat} {ret : Option FieldType}
    (hy : plainFor y = true) (hw : ws = Cond.code y cc maxL ret :: ws')
    (body : ∀ p e s m args below meth c s₁, BodyLoose p l y (headSpec ws rm) cc maxL ret e s m args below meth c s₁ → c.maxLocals = maxL → Pc args s →
      W p l e (headSpec ws rm).room s m args below meth c s.heap [] 0 0 (MQ below Qc args s mc ms free) (entryFrame m args maxL)) : Met l y ws rm Pc Qc mc ms free := by
  refine MetFree.of_bodySF (code := cc) (maxLocals := maxL) (ret := ret) hy ?_ ?_
  · intro args s m h hn
    obtain ⟨meth, c, h1, h2, h3, h4, h5, h6, -, -⟩ := Cond.code_spec hn (atoms_spec (ws := ws) h _ (by rw [hw]; exact List.mem_cons_self))
    exact ⟨meth, c, h1, h2, h3, h4, h5, h6⟩
  · intro p e s m args below meth c s₁ B hml hP _
    have hh0 : s₁.heap = s.heap := by rw [B.state]; rfl
    obtain ⟨t, a1, o, b1, b2, b3⟩ := body p e s m args below meth c s₁ B hml hP s₁ hh0 (Stand.of_body B)
    exact ⟨t, o, a1, b1, b2, ⟨b3.1, b3.2⟩⟩
end K2
section MM
variable {D : va_G} {tys : List (ClassId × FieldType)} {B : Nat} {old : Int → Nat} {L0 : Nat} {scr : Nat → Int32}
variable {p : Program} {l : Launch} {e : Env} {R : Room} {s : State} {m : MethodId} {args : Array Value} {below : List Frame} {meth : Method} {c : Code} {nL : Nat} {ρ0 : List Nat} {w0 : mm_W} {Q : State → Prop}
variable {own : String} {cc : ByteArray} {mn : String} {rt : Option FieldType} {pc : Nat} {L st : List mm_V} {w : mm_W} {h : mm_H} {nx : Nat} {tx : String}
theorem mm_met2 {y : MethodName} {lt : List mm_T} {pool : List (Nat × Instr)} {isI : Bool} {O : mm_O} {code : List (Nat × Instr)} {as : List mm_V} {r : mm_R} {d : Nat} (KW : mm_KW) (hy : plainFor y = true) (hp : ∀ q ∈ pool, mm_PK y.cls q.1 q.2) (hI : isI = true → y.name = "<init>") (hc : mm_chk lt pool isI rt cc nL code = true) (h0 : mm_nx code = 0) (hd : 1 ≤ d) (hO1 : ∀ x as w h r, O x as w h = some r → mm_le w r.2.1) (hO : ∀ mc ms x as w h r, O x as w h = some r → mm_OK D tys B old L0 scr l (mm_rm d mc ms) x as w h r) (H : mm_run O (code, nL, lt) as w h = some r) : mm_Met D tys B old L0 scr l d y cc nL rt as w h r := by
  have hle := mm_run_le hO1 H
  obtain ⟨hn, H⟩ := mm_run_go H
  intro ρ
  refine Met.ofWF (cc := cc) (maxL := nL) (ret := rt) hy rfl ?_
  intro p e s m args below meth c s₁ Bd hml hv
  obtain ⟨av, rfl, hst, hE, hHR⟩ := hv
  have hts := atoms_spec (ws := Jvm.Cond.code y cc nL rt :: lw_g) Bd.pre
  have hown : s.vm.findClass y.cls = some m.cls := findClass_of_methodNamed Bd.named
  have hin : meth.name = y.name := (name_of_methodNamed Bd.named Bd.method).1
  have F : mm_Fr D tys B old L0 scr p s m av.toArray meth c nL y.cls cc y.name rt := ⟨Bd.exec, Bd.bytes, hml, hown, fun w hw => hts w (List.mem_cons_of_mem _ hw), hE, hin, Bd.returns, Bd.notSynchronized⟩
  have h96 : 96 ≤ 96 * d := by omega
  have hfin : ∀ (ρ2 : List Nat) (v : mm_V) (wr : mm_W) (hr : mm_H) (H2 : Heap) (locs : List Loc) (o : Outcome), r = (v, wr, hr) → mm_Px ρ w ρ2 wr → mm_HR D tys B old L0 scr ρ2 wr hr H2 → va_S (mm_A B) s.heap H2 locs → mm_out old ρ2 v o → ∀ t : State, t.heap = H2 → s.WarmedH t.vm → mm_CQ D tys B old L0 scr ρ r av.toArray s o t := by
    rintro ρ2 v wr hr H2 locs o rfl ⟨⟨ρx, rfl⟩, -⟩ hH hS ho t ht -
    exact ⟨⟨ρx, ho, by rw [ht]; exact hH⟩, hS.F ht⟩
  have hQ : mm_HQ D tys B old L0 scr p l e (mm_rm d (r.2.1.2.1 - w.2.1).toNat (r.2.1.2.2 - w.2.2).toNat) s m av.toArray below meth c nL ρ w (MQ below (mm_CQ D tys B old L0 scr ρ r) av.toArray s (r.2.1.2.1 - w.2.1).toNat (r.2.1.2.2 - w.2.2).toNat (mm_A B)) r cc rt := by
    intro pc L v w2 h2 hr hk ρ2 H2 locs ls sv hρ hH hS hL hst2
    obtain ⟨x, sv, rfl, hx, hst3⟩ := mm_SR_cons hst2
    have hst3 := mm_SR_nil hst3
    subst hst3
    have hf := fun (o : Outcome) (ho : mm_out old ρ2 v o) => hfin ρ2 v w2 h2 H2 locs o hr hρ hH hS ho
    subst hr
    rcases hk with ⟨hdg, hv0, hk⟩ | ⟨hdg, hv0, hk⟩ | ⟨hdg, hv0, hk⟩
    · obtain ⟨t, z⟩ := v
      have hv0 : t = 0 := hv0
      subst hv0
      obtain ⟨hz, rfl⟩ := hx
      have ho := hf (.returned (some (.int (Int32.ofInt z)))) (Or.inr ⟨Nat.le_of_ble_eq_true rfl, _, rfl, hz, rfl⟩)
      rcases hk with hk | ⟨hk, hz2⟩ | ⟨hk, hz2⟩ | ⟨hk, hz2⟩
      · have e1 := mm_rt0 hk
        exact W.iret F.1 F.2.1 (Bd.returns.trans e1) ho hS.2.2 hdg Bd.notSynchronized
      · have e1 := mm_rt1 hk
        refine W.zret F.1 F.2.1 (Bd.returns.trans e1) ?_ ho hS.2.2 hdg Bd.notSynchronized
        have hz2 : z = 0 ∨ z = 1 := hz2
        rcases hz2 with rfl | rfl <;> rfl
      · have e1 := mm_rt2 hk
        refine W.zret F.1 F.2.1 (Bd.returns.trans e1) ?_ ho hS.2.2 hdg Bd.notSynchronized
        exact mm_nar_c hz2.1 hz2.2
      · have e1 := mm_rt3 hk
        refine W.zret F.1 F.2.1 (Bd.returns.trans e1) ?_ ho hS.2.2 hdg Bd.notSynchronized
        exact mm_nar_b hz2.1 hz2.2
    · obtain ⟨t, z⟩ := v
      have hv0 : t = 1 := hv0
      subst hv0
      obtain ⟨hz, rfl⟩ := hx
      have ho := hf (.returned (some (.long (Int64.ofInt z)))) (Or.inr ⟨Nat.le_of_ble_eq_true rfl, _, rfl, hz, rfl⟩)
      have e1 := mm_rt4 hk
      exact W.lret F.1 F.2.1 (Bd.returns.trans e1) ho hS.2.2 hdg Bd.notSynchronized
    · obtain ⟨t, z⟩ := v
      have hv0 : t = 2 := hv0
      subst hv0
      obtain ⟨hz, rfl⟩ := hx
      have ho := hf (.returned (some (va_rf (mm_adr old ρ2 z)))) (Or.inr ⟨Nat.le_of_ble_eq_true rfl, _, rfl, hz, rfl⟩)
      have e1 := mm_rt5 hk
      obtain ⟨ty, e1, e2⟩ := e1
      refine W.aret F.1 F.2.1 (Bd.returns.trans e1) e2 ?_ ho hS.2.2 hdg Bd.notSynchronized
      show va_rf (mm_adr old ρ2 z) = .null ∨ ∃ a, va_rf (mm_adr old ρ2 z) = .ref a
      cases mm_adr old ρ2 z with
      | none => exact Or.inl rfl
      | some a => exact Or.inr ⟨a, rfl⟩
  have hQ0 : ∀ (pc : Nat) (L : List mm_V) (w2 : mm_W) (h2 : mm_H), r = ((9, 0), w2, h2) → decode cc pc = .ok (.return_, 1) → mm_rt rt 6 = true → mm_Wc D tys B old L0 scr p l e (mm_rm d (r.2.1.2.1 - w.2.1).toNat (r.2.1.2.2 - w.2.2).toNat) s m av.toArray below meth c nL ρ w (MQ below (mm_CQ D tys B old L0 scr ρ r) av.toArray s (r.2.1.2.1 - w.2.1).toNat (r.2.1.2.2 - w.2.2).toNat (mm_A B)) pc L [] w2 h2 := by
    intro pc L w2 h2 hr hdg hk ρ2 H2 locs ls sv hρ hH hS hL hst2
    have hst3 := mm_SR_nil hst2
    subst hst3
    have ho := hfin ρ2 (9, 0) w2 h2 H2 locs (.returned none) hr hρ hH hS (Or.inl ⟨rfl, rfl⟩)
    subst hr
    have e1 := mm_rt6 hk
    exact W.vret F.1 F.2.1 (Bd.returns.trans e1) ho hS.2.2 hdg Bd.notSynchronized
  have hRm : mm_Rm (mm_rm d (r.2.1.2.1 - w.2.1).toNat (r.2.1.2.2 - w.2.2).toNat) ρ w r.2.1 := ⟨Nat.le_refl _, Nat.le_refl _⟩
  have hR : 1 ≤ (mm_rm d (r.2.1.2.1 - w.2.1).toNat (r.2.1.2.2 - w.2.2).toNat).frames ∧ 24 + 13 ≤ (mm_rm d (r.2.1.2.1 - w.2.1).toNat (r.2.1.2.2 - w.2.2).toNat).locals ∧ nativeFrameWords "java/lang/System" "arraycopy" 5 + 11 ≤ (mm_rm d (r.2.1.2.1 - w.2.1).toNat (r.2.1.2.2 - w.2.2).toNat).locals := ⟨hd, Nat.le_trans (by decide) h96, Nat.le_trans mm_nat_room h96⟩
  have hlp := mm_slp F KW hp hI hRm hR (hO _ _) hQ hQ0 code hc 6
  have g := mm_sg F KW hp hI hRm hR (hO _ _) hlp hQ hQ0 code hc 0 _ [] w h _ H
  rw [if_pos rfl, h0] at g
  have k := (g.2 rfl).2 ρ s.heap [] _ [] ⟨⟨[], by simp⟩, Int.le_refl _, Int.le_refl _⟩ hHR va_S.rf (mm_LR_in hst hn) trivial
  rw [lg_entry_eq]
  have z1 : (w.2.1 - w.2.1).toNat = 0 := by omega
  have z2 : (w.2.2 - w.2.2).toNat = 0 := by omega
  rw [z1, z2] at k
  exact k
end MM
def mm_mf2 (i : Nat) : Prop := ∃ (pool : List (Nat × Instr)) (isI : Bool), (∀ q ∈ pool, mm_PK (mm_inf i).1.cls q.1 q.2) ∧ (isI = true → (mm_inf i).1.name = "<init>") ∧ mm_chk (mm_look mm_tab i).2.2 pool isI (mm_inf i).2.2.2 (mm_inf i).2.1 (mm_inf i).2.2.1 (mm_look mm_tab i).1 = true ∧ mm_nx (mm_look mm_tab i).1 = 0 ∧ (mm_look mm_tab i).2.1 = (mm_inf i).2.2.1 ∧ plainFor (mm_inf i).1 = true ∧ Jvm.Cond.code (mm_inf i).1 (mm_inf i).2.1 (mm_inf i).2.2.1 (mm_inf i).2.2.2 ∈ lw_g ∧ (mm_inf i).2.2.1 ≤ 61
theorem mm_mf_to {i : Nat} (h : mm_mf i) : mm_mf2 i := by
  obtain ⟨pool, isI, h1, h2, h3, h4, h5, h6, h7, h8⟩ := h
  exact ⟨pool, isI, h1, h2, h3, h4, h5, plainFor_of_name h6, h7, h8⟩
theorem mm_mf2_340 : mm_mf2 340 := ⟨mm_pl_Mth, false, mm_pk_Mth, (fun h => by cases h), by decide +kernel, by decide +kernel, by decide +kernel, by decide +kernel, mm_hw_g (p := 580) (by decide +kernel), by decide +kernel⟩
theorem mm_mfa_0 {x : Nat} (h0 : 0 ≤ x) (h1 : x < 90) : mm_mf2 x := by
  rcases Nat.lt_or_ge x 45 with h45 | h45
  · rcases Nat.lt_or_ge x 22 with h22 | h22
    · rcases Nat.lt_or_ge x 11 with h11 | h11
      · rcases Nat.lt_or_ge x 5 with h5 | h5
        · rcases Nat.lt_or_ge x 2 with h2 | h2
          · rcases Nat.lt_or_ge x 1 with h1 | h1
            · exact (show x = 0 by omega) ▸ mm_mf_to mm_mf_0
            · exact (show x = 1 by omega) ▸ mm_mf_to mm_mf_1
          · rcases Nat.lt_or_ge x 3 with h3 | h3
            · exact (show x = 2 by omega) ▸ mm_mf_to mm_mf_2
            · rcases Nat.lt_or_ge x 4 with h4 | h4
              · exact (show x = 3 by omega) ▸ mm_mf_to mm_mf_3
              · exact (show x = 4 by omega) ▸ mm_mf_to mm_mf_4
        · rcases Nat.lt_or_ge x 8 with h8 | h8
          · rcases Nat.lt_or_ge x 6 with h6 | h6
            · exact (show x = 5 by omega) ▸ mm_mf_to mm_mf_5
            · rcases Nat.lt_or_ge x 7 with h7 | h7
              · exact (show x = 6 by omega) ▸ mm_mf_to mm_mf_6
              · exact (show x = 7 by omega) ▸ mm_mf_to mm_mf_7
          · rcases Nat.lt_or_ge x 9 with h9 | h9
            · exact (show x = 8 by omega) ▸ mm_mf_to mm_mf_8
            · rcases Nat.lt_or_ge x 10 with h10 | h10
              · exact (show x = 9 by omega) ▸ mm_mf_to mm_mf_9
              · exact (show x = 10 by omega) ▸ mm_mf_to mm_mf_10
      · rcases Nat.lt_or_ge x 16 with h16 | h16
        · rcases Nat.lt_or_ge x 13 with h13 | h13
          · rcases Nat.lt_or_ge x 12 with h12 | h12
            · exact (show x = 11 by omega) ▸ mm_mf_to mm_mf_11
            · exact (show x = 12 by omega) ▸ mm_mf_to mm_mf_12
          · rcases Nat.lt_or_ge x 14 with h14 | h14
            · exact (show x = 13 by omega) ▸ mm_mf_to mm_mf_13
            · rcases Nat.lt_or_ge x 15 with h15 | h15
              · exact (show x = 14 by omega) ▸ mm_mf_to mm_mf_14
              · exact (show x = 15 by omega) ▸ mm_mf_to mm_mf_15
        · rcases Nat.lt_or_ge x 19 with h19 | h19
          · rcases Nat.lt_or_ge x 17 with h17 | h17
            · exact (show x = 16 by omega) ▸ mm_mf_to mm_mf_16
            · rcases Nat.lt_or_ge x 18 with h18 | h18
              · exact (show x = 17 by omega) ▸ mm_mf_to mm_mf_17
              · exact (show x = 18 by omega) ▸ mm_mf_to mm_mf_18
          · rcases Nat.lt_or_ge x 20 with h20 | h20
            · exact (show x = 19 by omega) ▸ mm_mf_to mm_mf_19
            · rcases Nat.lt_or_ge x 21 with h21 | h21
              · exact (show x = 20 by omega) ▸ mm_mf_to mm_mf_20
              · exact (show x = 21 by omega) ▸ mm_mf_to mm_mf_21
    · rcases Nat.lt_or_ge x 33 with h33 | h33
      · rcases Nat.lt_or_ge x 27 with h27 | h27
        · rcases Nat.lt_or_ge x 24 with h24 | h24
          · rcases Nat.lt_or_ge x 23 with h23 | h23
            · exact (show x = 22 by omega) ▸ mm_mf_to mm_mf_22
            · exact (show x = 23 by omega) ▸ mm_mf_to mm_mf_23
          · rcases Nat.lt_or_ge x 25 with h25 | h25
            · exact (show x = 24 by omega) ▸ mm_mf_to mm_mf_24
            · rcases Nat.lt_or_ge x 26 with h26 | h26
              · exact (show x = 25 by omega) ▸ mm_mf_to mm_mf_25
              · exact (show x = 26 by omega) ▸ mm_mf_to mm_mf_26
        · rcases Nat.lt_or_ge x 30 with h30 | h30
          · rcases Nat.lt_or_ge x 28 with h28 | h28
            · exact (show x = 27 by omega) ▸ mm_mf_to mm_mf_27
            · rcases Nat.lt_or_ge x 29 with h29 | h29
              · exact (show x = 28 by omega) ▸ mm_mf_to mm_mf_28
              · exact (show x = 29 by omega) ▸ mm_mf_to mm_mf_29
          · rcases Nat.lt_or_ge x 31 with h31 | h31
            · exact (show x = 30 by omega) ▸ mm_mf_to mm_mf_30
            · rcases Nat.lt_or_ge x 32 with h32 | h32
              · exact (show x = 31 by omega) ▸ mm_mf_to mm_mf_31
              · exact (show x = 32 by omega) ▸ mm_mf_to mm_mf_32
      · rcases Nat.lt_or_ge x 39 with h39 | h39
        · rcases Nat.lt_or_ge x 36 with h36 | h36
          · rcases Nat.lt_or_ge x 34 with h34 | h34
            · exact (show x = 33 by omega) ▸ mm_mf_to mm_mf_33
            · rcases Nat.lt_or_ge x 35 with h35 | h35
              · exact (show x = 34 by omega) ▸ mm_mf_to mm_mf_34
              · exact (show x = 35 by omega) ▸ mm_mf_to mm_mf_35
          · rcases Nat.lt_or_ge x 37 with h37 | h37
            · exact (show x = 36 by omega) ▸ mm_mf_to mm_mf_36
            · rcases Nat.lt_or_ge x 38 with h38 | h38
              · exact (show x = 37 by omega) ▸ mm_mf_to mm_mf_37
              · exact (show x = 38 by omega) ▸ mm_mf_to mm_mf_38
        · rcases Nat.lt_or_ge x 42 with h42 | h42
          · rcases Nat.lt_or_ge x 40 with h40 | h40
            · exact (show x = 39 by omega) ▸ mm_mf_to mm_mf_39
            · rcases Nat.lt_or_ge x 41 with h41 | h41
              · exact (show x = 40 by omega) ▸ mm_mf_to mm_mf_40
              · exact (show x = 41 by omega) ▸ mm_mf_to mm_mf_41
          · rcases Nat.lt_or_ge x 43 with h43 | h43
            · exact (show x = 42 by omega) ▸ mm_mf_to mm_mf_42
            · rcases Nat.lt_or_ge x 44 with h44 | h44
              · exact (show x = 43 by omega) ▸ mm_mf_to mm_mf_43
              · exact (show x = 44 by omega) ▸ mm_mf_to mm_mf_44
  · rcases Nat.lt_or_ge x 67 with h67 | h67
    · rcases Nat.lt_or_ge x 56 with h56 | h56
      · rcases Nat.lt_or_ge x 50 with h50 | h50
        · rcases Nat.lt_or_ge x 47 with h47 | h47
          · rcases Nat.lt_or_ge x 46 with h46 | h46
            · exact (show x = 45 by omega) ▸ mm_mf_to mm_mf_45
            · exact (show x = 46 by omega) ▸ mm_mf_to mm_mf_46
          · rcases Nat.lt_or_ge x 48 with h48 | h48
            · exact (show x = 47 by omega) ▸ mm_mf_to mm_mf_47
            · rcases Nat.lt_or_ge x 49 with h49 | h49
              · exact (show x = 48 by omega) ▸ mm_mf_to mm_mf_48
              · exact (show x = 49 by omega) ▸ mm_mf_to mm_mf_49
        · rcases Nat.lt_or_ge x 53 with h53 | h53
          · rcases Nat.lt_or_ge x 51 with h51 | h51
            · exact (show x = 50 by omega) ▸ mm_mf_to mm_mf_50
            · rcases Nat.lt_or_ge x 52 with h52 | h52
              · exact (show x = 51 by omega) ▸ mm_mf_to mm_mf_51
              · exact (show x = 52 by omega) ▸ mm_mf_to mm_mf_52
          · rcases Nat.lt_or_ge x 54 with h54 | h54
            · exact (show x = 53 by omega) ▸ mm_mf_to mm_mf_53
            · rcases Nat.lt_or_ge x 55 with h55 | h55
              · exact (show x = 54 by omega) ▸ mm_mf_to mm_mf_54
              · exact (show x = 55 by omega) ▸ mm_mf_to mm_mf_55
      · rcases Nat.lt_or_ge x 61 with h61 | h61
        · rcases Nat.lt_or_ge x 58 with h58 | h58
          · rcases Nat.lt_or_ge x 57 with h57 | h57
            · exact (show x = 56 by omega) ▸ mm_mf_to mm_mf_56
            · exact (show x = 57 by omega) ▸ mm_mf_to mm_mf_57
          · rcases Nat.lt_or_ge x 59 with h59 | h59
            · exact (show x = 58 by omega) ▸ mm_mf_to mm_mf_58
            · rcases Nat.lt_or_ge x 60 with h60 | h60
              · exact (show x = 59 by omega) ▸ mm_mf_to mm_mf_59
              · exact (show x = 60 by omega) ▸ mm_mf_to mm_mf_60
        · rcases Nat.lt_or_ge x 64 with h64 | h64
          · rcases Nat.lt_or_ge x 62 with h62 | h62
            · exact (show x = 61 by omega) ▸ mm_mf_to mm_mf_61
            · rcases Nat.lt_or_ge x 63 with h63 | h63
              · exact (show x = 62 by omega) ▸ mm_mf_to mm_mf_62
              · exact (show x = 63 by omega) ▸ mm_mf_to mm_mf_63
          · rcases Nat.lt_or_ge x 65 with h65 | h65
            · exact (show x = 64 by omega) ▸ mm_mf_to mm_mf_64
            · rcases Nat.lt_or_ge x 66 with h66 | h66
              · exact (show x = 65 by omega) ▸ mm_mf_to mm_mf_65
              · exact (show x = 66 by omega) ▸ mm_mf_to mm_mf_66
    · rcases Nat.lt_or_ge x 78 with h78 | h78
      · rcases Nat.lt_or_ge x 72 with h72 | h72
        · rcases Nat.lt_or_ge x 69 with h69 | h69
          · rcases Nat.lt_or_ge x 68 with h68 | h68
            · exact (show x = 67 by omega) ▸ mm_mf_to mm_mf_67
            · exact (show x = 68 by omega) ▸ mm_mf_to mm_mf_68
          · rcases Nat.lt_or_ge x 70 with h70 | h70
            · exact (show x = 69 by omega) ▸ mm_mf_to mm_mf_69
            · rcases Nat.lt_or_ge x 71 with h71 | h71
              · exact (show x = 70 by omega) ▸ mm_mf_to mm_mf_70
              · exact (show x = 71 by omega) ▸ mm_mf_to mm_mf_71
        · rcases Nat.lt_or_ge x 75 with h75 | h75
          · rcases Nat.lt_or_ge x 73 with h73 | h73
            · exact (show x = 72 by omega) ▸ mm_mf_to mm_mf_72
            · rcases Nat.lt_or_ge x 74 with h74 | h74
              · exact (show x = 73 by omega) ▸ mm_mf_to mm_mf_73
              · exact (show x = 74 by omega) ▸ mm_mf_to mm_mf_74
          · rcases Nat.lt_or_ge x 76 with h76 | h76
            · exact (show x = 75 by omega) ▸ mm_mf_to mm_mf_75
            · rcases Nat.lt_or_ge x 77 with h77 | h77
              · exact (show x = 76 by omega) ▸ mm_mf_to mm_mf_76
              · exact (show x = 77 by omega) ▸ mm_mf_to mm_mf_77
      · rcases Nat.lt_or_ge x 84 with h84 | h84
        · rcases Nat.lt_or_ge x 81 with h81 | h81
          · rcases Nat.lt_or_ge x 79 with h79 | h79
            · exact (show x = 78 by omega) ▸ mm_mf_to mm_mf_78
            · rcases Nat.lt_or_ge x 80 with h80 | h80
              · exact (show x = 79 by omega) ▸ mm_mf_to mm_mf_79
              · exact (show x = 80 by omega) ▸ mm_mf_to mm_mf_80
          · rcases Nat.lt_or_ge x 82 with h82 | h82
            · exact (show x = 81 by omega) ▸ mm_mf_to mm_mf_81
            · rcases Nat.lt_or_ge x 83 with h83 | h83
              · exact (show x = 82 by omega) ▸ mm_mf_to mm_mf_82
              · exact (show x = 83 by omega) ▸ mm_mf_to mm_mf_83
        · rcases Nat.lt_or_ge x 87 with h87 | h87
          · rcases Nat.lt_or_ge x 85 with h85 | h85
            · exact (show x = 84 by omega) ▸ mm_mf_to mm_mf_84
            · rcases Nat.lt_or_ge x 86 with h86 | h86
              · exact (show x = 85 by omega) ▸ mm_mf_to mm_mf_85
              · exact (show x = 86 by omega) ▸ mm_mf_to mm_mf_86
          · rcases Nat.lt_or_ge x 88 with h88 | h88
            · exact (show x = 87 by omega) ▸ mm_mf_to mm_mf_87
            · rcases Nat.lt_or_ge x 89 with h89 | h89
              · exact (show x = 88 by omega) ▸ mm_mf_to mm_mf_88
              · exact (show x = 89 by omega) ▸ mm_mf_to mm_mf_89
theorem mm_mfa_90 {x : Nat} (h0 : 90 ≤ x) (h1 : x < 180) : mm_mf2 x := by
  rcases Nat.lt_or_ge x 135 with h135 | h135
  · rcases Nat.lt_or_ge x 112 with h112 | h112
    · rcases Nat.lt_or_ge x 101 with h101 | h101
      · rcases Nat.lt_or_ge x 95 with h95 | h95
        · rcases Nat.lt_or_ge x 92 with h92 | h92
          · rcases Nat.lt_or_ge x 91 with h91 | h91
            · exact (show x = 90 by omega) ▸ mm_mf_to mm_mf_90
            · exact (show x = 91 by omega) ▸ mm_mf_to mm_mf_91
          · rcases Nat.lt_or_ge x 93 with h93 | h93
            · exact (show x = 92 by omega) ▸ mm_mf_to mm_mf_92
            · rcases Nat.lt_or_ge x 94 with h94 | h94
              · exact (show x = 93 by omega) ▸ mm_mf_to mm_mf_93
              · exact (show x = 94 by omega) ▸ mm_mf_to mm_mf_94
        · rcases Nat.lt_or_ge x 98 with h98 | h98
          · rcases Nat.lt_or_ge x 96 with h96 | h96
            · exact (show x = 95 by omega) ▸ mm_mf_to mm_mf_95
            · rcases Nat.lt_or_ge x 97 with h97 | h97
              · exact (show x = 96 by omega) ▸ mm_mf_to mm_mf_96
              · exact (show x = 97 by omega) ▸ mm_mf_to mm_mf_97
          · rcases Nat.lt_or_ge x 99 with h99 | h99
            · exact (show x = 98 by omega) ▸ mm_mf_to mm_mf_98
            · rcases Nat.lt_or_ge x 100 with h100 | h100
              · exact (show x = 99 by omega) ▸ mm_mf_to mm_mf_99
              · exact (show x = 100 by omega) ▸ mm_mf_to mm_mf_100
      · rcases Nat.lt_or_ge x 106 with h106 | h106
        · rcases Nat.lt_or_ge x 103 with h103 | h103
          · rcases Nat.lt_or_ge x 102 with h102 | h102
            · exact (show x = 101 by omega) ▸ mm_mf_to mm_mf_101
            · exact (show x = 102 by omega) ▸ mm_mf_to mm_mf_102
          · rcases Nat.lt_or_ge x 104 with h104 | h104
            · exact (show x = 103 by omega) ▸ mm_mf_to mm_mf_103
            · rcases Nat.lt_or_ge x 105 with h105 | h105
              · exact (show x = 104 by omega) ▸ mm_mf_to mm_mf_104
              · exact (show x = 105 by omega) ▸ mm_mf_to mm_mf_105
        · rcases Nat.lt_or_ge x 109 with h109 | h109
          · rcases Nat.lt_or_ge x 107 with h107 | h107
            · exact (show x = 106 by omega) ▸ mm_mf_to mm_mf_106
            · rcases Nat.lt_or_ge x 108 with h108 | h108
              · exact (show x = 107 by omega) ▸ mm_mf_to mm_mf_107
              · exact (show x = 108 by omega) ▸ mm_mf_to mm_mf_108
          · rcases Nat.lt_or_ge x 110 with h110 | h110
            · exact (show x = 109 by omega) ▸ mm_mf_to mm_mf_109
            · rcases Nat.lt_or_ge x 111 with h111 | h111
              · exact (show x = 110 by omega) ▸ mm_mf_to mm_mf_110
              · exact (show x = 111 by omega) ▸ mm_mf_to mm_mf_111
    · rcases Nat.lt_or_ge x 123 with h123 | h123
      · rcases Nat.lt_or_ge x 117 with h117 | h117
        · rcases Nat.lt_or_ge x 114 with h114 | h114
          · rcases Nat.lt_or_ge x 113 with h113 | h113
            · exact (show x = 112 by omega) ▸ mm_mf_to mm_mf_112
            · exact (show x = 113 by omega) ▸ mm_mf_to mm_mf_113
          · rcases Nat.lt_or_ge x 115 with h115 | h115
            · exact (show x = 114 by omega) ▸ mm_mf_to mm_mf_114
            · rcases Nat.lt_or_ge x 116 with h116 | h116
              · exact (show x = 115 by omega) ▸ mm_mf_to mm_mf_115
              · exact (show x = 116 by omega) ▸ mm_mf_to mm_mf_116
        · rcases Nat.lt_or_ge x 120 with h120 | h120
          · rcases Nat.lt_or_ge x 118 with h118 | h118
            · exact (show x = 117 by omega) ▸ mm_mf_to mm_mf_117
            · rcases Nat.lt_or_ge x 119 with h119 | h119
              · exact (show x = 118 by omega) ▸ mm_mf_to mm_mf_118
              · exact (show x = 119 by omega) ▸ mm_mf_to mm_mf_119
          · rcases Nat.lt_or_ge x 121 with h121 | h121
            · exact (show x = 120 by omega) ▸ mm_mf_to mm_mf_120
            · rcases Nat.lt_or_ge x 122 with h122 | h122
              · exact (show x = 121 by omega) ▸ mm_mf_to mm_mf_121
              · exact (show x = 122 by omega) ▸ mm_mf_to mm_mf_122
      · rcases Nat.lt_or_ge x 129 with h129 | h129
        · rcases Nat.lt_or_ge x 126 with h126 | h126
          · rcases Nat.lt_or_ge x 124 with h124 | h124
            · exact (show x = 123 by omega) ▸ mm_mf_to mm_mf_123
            · rcases Nat.lt_or_ge x 125 with h125 | h125
              · exact (show x = 124 by omega) ▸ mm_mf_to mm_mf_124
              · exact (show x = 125 by omega) ▸ mm_mf_to mm_mf_125
          · rcases Nat.lt_or_ge x 127 with h127 | h127
            · exact (show x = 126 by omega) ▸ mm_mf_to mm_mf_126
            · rcases Nat.lt_or_ge x 128 with h128 | h128
              · exact (show x = 127 by omega) ▸ mm_mf_to mm_mf_127
              · exact (show x = 128 by omega) ▸ mm_mf_to mm_mf_128
        · rcases Nat.lt_or_ge x 132 with h132 | h132
          · rcases Nat.lt_or_ge x 130 with h130 | h130
            · exact (show x = 129 by omega) ▸ mm_mf_to mm_mf_129
            · rcases Nat.lt_or_ge x 131 with h131 | h131
              · exact (show x = 130 by omega) ▸ mm_mf_to mm_mf_130
              · exact (show x = 131 by omega) ▸ mm_mf_to mm_mf_131
          · rcases Nat.lt_or_ge x 133 with h133 | h133
            · exact (show x = 132 by omega) ▸ mm_mf_to mm_mf_132
            · rcases Nat.lt_or_ge x 134 with h134 | h134
              · exact (show x = 133 by omega) ▸ mm_mf_to mm_mf_133
              · exact (show x = 134 by omega) ▸ mm_mf_to mm_mf_134
  · rcases Nat.lt_or_ge x 157 with h157 | h157
    · rcases Nat.lt_or_ge x 146 with h146 | h146
      · rcases Nat.lt_or_ge x 140 with h140 | h140
        · rcases Nat.lt_or_ge x 137 with h137 | h137
          · rcases Nat.lt_or_ge x 136 with h136 | h136
            · exact (show x = 135 by omega) ▸ mm_mf_to mm_mf_135
            · exact (show x = 136 by omega) ▸ mm_mf_to mm_mf_136
          · rcases Nat.lt_or_ge x 138 with h138 | h138
            · exact (show x = 137 by omega) ▸ mm_mf_to mm_mf_137
            · rcases Nat.lt_or_ge x 139 with h139 | h139
              · exact (show x = 138 by omega) ▸ mm_mf_to mm_mf_138
              · exact (show x = 139 by omega) ▸ mm_mf_to mm_mf_139
        · rcases Nat.lt_or_ge x 143 with h143 | h143
          · rcases Nat.lt_or_ge x 141 with h141 | h141
            · exact (show x = 140 by omega) ▸ mm_mf_to mm_mf_140
            · rcases Nat.lt_or_ge x 142 with h142 | h142
              · exact (show x = 141 by omega) ▸ mm_mf_to mm_mf_141
              · exact (show x = 142 by omega) ▸ mm_mf_to mm_mf_142
          · rcases Nat.lt_or_ge x 144 with h144 | h144
            · exact (show x = 143 by omega) ▸ mm_mf_to mm_mf_143
            · rcases Nat.lt_or_ge x 145 with h145 | h145
              · exact (show x = 144 by omega) ▸ mm_mf_to mm_mf_144
              · exact (show x = 145 by omega) ▸ mm_mf_to mm_mf_145
      · rcases Nat.lt_or_ge x 151 with h151 | h151
        · rcases Nat.lt_or_ge x 148 with h148 | h148
          · rcases Nat.lt_or_ge x 147 with h147 | h147
            · exact (show x = 146 by omega) ▸ mm_mf_to mm_mf_146
            · exact (show x = 147 by omega) ▸ mm_mf_to mm_mf_147
          · rcases Nat.lt_or_ge x 149 with h149 | h149
            · exact (show x = 148 by omega) ▸ mm_mf_to mm_mf_148
            · rcases Nat.lt_or_ge x 150 with h150 | h150
              · exact (show x = 149 by omega) ▸ mm_mf_to mm_mf_149
              · exact (show x = 150 by omega) ▸ mm_mf_to mm_mf_150
        · rcases Nat.lt_or_ge x 154 with h154 | h154
          · rcases Nat.lt_or_ge x 152 with h152 | h152
            · exact (show x = 151 by omega) ▸ mm_mf_to mm_mf_151
            · rcases Nat.lt_or_ge x 153 with h153 | h153
              · exact (show x = 152 by omega) ▸ mm_mf_to mm_mf_152
              · exact (show x = 153 by omega) ▸ mm_mf_to mm_mf_153
          · rcases Nat.lt_or_ge x 155 with h155 | h155
            · exact (show x = 154 by omega) ▸ mm_mf_to mm_mf_154
            · rcases Nat.lt_or_ge x 156 with h156 | h156
              · exact (show x = 155 by omega) ▸ mm_mf_to mm_mf_155
              · exact (show x = 156 by omega) ▸ mm_mf_to mm_mf_156
    · rcases Nat.lt_or_ge x 168 with h168 | h168
      · rcases Nat.lt_or_ge x 162 with h162 | h162
        · rcases Nat.lt_or_ge x 159 with h159 | h159
          · rcases Nat.lt_or_ge x 158 with h158 | h158
            · exact (show x = 157 by omega) ▸ mm_mf_to mm_mf_157
            · exact (show x = 158 by omega) ▸ mm_mf_to mm_mf_158
          · rcases Nat.lt_or_ge x 160 with h160 | h160
            · exact (show x = 159 by omega) ▸ mm_mf_to mm_mf_159
            · rcases Nat.lt_or_ge x 161 with h161 | h161
              · exact (show x = 160 by omega) ▸ mm_mf_to mm_mf_160
              · exact (show x = 161 by omega) ▸ mm_mf_to mm_mf_161
        · rcases Nat.lt_or_ge x 165 with h165 | h165
          · rcases Nat.lt_or_ge x 163 with h163 | h163
            · exact (show x = 162 by omega) ▸ mm_mf_to mm_mf_162
            · rcases Nat.lt_or_ge x 164 with h164 | h164
              · exact (show x = 163 by omega) ▸ mm_mf_to mm_mf_163
              · exact (show x = 164 by omega) ▸ mm_mf_to mm_mf_164
          · rcases Nat.lt_or_ge x 166 with h166 | h166
            · exact (show x = 165 by omega) ▸ mm_mf_to mm_mf_165
            · rcases Nat.lt_or_ge x 167 with h167 | h167
              · exact (show x = 166 by omega) ▸ mm_mf_to mm_mf_166
              · exact (show x = 167 by omega) ▸ mm_mf_to mm_mf_167
      · rcases Nat.lt_or_ge x 174 with h174 | h174
        · rcases Nat.lt_or_ge x 171 with h171 | h171
          · rcases Nat.lt_or_ge x 169 with h169 | h169
            · exact (show x = 168 by omega) ▸ mm_mf_to mm_mf_168
            · rcases Nat.lt_or_ge x 170 with h170 | h170
              · exact (show x = 169 by omega) ▸ mm_mf_to mm_mf_169
              · exact (show x = 170 by omega) ▸ mm_mf_to mm_mf_170
          · rcases Nat.lt_or_ge x 172 with h172 | h172
            · exact (show x = 171 by omega) ▸ mm_mf_to mm_mf_171
            · rcases Nat.lt_or_ge x 173 with h173 | h173
              · exact (show x = 172 by omega) ▸ mm_mf_to mm_mf_172
              · exact (show x = 173 by omega) ▸ mm_mf_to mm_mf_173
        · rcases Nat.lt_or_ge x 177 with h177 | h177
          · rcases Nat.lt_or_ge x 175 with h175 | h175
            · exact (show x = 174 by omega) ▸ mm_mf_to mm_mf_174
            · rcases Nat.lt_or_ge x 176 with h176 | h176
              · exact (show x = 175 by omega) ▸ mm_mf_to mm_mf_175
              · exact (show x = 176 by omega) ▸ mm_mf_to mm_mf_176
          · rcases Nat.lt_or_ge x 178 with h178 | h178
            · exact (show x = 177 by omega) ▸ mm_mf_to mm_mf_177
            · rcases Nat.lt_or_ge x 179 with h179 | h179
              · exact (show x = 178 by omega) ▸ mm_mf_to mm_mf_178
              · exact (show x = 179 by omega) ▸ mm_mf_to mm_mf_179
theorem mm_mfa_180 {x : Nat} (h0 : 180 ≤ x) (h1 : x < 270) : mm_mf2 x := by
  rcases Nat.lt_or_ge x 225 with h225 | h225
  · rcases Nat.lt_or_ge x 202 with h202 | h202
    · rcases Nat.lt_or_ge x 191 with h191 | h191
      · rcases Nat.lt_or_ge x 185 with h185 | h185
        · rcases Nat.lt_or_ge x 182 with h182 | h182
          · rcases Nat.lt_or_ge x 181 with h181 | h181
            · exact (show x = 180 by omega) ▸ mm_mf_to mm_mf_180
            · exact (show x = 181 by omega) ▸ mm_mf_to mm_mf_181
          · rcases Nat.lt_or_ge x 183 with h183 | h183
            · exact (show x = 182 by omega) ▸ mm_mf_to mm_mf_182
            · rcases Nat.lt_or_ge x 184 with h184 | h184
              · exact (show x = 183 by omega) ▸ mm_mf_to mm_mf_183
              · exact (show x = 184 by omega) ▸ mm_mf_to mm_mf_184
        · rcases Nat.lt_or_ge x 188 with h188 | h188
          · rcases Nat.lt_or_ge x 186 with h186 | h186
            · exact (show x = 185 by omega) ▸ mm_mf_to mm_mf_185
            · rcases Nat.lt_or_ge x 187 with h187 | h187
              · exact (show x = 186 by omega) ▸ mm_mf_to mm_mf_186
              · exact (show x = 187 by omega) ▸ mm_mf_to mm_mf_187
          · rcases Nat.lt_or_ge x 189 with h189 | h189
            · exact (show x = 188 by omega) ▸ mm_mf_to mm_mf_188
            · rcases Nat.lt_or_ge x 190 with h190 | h190
              · exact (show x = 189 by omega) ▸ mm_mf_to mm_mf_189
              · exact (show x = 190 by omega) ▸ mm_mf_to mm_mf_190
      · rcases Nat.lt_or_ge x 196 with h196 | h196
        · rcases Nat.lt_or_ge x 193 with h193 | h193
          · rcases Nat.lt_or_ge x 192 with h192 | h192
            · exact (show x = 191 by omega) ▸ mm_mf_to mm_mf_191
            · exact (show x = 192 by omega) ▸ mm_mf_to mm_mf_192
          · rcases Nat.lt_or_ge x 194 with h194 | h194
            · exact (show x = 193 by omega) ▸ mm_mf_to mm_mf_193
            · rcases Nat.lt_or_ge x 195 with h195 | h195
              · exact (show x = 194 by omega) ▸ mm_mf_to mm_mf_194
              · exact (show x = 195 by omega) ▸ mm_mf_to mm_mf_195
        · rcases Nat.lt_or_ge x 199 with h199 | h199
          · rcases Nat.lt_or_ge x 197 with h197 | h197
            · exact (show x = 196 by omega) ▸ mm_mf_to mm_mf_196
            · rcases Nat.lt_or_ge x 198 with h198 | h198
              · exact (show x = 197 by omega) ▸ mm_mf_to mm_mf_197
              · exact (show x = 198 by omega) ▸ mm_mf_to mm_mf_198
          · rcases Nat.lt_or_ge x 200 with h200 | h200
            · exact (show x = 199 by omega) ▸ mm_mf_to mm_mf_199
            · rcases Nat.lt_or_ge x 201 with h201 | h201
              · exact (show x = 200 by omega) ▸ mm_mf_to mm_mf_200
              · exact (show x = 201 by omega) ▸ mm_mf_to mm_mf_201
    · rcases Nat.lt_or_ge x 213 with h213 | h213
      · rcases Nat.lt_or_ge x 207 with h207 | h207
        · rcases Nat.lt_or_ge x 204 with h204 | h204
          · rcases Nat.lt_or_ge x 203 with h203 | h203
            · exact (show x = 202 by omega) ▸ mm_mf_to mm_mf_202
            · exact (show x = 203 by omega) ▸ mm_mf_to mm_mf_203
          · rcases Nat.lt_or_ge x 205 with h205 | h205
            · exact (show x = 204 by omega) ▸ mm_mf_to mm_mf_204
            · rcases Nat.lt_or_ge x 206 with h206 | h206
              · exact (show x = 205 by omega) ▸ mm_mf_to mm_mf_205
              · exact (show x = 206 by omega) ▸ mm_mf_to mm_mf_206
        · rcases Nat.lt_or_ge x 210 with h210 | h210
          · rcases Nat.lt_or_ge x 208 with h208 | h208
            · exact (show x = 207 by omega) ▸ mm_mf_to mm_mf_207
            · rcases Nat.lt_or_ge x 209 with h209 | h209
              · exact (show x = 208 by omega) ▸ mm_mf_to mm_mf_208
              · exact (show x = 209 by omega) ▸ mm_mf_to mm_mf_209
          · rcases Nat.lt_or_ge x 211 with h211 | h211
            · exact (show x = 210 by omega) ▸ mm_mf_to mm_mf_210
            · rcases Nat.lt_or_ge x 212 with h212 | h212
              · exact (show x = 211 by omega) ▸ mm_mf_to mm_mf_211
              · exact (show x = 212 by omega) ▸ mm_mf_to mm_mf_212
      · rcases Nat.lt_or_ge x 219 with h219 | h219
        · rcases Nat.lt_or_ge x 216 with h216 | h216
          · rcases Nat.lt_or_ge x 214 with h214 | h214
            · exact (show x = 213 by omega) ▸ mm_mf_to mm_mf_213
            · rcases Nat.lt_or_ge x 215 with h215 | h215
              · exact (show x = 214 by omega) ▸ mm_mf_to mm_mf_214
              · exact (show x = 215 by omega) ▸ mm_mf_to mm_mf_215
          · rcases Nat.lt_or_ge x 217 with h217 | h217
            · exact (show x = 216 by omega) ▸ mm_mf_to mm_mf_216
            · rcases Nat.lt_or_ge x 218 with h218 | h218
              · exact (show x = 217 by omega) ▸ mm_mf_to mm_mf_217
              · exact (show x = 218 by omega) ▸ mm_mf_to mm_mf_218
        · rcases Nat.lt_or_ge x 222 with h222 | h222
          · rcases Nat.lt_or_ge x 220 with h220 | h220
            · exact (show x = 219 by omega) ▸ mm_mf_to mm_mf_219
            · rcases Nat.lt_or_ge x 221 with h221 | h221
              · exact (show x = 220 by omega) ▸ mm_mf_to mm_mf_220
              · exact (show x = 221 by omega) ▸ mm_mf_to mm_mf_221
          · rcases Nat.lt_or_ge x 223 with h223 | h223
            · exact (show x = 222 by omega) ▸ mm_mf_to mm_mf_222
            · rcases Nat.lt_or_ge x 224 with h224 | h224
              · exact (show x = 223 by omega) ▸ mm_mf_to mm_mf_223
              · exact (show x = 224 by omega) ▸ mm_mf_to mm_mf_224
  · rcases Nat.lt_or_ge x 247 with h247 | h247
    · rcases Nat.lt_or_ge x 236 with h236 | h236
      · rcases Nat.lt_or_ge x 230 with h230 | h230
        · rcases Nat.lt_or_ge x 227 with h227 | h227
          · rcases Nat.lt_or_ge x 226 with h226 | h226
            · exact (show x = 225 by omega) ▸ mm_mf_to mm_mf_225
            · exact (show x = 226 by omega) ▸ mm_mf_to mm_mf_226
          · rcases Nat.lt_or_ge x 228 with h228 | h228
            · exact (show x = 227 by omega) ▸ mm_mf_to mm_mf_227
            · rcases Nat.lt_or_ge x 229 with h229 | h229
              · exact (show x = 228 by omega) ▸ mm_mf_to mm_mf_228
              · exact (show x = 229 by omega) ▸ mm_mf_to mm_mf_229
        · rcases Nat.lt_or_ge x 233 with h233 | h233
          · rcases Nat.lt_or_ge x 231 with h231 | h231
            · exact (show x = 230 by omega) ▸ mm_mf_to mm_mf_230
            · rcases Nat.lt_or_ge x 232 with h232 | h232
              · exact (show x = 231 by omega) ▸ mm_mf_to mm_mf_231
              · exact (show x = 232 by omega) ▸ mm_mf_to mm_mf_232
          · rcases Nat.lt_or_ge x 234 with h234 | h234
            · exact (show x = 233 by omega) ▸ mm_mf_to mm_mf_233
            · rcases Nat.lt_or_ge x 235 with h235 | h235
              · exact (show x = 234 by omega) ▸ mm_mf_to mm_mf_234
              · exact (show x = 235 by omega) ▸ mm_mf_to mm_mf_235
      · rcases Nat.lt_or_ge x 241 with h241 | h241
        · rcases Nat.lt_or_ge x 238 with h238 | h238
          · rcases Nat.lt_or_ge x 237 with h237 | h237
            · exact (show x = 236 by omega) ▸ mm_mf_to mm_mf_236
            · exact (show x = 237 by omega) ▸ mm_mf_to mm_mf_237
          · rcases Nat.lt_or_ge x 239 with h239 | h239
            · exact (show x = 238 by omega) ▸ mm_mf_to mm_mf_238
            · rcases Nat.lt_or_ge x 240 with h240 | h240
              · exact (show x = 239 by omega) ▸ mm_mf_to mm_mf_239
              · exact (show x = 240 by omega) ▸ mm_mf_to mm_mf_240
        · rcases Nat.lt_or_ge x 244 with h244 | h244
          · rcases Nat.lt_or_ge x 242 with h242 | h242
            · exact (show x = 241 by omega) ▸ mm_mf_to mm_mf_241
            · rcases Nat.lt_or_ge x 243 with h243 | h243
              · exact (show x = 242 by omega) ▸ mm_mf_to mm_mf_242
              · exact (show x = 243 by omega) ▸ mm_mf_to mm_mf_243
          · rcases Nat.lt_or_ge x 245 with h245 | h245
            · exact (show x = 244 by omega) ▸ mm_mf_to mm_mf_244
            · rcases Nat.lt_or_ge x 246 with h246 | h246
              · exact (show x = 245 by omega) ▸ mm_mf_to mm_mf_245
              · exact (show x = 246 by omega) ▸ mm_mf_to mm_mf_246
    · rcases Nat.lt_or_ge x 258 with h258 | h258
      · rcases Nat.lt_or_ge x 252 with h252 | h252
        · rcases Nat.lt_or_ge x 249 with h249 | h249
          · rcases Nat.lt_or_ge x 248 with h248 | h248
            · exact (show x = 247 by omega) ▸ mm_mf_to mm_mf_247
            · exact (show x = 248 by omega) ▸ mm_mf_to mm_mf_248
          · rcases Nat.lt_or_ge x 250 with h250 | h250
            · exact (show x = 249 by omega) ▸ mm_mf_to mm_mf_249
            · rcases Nat.lt_or_ge x 251 with h251 | h251
              · exact (show x = 250 by omega) ▸ mm_mf_to mm_mf_250
              · exact (show x = 251 by omega) ▸ mm_mf_to mm_mf_251
        · rcases Nat.lt_or_ge x 255 with h255 | h255
          · rcases Nat.lt_or_ge x 253 with h253 | h253
            · exact (show x = 252 by omega) ▸ mm_mf_to mm_mf_252
            · rcases Nat.lt_or_ge x 254 with h254 | h254
              · exact (show x = 253 by omega) ▸ mm_mf_to mm_mf_253
              · exact (show x = 254 by omega) ▸ mm_mf_to mm_mf_254
          · rcases Nat.lt_or_ge x 256 with h256 | h256
            · exact (show x = 255 by omega) ▸ mm_mf_to mm_mf_255
            · rcases Nat.lt_or_ge x 257 with h257 | h257
              · exact (show x = 256 by omega) ▸ mm_mf_to mm_mf_256
              · exact (show x = 257 by omega) ▸ mm_mf_to mm_mf_257
      · rcases Nat.lt_or_ge x 264 with h264 | h264
        · rcases Nat.lt_or_ge x 261 with h261 | h261
          · rcases Nat.lt_or_ge x 259 with h259 | h259
            · exact (show x = 258 by omega) ▸ mm_mf_to mm_mf_258
            · rcases Nat.lt_or_ge x 260 with h260 | h260
              · exact (show x = 259 by omega) ▸ mm_mf_to mm_mf_259
              · exact (show x = 260 by omega) ▸ mm_mf_to mm_mf_260
          · rcases Nat.lt_or_ge x 262 with h262 | h262
            · exact (show x = 261 by omega) ▸ mm_mf_to mm_mf_261
            · rcases Nat.lt_or_ge x 263 with h263 | h263
              · exact (show x = 262 by omega) ▸ mm_mf_to mm_mf_262
              · exact (show x = 263 by omega) ▸ mm_mf_to mm_mf_263
        · rcases Nat.lt_or_ge x 267 with h267 | h267
          · rcases Nat.lt_or_ge x 265 with h265 | h265
            · exact (show x = 264 by omega) ▸ mm_mf_to mm_mf_264
            · rcases Nat.lt_or_ge x 266 with h266 | h266
              · exact (show x = 265 by omega) ▸ mm_mf_to mm_mf_265
              · exact (show x = 266 by omega) ▸ mm_mf_to mm_mf_266
          · rcases Nat.lt_or_ge x 268 with h268 | h268
            · exact (show x = 267 by omega) ▸ mm_mf_to mm_mf_267
            · rcases Nat.lt_or_ge x 269 with h269 | h269
              · exact (show x = 268 by omega) ▸ mm_mf_to mm_mf_268
              · exact (show x = 269 by omega) ▸ mm_mf_to mm_mf_269
theorem mm_mfa_270 {x : Nat} (h0 : 270 ≤ x) (h1 : x < 355) : mm_mf2 x := by
  rcases Nat.lt_or_ge x 312 with h312 | h312
  · rcases Nat.lt_or_ge x 291 with h291 | h291
    · rcases Nat.lt_or_ge x 280 with h280 | h280
      · rcases Nat.lt_or_ge x 275 with h275 | h275
        · rcases Nat.lt_or_ge x 272 with h272 | h272
          · rcases Nat.lt_or_ge x 271 with h271 | h271
            · exact (show x = 270 by omega) ▸ mm_mf_to mm_mf_270
            · exact (show x = 271 by omega) ▸ mm_mf_to mm_mf_271
          · rcases Nat.lt_or_ge x 273 with h273 | h273
            · exact (show x = 272 by omega) ▸ mm_mf_to mm_mf_272
            · rcases Nat.lt_or_ge x 274 with h274 | h274
              · exact (show x = 273 by omega) ▸ mm_mf_to mm_mf_273
              · exact (show x = 274 by omega) ▸ mm_mf_to mm_mf_274
        · rcases Nat.lt_or_ge x 277 with h277 | h277
          · rcases Nat.lt_or_ge x 276 with h276 | h276
            · exact (show x = 275 by omega) ▸ mm_mf_to mm_mf_275
            · exact (show x = 276 by omega) ▸ mm_mf_to mm_mf_276
          · rcases Nat.lt_or_ge x 278 with h278 | h278
            · exact (show x = 277 by omega) ▸ mm_mf_to mm_mf_277
            · rcases Nat.lt_or_ge x 279 with h279 | h279
              · exact (show x = 278 by omega) ▸ mm_mf_to mm_mf_278
              · exact (show x = 279 by omega) ▸ mm_mf_to mm_mf_279
      · rcases Nat.lt_or_ge x 285 with h285 | h285
        · rcases Nat.lt_or_ge x 282 with h282 | h282
          · rcases Nat.lt_or_ge x 281 with h281 | h281
            · exact (show x = 280 by omega) ▸ mm_mf_to mm_mf_280
            · exact (show x = 281 by omega) ▸ mm_mf_to mm_mf_281
          · rcases Nat.lt_or_ge x 283 with h283 | h283
            · exact (show x = 282 by omega) ▸ mm_mf_to mm_mf_282
            · rcases Nat.lt_or_ge x 284 with h284 | h284
              · exact (show x = 283 by omega) ▸ mm_mf_to mm_mf_283
              · exact (show x = 284 by omega) ▸ mm_mf_to mm_mf_284
        · rcases Nat.lt_or_ge x 288 with h288 | h288
          · rcases Nat.lt_or_ge x 286 with h286 | h286
            · exact (show x = 285 by omega) ▸ mm_mf_to mm_mf_285
            · rcases Nat.lt_or_ge x 287 with h287 | h287
              · exact (show x = 286 by omega) ▸ mm_mf_to mm_mf_286
              · exact (show x = 287 by omega) ▸ mm_mf_to mm_mf_287
          · rcases Nat.lt_or_ge x 289 with h289 | h289
            · exact (show x = 288 by omega) ▸ mm_mf_to mm_mf_288
            · rcases Nat.lt_or_ge x 290 with h290 | h290
              · exact (show x = 289 by omega) ▸ mm_mf_to mm_mf_289
              · exact (show x = 290 by omega) ▸ mm_mf_to mm_mf_290
    · rcases Nat.lt_or_ge x 301 with h301 | h301
      · rcases Nat.lt_or_ge x 296 with h296 | h296
        · rcases Nat.lt_or_ge x 293 with h293 | h293
          · rcases Nat.lt_or_ge x 292 with h292 | h292
            · exact (show x = 291 by omega) ▸ mm_mf_to mm_mf_291
            · exact (show x = 292 by omega) ▸ mm_mf_to mm_mf_292
          · rcases Nat.lt_or_ge x 294 with h294 | h294
            · exact (show x = 293 by omega) ▸ mm_mf_to mm_mf_293
            · rcases Nat.lt_or_ge x 295 with h295 | h295
              · exact (show x = 294 by omega) ▸ mm_mf_to mm_mf_294
              · exact (show x = 295 by omega) ▸ mm_mf_to mm_mf_295
        · rcases Nat.lt_or_ge x 298 with h298 | h298
          · rcases Nat.lt_or_ge x 297 with h297 | h297
            · exact (show x = 296 by omega) ▸ mm_mf_to mm_mf_296
            · exact (show x = 297 by omega) ▸ mm_mf_to mm_mf_297
          · rcases Nat.lt_or_ge x 299 with h299 | h299
            · exact (show x = 298 by omega) ▸ mm_mf_to mm_mf_298
            · rcases Nat.lt_or_ge x 300 with h300 | h300
              · exact (show x = 299 by omega) ▸ mm_mf_to mm_mf_299
              · exact (show x = 300 by omega) ▸ mm_mf_to mm_mf_300
      · rcases Nat.lt_or_ge x 306 with h306 | h306
        · rcases Nat.lt_or_ge x 303 with h303 | h303
          · rcases Nat.lt_or_ge x 302 with h302 | h302
            · exact (show x = 301 by omega) ▸ mm_mf_to mm_mf_301
            · exact (show x = 302 by omega) ▸ mm_mf_to mm_mf_302
          · rcases Nat.lt_or_ge x 304 with h304 | h304
            · exact (show x = 303 by omega) ▸ mm_mf_to mm_mf_303
            · rcases Nat.lt_or_ge x 305 with h305 | h305
              · exact (show x = 304 by omega) ▸ mm_mf_to mm_mf_304
              · exact (show x = 305 by omega) ▸ mm_mf_to mm_mf_305
        · rcases Nat.lt_or_ge x 309 with h309 | h309
          · rcases Nat.lt_or_ge x 307 with h307 | h307
            · exact (show x = 306 by omega) ▸ mm_mf_to mm_mf_306
            · rcases Nat.lt_or_ge x 308 with h308 | h308
              · exact (show x = 307 by omega) ▸ mm_mf_to mm_mf_307
              · exact (show x = 308 by omega) ▸ mm_mf_to mm_mf_308
          · rcases Nat.lt_or_ge x 310 with h310 | h310
            · exact (show x = 309 by omega) ▸ mm_mf_to mm_mf_309
            · rcases Nat.lt_or_ge x 311 with h311 | h311
              · exact (show x = 310 by omega) ▸ mm_mf_to mm_mf_310
              · exact (show x = 311 by omega) ▸ mm_mf_to mm_mf_311
  · rcases Nat.lt_or_ge x 333 with h333 | h333
    · rcases Nat.lt_or_ge x 322 with h322 | h322
      · rcases Nat.lt_or_ge x 317 with h317 | h317
        · rcases Nat.lt_or_ge x 314 with h314 | h314
          · rcases Nat.lt_or_ge x 313 with h313 | h313
            · exact (show x = 312 by omega) ▸ mm_mf_to mm_mf_312
            · exact (show x = 313 by omega) ▸ mm_mf_to mm_mf_313
          · rcases Nat.lt_or_ge x 315 with h315 | h315
            · exact (show x = 314 by omega) ▸ mm_mf_to mm_mf_314
            · rcases Nat.lt_or_ge x 316 with h316 | h316
              · exact (show x = 315 by omega) ▸ mm_mf_to mm_mf_315
              · exact (show x = 316 by omega) ▸ mm_mf_to mm_mf_316
        · rcases Nat.lt_or_ge x 319 with h319 | h319
          · rcases Nat.lt_or_ge x 318 with h318 | h318
            · exact (show x = 317 by omega) ▸ mm_mf_to mm_mf_317
            · exact (show x = 318 by omega) ▸ mm_mf_to mm_mf_318
          · rcases Nat.lt_or_ge x 320 with h320 | h320
            · exact (show x = 319 by omega) ▸ mm_mf_to mm_mf_319
            · rcases Nat.lt_or_ge x 321 with h321 | h321
              · exact (show x = 320 by omega) ▸ mm_mf_to mm_mf_320
              · exact (show x = 321 by omega) ▸ mm_mf_to mm_mf_321
      · rcases Nat.lt_or_ge x 327 with h327 | h327
        · rcases Nat.lt_or_ge x 324 with h324 | h324
          · rcases Nat.lt_or_ge x 323 with h323 | h323
            · exact (show x = 322 by omega) ▸ mm_mf_to mm_mf_322
            · exact (show x = 323 by omega) ▸ mm_mf_to mm_mf_323
          · rcases Nat.lt_or_ge x 325 with h325 | h325
            · exact (show x = 324 by omega) ▸ mm_mf_to mm_mf_324
            · rcases Nat.lt_or_ge x 326 with h326 | h326
              · exact (show x = 325 by omega) ▸ mm_mf_to mm_mf_325
              · exact (show x = 326 by omega) ▸ mm_mf_to mm_mf_326
        · rcases Nat.lt_or_ge x 330 with h330 | h330
          · rcases Nat.lt_or_ge x 328 with h328 | h328
            · exact (show x = 327 by omega) ▸ mm_mf_to mm_mf_327
            · rcases Nat.lt_or_ge x 329 with h329 | h329
              · exact (show x = 328 by omega) ▸ mm_mf_to mm_mf_328
              · exact (show x = 329 by omega) ▸ mm_mf_to mm_mf_329
          · rcases Nat.lt_or_ge x 331 with h331 | h331
            · exact (show x = 330 by omega) ▸ mm_mf_to mm_mf_330
            · rcases Nat.lt_or_ge x 332 with h332 | h332
              · exact (show x = 331 by omega) ▸ mm_mf_to mm_mf_331
              · exact (show x = 332 by omega) ▸ mm_mf_to mm_mf_332
    · rcases Nat.lt_or_ge x 344 with h344 | h344
      · rcases Nat.lt_or_ge x 338 with h338 | h338
        · rcases Nat.lt_or_ge x 335 with h335 | h335
          · rcases Nat.lt_or_ge x 334 with h334 | h334
            · exact (show x = 333 by omega) ▸ mm_mf_to mm_mf_333
            · exact (show x = 334 by omega) ▸ mm_mf_to mm_mf_334
          · rcases Nat.lt_or_ge x 336 with h336 | h336
            · exact (show x = 335 by omega) ▸ mm_mf_to mm_mf_335
            · rcases Nat.lt_or_ge x 337 with h337 | h337
              · exact (show x = 336 by omega) ▸ mm_mf_to mm_mf_336
              · exact (show x = 337 by omega) ▸ mm_mf_to mm_mf_337
        · rcases Nat.lt_or_ge x 341 with h341 | h341
          · rcases Nat.lt_or_ge x 339 with h339 | h339
            · exact (show x = 338 by omega) ▸ mm_mf_to mm_mf_338
            · rcases Nat.lt_or_ge x 340 with h340 | h340
              · exact (show x = 339 by omega) ▸ mm_mf_to mm_mf_339
              · exact (show x = 340 by omega) ▸ mm_mf2_340
          · rcases Nat.lt_or_ge x 342 with h342 | h342
            · exact (show x = 341 by omega) ▸ mm_mf_to mm_mf_341
            · rcases Nat.lt_or_ge x 343 with h343 | h343
              · exact (show x = 342 by omega) ▸ mm_mf_to mm_mf_342
              · exact (show x = 343 by omega) ▸ mm_mf_to mm_mf_343
      · rcases Nat.lt_or_ge x 349 with h349 | h349
        · rcases Nat.lt_or_ge x 346 with h346 | h346
          · rcases Nat.lt_or_ge x 345 with h345 | h345
            · exact (show x = 344 by omega) ▸ mm_mf_to mm_mf_344
            · exact (show x = 345 by omega) ▸ mm_mf_to mm_mf_345
          · rcases Nat.lt_or_ge x 347 with h347 | h347
            · exact (show x = 346 by omega) ▸ mm_mf_to mm_mf_346
            · rcases Nat.lt_or_ge x 348 with h348 | h348
              · exact (show x = 347 by omega) ▸ mm_mf_to mm_mf_347
              · exact (show x = 348 by omega) ▸ mm_mf_to mm_mf_348
        · rcases Nat.lt_or_ge x 352 with h352 | h352
          · rcases Nat.lt_or_ge x 350 with h350 | h350
            · exact (show x = 349 by omega) ▸ mm_mf_to mm_mf_349
            · rcases Nat.lt_or_ge x 351 with h351 | h351
              · exact (show x = 350 by omega) ▸ mm_mf_to mm_mf_350
              · exact (show x = 351 by omega) ▸ mm_mf_to mm_mf_351
          · rcases Nat.lt_or_ge x 353 with h353 | h353
            · exact (show x = 352 by omega) ▸ mm_mf_to mm_mf_352
            · rcases Nat.lt_or_ge x 354 with h354 | h354
              · exact (show x = 353 by omega) ▸ mm_mf_to mm_mf_353
              · exact (show x = 354 by omega) ▸ mm_mf_to mm_mf_354
theorem mm_mf_all {x : Nat} (h : x < 355) : mm_mf2 x := by
  rcases Nat.lt_or_ge x 90 with h1 | h1
  · exact mm_mfa_0 (Nat.zero_le _) h1
  rcases Nat.lt_or_ge x 180 with h2 | h2
  · exact mm_mfa_90 h1 h2
  rcases Nat.lt_or_ge x 270 with h3 | h3
  · exact mm_mfa_180 h2 h3
  · exact mm_mfa_270 h3 h
theorem mm_nth_ge {α : Type} (d : α) : ∀ (l : List α) (n : Nat), l.length ≤ n → mm_nth d n l = d
  | [], _, _ => by cases ‹Nat› <;> rfl
  | _ :: _, 0, h => absurd h (by simp)
  | _ :: l, n + 1, h => mm_nth_ge d l n (by simpa using h)
theorem mm_look_ge {x : Nat} (h : 355 ≤ x) : mm_look mm_tab x = ([], 0, []) := by
  unfold mm_look
  rcases Nat.lt_or_ge x 360 with h1 | h1
  · have e : Nat.div x 20 = 17 := by show x / 20 = 17; omega
    rw [e]
    refine mm_nth_ge _ _ _ ?_
    have : 15 ≤ Nat.mod x 20 := by show 15 ≤ x % 20; omega
    exact this
  · have e : 18 ≤ Nat.div x 20 := by show 18 ≤ x / 20; omega
    rw [mm_nth_ge [] mm_tab _ e]
    exact mm_nth_ge _ _ _ (Nat.zero_le _)
theorem mm_kw : mm_KW := ⟨mm_hw_g (p := 587) (by decide +kernel), mm_hw_g (p := 586) (by decide +kernel), mm_hw_g (p := 132) (by decide +kernel), mm_hw_g (p := 751) (by decide +kernel), mm_hw_g (p := 133) (by decide +kernel), mm_hw_g (p := 752) (by decide +kernel), mm_hw_g (p := 841) (by decide +kernel), mm_hw_g (p := 842) (by decide +kernel), mm_hw_g (p := 145) (by decide +kernel), mm_hw_g (p := 146) (by decide +kernel), mm_hw_g (p := 216) (by decide +kernel), mm_hw_g (p := 565) (by decide +kernel), mm_hw_g (p := 1763) (by decide +kernel), mm_hw_g (p := 1762) (by decide +kernel)⟩
section MM
variable {D : va_G} {tys : List (ClassId × FieldType)} {B : Nat} {old : Int → Nat} {L0 : Nat} {scr : Nat → Int32} {l : Launch}
theorem mm_all : ∀ (d x : Nat) (as : List mm_V) (w : mm_W) (h : mm_H) (r : mm_R), mm_P d x as w h = some r → mm_le w r.2.1 ∧ Jvm.Cond.code (mm_inf x).1 (mm_inf x).2.1 (mm_inf x).2.2.1 (mm_inf x).2.2.2 ∈ lw_g ∧ (mm_inf x).2.2.1 ≤ 61 ∧ mm_Met D tys B old L0 scr l d (mm_inf x).1 (mm_inf x).2.1 (mm_inf x).2.2.1 (mm_inf x).2.2.2 as w h r := by
  intro d
  induction d with
  | zero => intro x as w h r H; cases H
  | succ d ih =>
    intro x as w h r H
    have H : mm_run (mm_P d) (mm_look mm_tab x) as w h = some r := H
    rcases Nat.lt_or_ge x 355 with hx | hx
    · obtain ⟨pool, isI, hp, hI, hc, h0, hm, hy, hw, h61⟩ := mm_mf_all hx
      have hO1 : ∀ x as w h r, mm_P d x as w h = some r → mm_le w r.2.1 := fun x as w h r H => (ih x as w h r H).1
      refine ⟨mm_run_le hO1 H, hw, h61, ?_⟩
      refine mm_met2 mm_kw hy hp hI hc h0 (Nat.succ_le_succ (Nat.zero_le d)) hO1 ?_ (O := mm_P d) (code := (mm_look mm_tab x).1) (lt := (mm_look mm_tab x).2.2) ?_
      · intro mc ms x as w h r H
        obtain ⟨a1, a2, a3, a4⟩ := ih x as w h r H
        exact ⟨a1, a2, d, Nat.le_refl _, by show 24 + ((mm_inf x).2.2.1 + 11) + 96 * d ≤ 96 * (d + 1); omega, a4⟩
      · rw [← hm]
        exact H
    · rw [mm_look_ge hx] at H
      unfold mm_run at H
      rw [show ∀ b, mm_if b (mm_go (mm_P d) (mm_LP (mm_P d) [] [] 6) (mm_lt2 []) 1000000 none some (fun _ _ _ _ _ => none) [] 0 (mm_pad 0 (mm_loc as)) [] w h) none = (none : Option mm_R) from fun b => by cases b <;> rfl] at H
      cases H
end MM
