/-! Calls: a callee's contract, by its run in the mini machine. -/
def mm_CP (D : va_G) (tys : List (ClassId × FieldType)) (B : Nat) (old : Int → Nat) (L0 : Nat) (scr : Nat → Int32) (ρ : List Nat) (as : List mm_V) (w : mm_W) (h : mm_H) : Array Value → State → Prop := fun a U => ∃ av : List Value, a = av.toArray ∧ mm_SR old ρ as av ∧ mm_Env D tys B old L0 scr U ∧ mm_HR D tys B old L0 scr ρ w h U.heap
def mm_out (old : Int → Nat) (ρ : List Nat) (v : mm_V) (oc : Outcome) : Prop := (v.1 = 9 ∧ oc = .returned none) ∨ (v.1 ≤ 2 ∧ ∃ x, oc = .returned (some x) ∧ mm_VR old ρ v x)
def mm_CQ (D : va_G) (tys : List (ClassId × FieldType)) (B : Nat) (old : Int → Nat) (L0 : Nat) (scr : Nat → Int32) (ρ : List Nat) (r : mm_R) : Array Value → State → Outcome → State → Prop := fun _ st oc t => (∃ ρx, mm_out old (ρ ++ ρx) r.1 oc ∧ mm_HR D tys B old L0 scr (ρ ++ ρx) r.2.1 r.2.2 t.heap) ∧ va_F (mm_A B) st t
theorem mm_CP_blind {D : va_G} {tys : List (ClassId × FieldType)} {B : Nat} {old : Int → Nat} {L0 : Nat} {scr : Nat → Int32} {ρ : List Nat} {as : List mm_V} {w : mm_W} {h : mm_H} : FrameBlind (mm_CP D tys B old L0 scr ρ as w h) := by
  intro a U g mk ⟨av, h1, h2, h3, h4⟩
  refine ⟨av, h1, h2, ?_, h4⟩
  obtain ⟨g1, g2, g3, ⟨g4, g4b⟩, g5, g6, g7, g8, g9, g10, g11, g12⟩ := h3
  exact ⟨va_K.moved (u := U) (U := U.calling g mk a) (Vm.Alike.refl U.vm) g1, g2, g3, ⟨g4.moved (u := U) (U := U.calling g mk a) (Vm.Alike.refl U.vm), g4b⟩, g5.moved (u := U) (U := U.calling g mk a) (Vm.Alike.refl U.vm), fun i hi => (g6 i hi).same (u := U) (U := U.calling g mk a) rfl, g7.moved (u := U) (U := U.calling g mk a) (Vm.Alike.refl U.vm), g8.moved (u := U) (U := U.calling g mk a) (Vm.Alike.refl U.vm), fun own i y host hm => (g9 own i y host hm).same rfl (u := U) (U := U.calling g mk a) rfl, g10.moved (u := U) (U := U.calling g mk a) (Vm.Alike.refl U.vm), g11.moved (u := U) (U := U.calling g mk a) (Vm.Alike.refl U.vm), mm_AOI_moved (u := U) (U := U.calling g mk a) (Vm.Alike.refl U.vm) g12⟩
def mm_rm (d mc ms : Nat) : Room := { frames := d, cells := mc, slots := ms, locals := 96 * d }
/-- the contract of the method y for one run -/
def mm_Met (D : va_G) (tys : List (ClassId × FieldType)) (B : Nat) (old : Int → Nat) (L0 : Nat) (scr : Nat → Int32) (l : Launch) (d : Nat) (y : MethodName) (cc : ByteArray) (maxL : Nat) (rt : Option FieldType) (as : List mm_V) (w : mm_W) (h : mm_H) (r : mm_R) : Prop := ∀ ρ : List Nat, Met l y (Jvm.Cond.code y cc maxL rt :: lw_g) (mm_rm d (r.2.1.2.1 - w.2.1).toNat (r.2.1.2.2 - w.2.2).toNat) (mm_CP D tys B old L0 scr ρ as w h) (mm_CQ D tys B old L0 scr ρ r) (r.2.1.2.1 - w.2.1).toNat (r.2.1.2.2 - w.2.2).toNat (mm_A B)
theorem mm_split_at {old : Int → Nat} {ρ : List Nat} : ∀ (n : Nat) (acc : List mm_V) (st as st2 : List mm_V) (accv sv : List Value), mm_split n acc st = some (as, st2) → mm_SR old ρ acc accv → mm_SR old ρ st sv → ∃ av sv2, mm_SR old ρ as av ∧ mm_SR old ρ st2 sv2 ∧ av.reverse ++ sv2 = accv.reverse ++ sv ∧ av.length = n + accv.length
  | 0, acc, st, as, st2, accv, sv, h, ha, hs => by
    simp [mm_split] at h
    obtain ⟨rfl, rfl⟩ := h
    exact ⟨accv, sv, ha, hs, rfl, by omega⟩
  | n + 1, acc, [], as, st2, accv, sv, h, ha, hs => by simp [mm_split] at h
  | n + 1, acc, v :: st, as, st2, accv, sv, h, ha, hs => by
    obtain ⟨x, sv, rfl, hx, hs2⟩ := mm_SR_cons hs
    rw [mm_split] at h
    obtain ⟨av, sv2, h1, h2, h3, h4⟩ := mm_split_at n (v :: acc) st as st2 (x :: accv) sv h ⟨hx, ha⟩ hs2
    refine ⟨av, sv2, h1, h2, ?_, ?_⟩
    · rw [h3]; simp
    · rw [h4]; simp; omega
theorem mm_cats_at {old : Int → Nat} {ρ : List Nat} : ∀ {st : List mm_V} {sv : List Value}, mm_SR old ρ st sv → (sv.map fun v => v.category).sum = mm_cats st
  | [], [], _ => rfl
  | [], _ :: _, h => h.elim
  | _ :: _, [], h => h.elim
  | v :: st, x :: sv, h => by
    rw [List.map_cons, List.sum_cons, mm_cats_at h.2]
    show _ = mm_if (Nat.beq v.1 1) 2 1 + mm_cats st
    congr 1
    have e := mm_VR_cat h.1
    cases hb : Nat.beq v.1 1 with
    | true => exact e.mpr (Nat.eq_of_beq_eq_true hb)
    | false =>
      rcases lv_cat x with q | q
      · exact q
      · have := e.mp q
        rw [this] at hb
        cases hb
theorem lw_good : ∀ w ∈ lw_g, (w.onTables && w.keeps) = true ∨ ∃ ty, w = .arrayClass ty := fun w hw => good_of_word (List.mem_filter.mp hw).2
/-- what is known of a call's entry of a class's pool: kind 0 static, 1 virtual, 2 a constructor -/
def mm_cOK (own : String) (i kd : Nat) (y : MethodName) (n : Nat) : Prop :=
  Jvm.Cond.initialized y.cls ∈ lw_g ∧ (y.cls ≠ "java/lang/invoke/MethodHandle" ∧ y.cls ≠ "java/lang/invoke/VarHandle") ∧ (Jvm.Cond.methodLink own i y ∈ lw_g ∨ ∃ host, Jvm.Cond.methodLinkNest own i y host ∈ lw_tbl) ∧
  ((kd = 0 ∧ Jvm.Cond.static y ∈ lw_g ∧ (parseMethodDescriptor y.desc).map (fun d => d.parameters.length) = some n) ∨
   (kd = 1 ∧ Jvm.Cond.instanceMethod y ∈ lw_g ∧ Jvm.Cond.selects y.cls y y ∈ lw_g ∧ ∃ n1, n = n1 + 1 ∧ (parseMethodDescriptor y.desc).map (fun d => d.parameters.length) = some n1) ∨
   (kd = 2 ∧ y.name = "<init>" ∧ Jvm.Cond.instanceMethod y ∈ lw_g ∧ ∃ n1, n = n1 + 1 ∧ (parseMethodDescriptor y.desc).map (fun d => d.parameters.length) = some n1))
section MM
variable {D : va_G} {tys : List (ClassId × FieldType)} {B : Nat} {old : Int → Nat} {L0 : Nat} {scr : Nat → Int32}
variable {p : Program} {l : Launch} {e : Env} {R : Room} {s : State} {m : MethodId} {args : Array Value} {below : List Frame} {meth : Method} {c : Code} {nL : Nat} {ρ0 : List Nat} {w0 : mm_W} {Q : State → Prop}
variable {own : String} {cc : ByteArray} {mn : String} {rt : Option FieldType} {pc : Nat} {L st : List mm_V} {w : mm_W} {h : mm_H} {nx : Nat} {tx : String}

theorem mm_plen {y : MethodName} {n : Nat} (h : (parseMethodDescriptor y.desc).map (fun d => d.parameters.length) = some n) : ∀ sig, parseMethodDescriptor y.desc = some sig → n = sig.parameters.length := by
  intro sig hs
  rw [hs] at h
  exact (Option.some.inj h).symm
theorem mm_back (F : mm_Fr D tys B old L0 scr p s m args meth c nL own cc mn rt) {y : MethodName} {bytes : ByteArray} {maxL mc ms d : Nat} {rty : Option FieldType} {Pc : Array Value → State → Prop} {Qc : Array Value → State → Outcome → State → Prop} {free : Addr → Prop} (hM : Met l y (Jvm.Cond.code y bytes maxL rty :: lw_g) (mm_rm d mc ms) Pc Qc mc ms free) (hbl : FrameBlind Pc) (hcode : Jvm.Cond.code y bytes maxL rty ∈ lw_g) (hini : Jvm.Cond.initialized y.cls ∈ lw_g) (hR : d + 1 ≤ R.frames ∧ 24 + (maxL + 11) + 96 * d ≤ R.locals) : Back l R p e below s args y 3 24 (PreOf R mc ms Pc) (PostOf Qc mc ms free) := by
  refine back_of (bytes := bytes) (maxL := maxL) (ret := rty) hM hbl rfl rfl hR.1 hR.2 ?_ List.mem_cons_self (fun a' U hW => word_at hW (lw_good _ hini) (F.2.2.2.2.1 _ hini))
  intro w hw a' U hW
  rcases List.mem_cons.mp hw with rfl | hw
  · exact word_at hW (lw_good _ hcode) (F.2.2.2.2.1 _ hcode)
  · exact word_at hW (lw_good _ hw) (F.2.2.2.2.1 _ hw)
/-- a call: what comes back -/
theorem mm_runC (F : mm_Fr D tys B old L0 scr p s m args meth c nL own cc mn rt) {y : MethodName} {bytes : ByteArray} {maxL mc ms d i kd n : Nat} {rty : Option FieldType} {Pc : Array Value → State → Prop} {Qc : Array Value → State → Outcome → State → Prop} {free : Addr → Prop} {H : Heap} {locs : List Loc} {cells slots : Nat} {ls : Array Slot} {av rest : List Value} (hM : Met l y (Jvm.Cond.code y bytes maxL rty :: lw_g) (mm_rm d mc ms) Pc Qc mc ms free) (hbl : FrameBlind Pc) (hcode : Jvm.Cond.code y bytes maxL rty ∈ lw_g) (hret : kd = 2 → rty = none) (hc : mm_cOK own i kd y n) (hR : d + 1 ≤ R.frames ∧ 24 + (maxL + 11) + 96 * d ≤ R.locals) (hd : (kd = 0 ∧ decode cc pc = .ok (.invokestatic i, 3)) ∨ (kd = 1 ∧ decode cc pc = .ok (.invokevirtual i, 3)) ∨ (kd = 2 ∧ decode cc pc = .ok (.invokespecial i, 3))) (hn : av.length = n) (hsize : ls.size = nL) (hW : (rest.map fun v => v.category).sum ≤ 24) (hf : cells + mc ≤ R.cells ∧ slots + ms ≤ R.slots) (hrec : kd = 1 → ∃ b av', av = .ref b :: av' ∧ ∃ cellB : Cell, H[b]? = some cellB ∧ cellB.vm.isStatics = false ∧ s.vm.findClass y.cls = some cellB.cls) (hrec2 : kd = 2 → ∃ b av', av = .ref b :: av') (hpre : ∀ U : State, U.heap = H → s.WarmedH U.vm → Pc av.toArray U) :
    va_Run p l e R s m args below meth c H locs cells slots mc ms (F0 m pc ls (av.reverse ++ rest)) rest (Qc av.toArray) free := by
  obtain ⟨hini, hy, hlk, hk⟩ := hc
  have hK := mm_back (p := p) (e := e) (below := below) F hM hbl hcode hini hR
  have hx := F.1
  have hb := F.2.1
  have hml := F.2.2.1
  have ho := F.2.2.2.1
  have hts := F.2.2.2.2.1
  have hNw := F.2.2.2.2.2.1.2.2.2.2.2.2.2.2.1
  have hmr : ∀ sv, 2 * (F0 m pc ls sv).monitorRoom + (rest.map fun v => v.category).sum ≤ 24 := fun sv => by
    show 2 * 0 + _ ≤ 24
    omega
  intro T hT X
  rcases hk with ⟨rfl, k1, k2⟩ | ⟨rfl, k1, k2, n1, rfl, k3⟩ | ⟨rfl, k1, k2, n1, rfl, k3⟩
  · have hd : decode cc pc = .ok (.invokestatic i, 3) := by
      rcases hd with ⟨-, hd⟩ | ⟨q, -⟩ | ⟨q, -⟩
      · exact hd
      · cases q
      · cases q
    rcases hlk with hl | ⟨host, hl⟩
    · obtain ⟨v, vm₁, ⟨U', l2, c2, s2⟩, hW₁, X', ⟨g', mk, t, L, e1, e2, hq, h1, hL, h2, h3⟩, st⟩ := callS X hx (bytes := bytes) (maxL := maxL) (ret := rty) ho (hts _ hl) (hts _ k1) (hts _ hini) (hts _ hcode) hy hK (g := F0 m pc ls (av.reverse ++ rest)) rfl (hsize.trans hml.symm) (argsL := av) (rest := rest) (fun sig h => hn.trans (mm_plen k2 sig h)) rfl (hmr _) (by rw [hb]; exact hd) (fun vm₁ hW₁ => ⟨hf.1, hf.2, hpre (T.setVm vm₁) hT hW₁⟩)
      dsimp only [Pt.U, Pt.locs, Pt.cells, Pt.slots] at X' e1 e2 h1 h2 h3 st
      subst h1; subst h2; subst h3
      exact ⟨v, (T.setVm vm₁).calling g' mk av.toArray, t, U', L, hT, X', hL, e1, e2, hq, st⟩
    · obtain ⟨v, vm₁, ⟨U', l2, c2, s2⟩, hW₁, X', ⟨g', mk, t, L, e1, e2, hq, h1, hL, h2, h3⟩, st⟩ := va_callSN X hx (bytes := bytes) (maxL := maxL) (ret := rty) ho (va_Nw.use rfl (hNw _ _ _ _ hl)) (hts _ k1) (hts _ hini) (hts _ hcode) hy hK (g := F0 m pc ls (av.reverse ++ rest)) rfl (hsize.trans hml.symm) (argsL := av) (rest := rest) (fun sig h => hn.trans (mm_plen k2 sig h)) rfl (hmr _) (by rw [hb]; exact hd) (fun vm₁ hW₁ => ⟨hf.1, hf.2, hpre (T.setVm vm₁) hT hW₁⟩)
      dsimp only [Pt.U, Pt.locs, Pt.cells, Pt.slots] at X' e1 e2 h1 h2 h3 st
      subst h1; subst h2; subst h3
      exact ⟨v, (T.setVm vm₁).calling g' mk av.toArray, t, U', L, hT, X', hL, e1, e2, hq, st⟩
  · have hd : decode cc pc = .ok (.invokevirtual i, 3) := by
      rcases hd with ⟨q, -⟩ | ⟨-, hd⟩ | ⟨q, -⟩
      · cases q
      · exact hd
      · cases q
    obtain ⟨b, av', rfl, cellB, hcB, hoB, hclB⟩ := hrec rfl
    have hst : (Value.ref b :: av').reverse ++ rest = av'.reverse ++ .ref b :: rest := by simp
    have hn' : av'.length = n1 := by simpa using hn
    rcases hlk with hl | ⟨host, hl⟩
    · obtain ⟨v, vm₁, ⟨U', l2, c2, s2⟩, hW₁, X', ⟨g', mk, t, L, e1, e2, hq, h1, hL, h2, h3⟩, st⟩ := callV X hx (C := y.cls) (bytes := bytes) (maxL := maxL) (ret := rty) ho (hts _ hl) (hts _ k1) (hts _ k2) (hts _ hcode) hy hK (by rw [hT]; exact hcB) hoB hclB (g := F0 m pc ls ((Value.ref b :: av').reverse ++ rest)) rfl (hsize.trans hml.symm) (argsL := av') (rest := rest) (fun sig h => hn'.trans (mm_plen k3 sig h)) hst (hmr _) (by rw [hb]; exact hd) (fun vm₁ hW₁ => ⟨hf.1, hf.2, hpre (T.setVm vm₁) hT hW₁⟩)
      dsimp only [Pt.U, Pt.locs, Pt.cells, Pt.slots] at X' e1 e2 h1 h2 h3 st
      subst h1; subst h2; subst h3
      exact ⟨v, (T.setVm vm₁).calling g' mk (Value.ref b :: av').toArray, t, U', L, hT, X', hL, e1, e2, hq, st⟩
    · obtain ⟨v, vm₁, ⟨U', l2, c2, s2⟩, hW₁, X', ⟨g', mk, t, L, e1, e2, hq, h1, hL, h2, h3⟩, st⟩ := va_callVN X hx (C := y.cls) (bytes := bytes) (maxL := maxL) (ret := rty) ho (va_Nw.use rfl (hNw _ _ _ _ hl)) (hts _ k1) (hts _ k2) (hts _ hcode) hy hK (by rw [hT]; exact hcB) hoB hclB (g := F0 m pc ls ((Value.ref b :: av').reverse ++ rest)) rfl (hsize.trans hml.symm) (argsL := av') (rest := rest) (fun sig h => hn'.trans (mm_plen k3 sig h)) hst (hmr _) (by rw [hb]; exact hd) (fun vm₁ hW₁ => ⟨hf.1, hf.2, hpre (T.setVm vm₁) hT hW₁⟩)
      dsimp only [Pt.U, Pt.locs, Pt.cells, Pt.slots] at X' e1 e2 h1 h2 h3 st
      subst h1; subst h2; subst h3
      exact ⟨v, (T.setVm vm₁).calling g' mk (Value.ref b :: av').toArray, t, U', L, hT, X', hL, e1, e2, hq, st⟩
  · have hd : decode cc pc = .ok (.invokespecial i, 3) := by
      rcases hd with ⟨q, -⟩ | ⟨q, -⟩ | ⟨-, hd⟩
      · cases q
      · cases q
      · exact hd
    have hret := hret rfl
    subst hret
    obtain ⟨b, av', rfl⟩ := hrec2 rfl
    have hst : (Value.ref b :: av').reverse ++ rest = av'.reverse ++ .ref b :: rest := by simp
    have hn' : av'.length = n1 := by simpa using hn
    rcases hlk with hl | ⟨host, hl⟩
    · obtain ⟨v, vm₁, ⟨U', l2, c2, s2⟩, hW₁, X', ⟨g', mk, t, L, e1, e2, hq, h1, hL, h2, h3⟩, st⟩ := callI X hx (bytes := bytes) (maxL := maxL) ho k1 (hts _ hl) (hts _ k2) (hts _ hcode) hy hK (g := F0 m pc ls ((Value.ref b :: av').reverse ++ rest)) rfl (hsize.trans hml.symm) (a := b) (argsL := av') (rest := rest) (fun sig h => hn'.trans (mm_plen k3 sig h)) hst (hmr _) (by rw [hb]; exact hd) (fun vm₁ hW₁ => ⟨hf.1, hf.2, hpre (T.setVm vm₁) hT hW₁⟩)
      dsimp only [Pt.U, Pt.locs, Pt.cells, Pt.slots] at X' e1 e2 h1 h2 h3 st
      subst h1; subst h2; subst h3
      exact ⟨v, (T.setVm vm₁).calling g' mk (Value.ref b :: av').toArray, t, U', L, hT, X', hL, e1, e2, hq, st⟩
    · obtain ⟨v, vm₁, ⟨U', l2, c2, s2⟩, hW₁, X', ⟨g', mk, t, L, e1, e2, hq, h1, hL, h2, h3⟩, st⟩ := va_callIN X hx (bytes := bytes) (maxL := maxL) ho k1 (va_Nw.use rfl (hNw _ _ _ _ hl)) (hts _ k2) (hts _ hcode) hy hK (g := F0 m pc ls ((Value.ref b :: av').reverse ++ rest)) rfl (hsize.trans hml.symm) (a := b) (argsL := av') (rest := rest) (fun sig h => hn'.trans (mm_plen k3 sig h)) hst (hmr _) (by rw [hb]; exact hd) (fun vm₁ hW₁ => ⟨hf.1, hf.2, hpre (T.setVm vm₁) hT hW₁⟩)
      dsimp only [Pt.U, Pt.locs, Pt.cells, Pt.slots] at X' e1 e2 h1 h2 h3 st
      subst h1; subst h2; subst h3
      exact ⟨v, (T.setVm vm₁).calling g' mk (Value.ref b :: av').toArray, t, U', L, hT, X', hL, e1, e2, hq, st⟩
/-- a call in the mini machine -/
theorem st_call (F : mm_Fr D tys B old L0 scr p s m args meth c nL own cc mn rt) {y : MethodName} {bytes : ByteArray} {maxL d i kd n : Nat} {rty : Option FieldType} {as st2 : List mm_V} {r : mm_R} (hM : mm_Met D tys B old L0 scr l d y bytes maxL rty as w h r) (hmono : w.2.1 ≤ r.2.1.2.1 ∧ w.2.2 ≤ r.2.1.2.2) (hcode : Jvm.Cond.code y bytes maxL rty ∈ lw_g) (hret : kd = 2 → rty = none) (hc : mm_cOK own i kd y n) (hR : d + 1 ≤ R.frames ∧ 24 + (maxL + 11) + 96 * d ≤ R.locals) (hd : (kd = 0 ∧ decode cc pc = .ok (.invokestatic i, 3)) ∨ (kd = 1 ∧ decode cc pc = .ok (.invokevirtual i, 3)) ∨ (kd = 2 ∧ decode cc pc = .ok (.invokespecial i, 3))) (hsp : mm_split n [] st = some (as, st2)) (hcats : mm_cats st2 ≤ 24) (hrec : kd ≠ 0 → ∃ a as', as = (2, a) :: as' ∧ ((∃ ci, ∃ x : vw_C, mm_cls[ci]? = some x ∧ x.1 = y.cls ∧ (w.1 a).1 = ci + 1) ∨ (y.cls = "java/lang/String" ∧ (w.1 a).1 = 14))) (hr : ∀ ρ, mm_Px ρ0 w0 ρ w → (r.2.1.2.1 - w0.2.1).toNat ≤ R.cells ∧ (r.2.1.2.2 - w0.2.2).toNat ≤ R.slots) (kk : (r.1.1 = 9 ∧ mm_Wc D tys B old L0 scr p l e R s m args below meth c nL ρ0 w0 Q (pc + 3) L st2 r.2.1 r.2.2) ∨ (r.1.1 ≤ 2 ∧ mm_Wc D tys B old L0 scr p l e R s m args below meth c nL ρ0 w0 Q (pc + 3) L (r.1 :: st2) r.2.1 r.2.2)) : mm_Wc D tys B old L0 scr p l e R s m args below meth c nL ρ0 w0 Q pc L st w h := by
  intro ρ H locs ls sv hρ hH hS hL hst
  obtain ⟨av, sv2, g1, g2, g3, g4⟩ := mm_split_at n [] st as st2 [] sv hsp trivial hst
  have g3 : av.reverse ++ sv2 = sv := by simpa using g3
  subst g3
  obtain ⟨r1, r2⟩ := hr ρ hρ
  have hpx := hρ.2
  have hrecv : kd ≠ 0 → ∃ b av', av = .ref b :: av' ∧ ∃ cellB : Cell, H[b]? = some cellB ∧ cellB.vm.isStatics = false ∧ s.vm.findClass y.cls = some cellB.cls := by
    intro hk
    obtain ⟨a, as', rfl, ha⟩ := hrec hk
    obtain ⟨x, av', rfl, ⟨hx1, rfl⟩, -⟩ := mm_SR_cons g1
    rcases ha with ⟨ci, x, hx, hxn, hci⟩ | ⟨hs, hk14⟩
    · have hlt := mm_cls_lt hx
      obtain ⟨p1, p2⟩ := mm_pos hH (a := a) (by omega) (by omega) (by omega) (Or.inl (by omega))
      have hent := mm_ws_at (old := old) (tys := tys) (w := w) (h := h) p1 p2
      rw [mm_ent_obj hlt hci] at hent
      refine ⟨_, av', by rw [show mm_adr old ρ ((2, a) : mm_V).2 = _ from mm_adr_at p1 p2]; rfl, ?_⟩
      obtain ⟨cellB, c1, c2, c3⟩ := va_recv F.2.2.2.2.2.1.1 hH.2.2.2.2.1 hx hent
      exact ⟨cellB, c1, c2, by rw [← hxn]; exact c3⟩
    · have hneg : a ≤ 0 := by
        rcases Int.lt_or_le 0 a with q | q
        · rcases Int.lt_or_le ρ.length a with q2 | q2
          · rw [hH.2.2.1 a q2] at hk14; omega
          · have := hH.2.1 a q q2
            rcases this with ⟨_, h2, _⟩ | ⟨h2, _⟩ | ⟨h2, _⟩ | ⟨h2, _⟩ <;> omega
        · exact q
      obtain ⟨n1, -, -, n2, n3⟩ := hH.2.2.2.1
      have hex : ∃ i : Nat, i < 12 ∧ a = -(10 + 2 * (i : Int)) := by
        by_cases q1 : a = -1
        · subst q1; rw [n1] at hk14; exact absurd hk14 (show ¬ (50 : Nat) = 14 by decide)
        · by_cases q2 : ∀ i : Nat, i < 12 → a ≠ -(10 + 2 * (i : Int)) ∧ a ≠ -(11 + 2 * (i : Int))
          · rw [n3 a hneg q1 q2] at hk14; omega
          · simp only [Classical.not_forall] at q2
            obtain ⟨i, hi, q2⟩ := q2
            obtain ⟨-, -, -, g2, -⟩ := n2 i hi
            by_cases e2 : a = -(11 + 2 * (i : Int))
            · subst e2; rw [g2] at hk14; exact absurd hk14 (by show ¬ (54 : Nat) = 14; decide)
            · exact ⟨i, hi, Classical.byContradiction fun z => q2 ⟨z, e2⟩⟩
      obtain ⟨i, hi, rfl⟩ := hex
      refine ⟨old (-(10 + 2 * (i : Int))), av', ?_, ?_⟩
      · rw [show mm_adr old ρ ((2, -(10 + 2 * (i : Int))) : mm_V).2 = some (old (-(10 + 2 * (i : Int)))) by show mm_adr old ρ (-(10 + 2 * (i : Int))) = _; unfold mm_adr; rw [if_pos (by omega)]]
        rfl
      · rw [hs]
        exact vk_recv F.2.2.2.2.2.1.2.2.2.2.1 hi hS
  have hrun := mm_runC (p := p) (e := e) (below := below) (H := H) (locs := locs) (cells := (w.2.1 - w0.2.1).toNat) (slots := (w.2.2 - w0.2.2).toNat) (ls := ls) (av := av) (rest := sv2) F (hM ρ) mm_CP_blind hcode hret hc hR hd (by simpa using g4) hL.1 (by rw [mm_cats_at g2]; exact hcats) (by omega) (fun hk => hrecv (by omega)) (fun hk => by obtain ⟨b, av', h1, -⟩ := hrecv (by omega); exact ⟨b, av', h1⟩) (fun U hU hW => ⟨av, rfl, g1, mm_Env_to F.2.2.2.2.2.1 hS hU hW, by rw [hU]; exact hH⟩)
  intro T hT X
  obtain ⟨v, st₀, t, T', L1, h0, X', hL1, e1, e2, ⟨⟨ρx, ho, hR2⟩, hF⟩, hgo⟩ := hrun T hT X
  have hS2 : va_S (mm_A B) s.heap T'.heap (locs ++ L1) := by
    have hF1 := hF.1
    rw [h0] at hF1
    refine ⟨Nat.le_trans hS.1 (by rw [e1]; exact hF1), fun q h1 h2 => ?_, fun q hq => ?_⟩
    · rw [e1, hF.2 q (by rw [h0]; exact Nat.lt_of_lt_of_le h1 hS.1) h2, h0]
      exact hS.2.1 q h1 h2
    · rcases List.mem_append.mp hq with h | h
      · exact hS.2.2 q h
      · exact hL1 q h
  have hpx2 : mm_Px ρ0 w0 (ρ ++ ρx) r.2.1 := by
    obtain ⟨⟨ρy, rfl⟩, p1, p2⟩ := hρ
    exact ⟨⟨ρy ++ ρx, by simp⟩, by omega, by omega⟩
  rw [← e1] at hR2
  have c1 : (w.2.1 - w0.2.1).toNat + (r.2.1.2.1 - w.2.1).toNat = (r.2.1.2.1 - w0.2.1).toNat := by omega
  have c2 : (w.2.2 - w0.2.2).toNat + (r.2.1.2.2 - w.2.2).toNat = (r.2.1.2.2 - w0.2.2).toNat := by omega
  rw [c1, c2] at X'
  rcases kk with ⟨k1, k2⟩ | ⟨k1, k2⟩
  · have hv : v = none := by
      rcases ho with ⟨-, q⟩ | ⟨q, -⟩
      · cases q; rfl
      · omega
    subst hv
    obtain ⟨t2, a1, b1⟩ := k2 (ρ ++ ρx) T'.heap (locs ++ L1) ls sv2 hpx2 hR2 hS2 (mm_LR_app _ hL) (mm_SR_app _ g2) T' rfl X'
    exact ⟨t2, hgo t2 a1, b1⟩
  · obtain ⟨x, hx, hxv⟩ : ∃ x, v = some x ∧ mm_VR old (ρ ++ ρx) r.1 x := by
      rcases ho with ⟨q, -⟩ | ⟨-, x, q, hxv⟩
      · omega
      · cases q; exact ⟨x, rfl, hxv⟩
    subst hx
    obtain ⟨t2, a1, b1⟩ := k2 (ρ ++ ρx) T'.heap (locs ++ L1) ls (x :: sv2) hpx2 hR2 hS2 (mm_LR_app _ hL) ⟨hxv, mm_SR_app _ g2⟩ T' rfl X'
    exact ⟨t2, hgo t2 a1, b1⟩
end MM
