theorem mm_HR_push {D : va_G} {tys : List (ClassId × FieldType)} {B : Nat} {old : Int → Nat} {L0 : Nat} {scr : Nat → Int32} {ρ : List Nat} {w : mm_W} {h : mm_H} {H H1 : Heap} {q k : Nat} {n : Int} {en : va_E} (hH : mm_HR D tys B old L0 scr ρ w h H) (hg : mm_good (ρ ++ [q]).length (mNew w k n) (mZero h w.2.1) w.2.1) (he : en = mm_ent old tys (ρ ++ [q]) (mNew w k n) (mZero h w.2.1) w.2.1) (hP : va_P D mm_cls (mm_ws old tys ρ w h ++ [(q, en)]) H1) (hD : va_D (mm_A B) (mm_ws old tys ρ w h ++ [(q, en)])) : mm_HR D tys B old L0 scr (ρ ++ [q]) (mNew w k n) (mZero h w.2.1) H1 := by
  obtain ⟨g1, g2, g3, g4, -, -⟩ := hH
  subst he
  rw [← mm_ws_push q k n g1 g2] at hP hD
  have hlen : (ρ ++ [q]).length = ρ.length + 1 := by simp
  refine ⟨?_, fun b hb1 hb2 => ?_, fun b hb => ?_, mm_neg_up g4 (fun b hb => ?_) (fun b j hb => ?_), hP, hD⟩
  · show w.2.1 + 1 = _
    rw [hlen, g1]; omega
  · by_cases e : b = w.2.1
    · subst e; exact hg
    · rw [hlen] at hb2 ⊢
      exact mm_good_up (Nat.le_succ _) (by simp [mNew, e]) (fun j => by simp [mZero, e]) (g2 b hb1 (by omega))
  · rw [hlen] at hb
    have e : ¬ b = w.2.1 := by omega
    have := g3 b (by omega)
    simpa [mNew, e] using this
  · have e : ¬ b = w.2.1 := by omega
    simp [mNew, e]
  · have e : ¬ b = w.2.1 := by omega
    simp [mZero, e]
theorem mm_RA_inj {s : State} {c1 c2 : ClassId} {ty : FieldType} (h1 : va_RA s c1 ty) (h2 : va_RA s c2 ty) : c1 = c2 := by
  cases ty with
  | object C =>
    obtain ⟨_, _, _, _, _, a⟩ := h1
    obtain ⟨_, _, _, _, _, b⟩ := h2
    exact Option.some.inj (a.symm.trans b)
  | _ =>
    have a : s.vm.findClass _ = some c1 := h1
    have b : s.vm.findClass _ = some c2 := h2
    exact Option.some.inj (a.symm.trans b)
theorem mm_K_last {D : va_G} {tys : List (ClassId × FieldType)} {s : State} {cA : ClassId} {ty : FieldType} {k : Nat} (hK : va_K D mm_cls (tys ++ [(cA, ty)]) s) (ht : tys[mm_ki k]? = some (mm_cA tys k, mm_tyk k)) (hty : ty = mm_tyk k) : cA = mm_cA tys k := by
  have h1 := (hK.2 tys.length (cA, ty) (by simp)).2
  have h2 := (hK.2 (mm_ki k) (mm_cA tys k, mm_tyk k) (by rw [List.getElem?_append_left (List.getElem?_eq_some_iff.mp ht).1]; exact ht)).2
  subst hty
  exact mm_RA_inj h1 h2
theorem mm_mZero_at {h : mm_H} {a : Int} : mZero h a a = fun _ => 0 := by
  funext j; simp [mZero]
theorem mm_mNew_at {w : mm_W} {k : Nat} {n : Int} : (mNew w k n).1 w.2.1 = (k, n) := by simp [mNew]
theorem mm_i64_z : mm_i64 0 := by unfold mm_i64; omega
section MM
variable {D : va_G} {tys : List (ClassId × FieldType)} {B : Nat} {old : Int → Nat} {L0 : Nat} {scr : Nat → Int32}
variable {p : Program} {l : Launch} {e : Env} {R : Room} {s : State} {m : MethodId} {args : Array Value} {below : List Frame} {meth : Method} {c : Code} {nL : Nat} {ρ0 : List Nat} {w0 : mm_W} {Q : State → Prop}
variable {own : String} {cc : ByteArray} {mn : String} {rt : Option FieldType} {pc : Nat} {L st : List mm_V} {w : mm_W} {h : mm_H} {nx : Nat} {tx : String}

theorem mm_px_push {ρ : List Nat} {q k : Nat} {n : Int} (hρ : mm_Px ρ0 w0 ρ w) (hn : 0 ≤ n) : mm_Px ρ0 w0 (ρ ++ [q]) (mNew w k n) := by
  obtain ⟨⟨ρx, rfl⟩, h1, h2⟩ := hρ
  refine ⟨⟨ρx ++ [q], by simp⟩, ?_, ?_⟩
  · show _ ≤ w.2.1 + 1; omega
  · show _ ≤ w.2.2 + n; omega
theorem mm_hA (F : mm_Fr D tys B old L0 scr p s m args meth c nL own cc mn rt) : ∀ q, s.heap.size ≤ q → mm_A B q := fun q hq => Nat.le_trans F.2.2.2.2.2.1.2.2.1 hq
theorem st_newa (F : mm_Fr D tys B old L0 scr p s m args meth c nL own cc mn rt) {n : Int} {k : Nat} {atype : ArrayType} {ty : FieldType} (hat : newarray.typeOf atype = ty) (hk : (k = 50 ∧ ty = .int) ∨ (k = 51 ∧ ty = .short) ∨ (k = 52 ∧ ty = .boolean)) (hw : Jvm.Cond.arrayClass ty ∈ lw_g) (hd : decode cc pc = .ok (.newarray atype, 2)) (h0 : 0 ≤ n) (h1 : n ≤ 1000000) (hr : ∀ ρ, mm_Px ρ0 w0 ρ w → (w.2.1 + 1 - w0.2.1).toNat ≤ R.cells ∧ (w.2.2 + n - w0.2.2).toNat ≤ R.slots) (kk : mm_Wc D tys B old L0 scr p l e R s m args below meth c nL ρ0 w0 Q (pc + 2) L ((2, w.2.1) :: st) ((mNew w k n)) ((mZero h w.2.1))) : mm_Wc D tys B old L0 scr p l e R s m args below meth c nL ρ0 w0 Q pc L ((0, n) :: st) w h := by
  intro ρ H locs ls sv hρ hH hS hL hst
  obtain ⟨v, sv, rfl, ⟨hn, rfl⟩, hs2⟩ := mm_SR_cons hst
  have hn : mm_i32 n := hn
  obtain ⟨r1, r2⟩ := hr ρ hρ
  have hpx := hρ.2
  have hcl := i32_cl h0 hn
  have hty : ty = mm_tyk k ∧ (k = 50 ∨ k = 51 ∨ k = 52) := by rcases hk with ⟨rfl, rfl⟩ | ⟨rfl, rfl⟩ | ⟨rfl, rfl⟩ <;> exact ⟨rfl, by omega⟩
  have hdef : defaultValue ty = .int 0 := by rcases hk with ⟨_, rfl⟩ | ⟨_, rfl⟩ | ⟨_, rfl⟩ <;> rfl
  have hcb : componentBytes ty ≤ 8 := by rcases hk with ⟨_, rfl⟩ | ⟨_, rfl⟩ | ⟨_, rfl⟩ <;> decide
  refine va_newa (atype := atype) F.1 F.2.1 (F.2.2.2.2.1 _ (by rw [hat]; exact hw)) hat F.2.2.2.2.2.1.1 hH.2.2.2.2.1 hH.2.2.2.2.2 hS (mm_hA F) (n := Int32.ofInt n) (N' := n.toNat) (a0 := (n.toNat, .inl (fun _ => 0))) (fun cA => by rw [hdef]; rfl) (fun q => by have := (i32_lt hn i32_z).mp q; omega) hcl ?_ (by omega) (by omega) hd (fun q cA H1 hK1 hP1 hD1 hS1 => ?_)
  · have : n.toNat * componentBytes ty ≤ n.toNat * 8 := Nat.mul_le_mul_left _ hcb
    omega
  · have hcA := mm_K_last (k := k) hK1 (F.2.2.2.2.2.1.2.1 k (by omega)) hty.1
    subst hcA
    have hent : mm_ent old tys (ρ ++ [q]) (mNew w k n) (mZero h w.2.1) w.2.1 = .inl (mm_cA tys k, n.toNat, .inl (fun _ => 0)) := by
      rw [mm_ent_i (k := k) (by rw [mm_mNew_at]) hty.2, mm_mNew_at, mm_mZero_at]
      rfl
    have hHR := mm_HR_push (k := k) (n := n) hH (Or.inr (Or.inl (by rw [mm_mNew_at, mm_mZero_at]; exact ⟨hty.2, h0, h1, fun _ => i32_z⟩))) hent.symm hP1 hD1
    have hlen : (ρ ++ [q]).length = ρ.length + 1 := by simp
    have := kk (ρ ++ [q]) H1 locs ls (.ref q :: sv) (mm_px_push hρ h0) hHR hS1 (mm_LR_app _ hL) ⟨⟨by show w.2.1 ≤ _; rw [hlen, hH.1]; omega, ?_⟩, mm_SR_app _ hs2⟩
    · refine W.cs (m := m) ?_ ?_ this
      · show _ = (w.2.1 + 1 - w0.2.1).toNat; omega
      · show _ = (w.2.2 + n - w0.2.2).toNat; omega
    · show _ = va_rf (mm_adr old (ρ ++ [q]) w.2.1)
      rw [mm_adr_at (by rw [hH.1]; omega) (by rw [hlen, hH.1]; omega), hH.1]
      simp [List.getD]
      rfl
theorem st_newaJ (F : mm_Fr D tys B old L0 scr p s m args meth c nL own cc mn rt) {n : Int} {atype : ArrayType} (hat : newarray.typeOf atype = .long) (hw : Jvm.Cond.arrayClass .long ∈ lw_g) (hd : decode cc pc = .ok (.newarray atype, 2)) (h0 : 0 ≤ n) (h1 : n ≤ 1000000) (hr : ∀ ρ, mm_Px ρ0 w0 ρ w → (w.2.1 + 1 - w0.2.1).toNat ≤ R.cells ∧ (w.2.2 + n - w0.2.2).toNat ≤ R.slots) (kk : mm_Wc D tys B old L0 scr p l e R s m args below meth c nL ρ0 w0 Q (pc + 2) L ((2, w.2.1) :: st) ((mNew w 53 n)) ((mZero h w.2.1))) : mm_Wc D tys B old L0 scr p l e R s m args below meth c nL ρ0 w0 Q pc L ((0, n) :: st) w h := by
  intro ρ H locs ls sv hρ hH hS hL hst
  obtain ⟨v, sv, rfl, ⟨hn, rfl⟩, hs2⟩ := mm_SR_cons hst
  have hn : mm_i32 n := hn
  obtain ⟨r1, r2⟩ := hr ρ hρ
  have hpx := hρ.2
  have hcl := i32_cl h0 hn
  refine va_newa (atype := atype) F.1 F.2.1 (F.2.2.2.2.1 _ (by rw [hat]; exact hw)) hat F.2.2.2.2.2.1.1 hH.2.2.2.2.1 hH.2.2.2.2.2 hS (mm_hA F) (n := Int32.ofInt n) (N' := n.toNat) (a0 := (n.toNat, .inr (.inl (fun _ => 0)))) (fun cA => rfl) (fun q => by have := (i32_lt hn i32_z).mp q; omega) hcl ?_ (by omega) (by omega) hd (fun q cA H1 hK1 hP1 hD1 hS1 => ?_)
  · show n.toNat * 8 ≤ _
    omega
  · have hcA := mm_K_last (k := 53) hK1 (F.2.2.2.2.2.1.2.1 53 (by omega)) rfl
    subst hcA
    have hent : mm_ent old tys (ρ ++ [q]) (mNew w 53 n) (mZero h w.2.1) w.2.1 = .inl (mm_cA tys 53, n.toNat, .inr (.inl (fun _ => 0))) := by
      rw [mm_ent_j (by rw [mm_mNew_at]), mm_mNew_at, mm_mZero_at]
      rfl
    have hHR := mm_HR_push (k := 53) (n := n) hH (Or.inr (Or.inr (Or.inl (by rw [mm_mNew_at, mm_mZero_at]; exact ⟨rfl, h0, h1, fun _ => mm_i64_z⟩)))) hent.symm hP1 hD1
    have hlen : (ρ ++ [q]).length = ρ.length + 1 := by simp
    have := kk (ρ ++ [q]) H1 locs ls (.ref q :: sv) (mm_px_push hρ h0) hHR hS1 (mm_LR_app _ hL) ⟨⟨by show w.2.1 ≤ _; rw [hlen, hH.1]; omega, ?_⟩, mm_SR_app _ hs2⟩
    · refine W.cs (m := m) ?_ ?_ this
      · show _ = (w.2.1 + 1 - w0.2.1).toNat; omega
      · show _ = (w.2.2 + n - w0.2.2).toNat; omega
    · show _ = va_rf (mm_adr old (ρ ++ [q]) w.2.1)
      rw [mm_adr_at (by rw [hH.1]; omega) (by rw [hlen, hH.1]; omega), hH.1]
      simp [List.getD]
      rfl
theorem mm_q_good {ρ : List Nat} {q k : Nat} {n : Int} (hk : k = 107 ∨ k = 109 ∨ k = 150) (h0 : 0 ≤ n) (h1 : n ≤ 1000000) : mm_good (ρ ++ [q]).length (mNew w k n) (mZero h w.2.1) w.2.1 := by
  refine Or.inr (Or.inr (Or.inr ?_))
  rw [mm_mNew_at, mm_mZero_at]
  exact ⟨hk, h0, h1, fun _ => ⟨Int.le_refl _, by show (0 : Int) ≤ _; omega⟩⟩
theorem mm_q_ent {ρ : List Nat} {q k : Nat} {n : Int} (hk : k = 107 ∨ k = 109 ∨ k = 150) : mm_ent old tys (ρ ++ [q]) (mNew w k n) (mZero h w.2.1) w.2.1 = .inl (mm_cA tys k, n.toNat, .inr (.inr (.inr (.inr (fun _ => none))))) := by
  rw [mm_ent_q (k := k) (by rw [mm_mNew_at]) (by omega), mm_mNew_at, mm_mZero_at]
  rfl
theorem st_anew (F : mm_Fr D tys B old L0 scr p s m args meth c nL own cc mn rt) {n : Int} {k i : Nat} {C : String} (hk : (k = 107 ∧ C = "FewRectangles$Rule") ∨ (k = 109 ∧ C = "FewRectangles$Sheet")) (hw1 : Jvm.Cond.classLink own i C ∈ lw_g) (hd : decode cc pc = .ok (.anewarray i, 3)) (h0 : 0 ≤ n) (h1 : n ≤ 1000000) (hr : ∀ ρ, mm_Px ρ0 w0 ρ w → (w.2.1 + 1 - w0.2.1).toNat ≤ R.cells ∧ (w.2.2 + n - w0.2.2).toNat ≤ R.slots) (kk : mm_Wc D tys B old L0 scr p l e R s m args below meth c nL ρ0 w0 Q (pc + 3) L ((2, w.2.1) :: st) ((mNew w k n)) ((mZero h w.2.1))) : mm_Wc D tys B old L0 scr p l e R s m args below meth c nL ρ0 w0 Q pc L ((0, n) :: st) w h := by
  intro ρ H locs ls sv hρ hH hS hL hst
  obtain ⟨v, sv, rfl, ⟨hn, rfl⟩, hs2⟩ := mm_SR_cons hst
  have hn : mm_i32 n := hn
  obtain ⟨r1, r2⟩ := hr ρ hρ
  have hpx := hρ.2
  have hcl := i32_cl h0 hn
  have hty : .object C = mm_tyk k ∧ (k = 107 ∨ k = 109 ∨ k = 150) := by rcases hk with ⟨rfl, rfl⟩ | ⟨rfl, rfl⟩ <;> exact ⟨rfl, by omega⟩
  have hov : va_AO C s := by rcases hk with ⟨_, rfl⟩ | ⟨_, rfl⟩; exact F.2.2.2.2.2.1.2.2.2.2.2.2.2.2.2.1; exact F.2.2.2.2.2.1.2.2.2.2.2.2.2.2.2.2.1
  refine va_newq F.1 F.2.1 F.2.2.2.1 (F.2.2.2.2.1 _ hw1) hov F.2.2.2.2.2.1.1 hH.2.2.2.2.1 hH.2.2.2.2.2 hS (mm_hA F) (n := Int32.ofInt n) (N' := n.toNat) (fun q => by have := (i32_lt hn i32_z).mp q; omega) hcl (by omega) (by omega) (by omega) hd (fun q cA H1 hK1 hP1 hD1 hS1 => ?_)
  have hcA := mm_K_last (k := k) hK1 (F.2.2.2.2.2.1.2.1 k (by omega)) hty.1
  subst hcA
  have hHR := mm_HR_push (k := k) (n := n) hH (mm_q_good hty.2 h0 h1) (mm_q_ent hty.2).symm hP1 hD1
  have hlen : (ρ ++ [q]).length = ρ.length + 1 := by simp
  have := kk (ρ ++ [q]) H1 locs ls (.ref q :: sv) (mm_px_push hρ h0) hHR hS1 (mm_LR_app _ hL) ⟨⟨by show w.2.1 ≤ _; rw [hlen, hH.1]; omega, ?_⟩, mm_SR_app _ hs2⟩
  · refine W.cs (m := m) ?_ ?_ this
    · show _ = (w.2.1 + 1 - w0.2.1).toNat; omega
    · show _ = (w.2.2 + n - w0.2.2).toNat; omega
  · show _ = va_rf (mm_adr old (ρ ++ [q]) w.2.1)
    rw [mm_adr_at (by rw [hH.1]; omega) (by rw [hlen, hH.1]; omega), hH.1]
    simp [List.getD]
    rfl
/-- what is known of a class that is made -/
def mm_nOK (own : String) (i ci : Nat) : Prop := ∃ (C : String) (T : u_T) (N : Nat) (ty : Nat → FieldType), mm_cls[ci]? = some (C, T, N) ∧ N = mm_nf (ci + 1) ∧ (∀ w ∈ u_ws C T N, w ∈ lw_g) ∧ (∀ j, j < N → parseFieldDescriptor (T j).2.2.1 = some (ty j)) ∧ Jvm.Cond.classLink own i C ∈ lw_g ∧ Jvm.Cond.instantiable C N ∈ lw_g ∧ Jvm.Cond.initialized C ∈ lw_g ∧ (∀ j, j < N → mm_ft (ci + 1) j ≤ 2 ∧ defaultValue (ty j) = (match mm_ft (ci + 1) j with | 0 => .int 0 | 1 => .long 0 | _ => .null))
theorem st_new (F : mm_Fr D tys B old L0 scr p s m args meth c nL own cc mn rt) {i ci : Nat} (hf : mm_nOK own i ci) (hd : decode cc pc = .ok (.new i, 3)) (hr : ∀ ρ, mm_Px ρ0 w0 ρ w → (w.2.1 + 1 - w0.2.1).toNat ≤ R.cells ∧ (w.2.2 + (mm_nf (ci + 1) : Nat) - w0.2.2).toNat ≤ R.slots) (kk : mm_Wc D tys B old L0 scr p l e R s m args below meth c nL ρ0 w0 Q (pc + 3) L ((2, w.2.1) :: st) ((mNew w (ci + 1) ((mm_nf (ci + 1) : Nat) : Int))) ((mZero h w.2.1))) : mm_Wc D tys B old L0 scr p l e R s m args below meth c nL ρ0 w0 Q pc L st w h := by
  intro ρ H locs ls sv hρ hH hS hL hst
  obtain ⟨C, T, N, ty, f1, hN, f2, f3, f4, f5, f6, f7⟩ := hf
  have hci := mm_cls_lt f1
  obtain ⟨r1, r2⟩ := hr ρ hρ
  have hpx := hρ.2
  refine va_new F.1 F.2.1 F.2.2.2.2.1 f2 ty f3 F.2.2.2.1 (F.2.2.2.2.1 _ f4) (F.2.2.2.2.1 _ f5) (F.2.2.2.2.1 _ f6) F.2.2.2.2.2.1.1 hH.2.2.2.2.1 hH.2.2.2.2.2 hS (mm_hA F) f1 (fs := (List.range (mm_nf (ci + 1))).map (fun i => mm_val old ρ (mm_ft (ci + 1) i) 0)) (fun j hj => ?_) (by omega) (by omega) hd (fun q H1 hP1 hD1 hS1 => ?_)
  · obtain ⟨g1, g2⟩ := f7 j hj
    rw [g2]
    unfold vp_V
    rw [List.getD_eq_getElem?_getD, List.getElem?_map, List.getElem?_range (by omega)]
    rcases (show mm_ft (ci + 1) j = 0 ∨ mm_ft (ci + 1) j = 1 ∨ mm_ft (ci + 1) j = 2 by omega) with e | e | e <;> simp only [e, Option.map, Option.getD, mm_val] <;> rfl
  · have hent : mm_ent old tys (ρ ++ [q]) (mNew w (ci + 1) ((mm_nf (ci + 1) : Nat) : Int)) (mZero h w.2.1) w.2.1 = .inr (ci, (List.range (mm_nf (ci + 1))).map (fun i => mm_val old ρ (mm_ft (ci + 1) i) 0)) := by
      rw [mm_ent_obj hci (by rw [mm_mNew_at]), mm_mZero_at]
      congr 2
    have hHR := mm_HR_push (k := ci + 1) (n := ((mm_nf (ci + 1) : Nat) : Int)) hH ?_ hent.symm hP1 hD1
    · have hlen : (ρ ++ [q]).length = ρ.length + 1 := by simp
      have := kk (ρ ++ [q]) H1 locs ls (.ref q :: sv) (mm_px_push hρ (by omega)) hHR hS1 (mm_LR_app _ hL) ⟨⟨by show w.2.1 ≤ _; rw [hlen, hH.1]; omega, ?_⟩, mm_SR_app _ hst⟩
      · refine W.cs (m := m) ?_ ?_ this
        · show _ = (w.2.1 + 1 - w0.2.1).toNat; omega
        · show _ = (w.2.2 + ((mm_nf (ci + 1) : Nat) : Int) - w0.2.2).toNat; omega
      · show _ = va_rf (mm_adr old (ρ ++ [q]) w.2.1)
        rw [mm_adr_at (by rw [hH.1]; omega) (by rw [hlen, hH.1]; omega), hH.1]
        simp [List.getD]
        rfl
    · refine Or.inl ?_
      rw [mm_mNew_at, mm_mZero_at]
      refine ⟨by show 1 ≤ ci + 1; omega, by show ci + 1 ≤ 13; omega, fun j hj => ?_⟩
      have g1 := (f7 j (by rw [hN]; exact hj)).1
      show match mm_ft (ci + 1) j with | 0 => _ | 1 => _ | _ => _
      rcases (show mm_ft (ci + 1) j = 0 ∨ mm_ft (ci + 1) j = 1 ∨ mm_ft (ci + 1) j = 2 by omega) with e | e | e <;> rw [e]
      · exact i32_z
      · exact mm_i64_z
      · exact ⟨Int.le_refl _, by show (0 : Int) ≤ _; omega⟩
end MM
