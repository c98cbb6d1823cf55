/-! The steps of the mini machine are the machine's. -/
def mm_str : List (String × Nat × String) := [("FewRectangles$Tape", 52, "[]()<=>+-*;:{}"), ("FewRectangles$ConditionReader", 60, "or"), ("FewRectangles$ConditionReader", 62, "and"), ("FewRectangles$ConditionReader", 76, "not"), ("FewRectangles$ConditionReader", 105, "value row column left above sum most least like greater"), ("FewRectangles$ProgramReader", 47, "paint rows columns insert remove copy turn tidy shift repeat"), ("FewRectangles$ProgramReader", 89, "face size ink fill"), ("FewRectangles$ProgramReader", 98, "none"), ("FewRectangles$ProgramReader", 104, "a b c d e f g h i j k l m n o p"), ("FewRectangles$ProgramReader", 79, "to"), ("FewRectangles$ProgramReader", 85, "rows columns"), ("FewRectangles$ProgramReader", 87, "by")]
def mm_sl : List Nat := [14, 2, 3, 3, 55, 60, 18, 4, 31, 2, 12, 2]
def mm_sb : List (List Int32) := [[91, 93, 40, 41, 60, 61, 62, 43, 45, 42, 59, 58, 123, 125], [111, 114], [97, 110, 100], [110, 111, 116], [118, 97, 108, 117, 101, 32, 114, 111, 119, 32, 99, 111, 108, 117, 109, 110, 32, 108, 101, 102, 116, 32, 97, 98, 111, 118, 101, 32, 115, 117, 109, 32, 109, 111, 115, 116, 32, 108, 101, 97, 115, 116, 32, 108, 105, 107, 101, 32, 103, 114, 101, 97, 116, 101, 114], [112, 97, 105, 110, 116, 32, 114, 111, 119, 115, 32, 99, 111, 108, 117, 109, 110, 115, 32, 105, 110, 115, 101, 114, 116, 32, 114, 101, 109, 111, 118, 101, 32, 99, 111, 112, 121, 32, 116, 117, 114, 110, 32, 116, 105, 100, 121, 32, 115, 104, 105, 102, 116, 32, 114, 101, 112, 101, 97, 116], [102, 97, 99, 101, 32, 115, 105, 122, 101, 32, 105, 110, 107, 32, 102, 105, 108, 108], [110, 111, 110, 101], [97, 32, 98, 32, 99, 32, 100, 32, 101, 32, 102, 32, 103, 32, 104, 32, 105, 32, 106, 32, 107, 32, 108, 32, 109, 32, 110, 32, 111, 32, 112], [116, 111], [114, 111, 119, 115, 32, 99, 111, 108, 117, 109, 110, 115], [98, 121]]
def mm_A (B : Nat) : Nat → Prop := fun q => B ≤ q
def mm_AOI (U : State) : Prop := (Jvm.Cond.arrayOver (.array .int)).before #[] U = true
theorem mm_AOI_moved {u U : State} (hvm : u.vm.Alike U.vm) (h : mm_AOI u) : mm_AOI U := by
  obtain ⟨comp, c, k, h1, h2, h3, h4, h5⟩ := arrayOverA_spec h
  obtain ⟨k', hk', he⟩ := hvm.2.2 _ _ h3
  have e1 := va_idx_bare U.vm comp
  have e2 := va_idx_bare u.vm comp
  rw [hvm.bare_eq] at e1
  have hi : (U.vm.classes.findIdx? fun (x : Class) => match x.kind with | .array component _ => component == comp | _ => false) = some c := e1.symm.trans (e2.trans h2)
  have hkind : k'.kind = .array comp (.array .int) := by rw [he]; exact h4
  have f1 : U.vm.findClass (FieldType.array .int).toString = some comp := by rw [hvm.findClass]; exact h1
  have f2 : U.vm.findClass ("[" ++ (FieldType.array .int).toString) = some c := by rw [hvm.findClass]; exact h5
  unfold mm_AOI Cond.before Cond.holds
  simp only [Cond.value]
  rw [f1, Option.bind_some]
  refine (congrArg (fun o : Option Nat => (o.bind (fun c => (U.vm.classes[c]?).map fun (k : Class) => match k.kind with | .array _ ty => decide (ty = FieldType.array .int) && decide (U.vm.findClass ("[" ++ (FieldType.array .int).toString) = some c) | _ => false) == some true)) hi).trans ?_
  simp [hk', hkind, f2]
theorem mm_AOI_use {U : State} {args : Array Value} (h : mm_AOI U) : (Jvm.Cond.arrayOver (.array .int)).before args U = true := h
/-- what holds of a frame's start: the tables, the script, the String constants, two statics -/
def mm_Env (D : va_G) (tys : List (ClassId × FieldType)) (B : Nat) (old : Int → Nat) (L0 : Nat) (scr : Nat → Int32) (U : State) : Prop :=
  va_K D mm_cls tys U ∧ (∀ k, (k = 50 ∨ k = 51 ∨ k = 52 ∨ k = 53 ∨ k = 107 ∨ k = 109 ∨ k = 150) → tys[mm_ki k]? = some (mm_cA tys k, mm_tyk k)) ∧ B ≤ U.heap.size ∧
  (va_X (old (-1)) L0 scr U U.heap ∧ old (-1) < B) ∧
  vk_S 12 mm_sl mm_sb (fun i => old (-(10 + 2 * (i : Int)))) (fun i => old (-(11 + 2 * (i : Int)))) (mm_A B) U U.heap ∧
  (∀ i, i < 12 → vk_R (mm_nth ("", 0, "") i mm_str).1 (mm_nth ("", 0, "") i mm_str).2.1 (mm_nth ("", 0, "") i mm_str).2.2 (old (-(10 + 2 * (i : Int)))) U) ∧
  va_Z "java/lang/String" "COMPACT_STRINGS" "Z" (.int 1) (mm_A B) U U.heap ∧
  va_Zq "jdk/internal/util/Preconditions" "SIOOBE_FORMATTER" "Ljava/util/function/BiFunction;" (mm_A B) U U.heap ∧
  (∀ own i y host, Jvm.Cond.methodLinkNest own i y host ∈ lw_tbl → va_Nw (Jvm.Cond.methodLinkNest own i y host) U) ∧ va_AO "FewRectangles$Rule" U ∧ va_AO "FewRectangles$Sheet" U ∧ mm_AOI U
theorem mm_Env_to {D : va_G} {tys : List (ClassId × FieldType)} {B : Nat} {old : Int → Nat} {L0 : Nat} {scr : Nat → Int32} {s U : State} {H : Heap} {locs : List Loc} (he : mm_Env D tys B old L0 scr s) (hS : va_S (mm_A B) s.heap H locs) (hU : U.heap = H) (hW : s.WarmedH U.vm) : mm_Env D tys B old L0 scr U := by
  obtain ⟨h1, h2, h3, ⟨h4, h4b⟩, h5, h6, h7, h8, h9, h10, h11, h12⟩ := he
  subst hU
  have hq := hS.2.1
  refine ⟨va_K.moved hW.alike h1, h2, Nat.le_trans h3 hS.1, ⟨(h4.moved hW.alike).kept (hq _ (by omega) (by unfold mm_A; omega)), h4b⟩, (h5.moved hW.alike).kept hq, fun i hi => (h6 i hi).warm hW, (h7.moved hW.alike).kept hq, (h8.moved hW.alike).kept hq, fun own i y host hm => (h9 own i y host hm).warmM hW, h10.moved hW.alike, h11.moved hW.alike, mm_AOI_moved hW.alike h12⟩
/-- the cells that were there before -/
def mm_neg (L0 : Nat) (scr : Nat → Int32) (w : mm_W) (h : mm_H) : Prop :=
  w.1 (-1) = (50, (L0 : Int)) ∧ L0 < 2147483648 ∧ (∀ j : Nat, j < L0 → h (-1) j = (scr j).toInt) ∧
  (∀ i : Nat, i < 12 → w.1 (-(10 + 2 * (i : Int))) = (14, 2) ∧ h (-(10 + 2 * (i : Int))) 0 = -(11 + 2 * (i : Int)) ∧ h (-(10 + 2 * (i : Int))) 1 = 0 ∧ w.1 (-(11 + 2 * (i : Int))) = (54, ((mm_nth 0 i mm_sl : Nat) : Int)) ∧ ∀ j : Nat, j < mm_nth 0 i mm_sl → h (-(11 + 2 * (i : Int))) j = ((mm_nth [] i mm_sb).getD j 0).toInt) ∧
  ∀ a : Int, a ≤ 0 → a ≠ -1 → (∀ i : Nat, i < 12 → a ≠ -(10 + 2 * (i : Int)) ∧ a ≠ -(11 + 2 * (i : Int))) → (w.1 a).1 = 0
/-- the heap -/
def mm_HR (D : va_G) (tys : List (ClassId × FieldType)) (B : Nat) (old : Int → Nat) (L0 : Nat) (scr : Nat → Int32) (ρ : List Nat) (w : mm_W) (h : mm_H) (H : Heap) : Prop :=
  w.2.1 = (ρ.length : Int) + 1 ∧ (∀ a : Int, 1 ≤ a → a ≤ ρ.length → mm_good ρ.length w h a) ∧ (∀ a : Int, ρ.length < a → (w.1 a).1 = 0) ∧ mm_neg L0 scr w h ∧
  va_P D mm_cls (mm_ws old tys ρ w h) H ∧ va_D (mm_A B) (mm_ws old tys ρ w h)
/-- the world has grown -/
def mm_Px (ρ0 : List Nat) (w0 : mm_W) (ρ : List Nat) (w : mm_W) : Prop := (∃ ρx, ρ = ρ0 ++ ρx) ∧ w0.2.1 ≤ w.2.1 ∧ w0.2.2 ≤ w.2.2
def mm_Wc (D : va_G) (tys : List (ClassId × FieldType)) (B : Nat) (old : Int → Nat) (L0 : Nat) (scr : Nat → Int32) (p : Program) (l : Launch) (e : Env) (R : Room) (s : State) (m : MethodId) (args : Array Value) (below : List Frame) (meth : Method) (c : Code) (nL : Nat) (ρ0 : List Nat) (w0 : mm_W) (Q : State → Prop) (pc : Nat) (L st : List mm_V) (w : mm_W) (h : mm_H) : Prop :=
  ∀ (ρ : List Nat) (H : Heap) (locs : List Loc) (ls : Array Slot) (sv : List Value), mm_Px ρ0 w0 ρ w → mm_HR D tys B old L0 scr ρ w h H → va_S (mm_A B) s.heap H locs → mm_LR old ρ nL L ls → mm_SR old ρ st sv →
    W p l e R s m args below meth c H locs (w.2.1 - w0.2.1).toNat (w.2.2 - w0.2.2).toNat Q (F0 m pc ls sv)
/-- the frame -/
def mm_Fr (D : va_G) (tys : List (ClassId × FieldType)) (B : Nat) (old : Int → Nat) (L0 : Nat) (scr : Nat → Int32) (p : Program) (s : State) (m : MethodId) (args : Array Value) (meth : Method) (c : Code) (nL : Nat) (own : String) (cc : ByteArray) (mn : String) (rt : Option FieldType) : Prop :=
  p.tables.exec = Jvm.exec ∧ c.code = cc ∧ c.maxLocals = nL ∧ s.vm.findClass own = some m.cls ∧ (∀ w ∈ lw_g, w.before args s = true) ∧ mm_Env D tys B old L0 scr s ∧ meth.name = mn ∧ meth.sig.returnType = rt ∧ meth.locks = false
section MM
variable {D : va_G} {tys : List (ClassId × FieldType)} {B : Nat} {old : Int → Nat} {L0 : Nat} {scr : Nat → Int32}
variable {p : Program} {l : Launch} {e : Env} {R : Room} {s : State} {m : MethodId} {args : Array Value} {below : List Frame} {meth : Method} {c : Code} {nL : Nat} {ρ0 : List Nat} {w0 : mm_W} {Q : State → Prop}
variable {own : String} {cc : ByteArray} {mn : String} {rt : Option FieldType} {pc : Nat} {L st : List mm_V} {w : mm_W} {h : mm_H} {nx : Nat} {tx : String}

theorem st_const (F : mm_Fr D tys B old L0 scr p s m args meth c nL own cc mn rt) {n : Int} (hn : mm_i32 n) (hd : (decode cc pc = .ok (.iconst n, nx - pc) ∧ nx = pc + 1) ∨ (decode cc pc = .ok (.bipush n, 2) ∧ nx = pc + 2 ∧ -128 ≤ n ∧ n < 128) ∨ (decode cc pc = .ok (.sipush n, 3) ∧ nx = pc + 3 ∧ -32768 ≤ n ∧ n < 32768)) (k : mm_Wc D tys B old L0 scr p l e R s m args below meth c nL ρ0 w0 Q nx L ((0, n) :: st) w h) : mm_Wc D tys B old L0 scr p l e R s m args below meth c nL ρ0 w0 Q pc L st w h := by
  intro ρ H locs ls sv hρ hH hS hL hst
  have k2 := k ρ H locs ls (.int (Int32.ofInt n) :: sv) hρ hH hS hL ⟨⟨hn, rfl⟩, hst⟩
  rcases hd with ⟨hd, rfl⟩ | ⟨hd, rfl, h1, h2⟩ | ⟨hd, rfl, h1, h2⟩
  · rw [show pc + 1 - pc = 1 by omega] at hd
    exact lv_iconst F.1 F.2.1 hd rfl k2
  · refine lv_bipush F.1 F.2.1 hd ?_ k2
    rw [← Int32.toInt_inj, i32_o hn, Int8.toInt_toInt32, Int8.toInt_ofInt_of_le h1 h2]
  · refine lv_sipush F.1 F.2.1 hd ?_ k2
    rw [← Int32.toInt_inj, i32_o hn, Int16.toInt_toInt32, Int16.toInt_ofInt_of_le h1 h2]
theorem st_iload (F : mm_Fr D tys B old L0 scr p s m args meth c nL own cc mn rt) {n : Nat} {x : Int} (hg : mm_get n L = (0, x)) (hd : (decode cc pc = .ok (.iload n, 2) ∧ nx = pc + 2) ∨ (∃ k : Fin 4, decode cc pc = .ok (.iload_n k, 1) ∧ (k : Nat) = n ∧ nx = pc + 1)) (k : mm_Wc D tys B old L0 scr p l e R s m args below meth c nL ρ0 w0 Q nx L ((0, x) :: st) w h) : mm_Wc D tys B old L0 scr p l e R s m args below meth c nL ρ0 w0 Q pc L st w h := by
  intro ρ H locs ls sv hρ hH hS hL hst
  obtain ⟨v, h1, h2⟩ := hL.2.2 n _ (mm_get_at hg (show (0 : Nat) ≤ 3 by decide)) (by decide : (0 : Nat) ≤ 3)
  have k2 := k ρ H locs ls (v :: sv) hρ hH hS hL ⟨h2, hst⟩
  obtain ⟨hr, rfl⟩ := h2
  rcases hd with ⟨hd, rfl⟩ | ⟨q, hd, hq, rfl⟩
  · exact lv_iload F.1 F.2.1 hd h1 k2
  · exact lv_iload_n F.1 F.2.1 hd hq h1 k2
theorem st_lload (F : mm_Fr D tys B old L0 scr p s m args meth c nL own cc mn rt) {n : Nat} {x : Int} (hg : mm_get n L = (1, x)) (hd : (decode cc pc = .ok (.lload n, 2) ∧ nx = pc + 2) ∨ (∃ k : Fin 4, decode cc pc = .ok (.lload_n k, 1) ∧ (k : Nat) = n ∧ nx = pc + 1)) (k : mm_Wc D tys B old L0 scr p l e R s m args below meth c nL ρ0 w0 Q nx L ((1, x) :: st) w h) : mm_Wc D tys B old L0 scr p l e R s m args below meth c nL ρ0 w0 Q pc L st w h := by
  intro ρ H locs ls sv hρ hH hS hL hst
  obtain ⟨v, h1, h2⟩ := hL.2.2 n _ (mm_get_at hg (show (1 : Nat) ≤ 3 by decide)) (by decide : (1 : Nat) ≤ 3)
  have k2 := k ρ H locs ls (v :: sv) hρ hH hS hL ⟨h2, hst⟩
  obtain ⟨hr, rfl⟩ := h2
  rcases hd with ⟨hd, rfl⟩ | ⟨q, hd, hq, rfl⟩
  · exact lv_lload F.1 F.2.1 hd h1 k2
  · exact lv_lload_n F.1 F.2.1 hd hq h1 k2
theorem mm_al (F : mm_Fr D tys B old L0 scr p s m args meth c nL own cc mn rt) {n : Nat} {r : Option Nat} {H : Heap} {locs : List Loc} {cells slots : Nat} {ls : Array Slot} {sv : List Value} (h1 : ls[n]? = some (.val (va_rf r))) (hd : (decode cc pc = .ok (.aload n, 2) ∧ nx = pc + 2) ∨ (∃ k : Fin 4, decode cc pc = .ok (.aload_n k, 1) ∧ (k : Nat) = n ∧ nx = pc + 1)) (k2 : W p l e R s m args below meth c H locs cells slots Q (F0 m nx ls (va_rf r :: sv))) : W p l e R s m args below meth c H locs cells slots Q (F0 m pc ls sv) := by
  cases r with
  | none =>
    rcases hd with ⟨hd, rfl⟩ | ⟨q, hd, hq, rfl⟩
    · exact lv_aloadN F.1 F.2.1 hd h1 k2
    · exact lv_aload_nN F.1 F.2.1 hd hq h1 k2
  | some a =>
    rcases hd with ⟨hd, rfl⟩ | ⟨q, hd, hq, rfl⟩
    · exact lv_aload F.1 F.2.1 hd h1 k2
    · exact lv_aload_n F.1 F.2.1 hd hq h1 k2
theorem st_aload (F : mm_Fr D tys B old L0 scr p s m args meth c nL own cc mn rt) {n t : Nat} {x : Int} (ht : t = 2 ∨ t = 3) (hg : mm_get n L = (t, x)) (hd : (decode cc pc = .ok (.aload n, 2) ∧ nx = pc + 2) ∨ (∃ k : Fin 4, decode cc pc = .ok (.aload_n k, 1) ∧ (k : Nat) = n ∧ nx = pc + 1)) (k : mm_Wc D tys B old L0 scr p l e R s m args below meth c nL ρ0 w0 Q nx L ((t, x) :: st) w h) : mm_Wc D tys B old L0 scr p l e R s m args below meth c nL ρ0 w0 Q pc L st w h := by
  intro ρ H locs ls sv hρ hH hS hL hst
  have ht3 : t ≤ 3 := by omega
  obtain ⟨v, h1, h2⟩ := hL.2.2 n _ (mm_get_at hg ht3) ht3
  have k2 := k ρ H locs ls (v :: sv) hρ hH hS hL ⟨h2, hst⟩
  rcases ht with rfl | rfl
  · obtain ⟨hr, rfl⟩ := h2
    exact mm_al F h1 hd k2
  · obtain ⟨r, rfl⟩ := h2
    exact mm_al F h1 hd k2
theorem st_istore (F : mm_Fr D tys B old L0 scr p s m args meth c nL own cc mn rt) {n : Nat} {x : Int} (hn : n < nL) (hd : (decode cc pc = .ok (.istore n, 2) ∧ nx = pc + 2) ∨ (∃ k : Fin 4, decode cc pc = .ok (.istore_n k, 1) ∧ (k : Nat) = n ∧ nx = pc + 1)) (k : mm_Wc D tys B old L0 scr p l e R s m args below meth c nL ρ0 w0 Q nx (mm_set n (0, x) L) st w h) : mm_Wc D tys B old L0 scr p l e R s m args below meth c nL ρ0 w0 Q pc L ((0, x) :: st) w h := by
  intro ρ H locs ls sv hρ hH hS hL hst
  obtain ⟨v, sv, rfl, hv, hs2⟩ := mm_SR_cons hst
  have hv2 := hv
  obtain ⟨hr, rfl⟩ := hv2
  rcases hd with ⟨hd, rfl⟩ | ⟨q, hd, hq, rfl⟩
  · exact lv_istore F.1 F.2.1 hd (mm_lv_has hL.1 hL.2.1) hn rfl fun ls' h' => k ρ H locs ls' sv hρ hH hS (mm_LR_set hL hv h') hs2
  · exact lv_istore_n F.1 F.2.1 hd hq (mm_lv_has hL.1 hL.2.1) hn rfl fun ls' h' => k ρ H locs ls' sv hρ hH hS (mm_LR_set hL hv h') hs2
theorem st_astore (F : mm_Fr D tys B old L0 scr p s m args meth c nL own cc mn rt) {n : Nat} {x : Int} (hn : n < nL) (hd : (decode cc pc = .ok (.astore n, 2) ∧ nx = pc + 2) ∨ (∃ k : Fin 4, decode cc pc = .ok (.astore_n k, 1) ∧ (k : Nat) = n ∧ nx = pc + 1)) (k : mm_Wc D tys B old L0 scr p l e R s m args below meth c nL ρ0 w0 Q nx (mm_set n (2, x) L) st w h) : mm_Wc D tys B old L0 scr p l e R s m args below meth c nL ρ0 w0 Q pc L ((2, x) :: st) w h := by
  intro ρ H locs ls sv hρ hH hS hL hst
  obtain ⟨v, sv, rfl, hv, hs2⟩ := mm_SR_cons hst
  have hv2 := hv
  obtain ⟨hr, rfl⟩ := hv2
  cases hx : mm_adr old ρ x with
  | none =>
    rw [hx] at hv
    rcases hd with ⟨hd, rfl⟩ | ⟨q, hd, hq, rfl⟩
    · exact lv_astoreN F.1 F.2.1 hd (mm_lv_has hL.1 hL.2.1) hn rfl fun ls' h' => k ρ H locs ls' sv hρ hH hS (mm_LR_set hL hv h') hs2
    · exact lv_astore_nN F.1 F.2.1 hd hq (mm_lv_has hL.1 hL.2.1) hn rfl fun ls' h' => k ρ H locs ls' sv hρ hH hS (mm_LR_set hL hv h') hs2
  | some a =>
    rw [hx] at hv
    rcases hd with ⟨hd, rfl⟩ | ⟨q, hd, hq, rfl⟩
    · exact lv_astore F.1 F.2.1 hd (mm_lv_has hL.1 hL.2.1) hn rfl fun ls' h' => k ρ H locs ls' sv hρ hH hS (mm_LR_set hL hv h') hs2
    · exact lv_astore_n F.1 F.2.1 hd hq (mm_lv_has hL.1 hL.2.1) hn rfl fun ls' h' => k ρ H locs ls' sv hρ hH hS (mm_LR_set hL hv h') hs2
end MM
