/-! The main induction. -/
theorem mm_itF {α : Type} {c : Prop} [Decidable c] {x : Option α} {z : α} (h : (if c then none else x) = some z) : ¬ c ∧ x = some z := by
  by_cases q : c
  · rw [if_pos q] at h; cases h
  · rw [if_neg q] at h; exact ⟨q, h⟩
theorem mm_itB {α : Type} {c : Prop} [Decidable c] {x y : Option α} {z : α} (h : (if c then x else y) = some z) : (c → x = some z) ∧ (¬ c → y = some z) := by
  by_cases q : c
  · rw [if_pos q] at h; exact ⟨fun _ => h, fun r => absurd q r⟩
  · rw [if_neg q] at h; exact ⟨fun r => absurd r q, fun _ => h⟩
theorem mm_ifB {α : Type} {b : Bool} {x y : α} {z : α} (h : mm_if b x y = z) : (b = true ∧ x = z) ∨ (b = false ∧ y = z) := by
  cases b with
  | true => exact Or.inl ⟨rfl, h⟩
  | false => exact Or.inr ⟨rfl, h⟩
theorem mm_C_some {α : Type} {r : Option mm_R} {t : Nat} {k : Int → mm_W → mm_H → Option α} {z : α} (h : mC r t none k = some z) : ∃ q, r = some q ∧ q.1.1 = t ∧ k q.1.2 q.2.1 q.2.2 = some z := by
  cases r with
  | none => cases h
  | some q =>
    obtain ⟨h1, h2⟩ := mm_itT h
    exact ⟨q, rfl, h1, h2⟩
theorem mm_K_some {α : Type} {r : Option (mm_R ⊕ mm_X)} {f : mm_R → Option α} {k : Nat → List mm_V → mm_W → mm_H → Option α} {z : α} (h : mK r none f k = some z) : (∃ q, r = some (.inl q) ∧ f q = some z) ∨ (∃ t L w g, r = some (.inr (t, L, w, g)) ∧ k t L w g = some z) := by
  cases r with
  | none => cases h
  | some q =>
    cases q with
    | inl q => exact Or.inl ⟨q, rfl, h⟩
    | inr q => exact Or.inr ⟨q.1, q.2.1, q.2.2.1, q.2.2.2, rfl, h⟩
theorem mm_ex_some {α : Type} {t : Nat} {k : Nat → Option α} {z : α} : ∀ {es : List Nat}, mm_ex t none k es = some z → k t = some z
  | [], h => by cases h
  | e :: es, h => by
    rw [mm_ex] at h
    by_cases q : t = e
    · rw [if_pos q] at h; rw [q]; exact h
    · rw [if_neg q] at h; exact mm_ex_some h
theorem mm_le_new {w : mm_W} {k : Nat} {n : Int} (h : 0 ≤ n) : mm_le w (mNew w k n) := ⟨by show w.2.1 ≤ w.2.1 + 1; omega, by show w.2.2 ≤ w.2.2 + n; omega⟩
def mm_up : mm_R ⊕ mm_X → mm_Y
  | .inl r => .inl r
  | .inr x => .inr (x.1, x.2.1, [], x.2.2.1, x.2.2.2)
section MM
variable {D : va_G} {tys : List (ClassId × FieldType)} {B : Nat} {old : Int → Nat} {L0 : Nat} {scr : Nat → Int32}
variable {p : Program} {l : Launch} {e : Env} {R : Room} {s : State} {m : MethodId} {args : Array Value} {below : List Frame} {meth : Method} {c : Code} {nL : Nat} {ρ0 : List Nat} {w0 : mm_W} {Q : State → Prop}
variable {own : String} {cc : ByteArray} {mn : String} {rt : Option FieldType} {pc : Nat} {L st : List mm_V} {w : mm_W} {h : mm_H} {nx : Nat} {tx : String}

variable {rs : mm_R} {lt : List mm_T} {pool : List (Nat × Instr)} {isI : Bool} {O : mm_O} {lp : mm_L} {hi : Nat}
theorem mm_Wc_nrm {tags : List Nat} (hk : mm_okt tags 0 L = true) (k : mm_Wc D tys B old L0 scr p l e R s m args below meth c nL ρ0 w0 Q pc (mm_nrm tags 0 L) st w h) : mm_Wc D tys B old L0 scr p l e R s m args below meth c nL ρ0 w0 Q pc L st w h := by
  intro ρ H locs ls sv hρ hH hS hL hst
  exact k ρ H locs ls sv hρ hH hS (mm_okt_LR hk hL) hst
/-- what may be asked of the oracle and the loops -/
def mm_HQ (D : va_G) (tys : List (ClassId × FieldType)) (B : Nat) (old : Int → Nat) (L0 : Nat) (scr : Nat → Int32) (p : Program) (l : Launch) (e : Env) (R : Room) (s : State) (m : MethodId) (args : Array Value) (below : List Frame) (meth : Method) (c : Code) (nL : Nat) (ρ0 : List Nat) (w0 : mm_W) (Q : State → Prop) (rs : mm_R) (cc : ByteArray) (rt : Option FieldType) : Prop := ∀ (pc : Nat) (L : List mm_V) (v : mm_V) (w : mm_W) (h : mm_H), rs = (v, w, h) → ((decode cc pc = .ok (.ireturn, 1) ∧ v.1 = 0 ∧ (mm_rt rt 0 = true ∨ (mm_rt rt 1 = true ∧ (v.2 = 0 ∨ v.2 = 1)) ∨ (mm_rt rt 2 = true ∧ (0 ≤ v.2 ∧ v.2 < 65536)) ∨ (mm_rt rt 3 = true ∧ (-128 ≤ v.2 ∧ v.2 < 128)))) ∨ (decode cc pc = .ok (.lreturn, 1) ∧ v.1 = 1 ∧ mm_rt rt 4 = true) ∨ (decode cc pc = .ok (.areturn, 1) ∧ v.1 = 2 ∧ mm_rt rt 5 = true)) → mm_Wc D tys B old L0 scr p l e R s m args below meth c nL ρ0 w0 Q pc L [v] w h
def mm_HL (D : va_G) (tys : List (ClassId × FieldType)) (B : Nat) (old : Int → Nat) (L0 : Nat) (scr : Nat → Int32) (p : Program) (l : Launch) (e : Env) (R : Room) (s : State) (m : MethodId) (args : Array Value) (below : List Frame) (meth : Method) (c : Code) (nL : Nat) (ρ0 : List Nat) (w0 : mm_W) (Q : State → Prop) (rs : mm_R) (lt : List mm_T) (lp : mm_L) : Prop := ∀ (j : Nat) (L : List mm_V) (w : mm_W) (h : mm_H) (y : mm_R ⊕ mm_X), lp j L w h = some y → mm_GO D tys B old L0 scr p l e R s m args below meth c nL ρ0 w0 Q rs (mm_up y) ((mm_row lt j).1) L [] w h ∧ (∀ x, y = .inr x → mm_okt (mm_row lt j).2.2.1 0 x.2.1 = true)
set_option maxHeartbeats 4000000 in
theorem mm_sg (F : mm_Fr D tys B old L0 scr p s m args meth c nL own cc mn rt) (KW : mm_KW) (hp : ∀ q ∈ pool, mm_PK own q.1 q.2) (hI : isI = true → mn = "<init>") (hRm : mm_Rm R ρ0 w0 rs.2.1) (hR : 1 ≤ R.frames ∧ 24 + 13 ≤ R.locals ∧ nativeFrameWords "java/lang/System" "arraycopy" 5 + 11 ≤ R.locals) (hO : ∀ x as w h r, O x as w h = some r → mm_OK D tys B old L0 scr l R x as w h r) (hlp : mm_HL D tys B old L0 scr p l e R s m args below meth c nL ρ0 w0 Q rs lt lp) (hQ : mm_HQ D tys B old L0 scr p l e R s m args below meth c nL ρ0 w0 Q rs cc rt) (hQ0 : ∀ (pc : Nat) (L : List mm_V) (w : mm_W) (h : mm_H), rs = ((9, 0), w, h) → decode cc pc = .ok (.return_, 1) → mm_rt rt 6 = true → mm_Wc D tys B old L0 scr p l e R s m args below meth c nL ρ0 w0 Q pc L [] w h) : ∀ (code : List (Nat × Instr)), mm_chk lt pool isI rt cc nL code = true → ∀ (sk : Nat) (L st : List mm_V) (w : mm_W) (h : mm_H) (out : mm_Y), mm_go O lp (mm_lt2 lt) hi none (fun r => some (.inl r)) (fun t L st w h => some (.inr (t, L, st, w, h))) code sk L st w h = some out → mm_GO D tys B old L0 scr p l e R s m args below meth c nL ρ0 w0 Q rs out (if sk = 0 then mm_nx code else sk) L st w h := by
  intro code
  induction code with
  | nil => intro _ sk L st w h out H; rw [mm_go] at H; cases H
  | cons q tl ih =>
    intro hc sk L st w h out H
    obtain ⟨pc, i⟩ := q
    obtain ⟨hc, hct⟩ := mm_an hc
    have ih := ih hct
    rw [mm_go.eq_def] at H
    dsimp only at H
    have H0 := mm_ifB H
    clear H
    rcases H0 with ⟨b1, H⟩ | ⟨b1, H⟩
    · have b1 := mm_blt b1
      have g := ih sk L st w h out H
      rw [if_neg (by omega)] at g ⊢
      exact g
    have H0 := mm_ifB H
    clear H
    rcases H0 with ⟨b2, H⟩ | ⟨b2, H⟩
    · cases H
    have hst : (if sk = 0 then mm_nx ((pc, i) :: tl) else sk) = pc := by
      by_cases z : sk = 0
      · rw [if_pos z]; rfl
      · rw [if_neg z]
        have c1 : ¬ pc < sk := fun q => by
          have : Nat.blt pc sk = true := Nat.ble_eq_true_of_le q
          rw [this] at b1; cases b1
        have c2 : ¬ sk < pc := fun q => by
          have e1 : Nat.blt sk pc = true := Nat.ble_eq_true_of_le q
          have e2 : Nat.blt 0 sk = true := Nat.ble_eq_true_of_le (show 0 < sk by omega)
          rw [e1, e2] at b2; cases b2
        omega
    rw [hst]
    clear hst b1 b2
    have H0 := mm_ifB H
    clear H
    rcases H0 with ⟨b3, H⟩ | ⟨b3, H⟩
    · cases H
      exact ⟨mm_le_rf _, fun z => z⟩
    have ih0 : ∀ {nx : Nat} {L st : List mm_V} {w : mm_W} {h : mm_H}, mm_nx tl = nx → mm_go O lp (mm_lt2 lt) hi none (fun r => some (.inl r)) (fun t L st w h => some (.inr (t, L, st, w, h))) tl 0 L st w h = some out → mm_GO D tys B old L0 scr p l e R s m args below meth c nL ρ0 w0 Q rs out nx L st w h := by
      intro nx L st w h e1 H
      have g := ih 0 L st w h out H
      rw [if_pos rfl, e1] at g
      exact g
    have jmp : ∀ {t : Nat} {L st : List mm_V} {w : mm_W} {h : mm_H}, mm_if (Nat.blt pc t && Nat.blt t hi) (mm_go O lp (mm_lt2 lt) hi none (fun r => some (.inl r)) (fun t L st w h => some (.inr (t, L, st, w, h))) tl t L st w h) (some (.inr (t, L, st, w, h))) = some out → mm_GO D tys B old L0 scr p l e R s m args below meth c nL ρ0 w0 Q rs out t L st w h := by
      intro t L st w h H
      rcases mm_ifB H with ⟨b, H⟩ | ⟨b, H⟩
      · obtain ⟨b, -⟩ := mm_an b
        have b := mm_blt b
        have g := ih t L st w h out H
        rw [if_neg (by omega)] at g
        exact g
      · cases H
        exact ⟨mm_le_rf _, fun z => z⟩
    clear ih hct b3 sk
    split at H
    · exact (ih0 rfl H).one (sg_iconst F hp hc)
    · exact (ih0 rfl H).one (sg_jsr F hp hc)
    · exact (ih0 rfl H).one (sg_sipush F hp hc)
    · split at H
      · next x hg => exact (ih0 rfl H).one (st_iload F hg (ck_iload hc))
      · cases H
    · split at H
      · next x hg => exact (ih0 rfl H).one (st_lload F hg (ck_lload hc))
      · cases H
    · split at H
      · next x hg => exact (ih0 rfl H).one (st_aload F (Or.inl rfl) hg (ck_aload hc))
      · next x hg => exact (ih0 rfl H).one (st_aload F (Or.inr rfl) hg (ck_aload hc))
      · cases H
    · obtain ⟨hn, hd⟩ := ck_istore hc
      exact (ih0 rfl H).one (st_istore F hn hd)
    · obtain ⟨hn, hd⟩ := ck_astore hc
      exact (ih0 rfl H).one (st_astore F hn hd)
    · obtain ⟨hn, hd⟩ := ck_lstore hc
      exact (ih0 rfl H).one (st_lstore F hn hd)
    · obtain ⟨hn, hd, hx⟩ := ck_iinc hc
      split at H
      · next x hg => exact (ih0 hx H).one (st_iinc F hg hn hd)
      · cases H
    · obtain ⟨hd, hx⟩ := ck1 hc
      exact (ih0 hx H).one (st_iadd F hd)
    · obtain ⟨hd, hx⟩ := ck1 hc
      exact (ih0 hx H).one (st_isub F hd)
    · obtain ⟨hd, hx⟩ := ck1 hc
      exact (ih0 hx H).one (st_imul F hd)
    · obtain ⟨hd, hx⟩ := ck1 hc
      obtain ⟨hn, H⟩ := mm_itF H
      exact (ih0 hx H).one (st_idiv F hn hd)
    · obtain ⟨hd, hx⟩ := ck1 hc
      obtain ⟨hn, H⟩ := mm_itF H
      exact (ih0 hx H).one (st_irem F hn hd)
    · obtain ⟨hd, hx⟩ := ck1 hc
      exact (ih0 hx H).one (st_ineg F hd)
    · obtain ⟨hd, hx⟩ := ck1 hc
      exact (ih0 hx H).one (st_iand F hd)
    · obtain ⟨hd, hx⟩ := ck1 hc
      exact (ih0 hx H).one (st_ior F hd)
    · obtain ⟨hd, hx⟩ := ck1 hc
      exact (ih0 hx H).one (st_ixor F hd)
    · obtain ⟨hd, hx⟩ := ck1 hc
      exact (ih0 hx H).one (st_ishl F hd)
    · obtain ⟨hd, hx⟩ := ck1 hc
      exact (ih0 hx H).one (st_ishr F hd)
    · obtain ⟨hd, hx⟩ := ck1 hc
      exact (ih0 hx H).one (st_iushr F hd)
    · obtain ⟨hd, hx⟩ := ck1 hc
      exact (ih0 hx H).one (st_i2l F hd)
    · obtain ⟨hd, hx⟩ := ck1 hc
      exact (ih0 hx H).one (st_l2i F hd)
    · obtain ⟨hd, hx⟩ := ck1 hc
      exact (ih0 hx H).one (st_i2s F hd)
    · obtain ⟨hd, hx⟩ := ck1 hc
      exact (ih0 hx H).one (st_i2b F hd)
    · obtain ⟨hd, hx⟩ := ck1 hc
      exact (ih0 hx H).one (st_i2c F hd)
    · obtain ⟨hd, hx⟩ := ck1 hc
      exact (ih0 hx H).one (st_ladd F hd)
    · obtain ⟨hd, hx⟩ := ck1 hc
      exact (ih0 hx H).one (st_lsub F hd)
    · obtain ⟨hd, hx⟩ := ck1 hc
      exact (ih0 hx H).one (st_lmul F hd)
    · obtain ⟨hd, hx⟩ := ck1 hc
      exact (ih0 hx H).one (st_lneg F hd)
    · obtain ⟨hd, hx⟩ := ck1 hc
      exact (ih0 hx H).one (st_lcmp F hd)
    · obtain ⟨hs, H⟩ := mm_ifT H rfl
      exact (ih0 rfl H).step (mm_le_rf _) (fun hl => sg_max F KW hp hc ⟨hR.1, hR.2.1⟩ (Nat.le_of_ble_eq_true hs) (mm_Rm_le hRm hl))
    · obtain ⟨hs, H⟩ := mm_ifT H rfl
      exact (ih0 rfl H).step (mm_le_rf _) (fun hl => sg_min F KW hp hc ⟨hR.1, hR.2.1⟩ (Nat.le_of_ble_eq_true hs) (mm_Rm_le hRm hl))
    · obtain ⟨hs, H⟩ := mm_ifT H rfl
      obtain ⟨hk, H⟩ := mm_itT H
      exact (ih0 rfl H).one (sg_oinit F KW hp hc ⟨hR.1, hR.2.1⟩ (Nat.le_of_ble_eq_true hs) hk)
    · obtain ⟨hd, hx⟩ := ck1 hc
      exact (ih0 hx H).one (st_dup F (Nat.ne_of_beq_eq_false rfl) hd)
    · obtain ⟨hd, hx⟩ := ck1 hc
      exact (ih0 hx H).one (st_dup F (Nat.ne_of_beq_eq_false rfl) hd)
    · obtain ⟨hd, hx⟩ := ck1 hc
      exact (ih0 hx H).one (st_dup2 F (Nat.ne_of_beq_eq_false rfl) (Nat.ne_of_beq_eq_false rfl) hd)
    · obtain ⟨hd, hx⟩ := ck1 hc
      exact (ih0 hx H).one (st_pop F (Nat.ne_of_beq_eq_false rfl) hd)
    · obtain ⟨hd, hx⟩ := ck1 hc
      exact (ih0 hx H).one (st_pop F (Nat.ne_of_beq_eq_false rfl) hd)
    · exact (ih0 rfl H).one (sg_getstatic F hp hc)
    · obtain ⟨hd, hx⟩ := ck1 hc
      exact (ih0 hx H).one (st_pop F (Nat.ne_of_beq_eq_false rfl) hd)
    · obtain ⟨off, hd, ht⟩ := ck_goto hc
      exact (jmp H).one (st_goto F hd ht)
    · obtain ⟨off, hd, ht, hx⟩ := ck_icmp hc
      split at H
      · obtain ⟨H1, H2⟩ := mm_itB H
        exact mm_GO.two (fun q => jmp (H1 q)) (fun q => ih0 hx (H2 q)) (st_icmp_lt F hd ht)
      · obtain ⟨H1, H2⟩ := mm_itB H
        exact mm_GO.two (fun q => jmp (H1 q)) (fun q => ih0 hx (H2 q)) (st_icmp_le F hd ht)
      · obtain ⟨H1, H2⟩ := mm_itB H
        exact mm_GO.two (fun q => jmp (H1 q)) (fun q => ih0 hx (H2 q)) (st_icmp_gt F hd ht)
      · obtain ⟨H1, H2⟩ := mm_itB H
        exact mm_GO.two (fun q => jmp (H1 q)) (fun q => ih0 hx (H2 q)) (st_icmp_ge F hd ht)
      · obtain ⟨H1, H2⟩ := mm_itB H
        exact mm_GO.two (fun q => jmp (H1 q)) (fun q => ih0 hx (H2 q)) (st_icmp_eq F hd ht)
      · obtain ⟨H1, H2⟩ := mm_itB H
        exact mm_GO.two (fun q => ih0 hx (H1 q)) (fun q => jmp (H2 q)) (fun k1 k2 => st_icmp_ne F hd ht k2 k1)
    · obtain ⟨off, hd, ht, hx⟩ := ck_if hc
      split at H
      · obtain ⟨H1, H2⟩ := mm_itB H
        exact mm_GO.two (fun q => jmp (H1 q)) (fun q => ih0 hx (H2 q)) (st_if_lt F hd ht)
      · obtain ⟨H1, H2⟩ := mm_itB H
        exact mm_GO.two (fun q => jmp (H1 q)) (fun q => ih0 hx (H2 q)) (st_if_le F hd ht)
      · obtain ⟨H1, H2⟩ := mm_itB H
        exact mm_GO.two (fun q => jmp (H1 q)) (fun q => ih0 hx (H2 q)) (st_if_gt F hd ht)
      · obtain ⟨H1, H2⟩ := mm_itB H
        exact mm_GO.two (fun q => jmp (H1 q)) (fun q => ih0 hx (H2 q)) (st_if_ge F hd ht)
      · obtain ⟨H1, H2⟩ := mm_itB H
        exact mm_GO.two (fun q => jmp (H1 q)) (fun q => ih0 hx (H2 q)) (st_if_eq F hd ht)
      · obtain ⟨H1, H2⟩ := mm_itB H
        exact mm_GO.two (fun q => ih0 hx (H1 q)) (fun q => jmp (H2 q)) (fun k1 k2 => st_if_ne F hd ht k2 k1)
    · obtain ⟨off, hd, ht, hx⟩ := ck_null hc
      obtain ⟨H1, H2⟩ := mm_itB H
      exact mm_GO.two (fun q => jmp (H1 q)) (fun q => ih0 hx (H2 q)) (st_ifnull F hd ht)
    · obtain ⟨off, hd, ht, hx⟩ := ck_nonnull hc
      obtain ⟨H1, H2⟩ := mm_itB H
      exact mm_GO.two (fun q => ih0 hx (H1 q)) (fun q => jmp (H2 q)) (fun k1 k2 => st_ifnonnull F hd ht k2 k1)
    · rename_i d ps x st1 hcO
      have H2 := (mm_sw_id x d (fun t : Int => mm_if (Nat.blt pc t.toNat && Nat.blt t.toNat hi) (mm_go (α := Option mm_Y) O lp (mm_lt2 lt) hi none (fun r => some (.inl r)) (fun t L st w h => some (.inr (t, L, st, w, h))) tl t.toNat L st1 w h) (some (.inr (t.toNat, L, st1, w, h)))) ps.toList).symm.trans H
      exact (jmp H2).one (sg_switch F hc)
    · obtain ⟨hk, H⟩ := mm_itT H
      exact (ih0 rfl H).one (sg_getfield F hp hc hk)
    · obtain ⟨hb, H⟩ := mm_ifT H rfl
      obtain ⟨hk, H⟩ := mm_itT H
      rcases mm_ifB H with ⟨q, H⟩ | ⟨q, H⟩
      · obtain ⟨h0, H⟩ := mm_itT H
        exact (ih0 rfl H).one (sg_putfield F hp hI (Nat.eq_of_beq_eq_true hb) (fun _ => h0) hc hk)
      · exact (ih0 rfl H).one (sg_putfield F hp hI (Nat.eq_of_beq_eq_true hb) (fun e => by rw [e] at q; cases q) hc hk)
    · obtain ⟨hz, H⟩ := mm_itT H
      obtain ⟨hk, H⟩ := mm_itT H
      exact (ih0 rfl H).one (sg_putstatic F hp hz hc hk)
    · obtain ⟨hd, hx⟩ := ck1 hc
      obtain ⟨⟨hk, h0, h1⟩, H⟩ := mm_itT H
      exact (ih0 hx H).one (st_iaload F hd hk h0 h1)
    · obtain ⟨hd, hx⟩ := ck1 hc
      obtain ⟨⟨hk, h0, h1⟩, H⟩ := mm_itT H
      exact (ih0 hx H).one (st_saload F hd hk h0 h1)
    · obtain ⟨hd, hx⟩ := ck1 hc
      obtain ⟨⟨hk, h0, h1⟩, H⟩ := mm_itT H
      exact (ih0 hx H).one (st_baload F hd hk h0 h1)
    · obtain ⟨hd, hx⟩ := ck1 hc
      obtain ⟨⟨hk, h0, h1⟩, H⟩ := mm_itT H
      exact (ih0 hx H).one (st_laload F hd hk h0 h1)
    · obtain ⟨hd, hx⟩ := ck1 hc
      obtain ⟨⟨hk, h0, h1⟩, H⟩ := mm_itT H
      exact (ih0 hx H).one (st_aaload F hd hk h0 h1)
    · obtain ⟨hd, hx⟩ := ck1 hc
      obtain ⟨⟨hk, h0, h1, h2⟩, H⟩ := mm_itT H
      exact (ih0 hx H).one (st_iastore F hd hk h0 h1 h2)
    · obtain ⟨hd, hx⟩ := ck1 hc
      obtain ⟨⟨hk, h0, h1⟩, H⟩ := mm_itT H
      exact (ih0 hx H).one (st_sastore F hd hk h0 h1)
    · obtain ⟨hd, hx⟩ := ck1 hc
      obtain ⟨hz, H⟩ := mm_itT H
      obtain ⟨⟨hk, h0, h1⟩, H⟩ := mm_itT H
      exact (ih0 hx H).one (st_bastore F hd hz hk h0 h1)
    · obtain ⟨hd, hx⟩ := ck1 hc
      obtain ⟨⟨hk, h0, h1⟩, H⟩ := mm_itT H
      exact (ih0 hx H).one (st_lastore F hd hk h0 h1)
    · obtain ⟨hd, hx⟩ := ck1 hc
      obtain ⟨⟨hk, h0, h1, h2, h3⟩, H⟩ := mm_itT H
      exact (ih0 hx H).one (st_aastore F hd hk h0 h1 h2 h3)
    · obtain ⟨hd, hx⟩ := ck1 hc
      obtain ⟨hk, H⟩ := mm_itT H
      exact (ih0 hx H).one (st_alen F hd hk)
    · exact (ih0 rfl H).step (mm_le_new (Int.natCast_nonneg _)) (fun hl => sg_new F hp hc (mm_Rm_le hRm hl))
    · obtain ⟨⟨h0, h1⟩, H⟩ := mm_itT H
      exact (ih0 rfl H).step (mm_le_new h0) (fun hl => sg_anew F KW hp hc h0 h1 (mm_Rm_le hRm hl))
    · obtain ⟨hq, H⟩ := mm_itT H
      exact (ih0 rfl H).one (sg_copy F KW hp hc ⟨hR.1, hR.2.2⟩ hq)
    · rename_i x st1
      split at H
      · cases H
      · next as st2 hsp =>
        obtain ⟨hs, H⟩ := mm_ifT H rfl
        obtain ⟨r, hr, ht, H⟩ := mm_C_some H
        have g : mm_GO D tys B old L0 scr p l e R s m args below meth c nL ρ0 w0 Q rs out (mm_nx tl) L (if Nat.beq (Nat.mod (Nat.div x 256) 16) 9 = true then st2 else r.1 :: st2) r.2.1 r.2.2 := by
          rcases mm_ifB H with ⟨q, H⟩ | ⟨q, H⟩
          · rw [if_pos q]; exact ih0 rfl H
          · rw [if_neg (by rw [q]; decide)]
            have e1 : r.1 = (Nat.mod (Nat.div x 256) 16, r.1.2) := Prod.ext ht rfl
            rw [e1]
            exact ih0 rfl H
        have ho := hO _ _ _ _ _ hr
        exact g.step ho.1 (fun hl => sg_static F hp hc hsp (Nat.le_of_ble_eq_true hs) ho (mm_Rm_le hRm hl) ht)
    · rename_i x st1
      split at H
      · next a as st2 hsp =>
        obtain ⟨hs, H⟩ := mm_ifT H rfl
        obtain ⟨hk, H⟩ := mm_itT H
        obtain ⟨r, hr, ht, H⟩ := mm_C_some H
        have g : mm_GO D tys B old L0 scr p l e R s m args below meth c nL ρ0 w0 Q rs out (mm_nx tl) L (if Nat.beq (Nat.mod (Nat.div x 256) 16) 9 = true then st2 else r.1 :: st2) r.2.1 r.2.2 := by
          rcases mm_ifB H with ⟨q, H⟩ | ⟨q, H⟩
          · rw [if_pos q]; exact ih0 rfl H
          · rw [if_neg (by rw [q]; decide)]
            have e1 : r.1 = (Nat.mod (Nat.div x 256) 16, r.1.2) := Prod.ext ht rfl
            rw [e1]
            exact ih0 rfl H
        have ho := hO _ _ _ _ _ hr
        exact g.step ho.1 (fun hl => sg_virtual F hp hc hsp (Nat.le_of_ble_eq_true hs) hk ho (mm_Rm_le hRm hl) ht)
      · cases H
    · cases H
      obtain ⟨g1, g2⟩ := mm_an hc
      refine ⟨mm_le_rf _, fun e1 => ⟨by rw [← e1]; exact mm_le_rf _, hQ _ _ _ _ _ e1.symm (Or.inl ⟨mm_is_eq g1, rfl, Or.inl g2⟩)⟩⟩
    · obtain ⟨hz, H⟩ := mm_itT H
      cases H
      obtain ⟨g1, g2⟩ := mm_an hc
      refine ⟨mm_le_rf _, fun e1 => ⟨by rw [← e1]; exact mm_le_rf _, hQ _ _ _ _ _ e1.symm (Or.inl ⟨mm_is_eq g1, rfl, Or.inr (Or.inl ⟨g2, hz⟩)⟩)⟩⟩
    · obtain ⟨hz, H⟩ := mm_itT H
      cases H
      obtain ⟨g1, g2⟩ := mm_an hc
      refine ⟨mm_le_rf _, fun e1 => ⟨by rw [← e1]; exact mm_le_rf _, hQ _ _ _ _ _ e1.symm (Or.inl ⟨mm_is_eq g1, rfl, Or.inr (Or.inr (Or.inl ⟨g2, hz⟩))⟩)⟩⟩
    · obtain ⟨hz, H⟩ := mm_itT H
      cases H
      obtain ⟨g1, g2⟩ := mm_an hc
      refine ⟨mm_le_rf _, fun e1 => ⟨by rw [← e1]; exact mm_le_rf _, hQ _ _ _ _ _ e1.symm (Or.inl ⟨mm_is_eq g1, rfl, Or.inr (Or.inr (Or.inr ⟨g2, hz⟩))⟩)⟩⟩
    · cases H
      obtain ⟨g1, g2⟩ := mm_an hc
      refine ⟨mm_le_rf _, fun e1 => ⟨by rw [← e1]; exact mm_le_rf _, hQ _ _ _ _ _ e1.symm (Or.inr (Or.inl ⟨mm_is_eq g1, rfl, g2⟩))⟩⟩
    · cases H
      obtain ⟨g1, g2⟩ := mm_an hc
      refine ⟨mm_le_rf _, fun e1 => ⟨by rw [← e1]; exact mm_le_rf _, hQ _ _ _ _ _ e1.symm (Or.inr (Or.inr ⟨mm_is_eq g1, rfl, g2⟩))⟩⟩
    · cases H
      obtain ⟨g1, g2⟩ := mm_an hc
      refine ⟨mm_le_rf _, fun e1 => ⟨by rw [← e1]; exact mm_le_rf _, hQ0 _ _ _ _ e1.symm (mm_is_eq g1) g2⟩⟩
    · rename_i j
      obtain ⟨hk, H⟩ := mm_ifT H rfl
      obtain ⟨g1, g2⟩ := mm_an hc
      have g2 := Nat.eq_of_beq_eq_true g2
      rcases mm_K_some H with ⟨r, hr, H⟩ | ⟨t, L2, w2, h2, hr, H⟩
      · cases H
        have hg := (hlp _ _ _ _ _ hr).1
        rw [← g2] at hg
        exact hg.one (mm_Wc_nrm hk)
      · obtain ⟨hg, hx⟩ := hlp _ _ _ _ _ hr
        have hk2 := hx _ rfl
        rw [← g2] at hg
        have g3 := (jmp (mm_ex_some H)).one (mm_Wc_nrm hk2)
        exact ⟨mm_le_tr hg.1 g3.1, fun z => ⟨(hg.2 (g3.2 z)).1, mm_Wc_nrm hk (hg.2 (g3.2 z)).2⟩⟩
    · cases H
end MM

