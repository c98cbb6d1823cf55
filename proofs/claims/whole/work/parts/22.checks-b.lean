/-! From the check to the step: switches, fields, calls. -/
section MM
variable {D : va_G} {tys : List (ClassId × FieldType)} {B : Nat} {old : Int → Nat} {L0 : Nat} {scr : Nat → Int32}
variable {p : Program} {l : Launch} {e : Env} {R : Room} {s : State} {m : MethodId} {args : Array Value} {below : List Frame} {meth : Method} {c : Code} {nL : Nat} {ρ0 : List Nat} {w0 : mm_W} {Q : State → Prop}
variable {own : String} {cc : ByteArray} {mn : String} {rt : Option FieldType} {pc : Nat} {L st : List mm_V} {w : mm_W} {h : mm_H} {nx : Nat} {tx : String}

variable {lt : List mm_T} {pool : List (Nat × Instr)} {isI : Bool}
theorem st_look (F : mm_Fr D tys B old L0 scr p s m args meth c nL own cc mn rt) {x d : Int} {ps : Array (Int × Int)} {len t : Nat} (hd : decode cc pc = .ok (.lookupswitch d ps, len)) (hs : (ps.toList.zip (ps.toList.drop 1)).all (fun (a, next) => decide (a.1 < next.1)) = true) (ht : (pc : Int) + Op.lookupswitch.offset ps.toList d x = (t : Int)) (k : mm_Wc D tys B old L0 scr p l e R s m args below meth c nL ρ0 w0 Q t L st w h) : mm_Wc D tys B old L0 scr p l e R s m args below meth c nL ρ0 w0 Q pc L ((0, x) :: st) w h := by
  intro ρ H locs ls sv hρ hH hS hL hst
  obtain ⟨v, sv, rfl, ⟨hx, rfl⟩, hst2⟩ := mm_SR_cons hst
  have kk := k ρ H locs ls sv hρ hH hS hL hst2
  intro T hT X
  obtain ⟨t1, a, b⟩ := kk T hT X
  refine ⟨t1, ?_, b⟩
  have hexec := F.1
  have hb := F.2.1
  have hx := i32_o hx
  jvm_step X.here [X.here.top, hexec, hb, hd, Op.lookupswitch.wp_chain, hx]
  refine ⟨by simpa using hs, fun acts => ?_⟩
  rw [afterInstr_branch e len _ acts _ X.here.top (by show 0 ≤ (pc : Int) + _; omega)]
  rw [show (((pc : Int) + Op.lookupswitch.offset ps.toList d x).toNat) = t by omega]
  exact a
theorem st_tab (F : mm_Fr D tys B old L0 scr p s m args meth c nL own cc mn rt) {x d lo hi : Int} {offs : Array Int} {len t : Nat} (hd : decode cc pc = .ok (.tableswitch d lo hi offs, len)) (hq : hi + 1 = lo + (offs.size : Int)) (ht : (∃ o, offs[(x - lo).toNat]? = some o ∧ lo ≤ x ∧ x ≤ hi ∧ (pc : Int) + o = (t : Int)) ∨ ((x < lo ∨ hi < x) ∧ (pc : Int) + d = (t : Int))) (k : mm_Wc D tys B old L0 scr p l e R s m args below meth c nL ρ0 w0 Q t L st w h) : mm_Wc D tys B old L0 scr p l e R s m args below meth c nL ρ0 w0 Q pc L ((0, x) :: st) w h := by
  intro ρ H locs ls sv hρ hH hS hL hst
  obtain ⟨v, sv, rfl, ⟨hx, rfl⟩, hst2⟩ := mm_SR_cons hst
  have kk := k ρ H locs ls sv hρ hH hS hL hst2
  intro T hT X
  obtain ⟨t1, a, b⟩ := kk T hT X
  refine ⟨t1, ?_, b⟩
  have hexec := F.1
  have hb := F.2.1
  have hx := i32_o hx
  rcases ht with ⟨o, ho, h1, h2, ht⟩ | ⟨hout, ht⟩
  · have hin : ¬ (x < lo ∨ x > hi) := by omega
    jvm_step X.here [X.here.top, hexec, hb, hd, Op.tableswitch.wp_sem, hx, hin, ho]
    intro acts
    rw [afterInstr_branch e len _ acts _ X.here.top (by show 0 ≤ (pc : Int) + _; omega)]
    rw [show (((pc : Int) + o).toNat) = t by omega]
    exact a
  · have hout : x < lo ∨ x > hi := by omega
    jvm_step X.here [X.here.top, hexec, hb, hd, Op.tableswitch.wp_sem, hx, hout]
    intro acts
    rw [afterInstr_branch e len _ acts _ X.here.top (by show 0 ≤ (pc : Int) + _; omega)]
    rw [show (((pc : Int) + d).toNat) = t by omega]
    exact a
theorem mm_sw_id {α : Type} (x d : Int) (k : Int → α) : ∀ ps : List (Int × Int), mm_sw x (k d) k ps = k (mm_sw x d (fun t => t) ps)
  | [] => rfl
  | q :: ps => by
    rw [mm_sw, mm_sw, mm_sw_id x d k ps]
    unfold mEq
    split <;> rfl
theorem mm_sw_nn (x d : Int) (hd : 0 ≤ d) : ∀ ps : List (Int × Int), (∀ q ∈ ps, 0 ≤ q.2) → 0 ≤ mm_sw x d (fun t => t) ps
  | [], _ => hd
  | q :: ps, hp => by
    rw [mm_sw]
    unfold mEq
    split
    · exact hp q List.mem_cons_self
    · exact mm_sw_nn x d hd ps (fun r hr => hp r (List.mem_cons_of_mem _ hr))
theorem sg_switch (F : mm_Fr D tys B old L0 scr p s m args meth c nL own cc mn rt) {x d : Int} {ps : Array (Int × Int)} (hc : mm_ck lt pool isI rt cc nL pc nx (.lookupswitch d ps) = true) (k : mm_Wc D tys B old L0 scr p l e R s m args below meth c nL ρ0 w0 Q ((mm_sw x d (fun t => t) ps.toList).toNat) L st w h) : mm_Wc D tys B old L0 scr p l e R s m args below meth c nL ρ0 w0 Q pc L ((0, x) :: st) w h := by
  unfold mm_ck at hc
  obtain ⟨h0, hc⟩ := mm_an hc
  obtain ⟨h1, hc⟩ := mm_an hc
  have h0 := of_decide_eq_true h0
  have h1 : ∀ q ∈ ps.toList, 0 ≤ q.2 := fun q hq => of_decide_eq_true (List.all_eq_true.mp h1 q hq)
  have hn := mm_sw_nn x d h0 ps.toList h1
  split at hc
  · next d2 lo hi offs len e =>
    obtain ⟨h2, h3⟩ := mm_an hc
    obtain ⟨g1, g2, g3⟩ := of_decide_eq_true h2
    have h3 := of_decide_eq_true h3
    have hs := mm_sw_tab pc d (fun t => t) x offs.toList lo
    rw [← h3] at hs
    refine st_tab F (mm_op_eq e g3) g2 ?_ k
    by_cases q : lo ≤ x ∧ x < lo + offs.toList.length
    · rw [dif_pos q] at hs
      have hq : x < lo + (offs.size : Int) := by simpa using q.2
      refine Or.inl ⟨offs.toList[(x - lo).toNat]'(by omega), ?_, q.1, by omega, ?_⟩
      · rw [← Array.getElem?_toList]
        exact List.getElem?_eq_getElem _
      · rw [← hs]; omega
    · rw [dif_neg q] at hs
      refine Or.inr ⟨?_, ?_⟩
      · have hq : ¬ (lo ≤ x ∧ x < lo + (offs.size : Int)) := by simpa using q
        omega
      · rw [hs] at hn ⊢; omega
  · next d2 ps2 len e =>
    obtain ⟨h2, h3⟩ := mm_an hc
    obtain ⟨h3, h4⟩ := mm_an h3
    obtain ⟨g1, g2⟩ := of_decide_eq_true h2
    have h3 := of_decide_eq_true h3
    have hs := mm_sw_look pc d2 (fun t => t) x ps2.toList
    rw [← h3, g1] at hs
    refine st_look F (mm_op_eq e g2) h4 ?_ k
    rw [hs] at hn ⊢; omega
  · cases hc
theorem sg_getfield (F : mm_Fr D tys B old L0 scr p s m args meth c nL own cc mn rt) (hp : ∀ q ∈ pool, mm_PK own q.1 q.2) {a : Int} {x : Nat} (hc : mm_ck lt pool isI rt cc nL pc nx (.getfield x) = true) (hk : (w.1 a).1 = Nat.div x 256) (k : mm_Wc D tys B old L0 scr p l e R s m args below meth c nL ρ0 w0 Q nx L ((Nat.mod x 4, h a (Int.ofNat (Nat.mod (Nat.div x 4) 64))) :: st) w h) : mm_Wc D tys B old L0 scr p l e R s m args below meth c nL ρ0 w0 Q pc L ((2, a) :: st) w h := by
  unfold mm_ck at hc
  dsimp only at hc
  split at hc
  · next i e =>
    obtain ⟨h1, h2⟩ := mm_an hc
    rw [Nat.eq_of_beq_eq_true h2] at k
    rcases hp _ (mm_has_mem h1) with ⟨ci, j, g1, g2, g3, g4⟩ | ⟨rfl, g4⟩ | ⟨rfl, g4⟩
    · rw [g2, g3] at k
      exact st_getfield F g4 (mm_op_eq e (by decide)) (hk.trans g1) k
    · exact st_getS F g4 (mm_op_eq e (by decide)) hk k
    · exact st_getC F g4 (mm_op_eq e (by decide)) hk k
  · cases hc
def mm_tyok (t : Nat) (d : String) : Bool := match t with
  | 0 => d == "I" || d == "Z"
  | 1 => d == "J"
  | 2 => (match parseFieldDescriptor d with
    | some (.object _) => true
    | some (.array _) => true
    | _ => false)
  | _ => false
theorem mm_tyall : (List.range 13).all (fun ci => match mm_cls[ci]? with
  | some q => (List.range (mm_nf (ci + 1))).all (fun k => mm_tyok (mm_ft (ci + 1) k) (q.2.1 k).2.2.1)
  | none => false) = true := by decide +kernel
theorem mm_ty_at {ci k : Nat} {C : String} {T : u_T} {N : Nat} (h1 : mm_cls[ci]? = some (C, T, N)) (hk : k < mm_nf (ci + 1)) : mm_tyok (mm_ft (ci + 1) k) (T k).2.2.1 = true := by
  have := List.all_eq_true.mp mm_tyall ci (List.mem_range.mpr (mm_cls_lt h1))
  rw [h1] at this
  exact List.all_eq_true.mp this k (List.mem_range.mpr hk)
theorem mm_fit_at {t : Nat} {d : String} {ty : FieldType} {z : Int} {v : Value} {ρ : List Nat} (ht : mm_tyok t d = true) (hd : parseFieldDescriptor d = some ty) (hz : d = "Z" → z = 0 ∨ z = 1) (hv : mm_VR old ρ (t, z) v) : mm_fits ty v := by
  unfold mm_tyok at ht
  split at ht
  · obtain ⟨-, rfl⟩ := hv
    rcases (Bool.or_eq_true _ _).mp ht with q | q
    · have q := eq_of_beq q
      subst q
      have : ty = .int := by rw [show parseFieldDescriptor "I" = some .int by decide +kernel] at hd; exact (Option.some.inj hd).symm
      subst this
      exact ⟨rfl, rfl⟩
    · have q := eq_of_beq q
      subst q
      have : ty = .boolean := by rw [show parseFieldDescriptor "Z" = some .boolean by decide +kernel] at hd; exact (Option.some.inj hd).symm
      subst this
      rcases hz rfl with rfl | rfl
      · exact ⟨rfl, rfl⟩
      · exact ⟨rfl, rfl⟩
  · obtain ⟨-, rfl⟩ := hv
    have q := eq_of_beq ht
    subst q
    have : ty = .long := by rw [show parseFieldDescriptor "J" = some .long by decide +kernel] at hd; exact (Option.some.inj hd).symm
    subst this
    exact ⟨rfl, rfl⟩
  · obtain ⟨-, rfl⟩ := hv
    rw [hd] at ht
    split at ht
    · next q =>
      cases q
      cases mm_adr old ρ z <;> exact ⟨rfl, rfl⟩
    · next q =>
      cases q
      cases mm_adr old ρ z <;> exact ⟨rfl, rfl⟩
    · cases ht
  · cases ht
theorem sg_putfield (F : mm_Fr D tys B old L0 scr p s m args meth c nL own cc mn rt) (hp : ∀ q ∈ pool, mm_PK own q.1 q.2) (hI : isI = true → mn = "<init>") {a z : Int} {x t : Nat} (ht : t = Nat.mod x 4) (hz : t = 2 → 0 ≤ z) (hc : mm_ck lt pool isI rt cc nL pc nx (.putfield x) = true) (hk : (w.1 a).1 = Nat.div x 256) (k : mm_Wc D tys B old L0 scr p l e R s m args below meth c nL ρ0 w0 Q nx L st w (mUp h a (Int.ofNat (Nat.mod (Nat.div x 4) 64)) z)) : mm_Wc D tys B old L0 scr p l e R s m args below meth c nL ρ0 w0 Q pc L ((t, z) :: (2, a) :: st) w h := by
  unfold mm_ck at hc
  dsimp only at hc
  split at hc
  · next i e =>
    obtain ⟨h1, h2⟩ := mm_an hc
    rw [Nat.eq_of_beq_eq_true h2] at k
    rcases (Bool.or_eq_true _ _).mp h1 with h1 | h1
    · obtain ⟨ci, j, C, T, N, g1, g2, g3, g4, g5, g6, g7⟩ := hp _ (mm_has_mem h1)
      rw [g2] at k
      have hj : j < mm_nf (ci + 1) := by obtain ⟨C2, T2, N2, ty, q1, q2, q3, -⟩ := g4; omega
      have hty := mm_ty_at g5 hj
      refine st_putg F g4 (fun C2 T2 N2 q => ?_) (mm_op_eq e (by decide)) (hk.trans g1) (t := t) (by rw [ht, g3]) (fun C2 T2 N2 ty q hq ρ v hv => ?_) ?_ hz k
      · cases mm_cl_eq g5 q; exact Or.inl g6
      · cases mm_cl_eq g5 q
        rw [ht, g3] at hv
        exact mm_fit_at hty hq (fun q => absurd q g7) hv
      · rw [ht, g3]
        unfold mm_tyok at hty
        split at hty
        · omega
        · omega
        · omega
        · cases hty
    · obtain ⟨h0, h1⟩ := mm_an h1
      obtain ⟨ci, j, C, T, N, g1, g2, g3, g4, g5, g6, g6b, g7⟩ := hp _ (mm_has_mem h1)
      rw [g2] at k
      have hj : j < mm_nf (ci + 1) := by obtain ⟨C2, T2, N2, ty, q1, q2, q3, -⟩ := g4; omega
      have hty := mm_ty_at g5 hj
      refine st_putg F g4 (fun C2 T2 N2 q => ?_) (mm_op_eq e (by decide)) (hk.trans g1) (t := t) (by rw [ht, g3]) (fun C2 T2 N2 ty q hq ρ v hv => ?_) ?_ hz k
      · cases mm_cl_eq g5 q; exact Or.inr ⟨g6, hI h0, g6b⟩
      · cases mm_cl_eq g5 q
        rw [ht, g3] at hv
        exact mm_fit_at hty hq (fun q => absurd q g7) hv
      · rw [ht, g3]
        unfold mm_tyok at hty
        split at hty
        · omega
        · omega
        · omega
        · cases hty
  · cases hc
theorem sg_putstatic (F : mm_Fr D tys B old L0 scr p s m args meth c nL own cc mn rt) (hp : ∀ q ∈ pool, mm_PK own q.1 q.2) {a z : Int} {x : Nat} (hz : z = 0 ∨ z = 1) (hc : mm_ck lt pool isI rt cc nL pc nx (.putstatic x) = true) (hk : (w.1 a).1 = Nat.div x 256) (k : mm_Wc D tys B old L0 scr p l e R s m args below meth c nL ρ0 w0 Q nx L st w (mUp h a (Int.ofNat (Nat.mod (Nat.div x 4) 64)) z)) : mm_Wc D tys B old L0 scr p l e R s m args below meth c nL ρ0 w0 Q pc L ((0, z) :: (2, a) :: st) w h := by
  unfold mm_ck at hc
  dsimp only at hc
  split at hc
  · next i e =>
    obtain ⟨h1, h2⟩ := mm_an hc
    rw [Nat.eq_of_beq_eq_true h2] at k
    obtain ⟨ci, j, C, T, N, g1, g2, g3, g4, g5, g6, g7⟩ := hp _ (mm_has_mem h1)
    rw [g2] at k
    have hj : j < mm_nf (ci + 1) := by obtain ⟨C2, T2, N2, ty, q1, q2, q3, -⟩ := g4; omega
    have hty := mm_ty_at g5 hj
    rw [g3] at hty
    refine st_putg F g4 (fun C2 T2 N2 q => ?_) (mm_op_eq e (by decide)) (hk.trans g1) (t := 0) g3 (fun C2 T2 N2 ty q hq ρ v hv => ?_) (by decide) (fun q => absurd q (by decide)) k
    · cases mm_cl_eq g5 q; exact Or.inl g6
    · cases mm_cl_eq g5 q
      exact mm_fit_at hty hq (fun _ => hz) hv
  · cases hc
end MM

