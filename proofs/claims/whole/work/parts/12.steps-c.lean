section MM
variable {D : va_G} {tys : List (ClassId × FieldType)} {B : Nat} {old : Int → Nat} {L0 : Nat} {scr : Nat → Int32}
variable {p : Program} {l : Launch} {e : Env} {R : Room} {s : State} {m : MethodId} {args : Array Value} {below : List Frame} {meth : Method} {c : Code} {nL : Nat} {ρ0 : List Nat} {w0 : mm_W} {Q : State → Prop}
variable {own : String} {cc : ByteArray} {mn : String} {rt : Option FieldType} {pc : Nat} {L st : List mm_V} {w : mm_W} {h : mm_H} {nx : Nat} {tx : String}

theorem st_icmp_lt (F : mm_Fr D tys B old L0 scr p s m args meth c nL own cc mn rt) {x y : Int} {off : Int} {t : Nat} (hd : decode cc pc = .ok (.if_icmp .lt off, 3)) (ht : (pc : Int) + off = (t : Int)) (kt : x < y → mm_Wc D tys B old L0 scr p l e R s m args below meth c nL ρ0 w0 Q t L st w h) (kf : ¬ (x < y) → mm_Wc D tys B old L0 scr p l e R s m args below meth c nL ρ0 w0 Q (pc + 3) L st w h) : mm_Wc D tys B old L0 scr p l e R s m args below meth c nL ρ0 w0 Q pc L ((0, y) :: (0, x) :: st) w h := by
  intro ρ H locs ls sv hρ hH hS hL hst
  obtain ⟨v, sv, rfl, ⟨hy, rfl⟩, hs2⟩ := mm_SR_cons hst
  obtain ⟨v, sv, rfl, ⟨hx, rfl⟩, hs3⟩ := mm_SR_cons hs2
  have hx : mm_i32 x := hx
  have hy : mm_i32 y := hy
  have e := i32_lt hx hy
  refine lv_icmp_lt F.1 F.2.1 hd ht (fun q => kt (e.mp q) ρ H locs ls sv hρ hH hS hL hs3) (fun q => kf (fun z => q (e.mpr z)) ρ H locs ls sv hρ hH hS hL hs3)
theorem st_if_lt (F : mm_Fr D tys B old L0 scr p s m args meth c nL own cc mn rt) {x : Int} {off : Int} {t : Nat} (hd : decode cc pc = .ok (.ifCond .lt off, 3)) (ht : (pc : Int) + off = (t : Int)) (kt : x < 0 → mm_Wc D tys B old L0 scr p l e R s m args below meth c nL ρ0 w0 Q t L st w h) (kf : ¬ (x < 0) → mm_Wc D tys B old L0 scr p l e R s m args below meth c nL ρ0 w0 Q (pc + 3) L st w h) : mm_Wc D tys B old L0 scr p l e R s m args below meth c nL ρ0 w0 Q pc L ((0, x) :: st) w h := by
  intro ρ H locs ls sv hρ hH hS hL hst
  obtain ⟨v, sv, rfl, ⟨hx, rfl⟩, hs3⟩ := mm_SR_cons hst
  have hx : mm_i32 x := hx
  have e := i32_lt hx i32_z
  refine lv_if_lt F.1 F.2.1 hd ht (fun q => kt (e.mp q) ρ H locs ls sv hρ hH hS hL hs3) (fun q => kf (fun z => q (e.mpr z)) ρ H locs ls sv hρ hH hS hL hs3)
theorem st_icmp_le (F : mm_Fr D tys B old L0 scr p s m args meth c nL own cc mn rt) {x y : Int} {off : Int} {t : Nat} (hd : decode cc pc = .ok (.if_icmp .le off, 3)) (ht : (pc : Int) + off = (t : Int)) (kt : x ≤ y → mm_Wc D tys B old L0 scr p l e R s m args below meth c nL ρ0 w0 Q t L st w h) (kf : ¬ (x ≤ y) → mm_Wc D tys B old L0 scr p l e R s m args below meth c nL ρ0 w0 Q (pc + 3) L st w h) : mm_Wc D tys B old L0 scr p l e R s m args below meth c nL ρ0 w0 Q pc L ((0, y) :: (0, x) :: st) w h := by
  intro ρ H locs ls sv hρ hH hS hL hst
  obtain ⟨v, sv, rfl, ⟨hy, rfl⟩, hs2⟩ := mm_SR_cons hst
  obtain ⟨v, sv, rfl, ⟨hx, rfl⟩, hs3⟩ := mm_SR_cons hs2
  have hx : mm_i32 x := hx
  have hy : mm_i32 y := hy
  have e := i32_le hx hy
  refine lv_icmp_le F.1 F.2.1 hd ht (fun q => kt (e.mp q) ρ H locs ls sv hρ hH hS hL hs3) (fun q => kf (fun z => q (e.mpr z)) ρ H locs ls sv hρ hH hS hL hs3)
theorem st_if_le (F : mm_Fr D tys B old L0 scr p s m args meth c nL own cc mn rt) {x : Int} {off : Int} {t : Nat} (hd : decode cc pc = .ok (.ifCond .le off, 3)) (ht : (pc : Int) + off = (t : Int)) (kt : x ≤ 0 → mm_Wc D tys B old L0 scr p l e R s m args below meth c nL ρ0 w0 Q t L st w h) (kf : ¬ (x ≤ 0) → mm_Wc D tys B old L0 scr p l e R s m args below meth c nL ρ0 w0 Q (pc + 3) L st w h) : mm_Wc D tys B old L0 scr p l e R s m args below meth c nL ρ0 w0 Q pc L ((0, x) :: st) w h := by
  intro ρ H locs ls sv hρ hH hS hL hst
  obtain ⟨v, sv, rfl, ⟨hx, rfl⟩, hs3⟩ := mm_SR_cons hst
  have hx : mm_i32 x := hx
  have e := i32_le hx i32_z
  refine lv_if_le F.1 F.2.1 hd ht (fun q => kt (e.mp q) ρ H locs ls sv hρ hH hS hL hs3) (fun q => kf (fun z => q (e.mpr z)) ρ H locs ls sv hρ hH hS hL hs3)
theorem st_icmp_gt (F : mm_Fr D tys B old L0 scr p s m args meth c nL own cc mn rt) {x y : Int} {off : Int} {t : Nat} (hd : decode cc pc = .ok (.if_icmp .gt off, 3)) (ht : (pc : Int) + off = (t : Int)) (kt : y < x → mm_Wc D tys B old L0 scr p l e R s m args below meth c nL ρ0 w0 Q t L st w h) (kf : ¬ (y < x) → mm_Wc D tys B old L0 scr p l e R s m args below meth c nL ρ0 w0 Q (pc + 3) L st w h) : mm_Wc D tys B old L0 scr p l e R s m args below meth c nL ρ0 w0 Q pc L ((0, y) :: (0, x) :: st) w h := by
  intro ρ H locs ls sv hρ hH hS hL hst
  obtain ⟨v, sv, rfl, ⟨hy, rfl⟩, hs2⟩ := mm_SR_cons hst
  obtain ⟨v, sv, rfl, ⟨hx, rfl⟩, hs3⟩ := mm_SR_cons hs2
  have hx : mm_i32 x := hx
  have hy : mm_i32 y := hy
  have e := i32_lt hy hx
  refine lv_icmp_gt F.1 F.2.1 hd ht (fun q => kt (e.mp q) ρ H locs ls sv hρ hH hS hL hs3) (fun q => kf (fun z => q (e.mpr z)) ρ H locs ls sv hρ hH hS hL hs3)
theorem st_if_gt (F : mm_Fr D tys B old L0 scr p s m args meth c nL own cc mn rt) {x : Int} {off : Int} {t : Nat} (hd : decode cc pc = .ok (.ifCond .gt off, 3)) (ht : (pc : Int) + off = (t : Int)) (kt : 0 < x → mm_Wc D tys B old L0 scr p l e R s m args below meth c nL ρ0 w0 Q t L st w h) (kf : ¬ (0 < x) → mm_Wc D tys B old L0 scr p l e R s m args below meth c nL ρ0 w0 Q (pc + 3) L st w h) : mm_Wc D tys B old L0 scr p l e R s m args below meth c nL ρ0 w0 Q pc L ((0, x) :: st) w h := by
  intro ρ H locs ls sv hρ hH hS hL hst
  obtain ⟨v, sv, rfl, ⟨hx, rfl⟩, hs3⟩ := mm_SR_cons hst
  have hx : mm_i32 x := hx
  have e := i32_lt i32_z hx
  refine lv_if_gt F.1 F.2.1 hd ht (fun q => kt (e.mp q) ρ H locs ls sv hρ hH hS hL hs3) (fun q => kf (fun z => q (e.mpr z)) ρ H locs ls sv hρ hH hS hL hs3)
theorem st_icmp_ge (F : mm_Fr D tys B old L0 scr p s m args meth c nL own cc mn rt) {x y : Int} {off : Int} {t : Nat} (hd : decode cc pc = .ok (.if_icmp .ge off, 3)) (ht : (pc : Int) + off = (t : Int)) (kt : y ≤ x → mm_Wc D tys B old L0 scr p l e R s m args below meth c nL ρ0 w0 Q t L st w h) (kf : ¬ (y ≤ x) → mm_Wc D tys B old L0 scr p l e R s m args below meth c nL ρ0 w0 Q (pc + 3) L st w h) : mm_Wc D tys B old L0 scr p l e R s m args below meth c nL ρ0 w0 Q pc L ((0, y) :: (0, x) :: st) w h := by
  intro ρ H locs ls sv hρ hH hS hL hst
  obtain ⟨v, sv, rfl, ⟨hy, rfl⟩, hs2⟩ := mm_SR_cons hst
  obtain ⟨v, sv, rfl, ⟨hx, rfl⟩, hs3⟩ := mm_SR_cons hs2
  have hx : mm_i32 x := hx
  have hy : mm_i32 y := hy
  have e := i32_le hy hx
  refine lv_icmp_ge F.1 F.2.1 hd ht (fun q => kt (e.mp q) ρ H locs ls sv hρ hH hS hL hs3) (fun q => kf (fun z => q (e.mpr z)) ρ H locs ls sv hρ hH hS hL hs3)
theorem st_if_ge (F : mm_Fr D tys B old L0 scr p s m args meth c nL own cc mn rt) {x : Int} {off : Int} {t : Nat} (hd : decode cc pc = .ok (.ifCond .ge off, 3)) (ht : (pc : Int) + off = (t : Int)) (kt : 0 ≤ x → mm_Wc D tys B old L0 scr p l e R s m args below meth c nL ρ0 w0 Q t L st w h) (kf : ¬ (0 ≤ x) → mm_Wc D tys B old L0 scr p l e R s m args below meth c nL ρ0 w0 Q (pc + 3) L st w h) : mm_Wc D tys B old L0 scr p l e R s m args below meth c nL ρ0 w0 Q pc L ((0, x) :: st) w h := by
  intro ρ H locs ls sv hρ hH hS hL hst
  obtain ⟨v, sv, rfl, ⟨hx, rfl⟩, hs3⟩ := mm_SR_cons hst
  have hx : mm_i32 x := hx
  have e := i32_le i32_z hx
  refine lv_if_ge F.1 F.2.1 hd ht (fun q => kt (e.mp q) ρ H locs ls sv hρ hH hS hL hs3) (fun q => kf (fun z => q (e.mpr z)) ρ H locs ls sv hρ hH hS hL hs3)
theorem st_icmp_eq (F : mm_Fr D tys B old L0 scr p s m args meth c nL own cc mn rt) {x y : Int} {off : Int} {t : Nat} (hd : decode cc pc = .ok (.if_icmp .eq off, 3)) (ht : (pc : Int) + off = (t : Int)) (kt : x = y → mm_Wc D tys B old L0 scr p l e R s m args below meth c nL ρ0 w0 Q t L st w h) (kf : ¬ (x = y) → mm_Wc D tys B old L0 scr p l e R s m args below meth c nL ρ0 w0 Q (pc + 3) L st w h) : mm_Wc D tys B old L0 scr p l e R s m args below meth c nL ρ0 w0 Q pc L ((0, y) :: (0, x) :: st) w h := by
  intro ρ H locs ls sv hρ hH hS hL hst
  obtain ⟨v, sv, rfl, ⟨hy, rfl⟩, hs2⟩ := mm_SR_cons hst
  obtain ⟨v, sv, rfl, ⟨hx, rfl⟩, hs3⟩ := mm_SR_cons hs2
  have hx : mm_i32 x := hx
  have hy : mm_i32 y := hy
  have e := i32_eq hx hy
  refine lv_icmp_eq F.1 F.2.1 hd ht (fun q => kt (e.mp q) ρ H locs ls sv hρ hH hS hL hs3) (fun q => kf (fun z => q (e.mpr z)) ρ H locs ls sv hρ hH hS hL hs3)
theorem st_if_eq (F : mm_Fr D tys B old L0 scr p s m args meth c nL own cc mn rt) {x : Int} {off : Int} {t : Nat} (hd : decode cc pc = .ok (.ifCond .eq off, 3)) (ht : (pc : Int) + off = (t : Int)) (kt : x = 0 → mm_Wc D tys B old L0 scr p l e R s m args below meth c nL ρ0 w0 Q t L st w h) (kf : ¬ (x = 0) → mm_Wc D tys B old L0 scr p l e R s m args below meth c nL ρ0 w0 Q (pc + 3) L st w h) : mm_Wc D tys B old L0 scr p l e R s m args below meth c nL ρ0 w0 Q pc L ((0, x) :: st) w h := by
  intro ρ H locs ls sv hρ hH hS hL hst
  obtain ⟨v, sv, rfl, ⟨hx, rfl⟩, hs3⟩ := mm_SR_cons hst
  have hx : mm_i32 x := hx
  have e := i32_eq hx i32_z
  refine lv_if_eq F.1 F.2.1 hd ht (fun q => kt (e.mp q) ρ H locs ls sv hρ hH hS hL hs3) (fun q => kf (fun z => q (e.mpr z)) ρ H locs ls sv hρ hH hS hL hs3)
theorem st_icmp_ne (F : mm_Fr D tys B old L0 scr p s m args meth c nL own cc mn rt) {x y : Int} {off : Int} {t : Nat} (hd : decode cc pc = .ok (.if_icmp .ne off, 3)) (ht : (pc : Int) + off = (t : Int)) (kt : ¬ x = y → mm_Wc D tys B old L0 scr p l e R s m args below meth c nL ρ0 w0 Q t L st w h) (kf : x = y → mm_Wc D tys B old L0 scr p l e R s m args below meth c nL ρ0 w0 Q (pc + 3) L st w h) : mm_Wc D tys B old L0 scr p l e R s m args below meth c nL ρ0 w0 Q pc L ((0, y) :: (0, x) :: st) w h := by
  intro ρ H locs ls sv hρ hH hS hL hst
  obtain ⟨v, sv, rfl, ⟨hy, rfl⟩, hs2⟩ := mm_SR_cons hst
  obtain ⟨v, sv, rfl, ⟨hx, rfl⟩, hs3⟩ := mm_SR_cons hs2
  have hx : mm_i32 x := hx
  have hy : mm_i32 y := hy
  have e := i32_eq hx hy
  refine lv_icmp_ne F.1 F.2.1 hd ht (fun q => kt (fun z => q (e.mpr z)) ρ H locs ls sv hρ hH hS hL hs3) (fun q => kf (e.mp q) ρ H locs ls sv hρ hH hS hL hs3)
theorem st_if_ne (F : mm_Fr D tys B old L0 scr p s m args meth c nL own cc mn rt) {x : Int} {off : Int} {t : Nat} (hd : decode cc pc = .ok (.ifCond .ne off, 3)) (ht : (pc : Int) + off = (t : Int)) (kt : ¬ x = 0 → mm_Wc D tys B old L0 scr p l e R s m args below meth c nL ρ0 w0 Q t L st w h) (kf : x = 0 → mm_Wc D tys B old L0 scr p l e R s m args below meth c nL ρ0 w0 Q (pc + 3) L st w h) : mm_Wc D tys B old L0 scr p l e R s m args below meth c nL ρ0 w0 Q pc L ((0, x) :: st) w h := by
  intro ρ H locs ls sv hρ hH hS hL hst
  obtain ⟨v, sv, rfl, ⟨hx, rfl⟩, hs3⟩ := mm_SR_cons hst
  have hx : mm_i32 x := hx
  have e := i32_eq hx i32_z
  refine lv_if_ne F.1 F.2.1 hd ht (fun q => kt (fun z => q (e.mpr z)) ρ H locs ls sv hρ hH hS hL hs3) (fun q => kf (e.mp q) ρ H locs ls sv hρ hH hS hL hs3)
theorem mm_adr_0 {ρ : List Nat} : mm_adr old ρ 0 = none := rfl
theorem mm_adr_some {ρ : List Nat} {x : Int} (hx : x ≤ ρ.length) (h0 : ¬ x = 0) : ∃ a, mm_adr old ρ x = some a := by
  unfold mm_adr
  by_cases h1 : x < 0
  · rw [if_pos h1]; exact ⟨_, rfl⟩
  · rw [if_neg h1, if_neg h0]
    exact ⟨_, List.getElem?_eq_getElem (by omega)⟩
theorem st_ifnull (F : mm_Fr D tys B old L0 scr p s m args meth c nL own cc mn rt) {x : Int} {off : Int} {t : Nat} (hd : decode cc pc = .ok (.ifnull off, 3)) (ht : (pc : Int) + off = (t : Int)) (kt : x = 0 → mm_Wc D tys B old L0 scr p l e R s m args below meth c nL ρ0 w0 Q t L st w h) (kf : ¬ x = 0 → mm_Wc D tys B old L0 scr p l e R s m args below meth c nL ρ0 w0 Q (pc + 3) L st w h) : mm_Wc D tys B old L0 scr p l e R s m args below meth c nL ρ0 w0 Q pc L ((2, x) :: st) w h := by
  intro ρ H locs ls sv hρ hH hS hL hst
  obtain ⟨v, sv, rfl, ⟨hx, rfl⟩, hs3⟩ := mm_SR_cons hst
  by_cases h0 : x = 0
  · rw [show mm_adr old ρ ((2, x) : mm_V).2 = none by rw [show ((2, x) : mm_V).2 = 0 from h0]; rfl]
    exact lv_ifnullN F.1 F.2.1 hd ht (kt h0 ρ H locs ls sv hρ hH hS hL hs3)
  · obtain ⟨a, ha⟩ := mm_adr_some (old := old) (ρ := ρ) hx h0
    rw [ha]
    exact lv_ifnull F.1 F.2.1 hd (kf h0 ρ H locs ls sv hρ hH hS hL hs3)
theorem st_ifnonnull (F : mm_Fr D tys B old L0 scr p s m args meth c nL own cc mn rt) {x : Int} {off : Int} {t : Nat} (hd : decode cc pc = .ok (.ifnonnull off, 3)) (ht : (pc : Int) + off = (t : Int)) (kt : ¬ x = 0 → mm_Wc D tys B old L0 scr p l e R s m args below meth c nL ρ0 w0 Q t L st w h) (kf : x = 0 → mm_Wc D tys B old L0 scr p l e R s m args below meth c nL ρ0 w0 Q (pc + 3) L st w h) : mm_Wc D tys B old L0 scr p l e R s m args below meth c nL ρ0 w0 Q pc L ((2, x) :: st) w h := by
  intro ρ H locs ls sv hρ hH hS hL hst
  obtain ⟨v, sv, rfl, ⟨hx, rfl⟩, hs3⟩ := mm_SR_cons hst
  by_cases h0 : x = 0
  · rw [show mm_adr old ρ ((2, x) : mm_V).2 = none by rw [show ((2, x) : mm_V).2 = 0 from h0]; rfl]
    exact lv_ifnonnullN F.1 F.2.1 hd (kf h0 ρ H locs ls sv hρ hH hS hL hs3)
  · obtain ⟨a, ha⟩ := mm_adr_some (old := old) (ρ := ρ) hx h0
    rw [ha]
    exact lv_ifnonnull F.1 F.2.1 hd ht (kt h0 ρ H locs ls sv hρ hH hS hL hs3)
theorem st_null (F : mm_Fr D tys B old L0 scr p s m args meth c nL own cc mn rt) (hd : decode cc pc = .ok (.aconst_null, 1)) (k : mm_Wc D tys B old L0 scr p l e R s m args below meth c nL ρ0 w0 Q (pc + 1) L ((2, 0) :: st) w h) : mm_Wc D tys B old L0 scr p l e R s m args below meth c nL ρ0 w0 Q pc L st w h := by
  intro ρ H locs ls sv hρ hH hS hL hst
  exact lv_null F.1 F.2.1 hd (k ρ H locs ls (.null :: sv) hρ hH hS hL ⟨⟨by show (0 : Int) ≤ _; omega, rfl⟩, hst⟩)
theorem st_lconst (F : mm_Fr D tys B old L0 scr p s m args meth c nL own cc mn rt) {q : Fin 2} (hd : decode cc pc = .ok (.lconst q, 1)) (k : mm_Wc D tys B old L0 scr p l e R s m args below meth c nL ρ0 w0 Q (pc + 1) L ((1, ((q : Nat) : Int)) :: st) w h) : mm_Wc D tys B old L0 scr p l e R s m args below meth c nL ρ0 w0 Q pc L st w h := by
  intro ρ H locs ls sv hρ hH hS hL hst
  have hq := q.isLt
  refine lv_lconst F.1 F.2.1 hd (v := Int64.ofInt ((q : Nat) : Int)) ?_ (k ρ H locs ls (.long (Int64.ofInt ((q : Nat) : Int)) :: sv) hρ hH hS hL ⟨⟨⟨by show _ ≤ ((q : Nat) : Int); omega, by show ((q : Nat) : Int) < _; omega⟩, rfl⟩, hst⟩)
  rw [Int64.ofInt_eq_ofNat]
theorem st_ldc (F : mm_Fr D tys B old L0 scr p s m args meth c nL own cc mn rt) {i : Nat} {n : Int} (hn : mm_i32 n) (hw : Jvm.Cond.constant own i (Int32.ofInt n) ∈ lw_g) (hd : (decode cc pc = .ok (.ldc i, 2) ∧ nx = pc + 2) ∨ (decode cc pc = .ok (.ldc_w i, 3) ∧ nx = pc + 3)) (k : mm_Wc D tys B old L0 scr p l e R s m args below meth c nL ρ0 w0 Q nx L ((0, n) :: st) w h) : mm_Wc D tys B old L0 scr p l e R s m args below meth c nL ρ0 w0 Q pc L st w h := by
  intro ρ H locs ls sv hρ hH hS hL hst
  have k2 := k ρ H locs ls (.int (Int32.ofInt n) :: sv) hρ hH hS hL ⟨⟨hn, rfl⟩, hst⟩
  rcases hd with ⟨hd, rfl⟩ | ⟨hd, rfl⟩
  · exact lv_ldc F.1 F.2.1 F.2.2.2.1 (F.2.2.2.2.1 _ hw) hd k2
  · exact lv_ldcw F.1 F.2.1 F.2.2.2.1 (F.2.2.2.2.1 _ hw) hd k2
theorem st_ldc2 (F : mm_Fr D tys B old L0 scr p s m args meth c nL own cc mn rt) {i : Nat} {n : Int} (hn : mm_i64 n) (hw : Jvm.Cond.constantLong own i (Int64.ofInt n) ∈ lw_g) (hd : decode cc pc = .ok (.ldc2_w i, 3)) (k : mm_Wc D tys B old L0 scr p l e R s m args below meth c nL ρ0 w0 Q (pc + 3) L ((1, n) :: st) w h) : mm_Wc D tys B old L0 scr p l e R s m args below meth c nL ρ0 w0 Q pc L st w h := by
  intro ρ H locs ls sv hρ hH hS hL hst
  exact lv_ldc2 F.1 F.2.1 F.2.2.2.1 (F.2.2.2.2.1 _ hw) hd (k ρ H locs ls (.long (Int64.ofInt n) :: sv) hρ hH hS hL ⟨⟨hn, rfl⟩, hst⟩)
theorem st_ldcS (F : mm_Fr D tys B old L0 scr p s m args meth c nL own cc mn rt) {i q : Nat} (hq : q < 12) (hw : mm_nth ("", 0, "") q mm_str = (own, i, tx)) (hd : decode cc pc = .ok (.ldc i, 2)) (k : mm_Wc D tys B old L0 scr p l e R s m args below meth c nL ρ0 w0 Q (pc + 2) L ((2, -(10 + 2 * (q : Int))) :: st) w h) : mm_Wc D tys B old L0 scr p l e R s m args below meth c nL ρ0 w0 Q pc L st w h := by
  intro ρ H locs ls sv hρ hH hS hL hst
  have hR := F.2.2.2.2.2.1.2.2.2.2.2.1 q hq
  rw [hw] at hR
  refine va_ldcS F.1 F.2.1 F.2.2.2.1 hR hd (k ρ H locs ls (.ref (old (-(10 + 2 * (q : Int)))) :: sv) hρ hH hS hL ⟨⟨by show -(10 + 2 * (q : Int)) ≤ _; omega, ?_⟩, hst⟩)
  show _ = va_rf (mm_adr old ρ (-(10 + 2 * (q : Int))))
  unfold mm_adr
  rw [if_pos (by omega)]
  rfl
theorem st_getsI (F : mm_Fr D tys B old L0 scr p s m args meth c nL own cc mn rt) {i : Nat} (hw : Jvm.Cond.fieldLink own i "java/lang/String" "COMPACT_STRINGS" "Z" ∈ lw_g) (hd : decode cc pc = .ok (.getstatic i, 3)) (k : mm_Wc D tys B old L0 scr p l e R s m args below meth c nL ρ0 w0 Q (pc + 3) L ((0, 1) :: st) w h) : mm_Wc D tys B old L0 scr p l e R s m args below meth c nL ρ0 w0 Q pc L st w h := by
  intro ρ H locs ls sv hρ hH hS hL hst
  exact va_gets F.1 F.2.1 F.2.2.2.2.2.1.2.2.2.2.2.2.1 hS F.2.2.2.1 (F.2.2.2.2.1 _ hw) (fun _ h => h) hd (k ρ H locs ls (.int 1 :: sv) hρ hH hS hL ⟨⟨by unfold mm_i32; decide, rfl⟩, hst⟩)
theorem st_getsR (F : mm_Fr D tys B old L0 scr p s m args meth c nL own cc mn rt) {i : Nat} (hw : Jvm.Cond.fieldLink own i "jdk/internal/util/Preconditions" "SIOOBE_FORMATTER" "Ljava/util/function/BiFunction;" ∈ lw_g) (hd : decode cc pc = .ok (.getstatic i, 3)) (k : mm_Wc D tys B old L0 scr p l e R s m args below meth c nL ρ0 w0 Q (pc + 3) L ((3, 0) :: st) w h) : mm_Wc D tys B old L0 scr p l e R s m args below meth c nL ρ0 w0 Q pc L st w h := by
  intro ρ H locs ls sv hρ hH hS hL hst
  rcases F.2.2.2.2.2.1.2.2.2.2.2.2.2.1 with hZ | ⟨t, hZ⟩
  · exact va_gets F.1 F.2.1 hZ hS F.2.2.2.1 (F.2.2.2.2.1 _ hw) (fun _ h => h) hd (k ρ H locs ls (.null :: sv) hρ hH hS hL ⟨⟨none, rfl⟩, hst⟩)
  · exact va_gets F.1 F.2.1 hZ hS F.2.2.2.1 (F.2.2.2.2.1 _ hw) (fun _ h => h) hd (k ρ H locs ls (.ref t :: sv) hρ hH hS hL ⟨⟨some t, rfl⟩, hst⟩)
end MM
