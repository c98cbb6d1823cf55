theorem mm_LR_put {old : Int → Nat} {ρ : List Nat} {nL n : Nat} {L : List mm_V} {ls ls' : Array Slot} {v : mm_V} {x x0 : Value} (h : mm_LR old ρ nL L ls) (hx0 : ls[n]? = some (.val x0)) (hv : mm_VR old ρ v x) (h' : lv_has ls' nL ((n, x) :: (mm_lv ls).filter (fun q => !(q.1 == n) && !(q.1 + 1 == n && q.2.category == 2)))) : mm_LR old ρ nL (mm_put n v L) ls' := by
  refine ⟨h'.1, h'.2.1, fun i y hi hy => ?_⟩
  rw [mm_put_at] at hi
  by_cases hin : i = n
  · subst hin
    by_cases hl : i < L.length
    · rw [if_pos ⟨rfl, hl⟩] at hi
      cases hi
      exact ⟨x, h'.2.2 (_, _) List.mem_cons_self, hv⟩
    · rw [if_neg (fun q => hl q.2), List.getElem?_eq_none (by omega)] at hi
      cases hi
  · rw [if_neg (fun q => hin q.1)] at hi
    obtain ⟨z, h1, h2⟩ := h.2.2 i y hi hy
    refine ⟨z, h'.2.2 (i, z) (List.mem_cons_of_mem _ (List.mem_filter.mpr ⟨mm_lv_mem h1, ?_⟩)), h2⟩
    by_cases hn : i + 1 = n
    · have hz : ¬ z.category = 2 := fun q => by
        have := h.2.1.1 i z h1 q
        rw [hn, hx0] at this
        cases this
      simp [hin, hz]
    · simp [hin, hn]
theorem mm_LR_lset {old : Int → Nat} {ρ : List Nat} {nL n : Nat} {L : List mm_V} {ls ls' : Array Slot} {v : mm_V} {x : Value} (h : mm_LR old ρ nL L ls) (hv : mm_VR old ρ v x) (h' : lv_has ls' nL ((n, x) :: (mm_lv ls).filter (fun q => !(q.1 == n) && (!(q.1 == n + 1) && !(q.1 + 1 == n && q.2.category == 2))))) : mm_LR old ρ nL (mm_put (n + 1) (8, 0) (mm_set n v L)) ls' := by
  refine ⟨h'.1, h'.2.1, fun i y hi hy => ?_⟩
  rw [mm_put_at] at hi
  by_cases hin : i = n + 1
  · subst hin
    by_cases hl : n + 1 < (mm_set n v L).length
    · rw [if_pos ⟨rfl, hl⟩] at hi
      cases hi
      exact absurd hy (by decide)
    · rw [if_neg (fun q => hl q.2), List.getElem?_eq_none (by omega)] at hi
      cases hi
  · rw [if_neg (fun q => hin q.1)] at hi
    rcases mm_set_at n v L i y hi with ⟨rfl, rfl⟩ | ⟨hne, rfl | ⟨hi, hc⟩⟩
    · exact ⟨x, h'.2.2 (_, _) List.mem_cons_self, hv⟩
    · exact absurd hy (by decide)
    · obtain ⟨z, h1, h2⟩ := h.2.2 i y hi hy
      refine ⟨z, h'.2.2 (i, z) (List.mem_cons_of_mem _ (List.mem_filter.mpr ⟨mm_lv_mem h1, ?_⟩)), h2⟩
      have e := mm_VR_cat h2
      by_cases hn : i + 1 = n
      · have hz : ¬ z.category = 2 := fun q => hc hn (e.mp q)
        simp [hne, hin, hz]
      · simp [hne, hin, hn]
section MM
variable {D : va_G} {tys : List (ClassId × FieldType)} {B : Nat} {old : Int → Nat} {L0 : Nat} {scr : Nat → Int32}
variable {p : Program} {l : Launch} {e : Env} {R : Room} {s : State} {m : MethodId} {args : Array Value} {below : List Frame} {meth : Method} {c : Code} {nL : Nat} {ρ0 : List Nat} {w0 : mm_W} {Q : State → Prop}
variable {own : String} {cc : ByteArray} {mn : String} {rt : Option FieldType} {pc : Nat} {L st : List mm_V} {w : mm_W} {h : mm_H} {nx : Nat} {tx : String}

theorem st_lstore (F : mm_Fr D tys B old L0 scr p s m args meth c nL own cc mn rt) {n : Nat} {x : Int} (hn : n + 1 < nL) (hd : (decode cc pc = .ok (.lstore n, 2) ∧ nx = pc + 2) ∨ (∃ k : Fin 4, decode cc pc = .ok (.lstore_n k, 1) ∧ (k : Nat) = n ∧ nx = pc + 1)) (k : mm_Wc D tys B old L0 scr p l e R s m args below meth c nL ρ0 w0 Q nx (mm_put (n + 1) (8, 0) (mm_set n (1, x) L)) st w h) : mm_Wc D tys B old L0 scr p l e R s m args below meth c nL ρ0 w0 Q pc L ((1, x) :: st) w h := by
  intro ρ H locs ls sv hρ hH hS hL hst
  obtain ⟨v, sv, rfl, hv, hs2⟩ := mm_SR_cons hst
  have hv2 := hv
  obtain ⟨hr, rfl⟩ := hv2
  rcases hd with ⟨hd, rfl⟩ | ⟨q, hd, hq, rfl⟩
  · exact lv_lstore F.1 F.2.1 hd (mm_lv_has hL.1 hL.2.1) hn rfl fun ls' h' => k ρ H locs ls' sv hρ hH hS (mm_LR_lset hL hv h') hs2
  · exact lv_lstore_n F.1 F.2.1 hd hq (mm_lv_has hL.1 hL.2.1) hn rfl fun ls' h' => k ρ H locs ls' sv hρ hH hS (mm_LR_lset hL hv h') hs2
theorem st_iinc (F : mm_Fr D tys B old L0 scr p s m args meth c nL own cc mn rt) {n : Nat} {x y : Int} (hg : mm_get n L = (0, x)) (hn : n < nL) (hd : decode cc pc = .ok (.iinc n y, 3)) (k : mm_Wc D tys B old L0 scr p l e R s m args below meth c nL ρ0 w0 Q (pc + 3) (mm_put n (0, mI (x + y)) L) st w h) : mm_Wc D tys B old L0 scr p l e R s m args below meth c nL ρ0 w0 Q pc L st w h := by
  intro ρ H locs ls sv hρ hH hS hL hst
  obtain ⟨v, h1, h2⟩ := hL.2.2 n _ (mm_get_at hg (show (0 : Nat) ≤ 3 by decide)) (by decide : (0 : Nat) ≤ 3)
  obtain ⟨hr, rfl⟩ := h2
  obtain ⟨j, hj⟩ := List.getElem?_of_mem (mm_lv_mem h1)
  refine lv_iinc F.1 F.2.1 hd (mm_lv_has hL.1 hL.2.1) hj rfl hn rfl fun ls' h' => k ρ H locs ls' sv hρ hH hS (mm_LR_put hL h1 ?_ h') hst
  exact ⟨mI_r _, by rw [mI_I, Int32.ofInt_add]⟩
theorem st_ii (nx : Nat) {x y z : Int} (hz : mm_i32 x → mm_i32 y → mm_i32 z ∧ ∀ (H : Heap) (locs : List Loc) (cells slots : Nat) (ls : Array Slot) (sv : List Value), W p l e R s m args below meth c H locs cells slots Q (F0 m nx ls (.int (Int32.ofInt z) :: sv)) → W p l e R s m args below meth c H locs cells slots Q (F0 m pc ls (.int (Int32.ofInt y) :: .int (Int32.ofInt x) :: sv))) (k : mm_Wc D tys B old L0 scr p l e R s m args below meth c nL ρ0 w0 Q nx L ((0, z) :: st) w h) : mm_Wc D tys B old L0 scr p l e R s m args below meth c nL ρ0 w0 Q pc L ((0, y) :: (0, x) :: st) w h := by
  intro ρ H locs ls sv hρ hH hS hL hst
  obtain ⟨v, sv, rfl, ⟨hy, rfl⟩, hs2⟩ := mm_SR_cons hst
  obtain ⟨v, sv, rfl, ⟨hx, rfl⟩, hs3⟩ := mm_SR_cons hs2
  obtain ⟨h1, h2⟩ := hz hx hy
  exact h2 H locs _ _ ls sv (k ρ H locs ls (.int (Int32.ofInt z) :: sv) hρ hH hS hL ⟨⟨h1, rfl⟩, hs3⟩)
theorem st_jj (nx : Nat) {x y z : Int} (hz : mm_i64 x → mm_i64 y → mm_i64 z ∧ ∀ (H : Heap) (locs : List Loc) (cells slots : Nat) (ls : Array Slot) (sv : List Value), W p l e R s m args below meth c H locs cells slots Q (F0 m nx ls (.long (Int64.ofInt z) :: sv)) → W p l e R s m args below meth c H locs cells slots Q (F0 m pc ls (.long (Int64.ofInt y) :: .long (Int64.ofInt x) :: sv))) (k : mm_Wc D tys B old L0 scr p l e R s m args below meth c nL ρ0 w0 Q nx L ((1, z) :: st) w h) : mm_Wc D tys B old L0 scr p l e R s m args below meth c nL ρ0 w0 Q pc L ((1, y) :: (1, x) :: st) w h := by
  intro ρ H locs ls sv hρ hH hS hL hst
  obtain ⟨v, sv, rfl, ⟨hy, rfl⟩, hs2⟩ := mm_SR_cons hst
  obtain ⟨v, sv, rfl, ⟨hx, rfl⟩, hs3⟩ := mm_SR_cons hs2
  obtain ⟨h1, h2⟩ := hz hx hy
  exact h2 H locs _ _ ls sv (k ρ H locs ls (.long (Int64.ofInt z) :: sv) hρ hH hS hL ⟨⟨h1, rfl⟩, hs3⟩)
theorem st_i (nx : Nat) {x z : Int} (hz : mm_i32 x → mm_i32 z ∧ ∀ (H : Heap) (locs : List Loc) (cells slots : Nat) (ls : Array Slot) (sv : List Value), W p l e R s m args below meth c H locs cells slots Q (F0 m nx ls (.int (Int32.ofInt z) :: sv)) → W p l e R s m args below meth c H locs cells slots Q (F0 m pc ls (.int (Int32.ofInt x) :: sv))) (k : mm_Wc D tys B old L0 scr p l e R s m args below meth c nL ρ0 w0 Q nx L ((0, z) :: st) w h) : mm_Wc D tys B old L0 scr p l e R s m args below meth c nL ρ0 w0 Q pc L ((0, x) :: st) w h := by
  intro ρ H locs ls sv hρ hH hS hL hst
  obtain ⟨v, sv, rfl, ⟨hx, rfl⟩, hs3⟩ := mm_SR_cons hst
  obtain ⟨h1, h2⟩ := hz hx
  exact h2 H locs _ _ ls sv (k ρ H locs ls (.int (Int32.ofInt z) :: sv) hρ hH hS hL ⟨⟨h1, rfl⟩, hs3⟩)
theorem st_iadd (F : mm_Fr D tys B old L0 scr p s m args meth c nL own cc mn rt) {x y : Int} (hd : decode cc pc = .ok (.iadd, 1)) (k : mm_Wc D tys B old L0 scr p l e R s m args below meth c nL ρ0 w0 Q (pc + 1) L ((0, mI (x + y)) :: st) w h) : mm_Wc D tys B old L0 scr p l e R s m args below meth c nL ρ0 w0 Q pc L ((0, y) :: (0, x) :: st) w h :=
  st_ii _ (fun _ _ => ⟨mI_r _, fun _ _ _ _ _ _ kk => lv_iadd F.1 F.2.1 hd (by rw [mI_I, Int32.ofInt_add] at kk; exact kk)⟩) k
theorem st_isub (F : mm_Fr D tys B old L0 scr p s m args meth c nL own cc mn rt) {x y : Int} (hd : decode cc pc = .ok (.isub, 1)) (k : mm_Wc D tys B old L0 scr p l e R s m args below meth c nL ρ0 w0 Q (pc + 1) L ((0, mI (x - y)) :: st) w h) : mm_Wc D tys B old L0 scr p l e R s m args below meth c nL ρ0 w0 Q pc L ((0, y) :: (0, x) :: st) w h :=
  st_ii _ (fun _ _ => ⟨mI_r _, fun _ _ _ _ _ _ kk => lv_isub F.1 F.2.1 hd (by rw [mI_I, Int32.ofInt_sub] at kk; exact kk)⟩) k
theorem st_imul (F : mm_Fr D tys B old L0 scr p s m args meth c nL own cc mn rt) {x y : Int} (hd : decode cc pc = .ok (.imul, 1)) (k : mm_Wc D tys B old L0 scr p l e R s m args below meth c nL ρ0 w0 Q (pc + 1) L ((0, mI (x * y)) :: st) w h) : mm_Wc D tys B old L0 scr p l e R s m args below meth c nL ρ0 w0 Q pc L ((0, y) :: (0, x) :: st) w h :=
  st_ii _ (fun _ _ => ⟨mI_r _, fun _ _ _ _ _ _ kk => lv_imul F.1 F.2.1 hd (by rw [mI_I, Int32.ofInt_mul] at kk; exact kk)⟩) k
theorem mm_ne0 {y : Int} (hy : mm_i32 y) (hne : ¬ y = 0) : ¬ Int32.ofInt y = 0 := fun q => hne ((i32_eq hy i32_z).mp q)
theorem st_idiv (F : mm_Fr D tys B old L0 scr p s m args meth c nL own cc mn rt) {x y : Int} (hne : ¬ y = 0) (hd : decode cc pc = .ok (.idiv, 1)) (k : mm_Wc D tys B old L0 scr p l e R s m args below meth c nL ρ0 w0 Q (pc + 1) L ((0, mI (Int.tdiv x y)) :: st) w h) : mm_Wc D tys B old L0 scr p l e R s m args below meth c nL ρ0 w0 Q pc L ((0, y) :: (0, x) :: st) w h :=
  st_ii _ (fun hx hy => ⟨mI_r _, fun _ _ _ _ _ _ kk => lv_idiv F.1 F.2.1 hd (mm_ne0 hy hne) (by rw [i32_div hx hy]; exact kk)⟩) k
theorem st_irem (F : mm_Fr D tys B old L0 scr p s m args meth c nL own cc mn rt) {x y : Int} (hne : ¬ y = 0) (hd : decode cc pc = .ok (.irem, 1)) (k : mm_Wc D tys B old L0 scr p l e R s m args below meth c nL ρ0 w0 Q (pc + 1) L ((0, Int.tmod x y) :: st) w h) : mm_Wc D tys B old L0 scr p l e R s m args below meth c nL ρ0 w0 Q pc L ((0, y) :: (0, x) :: st) w h :=
  st_ii _ (fun hx hy => ⟨i32_tmod hx hne hy, fun _ _ _ _ _ _ kk => lv_irem F.1 F.2.1 hd (mm_ne0 hy hne) (by rw [i32_rem hx hy]; exact kk)⟩) k
theorem st_iand (F : mm_Fr D tys B old L0 scr p s m args meth c nL own cc mn rt) {x y : Int} (hd : decode cc pc = .ok (.iand, 1)) (k : mm_Wc D tys B old L0 scr p l e R s m args below meth c nL ρ0 w0 Q (pc + 1) L ((0, mAnd x y) :: st) w h) : mm_Wc D tys B old L0 scr p l e R s m args below meth c nL ρ0 w0 Q pc L ((0, y) :: (0, x) :: st) w h :=
  st_ii _ (fun _ _ => ⟨i32_t _, fun _ _ _ _ _ _ kk => lv_iand F.1 F.2.1 hd (by rw [Int32.ofInt_toInt] at kk; exact kk)⟩) k
theorem st_ior (F : mm_Fr D tys B old L0 scr p s m args meth c nL own cc mn rt) {x y : Int} (hd : decode cc pc = .ok (.ior, 1)) (k : mm_Wc D tys B old L0 scr p l e R s m args below meth c nL ρ0 w0 Q (pc + 1) L ((0, mOr x y) :: st) w h) : mm_Wc D tys B old L0 scr p l e R s m args below meth c nL ρ0 w0 Q pc L ((0, y) :: (0, x) :: st) w h :=
  st_ii _ (fun _ _ => ⟨i32_t _, fun _ _ _ _ _ _ kk => lv_ior F.1 F.2.1 hd (by rw [Int32.ofInt_toInt] at kk; exact kk)⟩) k
theorem st_ixor (F : mm_Fr D tys B old L0 scr p s m args meth c nL own cc mn rt) {x y : Int} (hd : decode cc pc = .ok (.ixor, 1)) (k : mm_Wc D tys B old L0 scr p l e R s m args below meth c nL ρ0 w0 Q (pc + 1) L ((0, mXor x y) :: st) w h) : mm_Wc D tys B old L0 scr p l e R s m args below meth c nL ρ0 w0 Q pc L ((0, y) :: (0, x) :: st) w h :=
  st_ii _ (fun _ _ => ⟨i32_t _, fun _ _ _ _ _ _ kk => lv_ixor F.1 F.2.1 hd (by rw [Int32.ofInt_toInt] at kk; exact kk)⟩) k
theorem st_ishl (F : mm_Fr D tys B old L0 scr p s m args meth c nL own cc mn rt) {x y : Int} (hd : decode cc pc = .ok (.ishl, 1)) (k : mm_Wc D tys B old L0 scr p l e R s m args below meth c nL ρ0 w0 Q (pc + 1) L ((0, mShl x y) :: st) w h) : mm_Wc D tys B old L0 scr p l e R s m args below meth c nL ρ0 w0 Q pc L ((0, y) :: (0, x) :: st) w h :=
  st_ii _ (fun _ _ => ⟨i32_t _, fun _ _ _ _ _ _ kk => lv_ishl F.1 F.2.1 hd (by rw [Int32.ofInt_toInt] at kk; exact kk)⟩) k
theorem st_ishr (F : mm_Fr D tys B old L0 scr p s m args meth c nL own cc mn rt) {x y : Int} (hd : decode cc pc = .ok (.ishr, 1)) (k : mm_Wc D tys B old L0 scr p l e R s m args below meth c nL ρ0 w0 Q (pc + 1) L ((0, mShr x y) :: st) w h) : mm_Wc D tys B old L0 scr p l e R s m args below meth c nL ρ0 w0 Q pc L ((0, y) :: (0, x) :: st) w h :=
  st_ii _ (fun _ _ => ⟨i32_t _, fun _ _ _ _ _ _ kk => lv_ishr F.1 F.2.1 hd (by rw [Int32.ofInt_toInt] at kk; exact kk)⟩) k
theorem st_iushr (F : mm_Fr D tys B old L0 scr p s m args meth c nL own cc mn rt) {x y : Int} (hd : decode cc pc = .ok (.iushr, 1)) (k : mm_Wc D tys B old L0 scr p l e R s m args below meth c nL ρ0 w0 Q (pc + 1) L ((0, mUsh x y) :: st) w h) : mm_Wc D tys B old L0 scr p l e R s m args below meth c nL ρ0 w0 Q pc L ((0, y) :: (0, x) :: st) w h :=
  st_ii _ (fun _ _ => ⟨i32_t _, fun _ _ _ _ _ _ kk => lv_iushr F.1 F.2.1 hd rfl (by rw [Int32.ofInt_toInt] at kk; exact kk)⟩) k
theorem st_ineg (F : mm_Fr D tys B old L0 scr p s m args meth c nL own cc mn rt) {x : Int} (hd : decode cc pc = .ok (.ineg, 1)) (k : mm_Wc D tys B old L0 scr p l e R s m args below meth c nL ρ0 w0 Q (pc + 1) L ((0, mI (-x)) :: st) w h) : mm_Wc D tys B old L0 scr p l e R s m args below meth c nL ρ0 w0 Q pc L ((0, x) :: st) w h :=
  st_i _ (fun _ => ⟨mI_r _, fun _ _ _ _ _ _ kk => lv_ineg F.1 F.2.1 hd (by rw [mI_I, Int32.ofInt_neg] at kk; exact kk)⟩) k
theorem st_i2s (F : mm_Fr D tys B old L0 scr p s m args meth c nL own cc mn rt) {x : Int} (hd : decode cc pc = .ok (.i2s, 1)) (k : mm_Wc D tys B old L0 scr p l e R s m args below meth c nL ρ0 w0 Q (pc + 1) L ((0, mS x) :: st) w h) : mm_Wc D tys B old L0 scr p l e R s m args below meth c nL ρ0 w0 Q pc L ((0, x) :: st) w h := by
  refine st_i _ (fun hx => ?_) k
  have e : mS x = ((Int32.ofInt x).toInt16.toInt32).toInt := by rw [lg_i2s_toInt, i32_o hx]; rfl
  rw [e]
  exact ⟨i32_t _, fun _ _ _ _ _ _ kk => lv_i2s F.1 F.2.1 hd rfl (by rw [Int32.ofInt_toInt] at kk; exact kk)⟩
theorem st_i2b (F : mm_Fr D tys B old L0 scr p s m args meth c nL own cc mn rt) {x : Int} (hd : decode cc pc = .ok (.i2b, 1)) (k : mm_Wc D tys B old L0 scr p l e R s m args below meth c nL ρ0 w0 Q (pc + 1) L ((0, mB x) :: st) w h) : mm_Wc D tys B old L0 scr p l e R s m args below meth c nL ρ0 w0 Q pc L ((0, x) :: st) w h := by
  refine st_i _ (fun hx => ?_) k
  have e : mB x = ((Int32.ofInt x).toInt8.toInt32).toInt := by rw [lg_i2b_toInt, i32_o hx]; rfl
  rw [e]
  exact ⟨i32_t _, fun _ _ _ _ _ _ kk => lv_i2b F.1 F.2.1 hd rfl (by rw [Int32.ofInt_toInt] at kk; exact kk)⟩
theorem mm_char {x : Int} (hx : mm_i32 x) : (((Int32.ofInt x).toUInt32 % 65536).toInt32) = Int32.ofInt (mC6 x) := by
  rw [pk_char]
  have h1 : (Int32.ofInt x).toBitVec.toNat = (Int.emod x 4294967296).toNat := by
    show (BitVec.ofInt 32 x).toNat = _
    rw [BitVec.toNat_ofInt]
    rfl
  rw [h1]
  unfold mC6
  have h2 : (Int.emod x 4294967296).toNat % 65536 = (Int.emod x 65536).toNat := by
    have e1 : (x % 4294967296) % 65536 = x % 65536 := Int.emod_emod_of_dvd x (by decide)
    have n1 : 0 ≤ x % 4294967296 := Int.emod_nonneg x (by decide)
    have n2 : 0 ≤ x % 65536 := Int.emod_nonneg x (by decide)
    show (x % 4294967296).toNat % 65536 = (x % 65536).toNat
    omega
  rw [h2]
  have n2 : 0 ≤ x % 65536 := Int.emod_nonneg x (by decide)
  show Int32.ofNat (x % 65536).toNat = Int32.ofInt (x % 65536)
  rw [← Int32.ofInt_eq_ofNat, Int.toNat_of_nonneg n2]
theorem st_i2c (F : mm_Fr D tys B old L0 scr p s m args meth c nL own cc mn rt) {x : Int} (hd : decode cc pc = .ok (.i2c, 1)) (k : mm_Wc D tys B old L0 scr p l e R s m args below meth c nL ρ0 w0 Q (pc + 1) L ((0, mC6 x) :: st) w h) : mm_Wc D tys B old L0 scr p l e R s m args below meth c nL ρ0 w0 Q pc L ((0, x) :: st) w h := by
  refine st_i _ (fun hx => ⟨?_, fun _ _ _ _ _ _ kk => lv_i2c F.1 F.2.1 hd (mm_char hx) kk⟩) k
  unfold mC6 mm_i32
  have n1 : 0 ≤ x % 65536 := Int.emod_nonneg x (by decide)
  have n2 : x % 65536 < 65536 := Int.emod_lt_of_pos x (by decide)
  show -2147483648 ≤ x % 65536 ∧ x % 65536 < 2147483648
  omega
theorem st_i2l (F : mm_Fr D tys B old L0 scr p s m args meth c nL own cc mn rt) {x : Int} (hd : decode cc pc = .ok (.i2l, 1)) (k : mm_Wc D tys B old L0 scr p l e R s m args below meth c nL ρ0 w0 Q (pc + 1) L ((1, x) :: st) w h) : mm_Wc D tys B old L0 scr p l e R s m args below meth c nL ρ0 w0 Q pc L ((0, x) :: st) w h := by
  intro ρ H locs ls sv hρ hH hS hL hst
  obtain ⟨v, sv, rfl, ⟨hx, rfl⟩, hs2⟩ := mm_SR_cons hst
  have hx' : mm_i32 x := hx
  have h64 : mm_i64 x := ⟨by have := hx'.1; omega, by have := hx'.2; omega⟩
  refine lv_i2l F.1 F.2.1 hd ?_ (k ρ H locs ls (.long (Int64.ofInt x) :: sv) hρ hH hS hL ⟨⟨h64, rfl⟩, hs2⟩)
  rw [← Int64.toInt_inj, Int32.toInt_toInt64, i64_o h64]
  exact i32_o hx'
theorem st_l2i (F : mm_Fr D tys B old L0 scr p s m args meth c nL own cc mn rt) {x : Int} (hd : decode cc pc = .ok (.l2i, 1)) (k : mm_Wc D tys B old L0 scr p l e R s m args below meth c nL ρ0 w0 Q (pc + 1) L ((0, mI x) :: st) w h) : mm_Wc D tys B old L0 scr p l e R s m args below meth c nL ρ0 w0 Q pc L ((1, x) :: st) w h := by
  intro ρ H locs ls sv hρ hH hS hL hst
  obtain ⟨v, sv, rfl, ⟨hx, rfl⟩, hs2⟩ := mm_SR_cons hst
  have hx' : mm_i64 x := hx
  refine lv_l2i F.1 F.2.1 hd ?_ (k ρ H locs ls (.int (Int32.ofInt (mI x)) :: sv) hρ hH hS hL ⟨⟨mI_r _, rfl⟩, hs2⟩)
  rw [← Int32.toInt_inj, Int64.toInt_toInt32, i32_o (mI_r _)]
  show (Int64.ofInt x).toInt.bmod _ = _
  rw [i64_o hx']
  rfl
theorem st_ladd (F : mm_Fr D tys B old L0 scr p s m args meth c nL own cc mn rt) {x y : Int} (hd : decode cc pc = .ok (.ladd, 1)) (k : mm_Wc D tys B old L0 scr p l e R s m args below meth c nL ρ0 w0 Q (pc + 1) L ((1, mJ (x + y)) :: st) w h) : mm_Wc D tys B old L0 scr p l e R s m args below meth c nL ρ0 w0 Q pc L ((1, y) :: (1, x) :: st) w h :=
  st_jj _ (fun _ _ => ⟨mJ_r _, fun _ _ _ _ _ _ kk => lv_ladd F.1 F.2.1 hd (by rw [mJ_J, Int64.ofInt_add] at kk; exact kk)⟩) k
theorem st_lsub (F : mm_Fr D tys B old L0 scr p s m args meth c nL own cc mn rt) {x y : Int} (hd : decode cc pc = .ok (.lsub, 1)) (k : mm_Wc D tys B old L0 scr p l e R s m args below meth c nL ρ0 w0 Q (pc + 1) L ((1, mJ (x - y)) :: st) w h) : mm_Wc D tys B old L0 scr p l e R s m args below meth c nL ρ0 w0 Q pc L ((1, y) :: (1, x) :: st) w h :=
  st_jj _ (fun _ _ => ⟨mJ_r _, fun _ _ _ _ _ _ kk => lv_lsub F.1 F.2.1 hd (by rw [mJ_J, Int64.ofInt_sub] at kk; exact kk)⟩) k
theorem st_lmul (F : mm_Fr D tys B old L0 scr p s m args meth c nL own cc mn rt) {x y : Int} (hd : decode cc pc = .ok (.lmul, 1)) (k : mm_Wc D tys B old L0 scr p l e R s m args below meth c nL ρ0 w0 Q (pc + 1) L ((1, mJ (x * y)) :: st) w h) : mm_Wc D tys B old L0 scr p l e R s m args below meth c nL ρ0 w0 Q pc L ((1, y) :: (1, x) :: st) w h :=
  st_jj _ (fun _ _ => ⟨mJ_r _, fun _ _ _ _ _ _ kk => lv_lmul F.1 F.2.1 hd (by rw [mJ_J, Int64.ofInt_mul] at kk; exact kk)⟩) k
theorem st_lneg (F : mm_Fr D tys B old L0 scr p s m args meth c nL own cc mn rt) {x : Int} (hd : decode cc pc = .ok (.lneg, 1)) (k : mm_Wc D tys B old L0 scr p l e R s m args below meth c nL ρ0 w0 Q (pc + 1) L ((1, mJ (-x)) :: st) w h) : mm_Wc D tys B old L0 scr p l e R s m args below meth c nL ρ0 w0 Q pc L ((1, x) :: st) w h := by
  intro ρ H locs ls sv hρ hH hS hL hst
  obtain ⟨v, sv, rfl, ⟨hx, rfl⟩, hs2⟩ := mm_SR_cons hst
  refine lv_lneg F.1 F.2.1 hd ?_
  have kk := k ρ H locs ls (.long (Int64.ofInt (mJ (-x))) :: sv) hρ hH hS hL ⟨⟨mJ_r _, rfl⟩, hs2⟩
  rw [mJ_J, Int64.ofInt_neg] at kk
  exact kk
theorem st_lcmp (F : mm_Fr D tys B old L0 scr p s m args meth c nL own cc mn rt) {x y : Int} (hd : decode cc pc = .ok (.lcmp, 1)) (k : mm_Wc D tys B old L0 scr p l e R s m args below meth c nL ρ0 w0 Q (pc + 1) L ((0, mCmp x y) :: st) w h) : mm_Wc D tys B old L0 scr p l e R s m args below meth c nL ρ0 w0 Q pc L ((1, y) :: (1, x) :: st) w h := by
  intro ρ H locs ls sv hρ hH hS hL hst
  obtain ⟨v, sv, rfl, ⟨hy, rfl⟩, hs2⟩ := mm_SR_cons hst
  obtain ⟨v, sv, rfl, ⟨hx, rfl⟩, hs3⟩ := mm_SR_cons hs2
  refine W.lcmp F.1 F.2.1 hd ?_
  rw [i64_cmp hx hy]
  exact k ρ H locs ls (.int (Int32.ofInt (mCmp x y)) :: sv) hρ hH hS hL ⟨⟨mCmp_r _ _, rfl⟩, hs3⟩
theorem mm_cat1 {ρ : List Nat} {v : mm_V} {x : Value} (h : mm_VR old ρ v x) (hv : ¬ v.1 = 1) : x.category = 1 := by
  rcases lv_cat x with q | q
  · exact q
  · exact absurd ((mm_VR_cat h).mp q) hv
theorem st_dup (F : mm_Fr D tys B old L0 scr p s m args meth c nL own cc mn rt) {v : mm_V} (hv : ¬ v.1 = 1) (hd : decode cc pc = .ok (.dup, 1)) (k : mm_Wc D tys B old L0 scr p l e R s m args below meth c nL ρ0 w0 Q (pc + 1) L (v :: v :: st) w h) : mm_Wc D tys B old L0 scr p l e R s m args below meth c nL ρ0 w0 Q pc L (v :: st) w h := by
  intro ρ H locs ls sv hρ hH hS hL hst
  obtain ⟨x, sv, rfl, hx, hs2⟩ := mm_SR_cons hst
  exact lv_dup F.1 F.2.1 hd (mm_cat1 hx hv) (k ρ H locs ls (x :: x :: sv) hρ hH hS hL ⟨hx, hx, hs2⟩)
theorem st_dup2 (F : mm_Fr D tys B old L0 scr p s m args meth c nL own cc mn rt) {u v : mm_V} (hu : ¬ u.1 = 1) (hv : ¬ v.1 = 1) (hd : decode cc pc = .ok (.dup2, 1)) (k : mm_Wc D tys B old L0 scr p l e R s m args below meth c nL ρ0 w0 Q (pc + 1) L (u :: v :: u :: v :: st) w h) : mm_Wc D tys B old L0 scr p l e R s m args below meth c nL ρ0 w0 Q pc L (u :: v :: st) w h := by
  intro ρ H locs ls sv hρ hH hS hL hst
  obtain ⟨x, sv, rfl, hx, hs2⟩ := mm_SR_cons hst
  obtain ⟨y, sv, rfl, hy, hs3⟩ := mm_SR_cons hs2
  exact lv_dup2_11 F.1 F.2.1 hd (mm_cat1 hx hu) (mm_cat1 hy hv) (k ρ H locs ls (x :: y :: x :: y :: sv) hρ hH hS hL ⟨hx, hy, hx, hy, hs3⟩)
theorem st_pop (F : mm_Fr D tys B old L0 scr p s m args meth c nL own cc mn rt) {v : mm_V} (hv : ¬ v.1 = 1) (hd : decode cc pc = .ok (.pop, 1)) (k : mm_Wc D tys B old L0 scr p l e R s m args below meth c nL ρ0 w0 Q (pc + 1) L st w h) : mm_Wc D tys B old L0 scr p l e R s m args below meth c nL ρ0 w0 Q pc L (v :: st) w h := by
  intro ρ H locs ls sv hρ hH hS hL hst
  obtain ⟨x, sv, rfl, hx, hs2⟩ := mm_SR_cons hst
  exact lv_pop F.1 F.2.1 hd (mm_cat1 hx hv) (k ρ H locs ls sv hρ hH hS hL hs2)
theorem st_goto (F : mm_Fr D tys B old L0 scr p s m args meth c nL own cc mn rt) {off : Int} {t : Nat} (hd : decode cc pc = .ok (.goto off, 3)) (ht : (pc : Int) + off = (t : Int)) (k : mm_Wc D tys B old L0 scr p l e R s m args below meth c nL ρ0 w0 Q t L st w h) : mm_Wc D tys B old L0 scr p l e R s m args below meth c nL ρ0 w0 Q pc L st w h := by
  intro ρ H locs ls sv hρ hH hS hL hst
  exact lv_goto F.1 F.2.1 hd ht (k ρ H locs ls sv hρ hH hS hL hst)
end MM
