theorem mm_asg (vm : Vm) (c : ClassId) : vm.assignable c c = true := by
  show Vm.assignableAux vm (255 + 1) c c = true
  rw [Vm.assignableAux]
  simp
section MM
variable {D : va_G} {tys : List (ClassId × FieldType)} {B : Nat} {old : Int → Nat} {L0 : Nat} {scr : Nat → Int32}
variable {p : Program} {l : Launch} {e : Env} {R : Room} {s : State} {m : MethodId} {args : Array Value} {below : List Frame} {meth : Method} {c : Code} {nL : Nat} {ρ0 : List Nat} {w0 : mm_W} {Q : State → Prop}
variable {own : String} {cc : ByteArray} {mn : String} {rt : Option FieldType} {pc : Nat} {L st : List mm_V} {w : mm_W} {h : mm_H} {nx : Nat} {tx : String}

theorem st_alen (F : mm_Fr D tys B old L0 scr p s m args meth c nL own cc mn rt) {a : Int} (hd : decode cc pc = .ok (.arraylength, 1)) (hk : 50 ≤ (w.1 a).1) (kk : mm_Wc D tys B old L0 scr p l e R s m args below meth c nL ρ0 w0 Q (pc + 1) L ((0, (w.1 a).2) :: st) w h) : mm_Wc D tys B old L0 scr p l e R s m args below meth c nL ρ0 w0 Q pc L ((2, a) :: st) w h := by
  intro ρ H locs ls sv hρ hH hS hL hst
  obtain ⟨va, sv, rfl, ⟨ha, rfl⟩, hs2⟩ := mm_SR_cons hst
  by_cases hp : 0 < a
  · have hle : a ≤ ρ.length := by
      rcases Int.lt_or_le ρ.length a with q | q
      · have := hH.2.2.1 a q; omega
      · exact q
    have p1 : 1 ≤ a := hp
    have hent := mm_ws_at (old := old) (tys := tys) (w := w) (h := h) p1 hle
    rw [show mm_adr old ρ ((2, a) : mm_V).2 = _ from mm_adr_at p1 hle]
    have hg := hH.2.1 a p1 hle
    have hr : 0 ≤ (w.1 a).2 ∧ (w.1 a).2 ≤ 1000000 ∧ ((w.1 a).1 = 50 ∨ (w.1 a).1 = 51 ∨ (w.1 a).1 = 52 ∨ (w.1 a).1 = 53 ∨ (w.1 a).1 = 107 ∨ (w.1 a).1 = 109 ∨ (w.1 a).1 = 150) := by
      rcases hg with ⟨-, h2, -⟩ | ⟨h0, h1, h2, -⟩ | ⟨h0, h1, h2, -⟩ | ⟨h0, h1, h2, -⟩ <;> omega
    obtain ⟨r0, r1, r2⟩ := hr
    have hv : Int32.ofNat (w.1 a).2.toNat = Int32.ofInt (w.1 a).2 := by
      rw [← Int32.ofInt_eq_ofNat, Int.toNat_of_nonneg r0]
    have ht := F.2.2.2.2.2.1.2.1 (w.1 a).1 r2
    have k2 := kk ρ H locs ls (.int (Int32.ofInt (w.1 a).2) :: sv) hρ hH hS hL ⟨⟨⟨by show -2147483648 ≤ (w.1 a).2; omega, by show (w.1 a).2 < 2147483648; omega⟩, rfl⟩, hs2⟩
    by_cases c1 : (w.1 a).1 < 53
    · rw [mm_ent_i rfl (by omega)] at hent
      exact va_alen F.1 F.2.1 F.2.2.2.2.2.1.1 hH.2.2.2.2.1 _ _ hent ht hv hd k2
    · by_cases c2 : (w.1 a).1 = 53
      · rw [mm_ent_j c2, ← c2] at hent
        exact va_alen F.1 F.2.1 F.2.2.2.2.2.1.1 hH.2.2.2.2.1 _ _ hent ht hv hd k2
      · rw [mm_ent_q rfl (by omega)] at hent
        exact va_alen F.1 F.2.1 F.2.2.2.2.2.1.1 hH.2.2.2.2.1 _ _ hent ht hv hd k2
  · have hneg : a ≤ 0 := by omega
    obtain ⟨n1, n1b, -, n2, n3⟩ := hH.2.2.2.1
    by_cases q1 : a = -1
    · subst q1
      have hE := F.2.2.2.2.2.1.2.2.2.1
      have hb := F.2.2.2.2.2.1.2.2.1
      rw [show mm_adr old ρ ((2, -1) : mm_V).2 = some (old (-1)) from rfl]
      rw [n1] at kk
      refine va_slen F.1 F.2.1 hE.1 (by omega) (by unfold mm_A; omega) hS hd ?_
      have e : Int32.ofNat L0 = Int32.ofInt ((L0 : Nat) : Int) := Int32.ofInt_eq_ofNat.symm
      rw [e]
      exact kk ρ H locs ls (.int (Int32.ofInt ((L0 : Nat) : Int)) :: sv) hρ hH hS hL ⟨⟨⟨by show -2147483648 ≤ ((L0 : Nat) : Int); omega, by show ((L0 : Nat) : Int) < 2147483648; omega⟩, rfl⟩, hs2⟩
    · by_cases q2 : ∀ i : Nat, i < 12 → a ≠ -(10 + 2 * (i : Int)) ∧ a ≠ -(11 + 2 * (i : Int))
      · rw [n3 a hneg q1 q2] at hk; omega
      · simp only [Classical.not_forall] at q2
        obtain ⟨i, hi, q2⟩ := q2
        obtain ⟨g1, -, -, g2, -⟩ := n2 i hi
        by_cases e2 : a = -(10 + 2 * (i : Int))
        · subst e2; rw [g1] at hk; exact absurd hk (show ¬ 50 ≤ (14 : Nat) by decide)
        · have e3 : a = -(11 + 2 * (i : Int)) := Classical.byContradiction fun z => q2 ⟨e2, z⟩
          subst e3
          obtain ⟨-, -, -, hT⟩ := F.2.2.2.2.2.1.2.2.2.2.1.1 i hi
          obtain ⟨b1, b2, b3⟩ := mm_sb_r i hi
          rw [b2, b3] at hT
          have ead : mm_adr old ρ ((2, -(11 + 2 * (i : Int))) : mm_V).2 = some (old (-(11 + 2 * (i : Int)))) := by
            show mm_adr old ρ (-(11 + 2 * (i : Int))) = _
            unfold mm_adr
            rw [if_pos (by omega)]
          rw [ead]
          rw [g2] at kk
          have hsm : mm_nth 0 i mm_sl < 1000 := by
            have : ∀ i, i < 12 → mm_nth 0 i mm_sl < 1000 := by decide +kernel
            exact this i hi
          refine va_tlen F.1 F.2.1 hT hS rfl hd ?_
          have e : Int32.ofNat (mm_nth 0 i mm_sl) = Int32.ofInt ((mm_nth 0 i mm_sl : Nat) : Int) := Int32.ofInt_eq_ofNat.symm
          rw [e]
          exact kk ρ H locs ls (.int (Int32.ofInt ((mm_nth 0 i mm_sl : Nat) : Int)) :: sv) hρ hH hS hL ⟨⟨⟨by show -2147483648 ≤ ((mm_nth 0 i mm_sl : Nat) : Int); omega, by show ((mm_nth 0 i mm_sl : Nat) : Int) < 2147483648; omega⟩, rfl⟩, hs2⟩
theorem st_aastore (F : mm_Fr D tys B old L0 scr p s m args meth c nL own cc mn rt) {a j z : Int} (hd : decode cc pc = .ok (.aastore, 1)) (hk : 100 ≤ (w.1 a).1) (h0 : 0 ≤ j) (h1 : j < (w.1 a).2) (hz0 : 0 < z) (hzk : (w.1 z).1 + 100 = (w.1 a).1) (kk : mm_Wc D tys B old L0 scr p l e R s m args below meth c nL ρ0 w0 Q (pc + 1) L st w ((mUp h a j z))) : mm_Wc D tys B old L0 scr p l e R s m args below meth c nL ρ0 w0 Q pc L ((2, z) :: (0, j) :: (2, a) :: st) w h := by
  intro ρ H locs ls sv hρ hH hS hL hst
  obtain ⟨v, sv, rfl, ⟨hz, rfl⟩, hs0⟩ := mm_SR_cons hst
  obtain ⟨v, sv, rfl, ⟨hj, rfl⟩, hs1⟩ := mm_SR_cons hs0
  obtain ⟨va, sv, rfl, ⟨ha, rfl⟩, hs2⟩ := mm_SR_cons hs1
  have hj : mm_i32 j := hj
  have hz : z ≤ ρ.length := hz
  obtain ⟨p1, p2⟩ := mm_pos (a := a) hH (by omega) (by omega) (by omega) (Or.inl (by omega))
  have hent := mm_ws_at (old := old) (tys := tys) (w := w) (h := h) p1 p2
  rw [mm_ent_q rfl hk] at hent
  have hentz := mm_ws_at (old := old) (tys := tys) (w := w) (h := h) (show 1 ≤ z from hz0) hz
  have hz' := mm_adr_at (old := old) (show 1 ≤ z from hz0) hz
  rw [show mm_adr old ρ ((2, a) : mm_V).2 = _ from mm_adr_at p1 p2, show mm_adr old ρ ((2, z) : mm_V).2 = _ from hz']
  have hg := mm_good_q rfl hk (hH.2.1 a p1 p2)
  have ht := F.2.2.2.2.2.1.2.1 (w.1 a).1 (by omega)
  have hin := i32_in h0 h1 hj
  have hlt : (Int32.ofInt j).toNatClampNeg < (w.1 a).2.toNat := Nat.not_le.mp fun q => hin (Or.inr q)
  have fin : ∀ (H1 : Heap) (locs1 : List Loc), va_P D mm_cls ((mm_ws old tys ρ w h).set (a.toNat - 1) (ρ.getD (a.toNat - 1) 0, .inl (mm_cA tys (w.1 a).1, (w.1 a).2.toNat, .inr (.inr (.inr (.inr (va_up (fun q : Nat => mm_adr old ρ (h a q)) (Int32.ofInt j).toNatClampNeg (some (ρ.getD (z.toNat - 1) 0))))))))) H1 → va_D (mm_A B) ((mm_ws old tys ρ w h).set (a.toNat - 1) (ρ.getD (a.toNat - 1) 0, .inl (mm_cA tys (w.1 a).1, (w.1 a).2.toNat, .inr (.inr (.inr (.inr (va_up (fun q : Nat => mm_adr old ρ (h a q)) (Int32.ofInt j).toNatClampNeg (some (ρ.getD (z.toNat - 1) 0))))))))) → va_S (mm_A B) s.heap H1 locs1 → W p l e R s m args below meth c H1 locs1 (w.2.1 - w0.2.1).toNat (w.2.2 - w0.2.2).toNat Q (F0 m (pc + 1) ls sv) := by
    intro H1 locs1 hP1 hD1 hS1
    rw [i32_cl h0 hj, ← mm_upd_q h0 hz'] at hP1 hD1
    exact kk ρ H1 locs1 ls sv hρ (mm_HR_put hH p1 (fun b q hb => by simp [mUp, hb]) (Or.inr (Or.inr (Or.inr ⟨hg.1, hg.2.1, hg.2.2.1, mm_up_r (P := fun x => 0 ≤ x ∧ x ≤ (ρ.length : Int)) ⟨by omega, hz⟩ hg.2.2.2⟩))) (mm_ent_q rfl hk).symm hP1 hD1) hS1 hL hs2
  rcases hg.1 with e | e | e
  · rw [mm_ent_obj (ci := 6) (by omega) (by omega)] at hentz
    rw [e] at ht
    have ht2 : tys[mm_ki 107]? = some (mm_cA tys (w.1 a).1, .object "FewRectangles$Rule") := by rw [ht, e]; rfl
    exact va_astq (r := ("FewRectangles$Rule", mm_F6, 8)) F.1 F.2.1 F.2.2.2.2.2.1.1 hH.2.2.2.2.1 hH.2.2.2.2.2 hS _ _ _ 6 hent ht2 hentz rfl hin hd fin
  · rw [mm_ent_obj (ci := 8) (by omega) (by omega)] at hentz
    rw [e] at ht
    have ht2 : tys[mm_ki 109]? = some (mm_cA tys (w.1 a).1, .object "FewRectangles$Sheet") := by rw [ht, e]; rfl
    exact va_astq (r := ("FewRectangles$Sheet", mm_F8, 9)) F.1 F.2.1 F.2.2.2.2.2.1.1 hH.2.2.2.2.1 hH.2.2.2.2.2 hS _ _ _ 8 hent ht2 hentz rfl hin hd fin
  · rw [mm_ent_i (k := 50) (by omega) (by omega)] at hentz
    rw [e] at ht
    have ht2 : tys[mm_ki 150]? = some (mm_cA tys (w.1 a).1, .array .int) := by rw [ht, e]; rfl
    have ht5 := F.2.2.2.2.2.1.2.1 50 (by omega)
    obtain ⟨comp, cA, kA, a1, a2, a3, a4, a5⟩ := arrayOverA_spec F.2.2.2.2.2.1.2.2.2.2.2.2.2.2.2.2.2
    have k50 : s.vm.findClass _ = some (mm_cA tys 50) := (F.2.2.2.2.2.1.1.2 _ _ ht5).2
    have k150 : s.vm.findClass _ = some (mm_cA tys (w.1 a).1) := (F.2.2.2.2.2.1.1.2 _ _ ht2).2
    have hcA : cA = mm_cA tys (w.1 a).1 := Option.some.inj (a5.symm.trans k150)
    have hcomp : comp = mm_cA tys 50 := Option.some.inj (a1.symm.trans k50)
    subst hcA; subst hcomp
    obtain ⟨kC, hkC, -⟩ := Vm.findClass_spec k50
    refine W.aast F.1 F.2.1 (hH.2.2.2.2.1 _ _ hent) (fun q h => by cases h) (fun h => by cases h) a3 a4 rfl hkC ⟨fun q => hin (Or.inl q), by show _ < (arrV _ _ _).slots.size; rw [arrV_size]; exact hlt⟩ (hH.2.2.2.2.1 _ _ hentz) (fun q h => by cases h) hkC (mm_asg _ _) rfl rfl hd fun H1 e z oq => ?_
    refine fin H1 _ (hH.2.2.2.2.1.set hH.2.2.2.2.2 hent ?_ oq) (hH.2.2.2.2.2.set hent) (hS.put z oq (hH.2.2.2.2.2.2 _ _ hent))
    show H1[_]? = some (vp_cell _ _)
    rw [e]
    rw [vp_cell_q, vp_cell_q, arrV_store]
    congr 2
    funext q
    by_cases hq : q = (Int32.ofInt j).toNatClampNeg
    · subst hq
      simp [updV, va_up, va_rf]
    · simp [updV, va_up, hq]
theorem st_anewI (F : mm_Fr D tys B old L0 scr p s m args meth c nL own cc mn rt) {n : Int} {i : Nat} (hw1 : Jvm.Cond.classLink own i (FieldType.array .int).toString ∈ lw_g) (hd : decode cc pc = .ok (.anewarray i, 3)) (h0 : 0 ≤ n) (h1 : n ≤ 1000000) (hr : ∀ ρ, mm_Px ρ0 w0 ρ w → (w.2.1 + 1 - w0.2.1).toNat ≤ R.cells ∧ (w.2.2 + n - w0.2.2).toNat ≤ R.slots) (kk : mm_Wc D tys B old L0 scr p l e R s m args below meth c nL ρ0 w0 Q (pc + 3) L ((2, w.2.1) :: st) ((mNew w 150 n)) ((mZero h w.2.1))) : mm_Wc D tys B old L0 scr p l e R s m args below meth c nL ρ0 w0 Q pc L ((0, n) :: st) w h := by
  intro ρ H locs ls sv hρ hH hS hL hst
  obtain ⟨v, sv, rfl, ⟨hn, rfl⟩, hs2⟩ := mm_SR_cons hst
  have hn : mm_i32 n := hn
  obtain ⟨r1, r2⟩ := hr ρ hρ
  have hpx := hρ.2
  have hcl := i32_cl h0 hn
  refine W.anewA F.1 F.2.1 F.2.2.2.1 (F.2.2.2.2.1 _ hw1) (mm_AOI_use F.2.2.2.2.2.1.2.2.2.2.2.2.2.2.2.2.2) rfl hd (n := Int32.ofInt n) rfl (fun q => by have := (i32_lt hn i32_z).mp q; omega) (by show (Int32.ofInt n).toNatClampNeg * 4 ≤ _; rw [hcl]; omega) (by omega) (by rw [hcl]; omega) (fun cA kA comp a1 a2 a3 a4 => ?_)
  have k150 : s.vm.findClass _ = some (mm_cA tys 150) := (F.2.2.2.2.2.1.1.2 _ _ (F.2.2.2.2.2.1.2.1 150 (by omega))).2
  have hcA : cA = mm_cA tys 150 := Option.some.inj (a1.symm.trans k150)
  subst hcA
  have hcell : ({ cls := mm_cA tys 150, slots := Array.replicate (Int32.ofInt n).toNatClampNeg .null, vm := .none } : Cell) = vp_cell (mm_cA tys 150) (n.toNat, .inr (.inr (.inr (.inr (fun _ => none))))) := by
    rw [vp_cell_q, hcl]
    show _ = ({ cls := _, slots := _, vm := _ } : Cell)
    congr 1
    apply Array.ext
    · simp
    · intro q h1 h2
      simp [va_rf]
  rw [hcell]
  have hP2 := hH.2.2.2.2.1
  have hpush : ∀ q : Nat, q < H.size → (H.push (vp_cell (mm_cA tys 150) (n.toNat, .inr (.inr (.inr (.inr (fun _ => none)))))))[q]? = H[q]? := fun q hq => by rw [Array.getElem?_push, if_neg (by omega)]
  have hP3 : va_P D mm_cls (mm_ws old tys ρ w h ++ [(H.size, .inl (mm_cA tys 150, n.toNat, .inr (.inr (.inr (.inr (fun _ => none))))))]) (H.push (vp_cell (mm_cA tys 150) (n.toNat, .inr (.inr (.inr (.inr (fun _ => none))))))) := by
    refine (hP2.kept (fun k x hx => hpush _ (hP2 k x hx).lt)).app (fun k x hx => ?_)
    cases k with
    | zero =>
      simp at hx
      subst hx
      show (H.push _)[H.size]? = _
      rw [Array.getElem?_push_size]
    | succ k => simp at hx
  have hD3 : va_D (mm_A B) (mm_ws old tys ρ w h ++ [(H.size, .inl (mm_cA tys 150, n.toNat, .inr (.inr (.inr (.inr (fun _ => none))))))]) := hH.2.2.2.2.2.push hP2 rfl (mm_hA F _ hS.1)
  have hHR := mm_HR_push (k := 150) (n := n) hH (mm_q_good (Or.inr (Or.inr rfl)) h0 h1) (mm_q_ent (Or.inr (Or.inr rfl))).symm hP3 hD3
  have hS3 : va_S (mm_A B) s.heap (H.push (vp_cell (mm_cA tys 150) (n.toNat, .inr (.inr (.inr (.inr (fun _ => none))))))) locs := ⟨by rw [Array.size_push]; exact Nat.le_succ_of_le hS.1, fun q a1 a2 => by rw [hpush q (Nat.lt_of_lt_of_le a1 hS.1)]; exact hS.2.1 q a1 a2, hS.2.2⟩
  have hlen : (ρ ++ [H.size]).length = ρ.length + 1 := by simp
  have := kk (ρ ++ [H.size]) _ locs ls (.ref H.size :: sv) (mm_px_push hρ h0) hHR hS3 (mm_LR_app _ hL) ⟨⟨by show w.2.1 ≤ _; rw [hlen, hH.1]; omega, ?_⟩, mm_SR_app _ hs2⟩
  · refine W.cs (m := m) ?_ ?_ this
    · show _ = (w.2.1 + 1 - w0.2.1).toNat; omega
    · show _ = (w.2.2 + n - w0.2.2).toNat; rw [hcl]; omega
  · show _ = va_rf (mm_adr old (ρ ++ [H.size]) w.2.1)
    rw [mm_adr_at (by rw [hH.1]; omega) (by rw [hlen, hH.1]; omega), hH.1]
    simp [List.getD]
    rfl
theorem mm_cpy_fun {h : mm_H} {a0 sp d dp n : Int} (h1 : 0 ≤ sp) (h2 : 0 ≤ dp) (h3 : 0 ≤ n) : (fun q : Nat => Int32.ofInt (mCpy h a0 sp d dp n d q)) = va_cpy (fun q : Nat => Int32.ofInt (h a0 q)) (fun q : Nat => Int32.ofInt (h d q)) sp.toNat dp.toNat n.toNat := by
  funext q
  unfold va_cpy mCpy
  by_cases e : dp ≤ (q : Int) ∧ (q : Int) < dp + n
  · rw [if_pos ⟨rfl, e⟩, if_pos (by omega)]
    congr 2
    omega
  · rw [if_neg (fun x => e x.2), if_neg (by omega)]
theorem st_copy (F : mm_Fr D tys B old L0 scr p s m args meth c nL own cc mn rt) {i : Nat} {a0 sp d dp n : Int} (hw1 : Jvm.Cond.methodLink own i arraycopyName ∈ lw_g) (hw2 : Jvm.Cond.native arraycopyName ∈ lw_g) (hw3 : Jvm.Cond.static arraycopyName ∈ lw_g) (hw4 : Jvm.Cond.initialized "java/lang/System" ∈ lw_g) (hR : 1 ≤ R.frames ∧ nativeFrameWords "java/lang/System" "arraycopy" 5 + 11 ≤ R.locals) (hd : decode cc pc = .ok (.invokestatic i, 3)) (hq : (w.1 a0).1 = 50 ∧ (w.1 d).1 = 50 ∧ 0 < a0 ∧ 0 < d ∧ 0 ≤ sp ∧ 0 ≤ dp ∧ 0 ≤ n ∧ sp + n ≤ (w.1 a0).2 ∧ dp + n ≤ (w.1 d).2) (kk : mm_Wc D tys B old L0 scr p l e R s m args below meth c nL ρ0 w0 Q (pc + 3) L [] w ((mCpy h a0 sp d dp n))) : mm_Wc D tys B old L0 scr p l e R s m args below meth c nL ρ0 w0 Q pc L [(0, n), (0, dp), (2, d), (0, sp), (2, a0)] w h := by
  intro ρ H locs ls sv hρ hH hS hL hst
  obtain ⟨v, sv, rfl, ⟨hn, rfl⟩, hs0⟩ := mm_SR_cons hst
  obtain ⟨v, sv, rfl, ⟨hdp, rfl⟩, hs1⟩ := mm_SR_cons hs0
  obtain ⟨v, sv, rfl, ⟨hd0, rfl⟩, hs2⟩ := mm_SR_cons hs1
  obtain ⟨v, sv, rfl, ⟨hsp, rfl⟩, hs3⟩ := mm_SR_cons hs2
  obtain ⟨v, sv, rfl, ⟨ha0, rfl⟩, hs4⟩ := mm_SR_cons hs3
  obtain rfl := mm_SR_nil hs4
  have hn : mm_i32 n := hn
  have hdp : mm_i32 dp := hdp
  have hsp : mm_i32 sp := hsp
  obtain ⟨q1, q2, q3, q4, q5, q6, q7, q8, q9⟩ := hq
  obtain ⟨p1, p2⟩ := mm_pos hH (a := a0) (by omega) (by omega) (by omega) (Or.inr q3)
  obtain ⟨p3, p4⟩ := mm_pos hH (a := d) (by omega) (by omega) (by omega) (Or.inr q4)
  have hent0 := mm_ws_at (old := old) (tys := tys) (w := w) (h := h) p1 p2
  have hent1 := mm_ws_at (old := old) (tys := tys) (w := w) (h := h) p3 p4
  rw [mm_ent_i q1 (by omega)] at hent0
  rw [mm_ent_i q2 (by omega)] at hent1
  rw [show mm_adr old ρ ((2, a0) : mm_V).2 = _ from mm_adr_at p1 p2, show mm_adr old ρ ((2, d) : mm_V).2 = _ from mm_adr_at p3 p4]
  have g0 := mm_good_i q1 (by omega) (hH.2.1 a0 p1 p2)
  have g1 := mm_good_i q2 (by omega) (hH.2.1 d p3 p4)
  have ht := F.2.2.2.2.2.1.2.1 50 (by omega)
  have e1 := i32_cl q5 hsp
  have e2 := i32_cl q6 hdp
  have e3 := i32_cl q7 hn
  refine va_copyi F.1 F.2.1 (F.2.2.1.trans hL.1.symm) F.2.2.2.1 (F.2.2.2.2.1 _ hw1) (F.2.2.2.2.1 _ hw2) (F.2.2.2.2.1 _ hw3) (F.2.2.2.2.1 _ hw4) F.2.2.2.2.2.1.1 hH.2.2.2.2.1 hH.2.2.2.2.2 hS _ _ _ _ hent0 hent1 ht ht rfl (sp := Int32.ofInt sp) (dp := Int32.ofInt dp) (n := Int32.ofInt n) (fun q => by have := (i32_lt hsp i32_z).mp q; omega) (fun q => by have := (i32_lt hdp i32_z).mp q; omega) (fun q => by have := (i32_lt hn i32_z).mp q; omega) (by omega) (by omega) (fun _ _ => rfl) hR.1 (by show 0 + _ ≤ _; omega) hd fun H1 locs1 hP1 hD1 hS1 => ?_
  rw [e1, e2, e3, ← mm_cpy_fun q5 q6 q7] at hP1 hD1
  exact kk ρ H1 locs1 ls [] hρ (mm_HR_put hH p3 (fun b q hb => by simp [mCpy, hb]) (Or.inr (Or.inl ⟨Or.inl q2, g1.1, g1.2.1, fun q => by unfold mCpy; split; exact g0.2.2 _; exact g1.2.2 _⟩)) (mm_ent_i q2 (by omega)).symm hP1 hD1) hS1 hL trivial
end MM
