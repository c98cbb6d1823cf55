theorem mm_ent_i {old : Int → Nat} {tys : List (ClassId × FieldType)} {ρ : List Nat} {w : mm_W} {h : mm_H} {a : Int} {k : Nat} (hk : (w.1 a).1 = k) (hk2 : k = 50 ∨ k = 51 ∨ k = 52) : mm_ent old tys ρ w h a = .inl (mm_cA tys k, (w.1 a).2.toNat, .inl (fun j => Int32.ofInt (h a j))) := by
  unfold mm_ent
  rw [hk, if_neg (by omega), if_pos (by omega)]
theorem mm_ent_j {old : Int → Nat} {tys : List (ClassId × FieldType)} {ρ : List Nat} {w : mm_W} {h : mm_H} {a : Int} (hk : (w.1 a).1 = 53) : mm_ent old tys ρ w h a = .inl (mm_cA tys 53, (w.1 a).2.toNat, .inr (.inl (fun j => Int64.ofInt (h a j)))) := by
  unfold mm_ent
  rw [hk, if_neg (by omega), if_neg (by omega), if_pos rfl]
theorem mm_ent_q {old : Int → Nat} {tys : List (ClassId × FieldType)} {ρ : List Nat} {w : mm_W} {h : mm_H} {a : Int} {k : Nat} (hk : (w.1 a).1 = k) (hk2 : 100 ≤ k) : mm_ent old tys ρ w h a = .inl (mm_cA tys k, (w.1 a).2.toNat, .inr (.inr (.inr (.inr (fun j => mm_adr old ρ (h a j)))))) := by
  unfold mm_ent
  rw [hk, if_neg (by omega), if_neg (by omega), if_neg (by omega)]
theorem mm_good_i {n k : Nat} {w : mm_W} {h : mm_H} {a : Int} (hk : (w.1 a).1 = k) (hk2 : k = 50 ∨ k = 51 ∨ k = 52) (hg : mm_good n w h a) : 0 ≤ (w.1 a).2 ∧ (w.1 a).2 ≤ 1000000 ∧ ∀ j : Int, mm_i32 (h a j) := by
  rcases hg with ⟨-, h2, -⟩ | ⟨-, h1, h2, h3⟩ | ⟨h1, -⟩ | ⟨h1, -⟩
  · omega
  · exact ⟨h1, h2, h3⟩
  · omega
  · omega
theorem mm_good_j {n : Nat} {w : mm_W} {h : mm_H} {a : Int} (hk : (w.1 a).1 = 53) (hg : mm_good n w h a) : 0 ≤ (w.1 a).2 ∧ (w.1 a).2 ≤ 1000000 ∧ ∀ j : Int, mm_i64 (h a j) := by
  rcases hg with ⟨-, h2, -⟩ | ⟨h0, -⟩ | ⟨-, h1, h2, h3⟩ | ⟨h1, -⟩
  · omega
  · omega
  · exact ⟨h1, h2, h3⟩
  · omega
theorem mm_good_q {n k : Nat} {w : mm_W} {h : mm_H} {a : Int} (hk : (w.1 a).1 = k) (hk2 : 100 ≤ k) (hg : mm_good n w h a) : (k = 107 ∨ k = 109 ∨ k = 150) ∧ 0 ≤ (w.1 a).2 ∧ (w.1 a).2 ≤ 1000000 ∧ ∀ j : Int, 0 ≤ h a j ∧ h a j ≤ n := by
  rcases hg with ⟨-, h2, -⟩ | ⟨h0, -⟩ | ⟨h0, -⟩ | ⟨h0, h1, h2, h3⟩
  · omega
  · omega
  · omega
  · exact ⟨by omega, h1, h2, h3⟩
theorem mm_upd_i {h : mm_H} {a j z : Int} (hj : 0 ≤ j) : (fun q : Nat => Int32.ofInt (mUp h a j z a q)) = upd (fun q : Nat => Int32.ofInt (h a q)) j.toNat (Int32.ofInt z) := by
  funext q
  unfold upd mUp
  by_cases e : q = j.toNat
  · rw [if_pos e, if_pos ⟨rfl, by omega⟩]
  · rw [if_neg e, if_neg (fun x => e (by omega))]
theorem mm_upd_j {h : mm_H} {a j z : Int} (hj : 0 ≤ j) : (fun q : Nat => Int64.ofInt (mUp h a j z a q)) = vp_updL (fun q : Nat => Int64.ofInt (h a q)) j.toNat (Int64.ofInt z) := by
  funext q
  unfold vp_updL mUp
  by_cases e : q = j.toNat
  · rw [if_pos e, if_pos ⟨rfl, by omega⟩]
  · rw [if_neg e, if_neg (fun x => e (by omega))]
theorem mm_upd_q {old : Int → Nat} {ρ : List Nat} {h : mm_H} {a j z : Int} {y : Option Nat} (hj : 0 ≤ j) (hy : mm_adr old ρ z = y) : (fun q : Nat => mm_adr old ρ (mUp h a j z a q)) = va_up (fun q : Nat => mm_adr old ρ (h a q)) j.toNat y := by
  funext q
  unfold va_up mUp
  by_cases e : q = j.toNat
  · rw [if_pos e, if_pos ⟨rfl, by omega⟩, hy]
  · rw [if_neg e, if_neg (fun x => e (by omega))]
theorem mm_up_r {P : Int → Prop} {h : mm_H} {a i z : Int} (hz : P z) (hh : ∀ j : Int, P (h a j)) : ∀ j : Int, P (mUp h a i z a j) := by
  intro j
  unfold mUp
  split
  · exact hz
  · exact hh j
section MM
variable {D : va_G} {tys : List (ClassId × FieldType)} {B : Nat} {old : Int → Nat} {L0 : Nat} {scr : Nat → Int32}
variable {p : Program} {l : Launch} {e : Env} {R : Room} {s : State} {m : MethodId} {args : Array Value} {below : List Frame} {meth : Method} {c : Code} {nL : Nat} {ρ0 : List Nat} {w0 : mm_W} {Q : State → Prop}
variable {own : String} {cc : ByteArray} {mn : String} {rt : Option FieldType} {pc : Nat} {L st : List mm_V} {w : mm_W} {h : mm_H} {nx : Nat} {tx : String}

theorem st_iaload (F : mm_Fr D tys B old L0 scr p s m args meth c nL own cc mn rt) {a j : Int} (hd : decode cc pc = .ok (.iaload, 1)) (hk : (w.1 a).1 = 50) (h0 : 0 ≤ j) (h1 : j < (w.1 a).2) (kk : mm_Wc D tys B old L0 scr p l e R s m args below meth c nL ρ0 w0 Q (pc + 1) L ((0, h a j) :: st) w h) : mm_Wc D tys B old L0 scr p l e R s m args below meth c nL ρ0 w0 Q pc L ((0, j) :: (2, a) :: st) w h := by
  intro ρ H locs ls sv hρ hH hS hL hst
  obtain ⟨v, sv, rfl, ⟨hj, rfl⟩, hs1⟩ := mm_SR_cons hst
  obtain ⟨va, sv, rfl, ⟨ha, rfl⟩, hs2⟩ := mm_SR_cons hs1
  have hj : mm_i32 j := hj
  by_cases hp : 0 < a
  · obtain ⟨p1, p2⟩ := mm_pos (a := a) hH (by omega) (by omega) (by omega) (Or.inr hp)
    have hent := mm_ws_at (old := old) (tys := tys) (w := w) (h := h) p1 p2
    rw [mm_ent_i hk (by omega)] at hent
    rw [show mm_adr old ρ ((2, a) : mm_V).2 = _ from mm_adr_at p1 p2]
    have hg := mm_good_i hk (by omega) (hH.2.1 a p1 p2)
    refine va_iald F.1 F.2.1 F.2.2.2.2.2.1.1 hH.2.2.2.2.1 _ _ hent (F.2.2.2.2.2.1.2.1 50 (by omega)) (i32_in h0 h1 hj) hd ?_
    rw [i32_cl h0 hj]
    have e : ((j.toNat : Nat) : Int) = j := by omega
    rw [e]
    exact kk ρ H locs ls (.int (Int32.ofInt (h a j)) :: sv) hρ hH hS hL ⟨⟨hg.2.2 j, rfl⟩, hs2⟩
  · rcases mm_neg_kind hH.2.2.2.1 (by omega : a ≤ 0) with g | ⟨rfl, -⟩ | g | g
    · omega
    · obtain ⟨n1, n2, n3, -⟩ := hH.2.2.2.1
      rw [n1] at h1
      have h1 : j < (L0 : Int) := h1
      have hv := n3 j.toNat (by omega)
      have e : ((j.toNat : Nat) : Int) = j := by omega
      rw [e] at hv
      have hE := F.2.2.2.2.2.1.2.2.2.1
      have hb := F.2.2.2.2.2.1.2.2.1
      rw [show mm_adr old ρ ((2, -1) : mm_V).2 = some (old (-1)) from rfl]
      refine va_sld F.1 F.2.1 hE.1 (by omega) (by unfold mm_A; omega) hS (i := Int32.ofInt j) (by have := i32_in h0 h1 hj; rwa [show ((L0 : Int)).toNat = L0 from rfl] at this) hd ?_
      rw [i32_cl h0 hj]
      refine kk ρ H locs ls (.int (scr j.toNat) :: sv) hρ hH hS hL ⟨⟨?_, ?_⟩, hs2⟩
      · show mm_i32 (h (-1) j); rw [hv]; exact i32_t _
      · show _ = Value.int (Int32.ofInt (h (-1) j)); rw [hv, Int32.ofInt_toInt]
    · omega
    · omega
theorem st_saload (F : mm_Fr D tys B old L0 scr p s m args meth c nL own cc mn rt) {a j : Int} (hd : decode cc pc = .ok (.saload, 1)) (hk : (w.1 a).1 = 51) (h0 : 0 ≤ j) (h1 : j < (w.1 a).2) (kk : mm_Wc D tys B old L0 scr p l e R s m args below meth c nL ρ0 w0 Q (pc + 1) L ((0, h a j) :: st) w h) : mm_Wc D tys B old L0 scr p l e R s m args below meth c nL ρ0 w0 Q pc L ((0, j) :: (2, a) :: st) w h := by
  intro ρ H locs ls sv hρ hH hS hL hst
  obtain ⟨v, sv, rfl, ⟨hj, rfl⟩, hs1⟩ := mm_SR_cons hst
  obtain ⟨va, sv, rfl, ⟨ha, rfl⟩, hs2⟩ := mm_SR_cons hs1
  have hj : mm_i32 j := hj
  obtain ⟨p1, p2⟩ := mm_pos (a := a) hH (by omega) (by omega) (by omega) (Or.inl (by omega))
  have hent := mm_ws_at (old := old) (tys := tys) (w := w) (h := h) p1 p2
  rw [mm_ent_i hk (by omega)] at hent
  rw [show mm_adr old ρ ((2, a) : mm_V).2 = _ from mm_adr_at p1 p2]
  have hg := mm_good_i hk (by omega) (hH.2.1 a p1 p2)
  refine va_sald F.1 F.2.1 F.2.2.2.2.2.1.1 hH.2.2.2.2.1 _ _ hent (F.2.2.2.2.2.1.2.1 51 (by omega)) (i32_in h0 h1 hj) hd ?_
  rw [i32_cl h0 hj]
  have e : ((j.toNat : Nat) : Int) = j := by omega
  rw [e]
  exact kk ρ H locs ls (.int (Int32.ofInt (h a j)) :: sv) hρ hH hS hL ⟨⟨hg.2.2 j, rfl⟩, hs2⟩
theorem mm_sb_r : ∀ i, i < 12 → mm_nth 0 i mm_sl = (mm_nth [] i mm_sb).length ∧ mm_sl.getD i 0 = mm_nth 0 i mm_sl ∧ mm_sb.getD i [] = mm_nth [] i mm_sb := by decide +kernel
theorem st_baload (F : mm_Fr D tys B old L0 scr p s m args meth c nL own cc mn rt) {a j : Int} (hd : decode cc pc = .ok (.baload, 1)) (hk : (w.1 a).1 = 52 ∨ (w.1 a).1 = 54) (h0 : 0 ≤ j) (h1 : j < (w.1 a).2) (kk : mm_Wc D tys B old L0 scr p l e R s m args below meth c nL ρ0 w0 Q (pc + 1) L ((0, h a j) :: st) w h) : mm_Wc D tys B old L0 scr p l e R s m args below meth c nL ρ0 w0 Q pc L ((0, j) :: (2, a) :: st) w h := by
  intro ρ H locs ls sv hρ hH hS hL hst
  obtain ⟨v, sv, rfl, ⟨hj, rfl⟩, hs1⟩ := mm_SR_cons hst
  obtain ⟨va, sv, rfl, ⟨ha, rfl⟩, hs2⟩ := mm_SR_cons hs1
  have hj : mm_i32 j := hj
  have e : ((j.toNat : Nat) : Int) = j := by omega
  rcases hk with hk | hk
  · obtain ⟨p1, p2⟩ := mm_pos (a := a) hH (by omega) (by omega) (by omega) (Or.inl (by omega))
    have hent := mm_ws_at (old := old) (tys := tys) (w := w) (h := h) p1 p2
    rw [mm_ent_i hk (by omega)] at hent
    rw [show mm_adr old ρ ((2, a) : mm_V).2 = _ from mm_adr_at p1 p2]
    have hg := mm_good_i hk (by omega) (hH.2.1 a p1 p2)
    refine va_zald F.1 F.2.1 F.2.2.2.2.2.1.1 hH.2.2.2.2.1 _ _ hent (F.2.2.2.2.2.1.2.1 52 (by omega)) (i32_in h0 h1 hj) hd ?_
    rw [i32_cl h0 hj]
    rw [e]
    exact kk ρ H locs ls (.int (Int32.ofInt (h a j)) :: sv) hρ hH hS hL ⟨⟨hg.2.2 j, rfl⟩, hs2⟩
  · have hneg : a ≤ 0 := by
      rcases Int.lt_or_le 0 a with q | q
      · have hz := hH.2.2.1
        rcases Int.lt_or_le ρ.length a with q2 | q2
        · rw [hz a q2] at hk; omega
        · have := hH.2.1 a q q2
          rcases this with ⟨_, h2, _⟩ | ⟨h2, _⟩ | ⟨h2, _⟩ | ⟨h2, _⟩ <;> omega
      · exact q
    obtain ⟨n1, -, -, n2, n3⟩ := hH.2.2.2.1
    have hex : ∃ i : Nat, i < 12 ∧ a = -(11 + 2 * (i : Int)) := by
      by_cases q1 : a = -1
      · subst q1; rw [n1] at hk; exact absurd hk (show ¬ (50 : Nat) = 54 by decide)
      · by_cases q2 : ∀ i : Nat, i < 12 → a ≠ -(10 + 2 * (i : Int)) ∧ a ≠ -(11 + 2 * (i : Int))
        · rw [n3 a hneg q1 q2] at hk; omega
        · simp only [Classical.not_forall] at q2
          obtain ⟨i, hi, q2⟩ := q2
          obtain ⟨g1, -, -, g2, -⟩ := n2 i hi
          by_cases e2 : a = -(10 + 2 * (i : Int))
          · subst e2; rw [g1] at hk; exact absurd hk (show ¬ (14 : Nat) = 54 by decide)
          · exact ⟨i, hi, Classical.byContradiction fun z => q2 ⟨e2, z⟩⟩
    obtain ⟨i, hi, rfl⟩ := hex
    obtain ⟨-, -, -, g4, g5⟩ := n2 i hi
    rw [g4] at h1
    have h1 : j < ((mm_nth 0 i mm_sl : Nat) : Int) := h1
    obtain ⟨-, -, -, hT⟩ := F.2.2.2.2.2.1.2.2.2.2.1.1 i hi
    obtain ⟨b1, b2, b3⟩ := mm_sb_r i hi
    rw [b2, b3] at hT
    have hv := g5 j.toNat (by omega)
    rw [e] at hv
    have ead : mm_adr old ρ ((2, -(11 + 2 * (i : Int))) : mm_V).2 = some (old (-(11 + 2 * (i : Int)))) := by
      show mm_adr old ρ (-(11 + 2 * (i : Int))) = _
      unfold mm_adr
      rw [if_pos (by omega)]
    rw [ead]
    refine va_tb F.1 F.2.1 hT hS (i := Int32.ofInt j) (by have := i32_in h0 h1 hj; rwa [show ((mm_nth 0 i mm_sl : Nat) : Int).toNat = mm_nth 0 i mm_sl from rfl] at this) rfl hd ?_
    rw [i32_cl h0 hj]
    refine kk ρ H locs ls (.int ((mm_nth [] i mm_sb).getD j.toNat 0) :: sv) hρ hH hS hL ⟨⟨?_, ?_⟩, hs2⟩
    · show mm_i32 (h _ j); rw [hv]; exact i32_t _
    · show _ = Value.int (Int32.ofInt (h _ j)); rw [hv, Int32.ofInt_toInt]
theorem st_laload (F : mm_Fr D tys B old L0 scr p s m args meth c nL own cc mn rt) {a j : Int} (hd : decode cc pc = .ok (.laload, 1)) (hk : (w.1 a).1 = 53) (h0 : 0 ≤ j) (h1 : j < (w.1 a).2) (kk : mm_Wc D tys B old L0 scr p l e R s m args below meth c nL ρ0 w0 Q (pc + 1) L ((1, h a j) :: st) w h) : mm_Wc D tys B old L0 scr p l e R s m args below meth c nL ρ0 w0 Q pc L ((0, j) :: (2, a) :: st) w h := by
  intro ρ H locs ls sv hρ hH hS hL hst
  obtain ⟨v, sv, rfl, ⟨hj, rfl⟩, hs1⟩ := mm_SR_cons hst
  obtain ⟨va, sv, rfl, ⟨ha, rfl⟩, hs2⟩ := mm_SR_cons hs1
  have hj : mm_i32 j := hj
  obtain ⟨p1, p2⟩ := mm_pos (a := a) hH (by omega) (by omega) (by omega) (Or.inl (by omega))
  have hent := mm_ws_at (old := old) (tys := tys) (w := w) (h := h) p1 p2
  rw [mm_ent_j hk] at hent
  rw [show mm_adr old ρ ((2, a) : mm_V).2 = _ from mm_adr_at p1 p2]
  have hg := mm_good_j hk (hH.2.1 a p1 p2)
  refine va_lald F.1 F.2.1 F.2.2.2.2.2.1.1 hH.2.2.2.2.1 _ _ hent (F.2.2.2.2.2.1.2.1 53 (by omega)) (i32_in h0 h1 hj) hd ?_
  rw [i32_cl h0 hj]
  have e : ((j.toNat : Nat) : Int) = j := by omega
  rw [e]
  exact kk ρ H locs ls (.long (Int64.ofInt (h a j)) :: sv) hρ hH hS hL ⟨⟨hg.2.2 j, rfl⟩, hs2⟩
theorem st_aaload (F : mm_Fr D tys B old L0 scr p s m args meth c nL own cc mn rt) {a j : Int} (hd : decode cc pc = .ok (.aaload, 1)) (hk : 100 ≤ (w.1 a).1) (h0 : 0 ≤ j) (h1 : j < (w.1 a).2) (kk : mm_Wc D tys B old L0 scr p l e R s m args below meth c nL ρ0 w0 Q (pc + 1) L ((2, h a j) :: st) w h) : mm_Wc D tys B old L0 scr p l e R s m args below meth c nL ρ0 w0 Q pc L ((0, j) :: (2, a) :: st) w h := by
  intro ρ H locs ls sv hρ hH hS hL hst
  obtain ⟨v, sv, rfl, ⟨hj, rfl⟩, hs1⟩ := mm_SR_cons hst
  obtain ⟨va, sv, rfl, ⟨ha, rfl⟩, hs2⟩ := mm_SR_cons hs1
  have hj : mm_i32 j := hj
  obtain ⟨p1, p2⟩ := mm_pos (a := a) hH (by omega) (by omega) (by omega) (Or.inl (by omega))
  have hent := mm_ws_at (old := old) (tys := tys) (w := w) (h := h) p1 p2
  rw [mm_ent_q rfl hk] at hent
  rw [show mm_adr old ρ ((2, a) : mm_V).2 = _ from mm_adr_at p1 p2]
  have hg := mm_good_q rfl hk (hH.2.1 a p1 p2)
  have ht := F.2.2.2.2.2.1.2.1 (w.1 a).1 (by omega)
  have hin := i32_in h0 h1 hj
  have hlt : (Int32.ofInt j).toNatClampNeg < (w.1 a).2.toNat := Nat.not_le.mp fun q => hin (Or.inr q)
  have e : ((j.toNat : Nat) : Int) = j := by omega
  have kk2 := kk ρ H locs ls (va_rf (mm_adr old ρ (h a j)) :: sv) hρ hH hS hL ⟨⟨(hg.2.2.2 j).2, rfl⟩, hs2⟩
  refine W.aald (v := va_rf (mm_adr old ρ (h a j))) (ty := mm_tyk (w.1 a).1) F.1 F.2.1 (hH.2.2.2.2.1 _ _ hent) ((F.2.2.2.2.2.1.1.2 _ _ ht).1 _ (fun q : Nat => va_rf (mm_adr old ρ (h a q)))) ?_ (fun q => by cases q) (by show ¬ (_ ∨ (arrV _ _ _).slots.size ≤ _); rw [arrV_size]; exact hin) ?_ rfl rfl hd kk2
  · rcases hg.1 with q | q | q <;> rw [q] <;> rfl
  · show (arrV _ _ (fun q : Nat => va_rf (mm_adr old ρ (h a q)))).slots[_]? = _
    rw [arrV_read _ _ hlt, i32_cl h0 hj, e]
theorem st_iastore (F : mm_Fr D tys B old L0 scr p s m args meth c nL own cc mn rt) {a j z : Int} (hd : decode cc pc = .ok (.iastore, 1)) (hk : (w.1 a).1 = 50) (h0 : 0 ≤ j) (h1 : j < (w.1 a).2) (hp : 0 < a) (kk : mm_Wc D tys B old L0 scr p l e R s m args below meth c nL ρ0 w0 Q (pc + 1) L st w ((mUp h a j z))) : mm_Wc D tys B old L0 scr p l e R s m args below meth c nL ρ0 w0 Q pc L ((0, z) :: (0, j) :: (2, a) :: st) w h := by
  intro ρ H locs ls sv hρ hH hS hL hst
  obtain ⟨v, sv, rfl, ⟨hz, rfl⟩, hs0⟩ := mm_SR_cons hst
  obtain ⟨v, sv, rfl, ⟨hj, rfl⟩, hs1⟩ := mm_SR_cons hs0
  obtain ⟨va, sv, rfl, ⟨ha, rfl⟩, hs2⟩ := mm_SR_cons hs1
  have hj : mm_i32 j := hj
  have hz : mm_i32 z := hz
  obtain ⟨p1, p2⟩ := mm_pos (a := a) hH (by omega) (by omega) (by omega) (Or.inr hp)
  have hent := mm_ws_at (old := old) (tys := tys) (w := w) (h := h) p1 p2
  rw [mm_ent_i hk (by omega)] at hent
  rw [show mm_adr old ρ ((2, a) : mm_V).2 = _ from mm_adr_at p1 p2]
  have hg := mm_good_i hk (by omega) (hH.2.1 a p1 p2)
  refine va_iast F.1 F.2.1 F.2.2.2.2.2.1.1 hH.2.2.2.2.1 hH.2.2.2.2.2 hS _ _ hent (F.2.2.2.2.2.1.2.1 50 (by omega)) (i32_in h0 h1 hj) hd fun H1 locs1 hP1 hD1 hS1 => ?_
  rw [i32_cl h0 hj, ← mm_upd_i h0] at hP1 hD1
  exact kk ρ H1 locs1 ls sv hρ (mm_HR_put hH p1 (fun b q hb => by simp [mUp, hb]) (Or.inr (Or.inl ⟨Or.inl hk, hg.1, hg.2.1, mm_up_r hz hg.2.2⟩)) (mm_ent_i hk (by omega)).symm hP1 hD1) hS1 hL hs2
theorem mm_S16 {z : Int} (hz : mm_i32 z) : vp_nar .short (Int32.ofInt z) = Int32.ofInt (mS z) ∧ mm_i32 (mS z) := by
  have e : mS z = ((Int32.ofInt z).toInt16.toInt32).toInt := by rw [lg_i2s_toInt, i32_o hz]; rfl
  rw [e, Int32.ofInt_toInt]
  exact ⟨rfl, i32_t _⟩
theorem st_sastore (F : mm_Fr D tys B old L0 scr p s m args meth c nL own cc mn rt) {a j z : Int} (hd : decode cc pc = .ok (.sastore, 1)) (hk : (w.1 a).1 = 51) (h0 : 0 ≤ j) (h1 : j < (w.1 a).2) (kk : mm_Wc D tys B old L0 scr p l e R s m args below meth c nL ρ0 w0 Q (pc + 1) L st w ((mUp h a j (mS z)))) : mm_Wc D tys B old L0 scr p l e R s m args below meth c nL ρ0 w0 Q pc L ((0, z) :: (0, j) :: (2, a) :: st) w h := by
  intro ρ H locs ls sv hρ hH hS hL hst
  obtain ⟨v, sv, rfl, ⟨hz, rfl⟩, hs0⟩ := mm_SR_cons hst
  obtain ⟨v, sv, rfl, ⟨hj, rfl⟩, hs1⟩ := mm_SR_cons hs0
  obtain ⟨va, sv, rfl, ⟨ha, rfl⟩, hs2⟩ := mm_SR_cons hs1
  have hj : mm_i32 j := hj
  have hz : mm_i32 z := hz
  obtain ⟨p1, p2⟩ := mm_pos (a := a) hH (by omega) (by omega) (by omega) (Or.inl (by omega))
  have hent := mm_ws_at (old := old) (tys := tys) (w := w) (h := h) p1 p2
  rw [mm_ent_i hk (by omega)] at hent
  rw [show mm_adr old ρ ((2, a) : mm_V).2 = _ from mm_adr_at p1 p2]
  have hg := mm_good_i hk (by omega) (hH.2.1 a p1 p2)
  refine va_sast F.1 F.2.1 F.2.2.2.2.2.1.1 hH.2.2.2.2.1 hH.2.2.2.2.2 hS _ _ hent (F.2.2.2.2.2.1.2.1 51 (by omega)) (i32_in h0 h1 hj) hd fun H1 locs1 hP1 hD1 hS1 => ?_
  rw [i32_cl h0 hj, (mm_S16 hz).1, ← mm_upd_i h0] at hP1 hD1
  exact kk ρ H1 locs1 ls sv hρ (mm_HR_put hH p1 (fun b q hb => by simp [mUp, hb]) (Or.inr (Or.inl ⟨Or.inr (Or.inl hk), hg.1, hg.2.1, mm_up_r (mm_S16 hz).2 hg.2.2⟩)) (mm_ent_i hk (by omega)).symm hP1 hD1) hS1 hL hs2
theorem st_bastore (F : mm_Fr D tys B old L0 scr p s m args meth c nL own cc mn rt) {a j z : Int} (hd : decode cc pc = .ok (.bastore, 1)) (hz1 : z = 0 ∨ z = 1) (hk : (w.1 a).1 = 52) (h0 : 0 ≤ j) (h1 : j < (w.1 a).2) (kk : mm_Wc D tys B old L0 scr p l e R s m args below meth c nL ρ0 w0 Q (pc + 1) L st w ((mUp h a j z))) : mm_Wc D tys B old L0 scr p l e R s m args below meth c nL ρ0 w0 Q pc L ((0, z) :: (0, j) :: (2, a) :: st) w h := by
  intro ρ H locs ls sv hρ hH hS hL hst
  obtain ⟨v, sv, rfl, ⟨hz, rfl⟩, hs0⟩ := mm_SR_cons hst
  obtain ⟨v, sv, rfl, ⟨hj, rfl⟩, hs1⟩ := mm_SR_cons hs0
  obtain ⟨va, sv, rfl, ⟨ha, rfl⟩, hs2⟩ := mm_SR_cons hs1
  have hj : mm_i32 j := hj
  have hz : mm_i32 z := hz
  obtain ⟨p1, p2⟩ := mm_pos (a := a) hH (by omega) (by omega) (by omega) (Or.inl (by omega))
  have hent := mm_ws_at (old := old) (tys := tys) (w := w) (h := h) p1 p2
  rw [mm_ent_i hk (by omega)] at hent
  rw [show mm_adr old ρ ((2, a) : mm_V).2 = _ from mm_adr_at p1 p2]
  have hg := mm_good_i hk (by omega) (hH.2.1 a p1 p2)
  refine va_zast F.1 F.2.1 F.2.2.2.2.2.1.1 hH.2.2.2.2.1 hH.2.2.2.2.2 hS _ _ hent (F.2.2.2.2.2.1.2.1 52 (by omega)) (i32_in h0 h1 hj) hd fun H1 locs1 hP1 hD1 hS1 => ?_
  have ez : vp_nar .boolean (Int32.ofInt z) = Int32.ofInt z := by rcases hz1 with rfl | rfl <;> rfl
  rw [i32_cl h0 hj, show vp_nar .boolean (Int32.ofInt ((0, z) : mm_V).2) = Int32.ofInt z from ez, ← mm_upd_i h0] at hP1 hD1
  exact kk ρ H1 locs1 ls sv hρ (mm_HR_put hH p1 (fun b q hb => by simp [mUp, hb]) (Or.inr (Or.inl ⟨Or.inr (Or.inr hk), hg.1, hg.2.1, mm_up_r hz hg.2.2⟩)) (mm_ent_i hk (by omega)).symm hP1 hD1) hS1 hL hs2
theorem st_lastore (F : mm_Fr D tys B old L0 scr p s m args meth c nL own cc mn rt) {a j z : Int} (hd : decode cc pc = .ok (.lastore, 1)) (hk : (w.1 a).1 = 53) (h0 : 0 ≤ j) (h1 : j < (w.1 a).2) (kk : mm_Wc D tys B old L0 scr p l e R s m args below meth c nL ρ0 w0 Q (pc + 1) L st w ((mUp h a j z))) : mm_Wc D tys B old L0 scr p l e R s m args below meth c nL ρ0 w0 Q pc L ((1, z) :: (0, j) :: (2, a) :: st) w h := by
  intro ρ H locs ls sv hρ hH hS hL hst
  obtain ⟨v, sv, rfl, ⟨hz, rfl⟩, hs0⟩ := mm_SR_cons hst
  obtain ⟨v, sv, rfl, ⟨hj, rfl⟩, hs1⟩ := mm_SR_cons hs0
  obtain ⟨va, sv, rfl, ⟨ha, rfl⟩, hs2⟩ := mm_SR_cons hs1
  have hj : mm_i32 j := hj
  have hz : mm_i64 z := hz
  obtain ⟨p1, p2⟩ := mm_pos (a := a) hH (by omega) (by omega) (by omega) (Or.inl (by omega))
  have hent := mm_ws_at (old := old) (tys := tys) (w := w) (h := h) p1 p2
  rw [mm_ent_j hk] at hent
  rw [show mm_adr old ρ ((2, a) : mm_V).2 = _ from mm_adr_at p1 p2]
  have hg := mm_good_j hk (hH.2.1 a p1 p2)
  refine va_last F.1 F.2.1 F.2.2.2.2.2.1.1 hH.2.2.2.2.1 hH.2.2.2.2.2 hS _ _ hent (F.2.2.2.2.2.1.2.1 53 (by omega)) (i32_in h0 h1 hj) hd fun H1 locs1 hP1 hD1 hS1 => ?_
  rw [i32_cl h0 hj, ← mm_upd_j h0] at hP1 hD1
  exact kk ρ H1 locs1 ls sv hρ (mm_HR_put hH p1 (fun b q hb => by simp [mUp, hb]) (Or.inr (Or.inr (Or.inl ⟨hk, hg.1, hg.2.1, mm_up_r hz hg.2.2⟩))) (mm_ent_j hk).symm hP1 hD1) hS1 hL hs2
end MM
