/-- what is known of a field's entry of a class's pool -/
def mm_fOK (own : String) (i ci k : Nat) : Prop := ∃ (C : String) (T : u_T) (N : Nat) (ty : Nat → FieldType), mm_cls[ci]? = some (C, T, N) ∧ N = mm_nf (ci + 1) ∧ k < N ∧ (∀ w ∈ u_ws C T N, w ∈ lw_g) ∧ (∀ j, j < N → parseFieldDescriptor (T j).2.2.1 = some (ty j)) ∧ (∀ a, a < N → ∀ b, b < N → a ≠ b → (T a).2.1 ≠ (T b).2.1) ∧ Jvm.Cond.fieldLink own i C (T k).2.1 (T k).2.2.1 ∈ lw_g ∧ (T k).1 = C ∧
  ((mm_ft (ci + 1) k = 0 ∧ (ty k = .int ∨ ty k = .boolean)) ∨ (mm_ft (ci + 1) k = 1 ∧ ty k = .long) ∨ (mm_ft (ci + 1) k = 2 ∧ ((∃ n, ty k = .object n) ∨ ∃ n, ty k = .array n)))
theorem mm_ft_le {own : String} {i ci k : Nat} (hf : mm_fOK own i ci k) : mm_ft (ci + 1) k = 0 ∨ mm_ft (ci + 1) k = 1 ∨ mm_ft (ci + 1) k = 2 := by
  obtain ⟨_, _, _, _, -, -, -, -, -, -, -, -, h | h | h⟩ := hf
  · exact Or.inl h.1
  · exact Or.inr (Or.inl h.1)
  · exact Or.inr (Or.inr h.1)
theorem mm_cls_lt {ci : Nat} {x : vw_C} (h : mm_cls[ci]? = some x) : ci < 13 := by
  have := (List.getElem?_eq_some_iff.mp h).1
  exact this
theorem mm_neg_kind {L0 : Nat} {scr : Nat → Int32} {w : mm_W} {h : mm_H} {a : Int} (hn : mm_neg L0 scr w h) (ha : a ≤ 0) : (w.1 a).1 = 0 ∨ (a = -1 ∧ (w.1 a).1 = 50) ∨ (w.1 a).1 = 14 ∨ (w.1 a).1 = 54 := by
  obtain ⟨h1, -, -, h2, h3⟩ := hn
  by_cases e : a = -1
  · subst e; rw [h1]; exact Or.inr (Or.inl ⟨rfl, rfl⟩)
  · by_cases q : ∀ i : Nat, i < 12 → a ≠ -(10 + 2 * (i : Int)) ∧ a ≠ -(11 + 2 * (i : Int))
    · exact Or.inl (h3 a ha e q)
    · simp only [Classical.not_forall] at q
      obtain ⟨i, hi, q⟩ := q
      obtain ⟨g1, -, -, g2, -⟩ := h2 i hi
      by_cases e2 : a = -(10 + 2 * (i : Int))
      · subst e2; rw [g1]; exact Or.inr (Or.inr (Or.inl rfl))
      · have e3 : a = -(11 + 2 * (i : Int)) := Classical.byContradiction fun z => q ⟨e2, z⟩
        subst e3; rw [g2]; exact Or.inr (Or.inr (Or.inr rfl))
theorem mm_pos {D : va_G} {tys : List (ClassId × FieldType)} {B : Nat} {old : Int → Nat} {L0 : Nat} {scr : Nat → Int32} {ρ : List Nat} {w : mm_W} {h : mm_H} {H : Heap} {a : Int} (hH : mm_HR D tys B old L0 scr ρ w h H) (h0 : (w.1 a).1 ≠ 0) (h14 : (w.1 a).1 ≠ 14) (h54 : (w.1 a).1 ≠ 54) (h50 : (w.1 a).1 ≠ 50 ∨ 0 < a) : 1 ≤ a ∧ a ≤ ρ.length := by
  obtain ⟨-, -, hz, hn, -⟩ := hH
  have h1 : 0 < a := by
    rcases h50 with h50 | h50
    · rcases Int.lt_or_le 0 a with q | q
      · exact q
      · rcases mm_neg_kind hn q with g | ⟨-, g⟩ | g | g
        · exact absurd g h0
        · exact absurd g h50
        · exact absurd g h14
        · exact absurd g h54
    · exact h50
  refine ⟨h1, ?_⟩
  rcases Int.lt_or_le ρ.length a with q | q
  · exact absurd (hz a q) h0
  · exact q
theorem mm_adr_at {old : Int → Nat} {ρ : List Nat} {a : Int} (h1 : 1 ≤ a) (h2 : a ≤ ρ.length) : mm_adr old ρ a = some (ρ.getD (a.toNat - 1) 0) := by
  unfold mm_adr
  rw [if_neg (by omega), if_neg (by omega), List.getD_eq_getElem?_getD, List.getElem?_eq_getElem (by omega)]
  rfl
theorem mm_ws_at {old : Int → Nat} {tys : List (ClassId × FieldType)} {ρ : List Nat} {w : mm_W} {h : mm_H} {a : Int} (h1 : 1 ≤ a) (h2 : a ≤ ρ.length) : (mm_ws old tys ρ w h)[a.toNat - 1]? = some (ρ.getD (a.toNat - 1) 0, mm_ent old tys ρ w h a) := by
  rw [mm_ws_get (by omega)]
  congr 3
  omega
theorem mm_ws_put {old : Int → Nat} {tys : List (ClassId × FieldType)} {ρ : List Nat} {w : mm_W} {h h2 : mm_H} {a : Int} (h1 : 1 ≤ a) (hh : ∀ b j, b ≠ a → h2 b j = h b j) : (mm_ws old tys ρ w h).set (a.toNat - 1) (ρ.getD (a.toNat - 1) 0, mm_ent old tys ρ w h2 a) = mm_ws old tys ρ w h2 := by
  have e : a = ((a.toNat - 1 : Nat) : Int) + 1 := by omega
  have := mm_ws_set (old := old) (tys := tys) (ρ := ρ) (w := w) (h := h) (h2 := h2) (i := a.toNat - 1) (fun b j hb => hh b j (by omega))
  rw [← e] at this
  exact this
theorem mm_neg_up {L0 : Nat} {scr : Nat → Int32} {w w2 : mm_W} {h h2 : mm_H} (hn : mm_neg L0 scr w h) (hw : ∀ a : Int, a ≤ 0 → w2.1 a = w.1 a) (hh : ∀ a j : Int, a ≤ 0 → h2 a j = h a j) : mm_neg L0 scr w2 h2 := by
  obtain ⟨h1, h1b, h1c, h2', h3⟩ := hn
  refine ⟨by rw [hw _ (by omega)]; exact h1, h1b, fun j hj => by rw [hh _ _ (by omega)]; exact h1c j hj, fun i hi => ?_, fun a ha hb hc => by rw [hw _ ha]; exact h3 a ha hb hc⟩
  obtain ⟨g1, g2, g3, g4, g5⟩ := h2' i hi
  refine ⟨by rw [hw _ (by omega)]; exact g1, by rw [hh _ _ (by omega)]; exact g2, by rw [hh _ _ (by omega)]; exact g3, by rw [hw _ (by omega)]; exact g4, fun j hj => by rw [hh _ _ (by omega)]; exact g5 j hj⟩
theorem mm_HR_put {D : va_G} {tys : List (ClassId × FieldType)} {B : Nat} {old : Int → Nat} {L0 : Nat} {scr : Nat → Int32} {ρ : List Nat} {w : mm_W} {h h2 : mm_H} {H H1 : Heap} {a : Int} {en : va_E} (hH : mm_HR D tys B old L0 scr ρ w h H) (h1 : 1 ≤ a) (hh : ∀ b j, b ≠ a → h2 b j = h b j) (hg : mm_good ρ.length w h2 a) (he : en = mm_ent old tys ρ w h2 a) (hP : va_P D mm_cls ((mm_ws old tys ρ w h).set (a.toNat - 1) (ρ.getD (a.toNat - 1) 0, en)) H1) (hD : va_D (mm_A B) ((mm_ws old tys ρ w h).set (a.toNat - 1) (ρ.getD (a.toNat - 1) 0, en))) : mm_HR D tys B old L0 scr ρ w h2 H1 := by
  obtain ⟨g1, g2, g3, g4, -, -⟩ := hH
  subst he
  rw [mm_ws_put h1 hh] at hP hD
  refine ⟨g1, fun b hb1 hb2 => ?_, g3, mm_neg_up g4 (fun _ _ => rfl) (fun b j hb => hh b j (by omega)), hP, hD⟩
  by_cases e : b = a
  · subst e; exact hg
  · exact mm_good_up (Nat.le_refl _) rfl (fun j => hh b j e) (g2 b hb1 hb2)
theorem mm_ent_obj {old : Int → Nat} {tys : List (ClassId × FieldType)} {ρ : List Nat} {w : mm_W} {h : mm_H} {a : Int} {ci : Nat} (hc : ci < 13) (hk : (w.1 a).1 = ci + 1) : mm_ent old tys ρ w h a = .inr (ci, (List.range (mm_nf (ci + 1))).map (fun i => mm_val old ρ (mm_ft (ci + 1) i) (h a i))) := by
  unfold mm_ent
  rw [hk, if_pos (by omega)]
  rfl
theorem mm_good_obj {n : Nat} {w : mm_W} {h : mm_H} {a : Int} {ci : Nat} (hc : ci < 13) (hk : (w.1 a).1 = ci + 1) (hg : mm_good n w h a) : ∀ i : Nat, i < mm_nf (ci + 1) → match mm_ft (ci + 1) i with
    | 0 => mm_i32 (h a i)
    | 1 => mm_i64 (h a i)
    | _ => 0 ≤ h a i ∧ h a i ≤ n := by
  rcases hg with ⟨-, -, h3⟩ | ⟨h1, -⟩ | ⟨h1, -⟩ | ⟨h1, -⟩
  · rw [hk] at h3; exact h3
  · omega
  · omega
  · omega
theorem mm_fs_set {old : Int → Nat} {ρ : List Nat} {h : mm_H} {a : Int} (f : Nat → Nat) (N k : Nat) (z : Int) : ((List.range N).map (fun i => mm_val old ρ (f i) (h a i))).set k (mm_val old ρ (f k) z) = (List.range N).map (fun i => mm_val old ρ (f i) (mUp h a k z a i)) := by
  apply List.ext_getElem?
  intro j
  by_cases hj : j < N
  · by_cases e : j = k
    · subst e
      rw [List.getElem?_set_self (by simp [hj])]
      simp [hj, mUp]
    · rw [List.getElem?_set_ne (Ne.symm e)]
      have : ¬ (j : Int) = (k : Int) := by omega
      simp [hj, mUp, this]
  · rw [List.getElem?_eq_none (by simp; omega), List.getElem?_eq_none (by simp; omega)]
section MM
variable {D : va_G} {tys : List (ClassId × FieldType)} {B : Nat} {old : Int → Nat} {L0 : Nat} {scr : Nat → Int32}
variable {p : Program} {l : Launch} {e : Env} {R : Room} {s : State} {m : MethodId} {args : Array Value} {below : List Frame} {meth : Method} {c : Code} {nL : Nat} {ρ0 : List Nat} {w0 : mm_W} {Q : State → Prop}
variable {own : String} {cc : ByteArray} {mn : String} {rt : Option FieldType} {pc : Nat} {L st : List mm_V} {w : mm_W} {h : mm_H} {nx : Nat} {tx : String}

theorem st_getfield (F : mm_Fr D tys B old L0 scr p s m args meth c nL own cc mn rt) {a : Int} {i ci k : Nat} (hf : mm_fOK own i ci k) (hd : decode cc pc = .ok (.getfield i, 3)) (hk : (w.1 a).1 = ci + 1) (kk : mm_Wc D tys B old L0 scr p l e R s m args below meth c nL ρ0 w0 Q (pc + 3) L ((mm_ft (ci + 1) k, h a k) :: st) w h) : mm_Wc D tys B old L0 scr p l e R s m args below meth c nL ρ0 w0 Q pc L ((2, a) :: st) w h := by
  intro ρ H locs ls sv hρ hH hS hL hst
  obtain ⟨v, sv, rfl, ⟨ha, rfl⟩, hs2⟩ := mm_SR_cons hst
  have hfle := mm_ft_le hf
  obtain ⟨C, T, N, ty, h1, hN, hkN, h2, h3, h4, h5, h6, -⟩ := hf
  have hci := mm_cls_lt h1
  obtain ⟨p1, p2⟩ := mm_pos (a := a) hH (by omega) (by omega) (by omega) (Or.inl (by omega))
  have hent := mm_ws_at (old := old) (tys := tys) (w := w) (h := h) p1 p2
  rw [mm_ent_obj hci hk] at hent
  rw [show mm_adr old ρ ((2, a) : mm_V).2 = _ from mm_adr_at p1 p2]
  have hg := mm_good_obj hci hk (hH.2.1 a p1 p2) k (by omega)
  refine va_get F.1 F.2.1 F.2.2.2.2.1 h2 F.2.2.2.1 F.2.2.2.2.2.1.1 hH.2.2.2.2.1 _ hent h1 k hkN (F.2.2.2.2.1 _ h5) (fun x hx => by rw [h6] at hx; exact hx) (v := mm_val old ρ (mm_ft (ci + 1) k) (h a k)) ?_ hd (kk ρ H locs ls _ hρ hH hS hL ⟨?_, hs2⟩)
  · rw [List.getElem?_map, List.getElem?_range (by omega)]
    rfl
  · rcases hfle with q | q | q
    · rw [q] at hg ⊢; exact ⟨hg, rfl⟩
    · rw [q] at hg ⊢; exact ⟨hg, rfl⟩
    · rw [q] at hg ⊢; exact ⟨hg.2, rfl⟩
/-- what a field may be given -/
def mm_fits (ty : FieldType) (v : Value) : Prop := narrow ty v = v ∧ fits ty v = true
theorem st_putg (F : mm_Fr D tys B old L0 scr p s m args meth c nL own cc mn rt) {a z : Int} {i ci k : Nat} (hf : mm_fOK own i ci k) (hfin : ∀ C T N, mm_cls[ci]? = some (C, T, N) → (T k).2.2.2 = false ∨ ((T k).2.2.2 = true ∧ mn = "<init>" ∧ (T k).1 = own)) (hd : decode cc pc = .ok (.putfield i, 3)) (hk : (w.1 a).1 = ci + 1) {t : Nat} (ht : mm_ft (ci + 1) k = t) (hty : ∀ C T N ty, mm_cls[ci]? = some (C, T, N) → parseFieldDescriptor (T k).2.2.1 = some ty → ∀ (ρ : List Nat) (v : Value), mm_VR old ρ (t, z) v → mm_fits ty v) (ht2 : t ≤ 2) (hz0 : t = 2 → 0 ≤ z) (kk : mm_Wc D tys B old L0 scr p l e R s m args below meth c nL ρ0 w0 Q (pc + 3) L st w ((mUp h a k z))) : mm_Wc D tys B old L0 scr p l e R s m args below meth c nL ρ0 w0 Q pc L ((t, z) :: (2, a) :: st) w h := by
  intro ρ H locs ls sv hρ hH hS hL hst
  obtain ⟨v, sv, rfl, hv, hs1⟩ := mm_SR_cons hst
  obtain ⟨va, sv, rfl, ⟨ha, rfl⟩, hs2⟩ := mm_SR_cons hs1
  obtain ⟨C, T, N, ty, h1, hN, hkN, h2, h3, h4, h5, h6, -⟩ := hf
  have hci := mm_cls_lt h1
  obtain ⟨p1, p2⟩ := mm_pos (a := a) hH (by omega) (by omega) (by omega) (Or.inl (by omega))
  have hent := mm_ws_at (old := old) (tys := tys) (w := w) (h := h) p1 p2
  rw [mm_ent_obj hci hk] at hent
  rw [show mm_adr old ρ ((2, a) : mm_V).2 = _ from mm_adr_at p1 p2]
  have hg := hH.2.1 a p1 p2
  obtain ⟨hn, hfit⟩ := hty C T N (ty k) h1 (h3 k hkN) ρ v hv
  have hval : v = mm_val old ρ (mm_ft (ci + 1) k) z := by
    rw [ht]
    unfold mm_VR at hv
    rcases (show t = 0 ∨ t = 1 ∨ t = 2 by omega) with rfl | rfl | rfl
    · exact hv.2
    · exact hv.2
    · exact hv.2
  have hgood : mm_good ρ.length w (mUp h a k z) a := by
    have hgo := mm_good_obj hci hk hg
    refine Or.inl ⟨by omega, by omega, fun j hj => ?_⟩
    rw [hk] at hj ⊢
    have hj2 := hgo j hj
    by_cases e : j = k
    · subst e
      rw [ht]
      have e2 : mUp h a j z a j = z := by simp [mUp]
      rw [e2]
      unfold mm_VR at hv
      rcases (show t = 0 ∨ t = 1 ∨ t = 2 by omega) with rfl | rfl | rfl
      · exact hv.1
      · exact hv.1
      · exact ⟨hz0 rfl, hv.1⟩
    · have e2 : mUp h a k z a j = h a j := by
        have : ¬ (j : Int) = (k : Int) := by omega
        simp [mUp, this]
      rw [e2]
      exact hj2
  have hfs := mm_fs_set (old := old) (ρ := ρ) (h := h) (a := a) (mm_ft (ci + 1)) (mm_nf (ci + 1)) k z
  rw [← hval] at hfs
  have hent2 : (.inr (ci, ((List.range (mm_nf (ci + 1))).map (fun i => mm_val old ρ (mm_ft (ci + 1) i) (h a i))).set k v) : va_E) = mm_ent old tys ρ w (mUp h a k z) a := by
    rw [mm_ent_obj hci hk, hfs]
  have fin : ∀ (H1 : Heap) (locs1 : List Loc), va_P D mm_cls ((mm_ws old tys ρ w h).set (a.toNat - 1) (ρ.getD (a.toNat - 1) 0, .inr (ci, ((List.range (mm_nf (ci + 1))).map (fun i => mm_val old ρ (mm_ft (ci + 1) i) (h a i))).set k v))) H1 → va_D (mm_A B) ((mm_ws old tys ρ w h).set (a.toNat - 1) (ρ.getD (a.toNat - 1) 0, .inr (ci, ((List.range (mm_nf (ci + 1))).map (fun i => mm_val old ρ (mm_ft (ci + 1) i) (h a i))).set k v))) → va_S (mm_A B) s.heap H1 locs1 → W p l e R s m args below meth c H1 locs1 (w.2.1 - w0.2.1).toNat (w.2.2 - w0.2.2).toNat Q (F0 m (pc + 3) ls sv) := by
    intro H1 locs1 hP1 hD1 hS1
    exact kk ρ H1 locs1 ls sv hρ (mm_HR_put hH p1 (fun b j hb => by simp [mUp, hb]) hgood hent2 hP1 hD1) hS1 hL hs2
  rcases hfin C T N h1 with q | ⟨q1, q2, q3⟩
  · exact va_put F.1 F.2.1 F.2.2.2.2.1 h2 ty h3 h4 F.2.2.2.1 F.2.2.2.2.2.1.1 hH.2.2.2.2.1 hH.2.2.2.2.2 hS _ hent h1 k hkN (F.2.2.2.2.1 _ h5) (fun x hx => by rw [h6] at hx; exact hx) q (h3 k hkN) hn hfit (by simp; omega) hd fin
  · exact va_putF F.1 F.2.1 F.2.2.2.2.1 h2 ty h3 h4 F.2.2.2.1 F.2.2.2.2.2.1.1 hH.2.2.2.2.1 hH.2.2.2.2.2 hS _ hent h1 k hkN (F.2.2.2.2.1 _ h5) (fun x hx => by rw [h6] at hx; exact hx) q1 (by rw [F.2.2.2.2.2.2.1]; exact q2) q3 (h3 k hkN) hn hfit (by simp; omega) hd fin
end MM
