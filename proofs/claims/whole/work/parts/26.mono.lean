/-! What is made only grows. -/
theorem mm_itS {α : Type} {c : Prop} [Decidable c] {x y : Option α} {z : α} (h : (if c then x else y) = some z) : x = some z ∨ y = some z := by
  by_cases q : c
  · rw [if_pos q] at h; exact Or.inl h
  · rw [if_neg q] at h; exact Or.inr h
set_option maxHeartbeats 4000000 in
theorem mm_mono {O : mm_O} {lp : mm_L} {lt : Nat → List Nat × List Nat} {hi : Nat} (hO : ∀ x as w h r, O x as w h = some r → mm_le w r.2.1) (hlp : ∀ j L w h y, lp j L w h = some y → mm_le w (mm_yw (mm_up y))) : ∀ (code : List (Nat × Instr)) (sk : Nat) (L st : List mm_V) (w : mm_W) (h : mm_H) (out : mm_Y), mm_go O lp lt hi none (fun r => some (.inl r)) (fun t L st w h => some (.inr (t, L, st, w, h))) code sk L st w h = some out → mm_le w (mm_yw out) := by
  intro code
  induction code with
  | nil => intro sk L st w h out H; rw [mm_go] at H; cases H
  | cons q tl ih =>
    intro sk L st w h out H
    obtain ⟨pc, i⟩ := q
    rw [mm_go.eq_def] at H
    dsimp only at H
    have H0 := mm_ifB H
    clear H
    rcases H0 with ⟨b1, H⟩ | ⟨b1, H⟩
    · exact ih sk L st w h out H
    have H0 := mm_ifB H
    clear H
    rcases H0 with ⟨b2, H⟩ | ⟨b2, H⟩
    · cases H
    have H0 := mm_ifB H
    clear H
    rcases H0 with ⟨b3, H⟩ | ⟨b3, H⟩
    · cases H
      exact mm_le_rf _
    have ih0 : ∀ {L st : List mm_V} {w : mm_W} {h : mm_H}, mm_go O lp lt hi none (fun r => some (.inl r)) (fun t L st w h => some (.inr (t, L, st, w, h))) tl 0 L st w h = some out → mm_le w (mm_yw out) := fun H => ih 0 _ _ _ _ out H
    have jmp : ∀ {t : Nat} {L st : List mm_V} {w : mm_W} {h : mm_H}, mm_if (Nat.blt pc t && Nat.blt t hi) (mm_go O lp lt hi none (fun r => some (.inl r)) (fun t L st w h => some (.inr (t, L, st, w, h))) tl t L st w h) (some (.inr (t, L, st, w, h))) = some out → mm_le w (mm_yw out) := by
      intro t L st w h H
      rcases mm_ifB H with ⟨b, H⟩ | ⟨b, H⟩
      · exact ih t L st w h out H
      · cases H
        exact mm_le_rf _
    clear ih b1 b2 b3 sk
    split at H
    · exact ih0 H
    · exact ih0 H
    · exact ih0 H
    · split at H
      · exact ih0 H
      · cases H
    · split at H
      · exact ih0 H
      · cases H
    · split at H
      · exact ih0 H
      · exact ih0 H
      · cases H
    · exact ih0 H
    · exact ih0 H
    · exact ih0 H
    · split at H
      · exact ih0 H
      · cases H
    · exact ih0 H
    · exact ih0 H
    · exact ih0 H
    · obtain ⟨hn, H⟩ := mm_itF H
      exact ih0 H
    · obtain ⟨hn, H⟩ := mm_itF H
      exact ih0 H
    · exact ih0 H
    · exact ih0 H
    · exact ih0 H
    · exact ih0 H
    · exact ih0 H
    · exact ih0 H
    · exact ih0 H
    · exact ih0 H
    · exact ih0 H
    · exact ih0 H
    · exact ih0 H
    · exact ih0 H
    · exact ih0 H
    · exact ih0 H
    · exact ih0 H
    · exact ih0 H
    · exact ih0 H
    · obtain ⟨hs, H⟩ := mm_ifT H rfl
      exact ih0 H
    · obtain ⟨hs, H⟩ := mm_ifT H rfl
      exact ih0 H
    · obtain ⟨hs, H⟩ := mm_ifT H rfl
      obtain ⟨hk, H⟩ := mm_itT H
      exact ih0 H
    · exact ih0 H
    · exact ih0 H
    · exact ih0 H
    · exact ih0 H
    · exact ih0 H
    · exact ih0 H
    · exact ih0 H
    · exact jmp H
    · split at H
      · rcases mm_itS H with H | H
        · exact jmp H
        · exact ih0 H
      · rcases mm_itS H with H | H
        · exact jmp H
        · exact ih0 H
      · rcases mm_itS H with H | H
        · exact jmp H
        · exact ih0 H
      · rcases mm_itS H with H | H
        · exact jmp H
        · exact ih0 H
      · rcases mm_itS H with H | H
        · exact jmp H
        · exact ih0 H
      · rcases mm_itS H with H | H
        · exact ih0 H
        · exact jmp H
    · split at H
      · rcases mm_itS H with H | H
        · exact jmp H
        · exact ih0 H
      · rcases mm_itS H with H | H
        · exact jmp H
        · exact ih0 H
      · rcases mm_itS H with H | H
        · exact jmp H
        · exact ih0 H
      · rcases mm_itS H with H | H
        · exact jmp H
        · exact ih0 H
      · rcases mm_itS H with H | H
        · exact jmp H
        · exact ih0 H
      · rcases mm_itS H with H | H
        · exact ih0 H
        · exact jmp H
    · rcases mm_itS H with H | H
      · exact jmp H
      · exact ih0 H
    · rcases mm_itS H with H | H
      · exact ih0 H
      · exact jmp H
    · rename_i d ps x st1
      have H2 := (mm_sw_id x d (fun t : Int => mm_if (Nat.blt pc t.toNat && Nat.blt t.toNat hi) (mm_go (α := Option mm_Y) O lp lt hi none (fun r => some (.inl r)) (fun t L st w h => some (.inr (t, L, st, w, h))) tl t.toNat L st1 w h) (some (.inr (t.toNat, L, st1, w, h)))) ps.toList).symm.trans H
      exact jmp H2
    · obtain ⟨hk, H⟩ := mm_itT H
      exact ih0 H
    · obtain ⟨hb, H⟩ := mm_ifT H rfl
      obtain ⟨hk, H⟩ := mm_itT H
      rcases mm_ifB H with ⟨q, H⟩ | ⟨q, H⟩
      · obtain ⟨h0, H⟩ := mm_itT H
        exact ih0 H
      · exact ih0 H
    · obtain ⟨hz, H⟩ := mm_itT H
      obtain ⟨hk, H⟩ := mm_itT H
      exact ih0 H
    · obtain ⟨hk, H⟩ := mm_itT H
      exact ih0 H
    · obtain ⟨hk, H⟩ := mm_itT H
      exact ih0 H
    · obtain ⟨hk, H⟩ := mm_itT H
      exact ih0 H
    · obtain ⟨hk, H⟩ := mm_itT H
      exact ih0 H
    · obtain ⟨hk, H⟩ := mm_itT H
      exact ih0 H
    · obtain ⟨hk, H⟩ := mm_itT H
      exact ih0 H
    · obtain ⟨hk, H⟩ := mm_itT H
      exact ih0 H
    · obtain ⟨hz, H⟩ := mm_itT H
      obtain ⟨hk, H⟩ := mm_itT H
      exact ih0 H
    · obtain ⟨hk, H⟩ := mm_itT H
      exact ih0 H
    · obtain ⟨hk, H⟩ := mm_itT H
      exact ih0 H
    · obtain ⟨hk, H⟩ := mm_itT H
      exact ih0 H
    · exact mm_le_tr (mm_le_new (Int.natCast_nonneg _)) (ih0 H)
    · obtain ⟨⟨h0, h1⟩, H⟩ := mm_itT H
      exact mm_le_tr (mm_le_new h0) (ih0 H)
    · obtain ⟨hq, H⟩ := mm_itT H
      exact ih0 H
    · split at H
      · cases H
      · obtain ⟨hs, H⟩ := mm_ifT H rfl
        obtain ⟨r, hr, ht, H⟩ := mm_C_some H
        rcases mm_ifB H with ⟨q, H⟩ | ⟨q, H⟩
        · exact mm_le_tr (hO _ _ _ _ _ hr) (ih0 H)
        · exact mm_le_tr (hO _ _ _ _ _ hr) (ih0 H)
    · split at H
      · obtain ⟨hs, H⟩ := mm_ifT H rfl
        obtain ⟨hk, H⟩ := mm_itT H
        obtain ⟨r, hr, ht, H⟩ := mm_C_some H
        rcases mm_ifB H with ⟨q, H⟩ | ⟨q, H⟩
        · exact mm_le_tr (hO _ _ _ _ _ hr) (ih0 H)
        · exact mm_le_tr (hO _ _ _ _ _ hr) (ih0 H)
      · cases H
    · cases H
      exact mm_le_rf _
    · obtain ⟨hz, H⟩ := mm_itT H
      cases H
      exact mm_le_rf _
    · obtain ⟨hz, H⟩ := mm_itT H
      cases H
      exact mm_le_rf _
    · obtain ⟨hz, H⟩ := mm_itT H
      cases H
      exact mm_le_rf _
    · cases H
      exact mm_le_rf _
    · cases H
      exact mm_le_rf _
    · cases H
      exact mm_le_rf _
    · obtain ⟨hk, H⟩ := mm_ifT H rfl
      rcases mm_K_some H with ⟨r, hr, H⟩ | ⟨t, L2, w2, h2, hr, H⟩
      · cases H
        exact hlp _ _ _ _ _ hr
      · exact mm_le_tr (hlp _ _ _ _ _ hr) (jmp (mm_ex_some H))
    · cases H
theorem mm_mono_lp {O : mm_O} {lt : List mm_T} {code : List (Nat × Instr)} (hO : ∀ x as w h r, O x as w h = some r → mm_le w r.2.1) : ∀ d j L w h y, mm_LP O lt code d j L w h = some y → mm_le w (mm_yw (mm_up y)) := by
  intro d
  induction d with
  | zero => intro j L w h y H; cases H
  | succ d ihd =>
    intro j L w h y H0
    have H1 := mm_lim_some H0
    clear H0
    obtain ⟨n, H⟩ := H1
    induction n generalizing L w h with
    | zero => cases H
    | succ n ihn =>
      rw [mm_it] at H
      have key : ∃ out, mm_go (α := Option mm_Y) O (mm_LP O lt code d) (mm_lt2 lt) (mm_row lt j).2.1 none (fun r => some (.inl r)) (fun t L st w h => some (.inr (t, L, st, w, h))) (mm_from j code) 0 L [] w h = some out := by
        generalize mm_go (α := Option mm_Y) O (mm_LP O lt code d) (mm_lt2 lt) (mm_row lt j).2.1 none (fun r => some (.inl r)) (fun t L st w h => some (.inr (t, L, st, w, h))) (mm_from j code) 0 L [] w h = z at H
        cases z with
        | none => cases H
        | some out => exact ⟨out, rfl⟩
      obtain ⟨out, ho⟩ := key
      rw [ho] at H
      have g := mm_mono hO ihd (mm_from j code) 0 L [] w h out ho
      cases out with
      | inl r =>
        cases H
        exact g
      | inr x =>
        obtain ⟨t, L2, st2, w2, h2⟩ := x
        cases st2 with
        | cons _ _ => cases H
        | nil =>
          obtain ⟨hk, H⟩ := mm_ifT H rfl
          rcases mm_ifB H with ⟨b, H⟩ | ⟨b, H⟩
          · exact mm_le_tr g (ihn _ _ _ H)
          · cases H
            exact g
/-- a run, as a region -/
theorem mm_run_go {O : mm_O} {q : mm_M} {as : List mm_V} {w : mm_W} {h : mm_H} {r : mm_R} (H : mm_run O q as w h = some r) : mm_len (mm_loc as) ≤ q.2.1 ∧ mm_go (α := Option mm_Y) O (mm_LP O q.2.2 q.1 6) (mm_lt2 q.2.2) 1000000 none (fun r => some (.inl r)) (fun t L st w h => some (.inr (t, L, st, w, h))) q.1 0 (mm_pad q.2.1 (mm_loc as)) [] w h = some (.inl r) := by
  obtain ⟨h1, H⟩ := mm_ifT H rfl
  refine ⟨Nat.le_of_ble_eq_true h1, ?_⟩
  rw [← mm_bind_go] at H
  generalize mm_go (α := Option mm_Y) O (mm_LP O q.2.2 q.1 6) (mm_lt2 q.2.2) 1000000 none (fun r => some (.inl r)) (fun t L st w h => some (.inr (t, L, st, w, h))) q.1 0 (mm_pad q.2.1 (mm_loc as)) [] w h = z at H ⊢
  cases z with
  | none => cases H
  | some y =>
    cases y with
    | inl x => cases H; rfl
    | inr x => cases H
theorem mm_run_le {O : mm_O} {q : mm_M} {as : List mm_V} {w : mm_W} {h : mm_H} {r : mm_R} (hO : ∀ x as w h r, O x as w h = some r → mm_le w r.2.1) (H : mm_run O q as w h = some r) : mm_le w r.2.1 :=
  mm_mono hO (mm_mono_lp hO 6) q.1 0 _ [] w h _ (mm_run_go H).2

