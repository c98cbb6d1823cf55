/-! Loops by a limit, the mini program by depth. -/
/-- the limit of a growing row -/
noncomputable def mm_lim {β : Type} (f : Nat → Option β) : Option β := @dite _ (∃ n, (f n).isSome = true) (Classical.propDecidable _) (fun h => f (Classical.choose h)) (fun _ => none)
theorem mm_lim_eq {β : Type} {f : Nat → Option β} (hm : ∀ n x, f n = some x → f (n + 1) = some x) {n : Nat} {x : β} (h : f n = some x) : mm_lim f = some x := by
  have up : ∀ k n x, f n = some x → f (n + k) = some x := by
    intro k
    induction k with
    | zero => intro n x h; exact h
    | succ k ih => intro n x h; exact hm _ _ (ih n x h)
  have hex : ∃ n, (f n).isSome = true := ⟨n, by rw [h]; rfl⟩
  unfold mm_lim
  rw [dif_pos hex]
  have hc := Classical.choose_spec hex
  generalize Classical.choose hex = q at hc ⊢
  cases hq : f q with
  | none => rw [hq] at hc; cases hc
  | some y =>
    have h1 := up q n x h
    have h2 := up n q y hq
    rw [Nat.add_comm] at h2
    rw [h1] at h2
    exact h2.symm
theorem mm_lim_some {β : Type} {f : Nat → Option β} {x : β} (h : mm_lim f = some x) : ∃ n, f n = some x := by
  unfold mm_lim at h
  by_cases hex : ∃ n, (f n).isSome = true
  · rw [dif_pos hex] at h
    exact ⟨_, h⟩
  · rw [dif_neg hex] at h
    cases h
theorem mm_lim_succ {β : Type} {f g : Nat → Option β} (hm : ∀ n x, f n = some x → f (n + 1) = some x) (h0 : f 0 = none) (hs : ∀ n, f (n + 1) = g n) : mm_lim f = mm_lim g := by
  have hg : ∀ n x, g n = some x → g (n + 1) = some x := fun n x h => by rw [← hs] at h ⊢; exact hm _ _ h
  cases hf : mm_lim f with
  | some x =>
    obtain ⟨n, hn⟩ := mm_lim_some hf
    cases n with
    | zero => rw [h0] at hn; cases hn
    | succ n => rw [hs] at hn; exact (mm_lim_eq hg hn).symm
  | none =>
    cases hq : mm_lim g with
    | none => rfl
    | some x =>
      obtain ⟨n, hn⟩ := mm_lim_some hq
      rw [← hs] at hn
      rw [mm_lim_eq hm hn] at hf
      cases hf
theorem mm_lim_const {β : Type} (x : Option β) : mm_lim (fun _ => x) = x := by
  cases x with
  | some y => exact mm_lim_eq (f := fun _ => some y) (fun _ _ h => h) (n := 0) rfl
  | none =>
    cases h : mm_lim (fun _ => (none : Option β)) with
    | none => rfl
    | some y => obtain ⟨n, hn⟩ := mm_lim_some h; cases hn
abbrev mm_Y : Type := mm_R ⊕ (Nat × List mm_V × List mm_V × mm_W × mm_H)
/-- what a region leaves behind goes on in α -/
def mm_bind {α : Type} (bot : α) (ρ : mm_R → α) (kj : Nat → List mm_V → List mm_V → mm_W → mm_H → α) (r : Option mm_Y) : α := match r with
  | none => bot
  | some (.inl r) => ρ r
  | some (.inr x) => kj x.1 x.2.1 x.2.2.1 x.2.2.2.1 x.2.2.2.2
def mm_it (body : List mm_V → mm_W → mm_H → Option mm_Y) (hd : Nat) (tags : List Nat) : Nat → List mm_V → mm_W → mm_H → Option (mm_R ⊕ mm_X)
  | 0, _, _, _ => none
  | n + 1, L, w, h => mm_bind none (fun r => some (.inl r)) (fun t L st w h => match st with
    | [] => mm_if (mm_okt tags 0 L) (mm_if (Nat.beq t hd) (mm_it body hd tags n (mm_nrm tags 0 L) w h) (some (.inr (t, mm_nrm tags 0 L, w, h)))) none
    | _ => none) (body L w h)
def mm_from (j : Nat) : List (Nat × Instr) → List (Nat × Instr)
  | [] => []
  | (pc, i) :: tl => match i with
    | .jsr_w k => mm_if (Nat.beq k.toNat j) tl (mm_from j tl)
    | _ => mm_from j tl
def mm_nth {α : Type} (d : α) : Nat → List α → α
  | _, [] => d
  | 0, x :: _ => x
  | n + 1, _ :: l => mm_nth d n l
/-- the loop's row: its head, its end, its tags, its exits -/
def mm_row (lt : List mm_T) (j : Nat) : mm_T := mm_nth (0, 0, [], []) j lt
def mm_lt2 (lt : List mm_T) (j : Nat) : List Nat × List Nat := ((mm_row lt j).2.2.1, (mm_row lt j).2.2.2)
noncomputable def mm_LP (O : mm_O) (lt : List mm_T) (code : List (Nat × Instr)) : Nat → mm_L
  | 0 => fun _ _ _ _ => none
  | d + 1 => fun j L w h => mm_lim (fun n => mm_it (fun L w h => mm_go (α := Option mm_Y) O (mm_LP O lt code d) (mm_lt2 lt) (mm_row lt j).2.1 none (fun r => some (.inl r)) (fun t L st w h => some (.inr (t, L, st, w, h))) (mm_from j code) 0 L [] w h) (mm_row lt j).1 (mm_row lt j).2.2.1 n L w h)
theorem mm_bind_K {α : Type} (bot : α) (ρ : mm_R → α) (kj : Nat → List mm_V → List mm_V → mm_W → mm_H → α) (r : Option (mm_R ⊕ mm_X)) (k : Nat → List mm_V → mm_W → mm_H → Option mm_Y) : mm_bind bot ρ kj (mK r none (fun r => some (.inl r)) k) = mK r bot ρ (fun t L w h => mm_bind bot ρ kj (k t L w h)) := by
  cases r with
  | none => rfl
  | some r => cases r <;> rfl
theorem mm_bind_C {α : Type} (bot : α) (ρ : mm_R → α) (kj : Nat → List mm_V → List mm_V → mm_W → mm_H → α) (r : Option mm_R) (t : Nat) (k : Int → mm_W → mm_H → Option mm_Y) : mm_bind bot ρ kj (mC r t none k) = mC r t bot (fun v w h => mm_bind bot ρ kj (k v w h)) := by
  cases r with
  | none => rfl
  | some r => unfold mC; dsimp only; split <;> rfl
theorem mm_bind_if {α : Type} (bot : α) (ρ : mm_R → α) (kj : Nat → List mm_V → List mm_V → mm_W → mm_H → α) (c : Prop) [Decidable c] (x y : Option mm_Y) : mm_bind bot ρ kj (if c then x else y) = if c then mm_bind bot ρ kj x else mm_bind bot ρ kj y := by
  split <;> rfl
theorem mm_bind_cond {α : Type} (bot : α) (ρ : mm_R → α) (kj : Nat → List mm_V → List mm_V → mm_W → mm_H → α) (c : Bool) (x y : Option mm_Y) : mm_bind bot ρ kj (mm_if c x y) = mm_if c (mm_bind bot ρ kj x) (mm_bind bot ρ kj y) := by
  cases c <;> rfl
theorem mm_bind_sw {α : Type} (bot : α) (ρ : mm_R → α) (kj : Nat → List mm_V → List mm_V → mm_W → mm_H → α) (x : Int) (d : Option mm_Y) (k : Int → Option mm_Y) : ∀ ps, mm_bind bot ρ kj (mm_sw x d k ps) = mm_sw x (mm_bind bot ρ kj d) (fun t => mm_bind bot ρ kj (k t)) ps
  | [] => rfl
  | q :: ps => by
    unfold mm_sw mEq
    rw [mm_bind_if, mm_bind_sw bot ρ kj x d k ps]
theorem mm_bind_ex {α : Type} (bot : α) (ρ : mm_R → α) (kj : Nat → List mm_V → List mm_V → mm_W → mm_H → α) (t : Nat) (k : Nat → Option mm_Y) : ∀ es, mm_bind bot ρ kj (mm_ex t none k es) = mm_ex t bot (fun t => mm_bind bot ρ kj (k t)) es
  | [] => rfl
  | q :: es => by
    unfold mm_ex
    rw [mm_bind_if, mm_bind_ex bot ρ kj t k es]
theorem mm_bind_none {α : Type} (bot : α) (ρ : mm_R → α) (kj : Nat → List mm_V → List mm_V → mm_W → mm_H → α) : mm_bind bot ρ kj none = bot := rfl
theorem mm_bind_inl {α : Type} (bot : α) (ρ : mm_R → α) (kj : Nat → List mm_V → List mm_V → mm_W → mm_H → α) (r : mm_R) : mm_bind bot ρ kj (some (.inl r)) = ρ r := rfl
theorem mm_bind_inr {α : Type} (bot : α) (ρ : mm_R → α) (kj : Nat → List mm_V → List mm_V → mm_W → mm_H → α) (t : Nat) (L st : List mm_V) (w : mm_W) (h : mm_H) : mm_bind bot ρ kj (some (.inr (t, L, st, w, h))) = kj t L st w h := rfl
set_option maxHeartbeats 4000000 in
theorem mm_bind_go {α : Type} (bot : α) (ρ : mm_R → α) (kj : Nat → List mm_V → List mm_V → mm_W → mm_H → α) (O : mm_O) (lp : mm_L) (lt : Nat → List Nat × List Nat) (hi : Nat) : ∀ (code : List (Nat × Instr)) (sk : Nat) (L st : List mm_V) (w : mm_W) (h : mm_H),
    mm_bind bot ρ kj (mm_go O lp lt hi none (fun r => some (.inl r)) (fun t L st w h => some (.inr (t, L, st, w, h))) code sk L st w h) = mm_go O lp lt hi bot ρ kj code sk L st w h := by
  intro code
  induction code with
  | nil => intros; rfl
  | cons e tl ih =>
    intro sk L st w h
    obtain ⟨pc, i⟩ := e
    rw [mm_go.eq_def, mm_go.eq_def]
    dsimp only
    rw [mm_bind_cond, mm_bind_cond, mm_bind_cond, ih, mm_bind_inr, mm_bind_none]
    congr 3
    split <;> (try split) <;> simp only [mLt, mLe, mEq, mF, mA, mAw, mAb, mAr, mAs, mD, mN, mM, mZ, mRc, mRb, mCy, mm_bind_if, mm_bind_cond, mm_bind_K, mm_bind_C, mm_bind_sw, mm_bind_ex, ih, mm_bind_none, mm_bind_inl, mm_bind_inr]
theorem mm_it_mono (body : List mm_V → mm_W → mm_H → Option mm_Y) (hd : Nat) (tags : List Nat) : ∀ n L w h x, mm_it body hd tags n L w h = some x → mm_it body hd tags (n + 1) L w h = some x := by
  intro n
  induction n with
  | zero => intro L w h x e; cases e
  | succ n ih =>
    intro L w h x e
    rw [mm_it] at e ⊢
    cases hb : body L w h with
    | none => rw [hb] at e; cases e
    | some y =>
      rw [hb] at e
      cases y with
      | inl r => exact e
      | inr q =>
        obtain ⟨t, L', st, w', h'⟩ := q
        simp only [mm_bind] at e ⊢
        cases st with
        | cons _ _ => cases e
        | nil =>
          dsimp only at e ⊢
          cases hk : mm_okt tags 0 L' with
          | false => rw [hk] at e; cases e
          | true =>
            rw [hk] at e
            cases ht : Nat.beq t hd with
            | false => rw [ht] at e; exact e
            | true => rw [ht] at e; exact ih _ _ _ _ e
theorem mm_lim_it (body : List mm_V → mm_W → mm_H → Option mm_Y) (hd : Nat) (tags : List Nat) (L : List mm_V) (w : mm_W) (h : mm_H) : mm_lim (fun n => mm_it body hd tags n L w h) = mm_bind none (fun r => some (.inl r)) (fun t L st w h => match st with
    | [] => mm_if (mm_okt tags 0 L) (mm_if (Nat.beq t hd) (mm_lim (fun n => mm_it body hd tags n (mm_nrm tags 0 L) w h)) (some (.inr (t, mm_nrm tags 0 L, w, h)))) none
    | _ => none) (body L w h) := by
  rw [mm_lim_succ (fun n x => mm_it_mono _ _ _ n L w h x) rfl (fun n => rfl)]
  simp only [mm_it]
  generalize body L w h = y
  cases y with
  | none => exact mm_lim_const none
  | some y =>
    cases y with
    | inl r => exact mm_lim_const _
    | inr q =>
      obtain ⟨t, L', st, w', h'⟩ := q
      simp only [mm_bind]
      cases st with
      | cons _ _ => exact mm_lim_const none
      | nil =>
        dsimp only
        cases hk : mm_okt tags 0 L' with
        | false => exact mm_lim_const none
        | true =>
          cases ht : Nat.beq t hd with
          | false => exact mm_lim_const _
          | true => rfl
theorem mm_LP_eq (O : mm_O) (lt : List mm_T) (code : List (Nat × Instr)) (d j : Nat) (L : List mm_V) (w : mm_W) (h : mm_H) : mm_LP O lt code (d + 1) j L w h = mm_go O (mm_LP O lt code d) (mm_lt2 lt) (mm_row lt j).2.1 none (fun r => some (.inl r)) (fun t L st w h => match st with
    | [] => mm_if (mm_okt (mm_row lt j).2.2.1 0 L) (mm_if (Nat.beq t (mm_row lt j).1) (mm_LP O lt code (d + 1) j (mm_nrm (mm_row lt j).2.2.1 0 L) w h) (some (.inr (t, mm_nrm (mm_row lt j).2.2.1 0 L, w, h)))) none
    | _ => none) (mm_from j code) 0 L [] w h := by
  rw [← mm_bind_go]
  exact mm_lim_it _ _ _ L w h
abbrev mm_M : Type := List (Nat × Instr) × Nat × List mm_T
def mm_look (tab : List (List mm_M)) (i : Nat) : mm_M := mm_nth ([], 0, []) (Nat.mod i 20) (mm_nth [] (Nat.div i 20) tab)
def mm_len : List mm_V → Nat
  | [] => 0
  | _ :: l => Nat.succ (mm_len l)
noncomputable def mm_run (O : mm_O) (q : mm_M) (args : List mm_V) (w : mm_W) (h : mm_H) : Option mm_R := mm_if (Nat.ble (mm_len (mm_loc args)) q.2.1) (mm_go O (mm_LP O q.2.2 q.1 6) (mm_lt2 q.2.2) 1000000 none some (fun _ _ _ _ _ => none) q.1 0 (mm_pad q.2.1 (mm_loc args)) [] w h) none
