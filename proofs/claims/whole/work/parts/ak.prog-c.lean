/-! PURE: programs: what lines and blocks come to. -/
def prH (H : List Int) (x : pR) : pR := match x with
  | .inl f => .inl f
  | .inr (p, L) => .inr (p, H ++ L)
theorem prH_bnd {H : List Int} {x : pR} {t : Int → pR} : bnd (prH H x) t = prH H (bnd x t) := by
  rcases x with f | ⟨p, L⟩
  · rfl
  · rcases e : t p with f | ⟨p', M⟩
    · show bnd (.inr (p, H ++ L)) t = prH H (bnd (.inr (p, L)) t)
      rw [bnd_rl e, bnd_rl e]; rfl
    · show bnd (.inr (p, H ++ L)) t = prH H (bnd (.inr (p, L)) t)
      rw [bnd_rr e, bnd_rr e, List.append_assoc]; rfl
theorem prH_nil {H : List Int} {p : Int} : prH H (.inr (p, [])) = .inr (p, H) := by
  show (Sum.inr (p, H ++ []) : pR) = _
  rw [List.append_nil]
theorem lnT_pre {B : Int → Int} {n k : Int} {H : List Int} {x : pR} : lnT B n k (prH H x) = prH H (lnT B n k x) := by
  unfold lnT
  repeat' split
  all_goals simp only [twT, prH_bnd]
theorem lnT_H {B : Int → Int} {n k p : Int} {H : List Int} : lnT B n k (.inr (p, H)) = prH H (lnT B n k (.inr (p, []))) := by
  rw [← lnT_pre, prH_nil]
/-- what an item takes and gives -/
def iSp (n : Int) (t : Int → pR) (k : Nat) (c : Int) : Prop := ∀ (p p' : Int) (M : List Int), 0 ≤ p → p ≤ n → t p = .inr (p', M) → M.length = k ∧ p + c ≤ p' ∧ p' ≤ n ∧ ∀ v ∈ M, -99 ≤ v ∧ v ≤ 99
def yS (n : Int) (y : pR) (k : Nat) (q : Int) : Prop := ∀ (p' : Int) (L : List Int), y = .inr (p', L) → L.length = k ∧ q ≤ p' ∧ p' ≤ n ∧ ∀ v ∈ L, -99 ≤ v ∧ v ≤ 99
theorem yS_bnd {n : Int} {y : pR} {t : Int → pR} {k k' : Nat} {q c : Int} (h0 : 0 ≤ q) (hy : yS n y k q) (ht : iSp n t k' c) : yS n (bnd y t) (k + k') (q + c) := by
  intro p' L e
  rcases y with f | ⟨p, M⟩
  · cases e
  · obtain ⟨y1, y2, y3, y4⟩ := hy p M rfl
    rcases et : t p with f | ⟨p2, N⟩
    · rw [bnd_rl et] at e; cases e
    · rw [bnd_rr et] at e
      cases e
      obtain ⟨t1, t2, t3, t4⟩ := ht p _ N (by omega) y3 et
      refine ⟨by rw [List.length_append]; omega, by omega, t3, fun v hv => ?_⟩
      rcases List.mem_append.mp hv with hv | hv
      · exact y4 v hv
      · exact t4 v hv
section
variable {B : Int → Int} {n : Int}
theorem iNum_sp : iSp n (iNum B n) 1 1 := by
  intro p p' M h0 h1 e
  unfold iNum at e
  split at e
  · rename_i c
    cases e
    have a := tE_lt h1 (show tK B n p ≠ 0 by omega)
    have b := tE_le (B := B) h1
    have t := tNum_2 h1 c.1 c.2
    refine ⟨rfl, by omega, b.2.1, fun v hv => ?_⟩
    rw [List.mem_singleton.mp hv]; omega
  · cases e
theorem iPk_sp {o : List Int → Option Nat} (ho : ∀ W i, o W = some i → W ≠ [] ∧ i ≤ 99) : iSp n (iPk B n o) 1 1 := by
  intro p p' M h0 h1 e
  rcases co : o (tWd B n p) with _ | i
  · rw [iPk_f co] at e; cases e
  · rw [iPk_t co] at e
    cases e
    obtain ⟨x, y⟩ := ho _ i co
    have k1 : tK B n p = 1 := by
      by_cases c : tK B n p = 1
      · exact c
      · exact absurd (tWd_0 c) x
    have a := tE_lt h1 (show tK B n p ≠ 0 by omega)
    have b := tE_le (B := B) h1
    refine ⟨rfl, by omega, b.2.1, fun v hv => ?_⟩
    rw [List.mem_singleton.mp hv]; omega
theorem iWd_sp {ws : List Int} (hw : ws ≠ []) : iSp n (iWd B n ws) 0 1 := by
  intro p p' M h0 h1 e
  unfold iWd at e
  split at e
  · rename_i c
    cases e
    have k1 : tK B n p = 1 := by
      by_cases q : tK B n p = 1
      · exact q
      · exact absurd (c ▸ tWd_0 q) hw
    have a := tE_lt h1 (show tK B n p ≠ 0 by omega)
    have b := tE_le (B := B) h1
    exact ⟨rfl, by omega, b.2.1, fun v hv => by cases hv⟩
  · cases e
theorem iWhat_sp : iSp n (iWhat B n) 1 1 := by
  intro p p' M h0 h1 e
  unfold iWhat at e
  split at e
  · rename_i c
    cases e
    have k1 : tK B n p = 1 := by
      by_cases q : tK B n p = 1
      · exact q
      · rw [tWd_0 q] at c; cases c
    have a := tE_lt h1 (show tK B n p ≠ 0 by omega)
    have b := tE_le (B := B) h1
    refine ⟨rfl, by omega, b.2.1, fun v hv => ?_⟩
    rw [List.mem_singleton.mp hv]; omega
  · exact iNum_sp p p' M h0 h1 e
theorem iMove_sp : iSp n (iMove B n) 1 1 := by
  intro p p' M h0 h1 e
  unfold iMove at e
  split at e
  · rename_i c
    have a := tE_lt h1 (show tK B n p ≠ 0 by omega)
    have b := tE_le (B := B) h1
    rcases ei : iNum B n (tE B n p) with f | ⟨p2, N⟩
    · rw [ei] at e; cases e
    · rw [ei] at e
      cases e
      obtain ⟨t1, t2, t3, t4⟩ := iNum_sp (tE B n p) _ N (by omega) b.2.1 ei
      refine ⟨rfl, by omega, t3, fun v hv => ?_⟩
      rw [List.mem_singleton.mp hv]
      have := t4 (N.getD 0 0) (getD_mem (by omega))
      omega
  · exact iNum_sp p p' M h0 h1 e
theorem ifO {W a : List Int} {k i : Nat} {r : Option Nat} (h : (if W = a then some k else r) = some i) : (W = a ∧ i = k) ∨ r = some i := by
  by_cases c : W = a
  · rw [if_pos c] at h; exact Or.inl ⟨c, (Option.some.inj h).symm⟩
  · rw [if_neg c] at h; exact Or.inr h
theorem oA_sp : ∀ W i, oA W = some i → W ≠ [] ∧ i ≤ 99 := by
  intro W i h
  unfold oA at h
  iterate 16 (rcases ifO h with ⟨rfl, rfl⟩ | h; exact ⟨by decide, by decide⟩)
  cases h
theorem oN_sp : ∀ W i, oN W = some i → W ≠ [] ∧ i ≤ 99 := by
  intro W i h
  unfold oN at h
  iterate 4 (rcases ifO h with ⟨rfl, rfl⟩ | h; exact ⟨by decide, by decide⟩)
  cases h
theorem oW_sp : ∀ W i, oW W = some i → W ≠ [] ∧ i ≤ 99 := by
  intro W i h
  unfold oW at h
  iterate 2 (rcases ifO h with ⟨rfl, rfl⟩ | h; exact ⟨by decide, by decide⟩)
  cases h
theorem iPl_sp {p p' c r : Int} (h0 : 0 ≤ p) (h1 : p ≤ n) (e : iPl B n p = .inr (p', c, r)) : p + 2 ≤ p' ∧ p' ≤ n ∧ (-99 ≤ c ∧ c ≤ 99) ∧ -99 ≤ r ∧ r ≤ 99 := by
  rcases co : oA (tWd B n p) with _ | i
  · rw [iPl_n co] at e; cases e
  · obtain ⟨a1, a2, a3, a4⟩ := iPk_sp (B := B) (n := n) oA_sp p _ _ h0 h1 (iPk_t co)
    by_cases cn : tK B n (tE B n p) = 2 ∧ tE B n (tE B n p) - tS B n (tE B n p) ≤ 2
    · rw [iPl_t co cn] at e
      cases e
      obtain ⟨b1, b2, b3, b4⟩ := iNum_sp (B := B) (n := n) (tE B n p) _ _ (by omega) a3 (iNum_t cn)
      have x := a4 _ (List.mem_singleton.mpr rfl)
      have y := b4 _ (List.mem_singleton.mpr rfl)
      omega
    · rw [iPl_f co cn] at e; cases e
theorem iArea_sp : iSp n (iArea B n) 4 2 := by
  intro p p' M h0 h1 e
  rcases e1 : iPl B n p with f | ⟨p1, c, r⟩
  · rw [iArea_0 e1] at e; cases e
  · obtain ⟨a1, a2, a3, a4⟩ := iPl_sp h0 h1 e1
    by_cases q : tK B n p1 = 58
    · have b := tE_le (B := B) a2
      have b2 := tE_lt a2 (show tK B n p1 ≠ 0 by omega)
      rcases e2 : iPl B n (tE B n p1) with f | ⟨p2, c2, r2⟩
      · rw [iArea_2 e1 q e2] at e; cases e
      · obtain ⟨d1, d2, d3, d4⟩ := iPl_sp (by omega) b.2.1 e2
        rw [iArea_3 e1 q e2] at e
        cases e
        refine ⟨rfl, by omega, d2, fun v hv => ?_⟩
        simp only [List.mem_cons, List.not_mem_nil, or_false] at hv
        rcases hv with rfl | rfl | rfl | rfl <;> omega
    · rw [iArea_1 e1 q] at e
      cases e
      refine ⟨rfl, by omega, a2, fun v hv => ?_⟩
      simp only [List.mem_cons, List.not_mem_nil, or_false] at hv
      rcases hv with rfl | rfl | rfl | rfl <;> omega
/-- how many numbers a line has behind its first, what it takes at least -/
def lnL (k : Int) : Nat := if k = 0 then 6 else if k = 1 then 4 else if k = 2 then 4 else if k = 3 then 3 else if k = 4 then 3 else if k = 5 then 8 else if k = 6 then 8 else if k = 7 then 1 else if k = 8 then 2 else 1
def lnC (k : Int) : Int := if k = 0 then 4 else if k = 1 then 5 else if k = 2 then 5 else if k = 3 then 4 else if k = 4 then 4 else if k = 5 then 5 else if k = 6 then 5 else if k = 7 then 1 else if k = 8 then 2 else 1
theorem yS_0 {p : Int} (h : p ≤ n) : yS n (.inr (p, [])) 0 p := by
  intro p' L e
  cases e
  exact ⟨rfl, Int.le_refl _, h, fun v hv => by cases hv⟩
theorem yS_w {y : pR} {k k' : Nat} {q q' : Int} (h : yS n y k q) (e1 : k = k') (e2 : q = q') : yS n y k' q' := by
  rw [← e1, ← e2]; exact h
theorem twT_sp {ws : List Int} (hw : ws ≠ []) {y : pR} {k : Nat} {q : Int} (h0 : 0 ≤ q) (hy : yS n y k q) : yS n (twT B n ws y) (k + 2) (q + 3) :=
  yS_w (yS_bnd (by omega) (yS_bnd (by omega) (yS_bnd h0 hy iNum_sp) (iWd_sp hw)) iNum_sp) (by omega) (by omega)
theorem lnT_sp {k p : Int} (h0 : 0 ≤ p) (h1 : p ≤ n) : yS n (lnT B n k (.inr (p, []))) (lnL k) (p + lnC k) := by
  have z := yS_0 h1
  unfold lnT lnL lnC
  by_cases c0 : k = 0
  · simp only [if_pos c0]
    exact yS_w (yS_bnd (by omega) (yS_bnd (by omega) (yS_bnd h0 z (iPk_sp oN_sp)) iWhat_sp) iArea_sp) (by omega) (by omega)
  simp only [if_neg c0]
  by_cases c1 : k = 1
  · simp only [if_pos c1]
    exact yS_w (twT_sp (by decide) (by omega) (yS_bnd (by omega) (yS_bnd h0 z (iPk_sp oN_sp)) iWhat_sp)) (by omega) (by omega)
  simp only [if_neg c1]
  by_cases c2 : k = 2
  · simp only [if_pos c2]
    exact yS_w (twT_sp (by decide) (by omega) (yS_bnd (by omega) (yS_bnd h0 z (iPk_sp oN_sp)) iWhat_sp)) (by omega) (by omega)
  simp only [if_neg c2]
  by_cases c3 : k = 3
  · simp only [if_pos c3]
    exact yS_w (twT_sp (by decide) (by omega) (yS_bnd h0 z (iPk_sp oW_sp))) (by omega) (by omega)
  simp only [if_neg c3]
  by_cases c4 : k = 4
  · simp only [if_pos c4]
    exact yS_w (twT_sp (by decide) (by omega) (yS_bnd h0 z (iPk_sp oW_sp))) (by omega) (by omega)
  simp only [if_neg c4]
  by_cases c5 : k = 5
  · simp only [if_pos c5]
    exact yS_w (yS_bnd (by omega) (yS_bnd (by omega) (yS_bnd h0 z iArea_sp) (iWd_sp (by decide))) iArea_sp) (by omega) (by omega)
  simp only [if_neg c5]
  by_cases c6 : k = 6
  · simp only [if_pos c6]
    exact yS_w (yS_bnd (by omega) (yS_bnd (by omega) (yS_bnd h0 z iArea_sp) (iWd_sp (by decide))) iArea_sp) (by omega) (by omega)
  simp only [if_neg c6]
  by_cases c7 : k = 7
  · simp only [if_pos c7]
    exact yS_w (yS_bnd h0 z (iPk_sp oN_sp)) (by omega) (by omega)
  simp only [if_neg c7]
  by_cases c8 : k = 8
  · simp only [if_pos c8]
    exact yS_w (yS_bnd (by omega) (yS_bnd h0 z iMove_sp) iMove_sp) (by omega) (by omega)
  simp only [if_neg c8]
  exact yS_w (yS_bnd h0 z iNum_sp) (by omega) (by omega)
def oL (W : List Int) : Option Nat := if W = [112, 97, 105, 110, 116] then some 0 else if W = [114, 111, 119, 115] then some 1 else if W = [99, 111, 108, 117, 109, 110, 115] then some 2 else if W = [105, 110, 115, 101, 114, 116] then some 3 else if W = [114, 101, 109, 111, 118, 101] then some 4 else if W = [99, 111, 112, 121] then some 5 else if W = [116, 117, 114, 110] then some 6 else if W = [116, 105, 100, 121] then some 7 else if W = [115, 104, 105, 102, 116] then some 8 else if W = [114, 101, 112, 101, 97, 116] then some 9 else none
theorem oL_sp {W : List Int} {i : Nat} (h : oL W = some i) : 4 ≤ W.length ∧ i ≤ 9 := by
  unfold oL at h
  iterate 10 (rcases ifO h with ⟨rfl, rfl⟩ | h; exact ⟨by decide, by decide⟩)
  cases h
/-- a line's first word takes four bytes -/
theorem oL_E {p : Int} {i : Nat} (h1 : p ≤ n) (h : oL (tWd B n p) = some i) : tK B n p = 1 ∧ p + 4 ≤ tE B n p ∧ tE B n p ≤ n ∧ i ≤ 9 := by
  obtain ⟨a, b⟩ := oL_sp h
  have k1 : tK B n p = 1 := by
    by_cases c : tK B n p = 1
    · exact c
    · rw [tWd_0 c] at a; exact absurd a (by decide)
  have l := tWd_len k1
  have s := tS_le (B := B) h1
  have e := tE_le (B := B) h1
  exact ⟨k1, by omega, e.2.1, b⟩
end
/-- an opening brace, if it may be -/
def opT (B : Int → Int) (n op p : Int) : Int ⊕ Int := if op < 4 ∧ tK B n p = 123 then .inr (tE B n p) else .inl (tS B n p)
/-- the lines behind p -/
def blk (B : Int → Int) (n : Int) : Nat → Int → Int → Int ⊕ (Int × List (List Int))
  | 0, _, p => .inl p
  | m + 1, op, p => if tK B n p ≠ 1 then .inr (p, []) else match oL (tWd B n p) with
    | none => .inl (tS B n p)
    | some k => if k = 9 then (match iNum B n (tE B n p) with
        | .inl f => .inl f
        | .inr (p1, M) => match opT B n op p1 with
          | .inl f => .inl f
          | .inr p2 => match blk B n m (op + 1) p2 with
            | .inl f => .inl f
            | .inr (p3, P1) => if tK B n p3 = 125 then (match blk B n m op (tE B n p3) with
              | .inl f => .inl f
              | .inr (p4, P2) => .inr (p4, (9 :: (M ++ [((P1.length : Nat) : Int)])) :: (P1 ++ P2))) else .inl (tS B n p3))
      else (match lnT B n (k : Int) (.inr (tE B n p, [])) with
        | .inl f => .inl f
        | .inr (p1, M) => if tK B n p1 = 59 then (match blk B n m op (tE B n p1) with
          | .inl f => .inl f
          | .inr (p2, P2) => .inr (p2, ((k : Int) :: M) :: P2)) else .inl (tS B n p1))
