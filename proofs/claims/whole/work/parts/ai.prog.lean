/-! PURE: programs are read: what they come to; the class's items. -/
/-- a fault, or a place and numbers -/
abbrev pR : Type := Int ⊕ (Int × List Int)
def bnd (x : pR) (t : Int → pR) : pR := match x with
  | .inl f => .inl f
  | .inr (p, L) => match t p with
    | .inl f => .inl f
    | .inr (p', M) => .inr (p', L ++ M)
def apd (x : pR) (M : List Int) : pR := match x with
  | .inl f => .inl f
  | .inr (p, L) => .inr (p, L ++ M)
def pln (x : pR) : Nat := match x with
  | .inl _ => 0
  | .inr (_, L) => L.length
theorem bnd_l {f : Int} {t : Int → pR} : bnd (.inl f) t = .inl f := rfl
theorem bnd_rl {p f : Int} {L : List Int} {t : Int → pR} (h : t p = .inl f) : bnd (.inr (p, L)) t = .inl f := by
  simp only [bnd, h]
theorem bnd_rr {p p' : Int} {L M : List Int} {t : Int → pR} (h : t p = .inr (p', M)) : bnd (.inr (p, L)) t = .inr (p', L ++ M) := by
  simp only [bnd, h]
theorem pln_bnd {x : pR} {t : Int → pR} {k : Nat} (h : ∀ p p' M, t p = .inr (p', M) → M.length ≤ k) : pln (bnd x t) ≤ pln x + k := by
  rcases x with f | ⟨p, L⟩
  · exact Nat.zero_le _
  · rcases e : t p with f | ⟨p', M⟩
    · rw [bnd_rl e]; exact Nat.zero_le _
    · rw [bnd_rr e]
      show (L ++ M).length ≤ L.length + k
      rw [List.length_append]
      have := h p p' M e
      omega
def oN (W : List Int) : Option Nat := if W = [102, 97, 99, 101] then some 0 else if W = [115, 105, 122, 101] then some 1 else if W = [105, 110, 107] then some 2 else if W = [102, 105, 108, 108] then some 3 else none
def oW (W : List Int) : Option Nat := if W = [114, 111, 119, 115] then some 0 else if W = [99, 111, 108, 117, 109, 110, 115] then some 1 else none
def oA (W : List Int) : Option Nat := if W = [97] then some 0 else if W = [98] then some 1 else if W = [99] then some 2 else if W = [100] then some 3 else if W = [101] then some 4 else if W = [102] then some 5 else if W = [103] then some 6 else if W = [104] then some 7 else if W = [105] then some 8 else if W = [106] then some 9 else if W = [107] then some 10 else if W = [108] then some 11 else if W = [109] then some 12 else if W = [110] then some 13 else if W = [111] then some 14 else if W = [112] then some 15 else none
def oT (ws W : List Int) : Option Nat := if W = ws then some 0 else none
theorem pick_A (W : List Int) : pick W [97, 32, 98, 32, 99, 32, 100, 32, 101, 32, 102, 32, 103, 32, 104, 32, 105, 32, 106, 32, 107, 32, 108, 32, 109, 32, 110, 32, 111, 32, 112] 31 0 0 0 = oA W := by rfl
theorem pick_to (W : List Int) : pick W [116, 111] 2 0 0 0 = oT [116, 111] W := by rfl
theorem pick_by (W : List Int) : pick W [98, 121] 2 0 0 0 = oT [98, 121] W := by rfl
section
variable (B : Int → Int) (n : Int)
def iNum (p : Int) : pR := if tK B n p = 2 ∧ tE B n p - tS B n p ≤ 2 then .inr (tE B n p, [tNum B n p]) else .inl (tS B n p)
def iPk (o : List Int → Option Nat) (p : Int) : pR := match o (tWd B n p) with
  | some i => .inr (tE B n p, [(i : Int)])
  | none => .inl (tS B n p)
def iWd (ws : List Int) (p : Int) : pR := if tWd B n p = ws then .inr (tE B n p, []) else .inl (tS B n p)
def iSg (c p : Int) : pR := if tK B n p = c then .inr (tE B n p, []) else .inl (tS B n p)
def iWhat (p : Int) : pR := if tWd B n p = [110, 111, 110, 101] then .inr (tE B n p, [-1]) else iNum B n p
def iMove (p : Int) : pR := if tK B n p = 45 then (match iNum B n (tE B n p) with
  | .inl f => .inl f
  | .inr (p', L) => .inr (p', [-(L.getD 0 0)])) else iNum B n p
/-- a letter and a number -/
def iPl (p : Int) : Int ⊕ (Int × Int × Int) := match oA (tWd B n p) with
  | none => .inl (tS B n p)
  | some i => if tK B n (tE B n p) = 2 ∧ tE B n (tE B n p) - tS B n (tE B n p) ≤ 2 then .inr (tE B n (tE B n p), (i : Int), tNum B n (tE B n p)) else .inl (tS B n (tE B n p))
def iArea (p : Int) : pR := match iPl B n p with
  | .inl f => .inl f
  | .inr (p1, c, r) => if tK B n p1 = 58 then (match iPl B n (tE B n p1) with
    | .inl f => .inl f
    | .inr (p2, c2, r2) => .inr (p2, [r, c, r2, c2])) else .inr (p1, [r, c, r, c])
end
section
variable {B : Int → Int} {n : Int}
theorem iNum_t {p : Int} (h : tK B n p = 2 ∧ tE B n p - tS B n p ≤ 2) : iNum B n p = .inr (tE B n p, [tNum B n p]) := if_pos h
theorem iNum_f {p : Int} (h : ¬ (tK B n p = 2 ∧ tE B n p - tS B n p ≤ 2)) : iNum B n p = .inl (tS B n p) := if_neg h
theorem iPk_t {o : List Int → Option Nat} {p : Int} {i : Nat} (h : o (tWd B n p) = some i) : iPk B n o p = .inr (tE B n p, [(i : Int)]) := by unfold iPk; rw [h]
theorem iPk_f {o : List Int → Option Nat} {p : Int} (h : o (tWd B n p) = none) : iPk B n o p = .inl (tS B n p) := by unfold iPk; rw [h]
theorem iWd_t {ws : List Int} {p : Int} (h : tWd B n p = ws) : iWd B n ws p = .inr (tE B n p, []) := if_pos h
theorem iWd_f {ws : List Int} {p : Int} (h : tWd B n p ≠ ws) : iWd B n ws p = .inl (tS B n p) := if_neg h
theorem iSg_t {c p : Int} (h : tK B n p = c) : iSg B n c p = .inr (tE B n p, []) := if_pos h
theorem iSg_f {c p : Int} (h : tK B n p ≠ c) : iSg B n c p = .inl (tS B n p) := if_neg h
theorem iPl_n {p : Int} (h : oA (tWd B n p) = none) : iPl B n p = .inl (tS B n p) := by unfold iPl; rw [h]
theorem iPl_f {p : Int} {i : Nat} (h : oA (tWd B n p) = some i) (h2 : ¬ (tK B n (tE B n p) = 2 ∧ tE B n (tE B n p) - tS B n (tE B n p) ≤ 2)) : iPl B n p = .inl (tS B n (tE B n p)) := by unfold iPl; rw [h]; exact if_neg h2
theorem iPl_t {p : Int} {i : Nat} (h : oA (tWd B n p) = some i) (h2 : tK B n (tE B n p) = 2 ∧ tE B n (tE B n p) - tS B n (tE B n p) ≤ 2) : iPl B n p = .inr (tE B n (tE B n p), (i : Int), tNum B n (tE B n p)) := by unfold iPl; rw [h]; exact if_pos h2
theorem iArea_0 {p f : Int} (h : iPl B n p = .inl f) : iArea B n p = .inl f := by unfold iArea; rw [h]
theorem iArea_1 {p p1 c r : Int} (h : iPl B n p = .inr (p1, c, r)) (h2 : tK B n p1 ≠ 58) : iArea B n p = .inr (p1, [r, c, r, c]) := by unfold iArea; rw [h]; exact if_neg h2
theorem iArea_2 {p p1 c r f : Int} (h : iPl B n p = .inr (p1, c, r)) (h2 : tK B n p1 = 58) (h3 : iPl B n (tE B n p1) = .inl f) : iArea B n p = .inl f := by unfold iArea; rw [h]; show (if tK B n p1 = 58 then _ else _) = _; rw [if_pos h2, h3]
theorem iArea_3 {p p1 c r p2 c2 r2 : Int} (h : iPl B n p = .inr (p1, c, r)) (h2 : tK B n p1 = 58) (h3 : iPl B n (tE B n p1) = .inr (p2, c2, r2)) : iArea B n p = .inr (p2, [r, c, r2, c2]) := by unfold iArea; rw [h]; show (if tK B n p1 = 58 then _ else _) = _; rw [if_pos h2, h3]
theorem iNum_len {p p' : Int} {M : List Int} (h : iNum B n p = .inr (p', M)) : M.length ≤ 1 := by
  unfold iNum at h
  split at h
  · cases h; exact Nat.le_refl _
  · cases h
theorem iPk_len {o : List Int → Option Nat} {p p' : Int} {M : List Int} (h : iPk B n o p = .inr (p', M)) : M.length ≤ 1 := by
  unfold iPk at h
  split at h
  · cases h; exact Nat.le_refl _
  · cases h
theorem iWd_len {ws : List Int} {p p' : Int} {M : List Int} (h : iWd B n ws p = .inr (p', M)) : M.length ≤ 0 := by
  unfold iWd at h
  split at h
  · cases h; exact Nat.le_refl _
  · cases h
theorem iWhat_len {p p' : Int} {M : List Int} (h : iWhat B n p = .inr (p', M)) : M.length ≤ 1 := by
  unfold iWhat at h
  split at h
  · cases h; exact Nat.le_refl _
  · exact iNum_len h
theorem iMove_len {p p' : Int} {M : List Int} (h : iMove B n p = .inr (p', M)) : M.length ≤ 1 := by
  unfold iMove at h
  split at h
  · split at h
    · cases h
    · cases h; exact Nat.le_refl _
  · exact iNum_len h
theorem iArea_len {p p' : Int} {M : List Int} (h : iArea B n p = .inr (p', M)) : M.length ≤ 4 := by
  unfold iArea at h
  split at h
  · cases h
  · split at h
    · split at h
      · cases h
      · cases h; exact Nat.le_refl _
    · cases h; exact Nat.le_refl _
end
/-! the class's program reader -/
def zW (w : mm_W) : Prop := TW w ∧ w.1 465 = (6, 4) ∧ w.1 466 = (50, 1800)
def zH (w : mm_W) (h : mm_H) : Prop := h 465 0 = 461 ∧ h 465 1 = 466 ∧ SW w h
def zO (h h' : mm_H) : Prop := (∀ b : Int, b ≠ 461 → b ≠ 465 → b ≠ 466 → h' b = h b) ∧ (h' 461 0 = h 461 0 ∧ h' 461 1 = h 461 1) ∧ ∀ i : Int, i < 3 → h' 465 i = h 465 i
theorem zO_rf (h : mm_H) : zO h h := ⟨fun _ _ _ _ => rfl, ⟨rfl, rfl⟩, fun _ _ => rfl⟩
theorem zO_tr {a b c : mm_H} (x : zO a b) (y : zO b c) : zO a c := ⟨fun q h1 h2 h3 => (y.1 q h1 h2 h3).trans (x.1 q h1 h2 h3), ⟨y.2.1.1.trans x.2.1.1, y.2.1.2.trans x.2.1.2⟩, fun i hi => (y.2.2 i hi).trans (x.2.2 i hi)⟩
theorem zO_to {h h' : mm_H} (o : TO h h') : zO h h' := ⟨fun b h1 _ _ => o.1 b h1, o.2, fun i _ => by rw [o.1 465 (by decide)]⟩
theorem zO_H {w : mm_W} {h h' : mm_H} (o : zO h h') (c : zH w h) : zH w h' := ⟨by rw [o.2.2 0 (by decide)]; exact c.1, by rw [o.2.2 1 (by decide)]; exact c.2.1, SW_fr c.2.2 (fun b hb => o.1 b (by omega) (by omega) (by omega))⟩
/-- what was read: a fault, or a place, and its numbers stand behind q0; the row ahead of q0 is as R has it -/
def zC (w : mm_W) (R : Int → Int) (h : mm_H) (B : Int → Int) (n : Int) (q0 : Nat) (x : pR) : Prop := zH w h ∧ match x with
  | .inl f => TF h B n f
  | .inr (p, L) => TA h B n p ∧ h 465 3 = ((q0 + L.length : Nat) : Int) ∧ Seg h 466 q0 L ∧ ∀ j : Int, j < q0 → h 466 j = R j
section PU
variable {d : Nat} {w : mm_W} {h : mm_H} {R : Int → Int} {B : Int → Int} {n p : Int} {q0 : Nat} {x : pR}
/-- a step of the tape alone -/
theorem zC_tok {h' : mm_H} {p' : Int} {L : List Int} (hx : zC w R h B n q0 (.inr (p, L))) (o : TO h h') (t : TA h' B n p') : zO h h' ∧ zC w R h' B n q0 (.inr (p', L)) := by
  obtain ⟨hH, a1, a2, a3, a4⟩ := hx
  have e5 := o.1 465 (by decide)
  have e6 := o.1 466 (by decide)
  exact ⟨zO_to o, zO_H (zO_to o) hH, t, by rw [e5]; exact a2, fun i hi => by rw [e6]; exact a3 i hi, fun j hj => by rw [e6]; exact a4 j hj⟩
theorem zC_flt {h' : mm_H} {f : Int} (hH : zH w h) (o : TO h h') (t : TF h' B n f) : zO h h' ∧ zC w R h' B n q0 (.inl f) := ⟨zO_to o, zO_H (zO_to o) hH, t⟩
theorem Z_add (hd : 2 ≤ d) (hW : zW w) (hx : zC w R h B n q0 x) (hq : q0 + 9 ≤ 1800) (hl : pln x ≤ 8) (v : Int) : ∃ h', mm_P d 70 [(2, 465), (0, v)] w h = some ((9, 0), w, h') ∧ zO h h' ∧ zC w R h' B n q0 (apd x [v]) := by
  obtain ⟨d, rfl, hd2⟩ := mm_dS hd; clear hd; have hd := hd2; clear hd2
  have hw : (w.1 465).1 = 6 := by rw [hW.2.1]
  have hH := hx.1
  rw [P_Pg_add]
  simp only [mF_t hw]
  rw [hH.2.1, E_poke hd hW.2.2 (by decide), mC_s]
  have e : ∀ b : Int, b ≠ 466 → (if 0 ≤ h 465 3 ∧ h 465 3 < 1800 then mUp h 466 (h 465 3) v else h) b = h b := fun b hb => by
    split
    · exact mUp_row hb
    · rfl
  generalize hg : (if 0 ≤ h 465 3 ∧ h 465 3 < 1800 then mUp h 466 (h 465 3) v else h) = h1 at e ⊢
  simp only [mF_t hw]
  have o : zO h (mUp h1 465 3 (mI (h1 465 3 + 1))) := ⟨fun b b1 b2 b3 => by rw [mUp_row b2, e b b3], ⟨by rw [mUp_row (by decide), e 461 (by decide)], by rw [mUp_row (by decide), e 461 (by decide)]⟩, fun i hi => by rw [mUp_n (Or.inr (by omega)), e 465 (by decide)]⟩
  refine ⟨_, rfl, o, zO_H o hH, ?_⟩
  rcases x with f | ⟨p, L⟩
  · exact TF_fr hx.2 (by rw [mUp_row (by decide), e 461 (by decide)]) (by rw [mUp_row (by decide), e 462 (by decide)])
  · obtain ⟨-, a1, a2, a3, a4⟩ := hx
    have hl : L.length ≤ 8 := hl
    have e2 : h1 466 = mUp h 466 ((q0 + L.length : Nat) : Int) v 466 := by rw [← hg, a2, if_pos (by omega)]
    refine ⟨TA_fr a1 (by rw [mUp_row (by decide), e 461 (by decide)]) (by rw [mUp_row (by decide), e 462 (by decide)]), ?_, ?_, fun j hj => by rw [mUp_row (by decide), e2, mUp_n (Or.inr (by omega))]; exact a4 j hj⟩
    · rw [mUp_s, e 465 (by decide), a2, List.length_append, mI_id (by omega) (by omega)]
      show ((q0 + L.length : Nat) : Int) + 1 = ((q0 + (L.length + 1) : Nat) : Int)
      omega
    · refine Seg_app.mpr ⟨fun i hi => ?_, Seg_cons.mpr ⟨?_, Seg_nil⟩⟩
      · rw [mUp_row (by decide), e2, mUp_n (Or.inr (by omega))]; exact a3 i hi
      · rw [mUp_row (by decide), e2, mUp_s]
theorem zC_461 (hx : zC w R h B n q0 x) : h 465 0 = 461 := hx.1.1
/-- a number is wanted -/
theorem Z_num (hd : 6 ≤ d) (hW : zW w) (hx : zC w R h B n q0 x) : ∃ (h' : mm_H) (v : Int), mm_P d 119 [(2, 461), (0, 2)] w h = some ((0, v), w, h') ∧ zO h h' ∧ ((∃ f, bnd x (iNum B n) = .inl f ∧ zC w R h' B n q0 (.inl f)) ∨ ∃ (p : Int) (L : List Int), x = .inr (p, L) ∧ (tK B n p = 2 ∧ tE B n p - tS B n p ≤ 2) ∧ v = tNum B n p ∧ zC w R h' B n q0 (.inr (tE B n p, L))) := by
  rcases x with f | ⟨p, L⟩
  · obtain ⟨h', g1, g2, g3⟩ := E_needNumber_f (d := d) hd hW.1 hx.2 2
    obtain ⟨k1, k2⟩ := zC_flt (R := R) (q0 := q0) hx.1 g2 g3
    exact ⟨h', 0, g1, k1, Or.inl ⟨f, rfl, k2⟩⟩
  · rcases E_needNumber (d := d) hd hW.1 hx.1.2.2.1 hx.2.1 (g := 2) (by decide) with ⟨c, h', g1, g2, g3⟩ | ⟨c, h', g1, g2, g3⟩
    · obtain ⟨k1, k2⟩ := zC_tok hx g2 g3
      exact ⟨h', _, g1, k1, Or.inr ⟨p, L, rfl, c, rfl, k2⟩⟩
    · obtain ⟨k1, k2⟩ := zC_flt (R := R) (q0 := q0) hx.1 g2 g3
      exact ⟨h', _, g1, k1, Or.inl ⟨_, bnd_rl (iNum_f c), k2⟩⟩
/-- one of some words is wanted -/
theorem Z_pk (hd : 7 ≤ d) (hW : zW w) {a : Int} {cs : List Int} {o : List Int → Option Nat} (hs : StrAt w h a cs) (ho : ∀ W, pick W cs cs.length 0 0 0 = o W) (hx : zC w R h B n q0 x) : ∃ (h' : mm_H) (v : Int), mm_P d 120 [(2, 461), (2, a)] w h = some ((0, v), w, h') ∧ zO h h' ∧ ((∃ f, bnd x (iPk B n o) = .inl f ∧ zC w R h' B n q0 (.inl f)) ∨ ∃ (p : Int) (L : List Int) (i : Nat), x = .inr (p, L) ∧ o (tWd B n p) = some i ∧ v = (i : Int) ∧ zC w R h' B n q0 (.inr (tE B n p, L))) := by
  rcases x with f | ⟨p, L⟩
  · obtain ⟨h', g1, g2, g3⟩ := E_needOneOf_f (d := d) hd hW.1 hs hx.2
    obtain ⟨k1, k2⟩ := zC_flt (R := R) (q0 := q0) hx.1 g2 g3
    exact ⟨h', _, g1, k1, Or.inl ⟨f, rfl, k2⟩⟩
  · rcases E_needOneOf (d := d) hd hW.1 hx.1.2.2.1 hs hx.2.1 with ⟨i, c, h', g1, g2, g3⟩ | ⟨c, h', g1, g2, g3⟩
    · obtain ⟨k1, k2⟩ := zC_tok hx g2 g3
      rw [ho] at c
      exact ⟨h', _, g1, k1, Or.inr ⟨p, L, i, rfl, c, rfl, k2⟩⟩
    · obtain ⟨k1, k2⟩ := zC_flt (R := R) (q0 := q0) hx.1 g2 g3
      rw [ho] at c
      exact ⟨h', _, g1, k1, Or.inl ⟨_, bnd_rl (iPk_f c), k2⟩⟩
theorem Z_sg (hd : 7 ≤ d) (hW : zW w) (c : Int) (hx : zC w R h B n q0 x) : ∃ h', mm_P d 118 [(2, 461), (0, c)] w h = some ((9, 0), w, h') ∧ zO h h' ∧ zC w R h' B n q0 (bnd x (iSg B n c)) := by
  rcases x with f | ⟨p, L⟩
  · obtain ⟨h', g1, g2, g3⟩ := E_needSign_f (d := d) hd hW.1 hx.1.2.2.1 hx.2 c
    obtain ⟨k1, k2⟩ := zC_flt (R := R) (q0 := q0) hx.1 g2 g3
    exact ⟨h', g1, k1, k2⟩
  · obtain ⟨h', g1, g2, g3⟩ := E_needSign (d := d) hd hW.1 hx.1.2.2.1 hx.2.1 c
    rcases g3 with ⟨q, g3⟩ | ⟨q, g3⟩
    · obtain ⟨k1, k2⟩ := zC_tok hx g2 g3
      rw [bnd_rr (iSg_t q), List.append_nil]
      exact ⟨h', g1, k1, k2⟩
    · obtain ⟨k1, k2⟩ := zC_flt (R := R) (q0 := q0) hx.1 g2 g3
      rw [bnd_rl (iSg_f q)]
      exact ⟨h', g1, k1, k2⟩
/-- a number, and it is added -/
theorem Z_numA (hd : 6 ≤ d) (hW : zW w) (hq : q0 + 9 ≤ 1800) (hl : pln x ≤ 8) (hx : zC w R h B n q0 x) : ∃ (h1 : mm_H) (v : Int) (h2 : mm_H), mm_P d 119 [(2, 461), (0, 2)] w h = some ((0, v), w, h1) ∧ mm_P d 70 [(2, 465), (0, v)] w h1 = some ((9, 0), w, h2) ∧ zO h h2 ∧ zC w R h2 B n q0 (bnd x (iNum B n)) := by
  obtain ⟨h1, v, g1, o1, g2⟩ := Z_num (d := d) hd hW hx
  rcases g2 with ⟨f, e, g2⟩ | ⟨p, L, e, c, ev, g2⟩
  · obtain ⟨h2, a1, a2, a3⟩ := Z_add (d := d) (by omega) hW g2 hq (Nat.zero_le _) v
    rw [e]
    exact ⟨h1, v, h2, g1, a1, zO_tr o1 a2, a3⟩
  · subst e
    obtain ⟨h2, a1, a2, a3⟩ := Z_add (d := d) (by omega) hW g2 hq hl v
    rw [bnd_rr (iNum_t c), ← ev]
    exact ⟨h1, v, h2, g1, a1, zO_tr o1 a2, a3⟩
theorem Z_pkA (hd : 7 ≤ d) (hW : zW w) (hq : q0 + 9 ≤ 1800) (hl : pln x ≤ 8) {a : Int} {cs : List Int} {o : List Int → Option Nat} (hs : StrAt w h a cs) (ho : ∀ W, pick W cs cs.length 0 0 0 = o W) (hx : zC w R h B n q0 x) : ∃ (h1 : mm_H) (v : Int) (h2 : mm_H), mm_P d 120 [(2, 461), (2, a)] w h = some ((0, v), w, h1) ∧ mm_P d 70 [(2, 465), (0, v)] w h1 = some ((9, 0), w, h2) ∧ zO h h2 ∧ zC w R h2 B n q0 (bnd x (iPk B n o)) := by
  obtain ⟨h1, v, g1, o1, g2⟩ := Z_pk (d := d) hd hW hs ho hx
  rcases g2 with ⟨f, e, g2⟩ | ⟨p, L, i, e, c, ev, g2⟩
  · obtain ⟨h2, a1, a2, a3⟩ := Z_add (d := d) (by omega) hW g2 hq (Nat.zero_le _) v
    rw [e]
    exact ⟨h1, v, h2, g1, a1, zO_tr o1 a2, a3⟩
  · subst e
    obtain ⟨h2, a1, a2, a3⟩ := Z_add (d := d) (by omega) hW g2 hq hl v
    rw [bnd_rr (iPk_t c), ← ev]
    exact ⟨h1, v, h2, g1, a1, zO_tr o1 a2, a3⟩
/-- a word is wanted -/
theorem Z_wd (hd : 7 ≤ d) (hW : zW w) {a : Int} {cs : List Int} (hs : StrAt w h a cs) (ho : ∀ W, pick W cs cs.length 0 0 0 = oT cs W) (hx : zC w R h B n q0 x) : ∃ (h' : mm_H) (v : Int), mm_P d 120 [(2, 461), (2, a)] w h = some ((0, v), w, h') ∧ zO h h' ∧ zC w R h' B n q0 (bnd x (iWd B n cs)) := by
  obtain ⟨h1, v, g1, o1, g2⟩ := Z_pk (d := d) hd hW hs ho hx
  refine ⟨h1, v, g1, o1, ?_⟩
  rcases g2 with ⟨f, e, g2⟩ | ⟨p, L, i, e, c, ev, g2⟩
  · rcases x with f' | ⟨p, L⟩
    · have e : Sum.inl f' = (Sum.inl f : pR) := e
      rw [bnd_l, e]; exact g2
    · by_cases q : tWd B n p = cs
      · rw [bnd_rr (iPk_t (i := 0) (show oT cs (tWd B n p) = some 0 from if_pos q))] at e
        cases e
      · rw [bnd_rl (iPk_f (show oT cs (tWd B n p) = none from if_neg q))] at e
        rw [bnd_rl (iWd_f q), e]; exact g2
  · subst e
    have q : tWd B n p = cs := by
      by_cases q : tWd B n p = cs
      · exact q
      · have : oT cs (tWd B n p) = none := if_neg q
        rw [this] at c; cases c
    rw [bnd_rr (iWd_t q), List.append_nil]
    exact g2
end PU
