/-! PURE: what a condition comes to; the class works out what it needs. -/
def mxN (f : Int → Int) : Nat → Int → Int → Int
  | 0, _, a => a
  | m + 1, i, a => mxN f m (i + 1) (mMax a (f i))
def mx2 (f : Int → Int → Int) (b : Nat) (l : Int) : Nat → Int → Int → Int
  | 0, _, a => a
  | m + 1, i, a => mx2 f b l m (i + 1) (mxN (f i) b l a)
def mnN (f : Int → Int) : Nat → Int → Int → Int
  | 0, _, a => a
  | m + 1, i, a => mnN f m (i + 1) (mMin a (f i))
def mn2 (f : Int → Int → Int) (b : Nat) (l : Int) : Nat → Int → Int → Int
  | 0, _, a => a
  | m + 1, i, a => mn2 f b l m (i + 1) (mnN (f i) b l a)
def rH (s : aS) (k : Int) : Nat := (aRul s k 2 - aRul s k 0 + 1).toNat
def rW (s : aS) (k : Int) : Nat := (aRul s k 3 - aRul s k 1 + 1).toNat
def ruSum (s : aS) (k : Int) : Int := sum2 (aVal s) (rH s k) (rW s k) (aRul s k 0) (aRul s k 1)
def ruMax (s : aS) (k : Int) : Int := mx2 (aVal s) (rW s k) (aRul s k 1) (rH s k) (aRul s k 0) (-999)
def ruMin (s : aS) (k : Int) : Int := mn2 (aVal s) (rW s k) (aRul s k 1) (rH s k) (aRul s k 0) 999
noncomputable def nLike (s : aS) (k v : Int) : Int := sum2 (fun i j => bI (aVal s i j = v)) (rH s k) (rW s k) (aRul s k 0) (aRul s k 1)
noncomputable def nMore (s : aS) (k v : Int) : Int := sum2 (fun i j => bI (v < aVal s i j)) (rH s k) (rW s k) (aRul s k 0) (aRul s k 1)
/-- the words' numbers for the rule k at a cell -/
noncomputable def wEnv (s : aS) (k r c : Int) (i : Nat) : Int :=
  if i = 0 then aVal s r c else if i = 1 then r else if i = 2 then c else if i = 3 then (if 0 < c then aVal s r (c - 1) else 0) else if i = 4 then (if 0 < r then aVal s (r - 1) c else 0) else if i = 5 then ruSum s k else if i = 6 then ruMax s k else if i = 7 then ruMin s k else if i = 8 then nLike s k (aVal s r c) else nMore s k (aVal s r c)
def lim (z : Int) : Option Int := if -2147483648 ≤ z ∧ z < 2147483648 then some z else none
def ev2 (f : Int → Int → Int) (x y : Option Int) : Option Int := x.bind (fun a => y.bind (fun b => lim (f a b)))
noncomputable def ev (e : Nat → Int) : Term → Option Int
  | .arg n => some (n : Int)
  | .index k => some (e k)
  | .length a => (ev e a).bind (fun x => lim (-x))
  | .old a => (ev e a).bind (fun x => lim (1 - x))
  | .add a b => ev2 (fun x y => x + y) (ev e a) (ev e b)
  | .sub a b => ev2 (fun x y => x - y) (ev e a) (ev e b)
  | .mul a b => ev2 (fun x y => x * y) (ev e a) (ev e b)
  | .div a b => ev2 (fun x y => bI (x < y)) (ev e a) (ev e b)
  | .rem a b => ev2 (fun x y => bI (x = y)) (ev e a) (ev e b)
  | .elem a b => ev2 (fun x y => bI (y < x)) (ev e a) (ev e b)
  | .op2 o a b => (ev e a).bind (fun x => if (x ≠ 0) = (o = .ior) then some x else ev e b)
  | _ => none
/-- whether the rule k holds at a cell -/
def isSoA (s : aS) (k r c : Int) : Prop := ∃ v, ev (wEnv s k r c) (aCod s k) = some v ∧ v ≠ 0
theorem mxN_le {f : Int → Int} {B : Int} : ∀ (m : Nat) (i a : Int), (∀ j : Int, i ≤ j → j < i + m → -B ≤ f j ∧ f j ≤ B) → -B ≤ a ∧ a ≤ B → -B ≤ mxN f m i a ∧ mxN f m i a ≤ B := by
  intro m
  induction m with
  | zero => intro i a _ h; exact h
  | succ m ih =>
    intro i a hf h
    have h0 := hf i (Int.le_refl _) (by omega)
    exact ih (i + 1) _ (fun j j0 j1 => hf j (by omega) (by omega)) (by unfold mMax; split <;> omega)
theorem mnN_le {f : Int → Int} {B : Int} : ∀ (m : Nat) (i a : Int), (∀ j : Int, i ≤ j → j < i + m → -B ≤ f j ∧ f j ≤ B) → -B ≤ a ∧ a ≤ B → -B ≤ mnN f m i a ∧ mnN f m i a ≤ B := by
  intro m
  induction m with
  | zero => intro i a _ h; exact h
  | succ m ih =>
    intro i a hf h
    have h0 := hf i (Int.le_refl _) (by omega)
    exact ih (i + 1) _ (fun j j0 j1 => hf j (by omega) (by omega)) (by unfold mMin; split <;> omega)
theorem mx2_le {f : Int → Int → Int} {B : Int} {b : Nat} {l : Int} : ∀ (m : Nat) (i a : Int), (∀ r c : Int, i ≤ r → r < i + m → l ≤ c → c < l + b → -B ≤ f r c ∧ f r c ≤ B) → -B ≤ a ∧ a ≤ B → -B ≤ mx2 f b l m i a ∧ mx2 f b l m i a ≤ B := by
  intro m
  induction m with
  | zero => intro i a _ h; exact h
  | succ m ih =>
    intro i a hf h
    exact ih (i + 1) _ (fun r c r0 r1 c0 c1 => hf r c (by omega) (by omega) c0 c1) (mxN_le b l a (fun c c0 c1 => hf i c (Int.le_refl _) (by omega) c0 c1) h)
theorem mn2_le {f : Int → Int → Int} {B : Int} {b : Nat} {l : Int} : ∀ (m : Nat) (i a : Int), (∀ r c : Int, i ≤ r → r < i + m → l ≤ c → c < l + b → -B ≤ f r c ∧ f r c ≤ B) → -B ≤ a ∧ a ≤ B → -B ≤ mn2 f b l m i a ∧ mn2 f b l m i a ≤ B := by
  intro m
  induction m with
  | zero => intro i a _ h; exact h
  | succ m ih =>
    intro i a hf h
    exact ih (i + 1) _ (fun r c r0 r1 c0 c1 => hf r c (by omega) (by omega) c0 c1) (mnN_le b l a (fun c c0 c1 => hf i c (Int.le_refl _) (by omega) c0 c1) h)
/-- where a sheet that is looked at may lie -/
def sOk (S : Int) : Prop := (4 ≤ S ∧ S + 13 ≤ 420) ∨ S = 470
/-- only the probe has changed -/
def PO (h h' : mm_H) : Prop := (∀ b : Int, b ≠ 436 → b ≠ 437 → h' b = h b) ∧ h' 436 0 = h 436 0
theorem PO_rf (h : mm_H) : PO h h := ⟨fun _ _ _ => rfl, rfl⟩
theorem PO_tr {a b c : mm_H} (x : PO a b) (y : PO b c) : PO a c := ⟨fun q h1 h2 => (y.1 q h1 h2).trans (x.1 q h1 h2), y.2.trans x.2⟩
theorem PO_up {h : mm_H} {i z : Int} (hi : i ≠ 0) : PO h (mUp h 436 i z) := ⟨fun b b1 _ => mUp_row b1, mUp_n (Or.inr (Ne.symm hi))⟩
theorem PO_st {h : mm_H} {i z : Int} : PO h (mUp h 437 i z) := ⟨fun b _ b2 => mUp_row b2, mUp_n (Or.inl (by decide))⟩
def PW (w : mm_W) : Prop := w.1 436 = (5, 11) ∧ w.1 437 = (50, 200)
section PU
variable {d : Nat} {w : mm_W} {h : mm_H} {s : aS} {S k : Int}
theorem RC_PO {h' : mm_H} (hS : sOk S) (hI : aI s) (hR : RC w h S s) (o : PO h h') : RC w h' S s := RC_fr hR hI ⟨Int.le_refl _, fun a a0 _ => ⟨rfl, o.1 a (by omega) (by omega)⟩⟩ (fun b b0 b1 => o.1 b (by unfold sOk at hS; omega) (by unfold sOk at hS; omega))
/-- the rule's own object -/
theorem rul_f (hS : sOk S) (hW : ShW w S) (hI : aI s) (hR : RC w h S s) (hk : 0 ≤ k ∧ k < aN s) {o : Int} (ho : h (S + 5) k = o) : (w.1 o).1 = 7 ∧ 0 < o ∧ (o ≠ 436 ∧ o ≠ 437) ∧ h o 0 = aRul s k 0 ∧ h o 1 = aRul s k 1 ∧ h o 2 = aRul s k 2 ∧ h o 3 = aRul s k 3 := by
  have hn := hI.2.2.1
  have q := Sh_rul hW hR.1 hk.1 (show k < 6 by omega)
  have r := hR.1.2.2.2.2.2.2.1 k hk.1 (by omega)
  have v := (hR.2.2.2.2.2.2.2 k hk.1 hk.2).1
  rw [ho] at q r v
  exact ⟨by rw [q.1], q.2, by unfold sOk at hS; omega, v 0 (by decide) (by decide), v 1 (by decide) (by decide), v 2 (by decide) (by decide), v 3 (by decide) (by decide)⟩
theorem rul_b (hI : aI s) (hk : 0 ≤ k ∧ k < aN s) : (0 ≤ aRul s k 0 ∧ aRul s k 0 ≤ aRul s k 2 ∧ aRul s k 2 < aHi s) ∧ (0 ≤ aRul s k 1 ∧ aRul s k 1 ≤ aRul s k 3 ∧ aRul s k 3 < aWi s) ∧ aHi s ≤ 16 ∧ aWi s ≤ 16 := by
  have h9 := hI.2.2.2.2.2.2.2.2 k hk.1 hk.2
  exact ⟨h9.1, h9.2.1, hI.1.2, hI.2.1.2⟩
theorem E_valS (hd : 1 ≤ d) (hW : ShW w S) (hI : aI s) (hR : RC w h S s) {r c : Int} (hr : 0 ≤ r ∧ r < aHi s) (hc : 0 ≤ c ∧ c < aWi s) : mm_P d 93 [(2, S), (0, r), (0, c)] w h = some ((0, aVal s r c), w, h) := by
  have h1 := hI.1; have h2 := hI.2.1
  rw [E_valueOf hd hW hR.1.1 hr.1 (by omega) hc.1 (by omega), hR.2.2.1 r c hr.1 hr.2 hc.1 hc.2]
theorem L_aim1 (hd : 1 ≤ d) (hP : PW w) (hS : sOk S) (hW : ShW w S) (hI : aI s) (hk : 0 ≤ k ∧ k < aN s) {o r : Int} (hr : 0 ≤ r ∧ r < aHi s) : ∀ (m : Nat) (c : Int) (h : mm_H), RC w h S s → h (S + 5) k = o → aRul s k 1 ≤ c → c + m = aRul s k 3 + 1 → (-900000 + 1000 * m ≤ h 436 2 ∧ h 436 2 ≤ 900000 - 1000 * m) → ∃ h', l_Pr_aim_1 (mm_P d) 436 S o r c w h = some (.inr (99, [(2, 436), (2, S), (2, o), (0, r), (0, aRul s k 3 + 1), (9, 0)], w, h')) ∧ PO h h' ∧ h' 436 2 = h 436 2 + sumN (fun j => aVal s r j) m c ∧ h' 436 3 = mxN (fun j => aVal s r j) m c (h 436 3) ∧ h' 436 4 = mnN (fun j => aVal s r j) m c (h 436 4) := by
  have w436 : (w.1 436).1 = 5 := by rw [hP.1]
  have wS : (w.1 S).1 = 9 := by rw [hW.2.1]
  have hb := rul_b hI hk
  intro m
  induction m with
  | zero =>
    intro c h hR ho a1 a2 a3
    obtain ⟨o1, o2, o3, v0, v1, v2, v3⟩ := rul_f hS hW hI hR hk ho
    rw [l_Pr_aim_1_eq, mF_t o1, v3, mLt_t (by omega), show c = aRul s k 3 + 1 by omega]
    exact ⟨h, rfl, PO_rf h, by unfold sumN; omega, rfl, rfl⟩
  | succ m ih =>
    intro c h hR ho a1 a2 a3
    obtain ⟨o1, o2, o3, v0, v1, v2, v3⟩ := rul_f hS hW hI hR hk ho
    have hv := hI.2.2.2.1 r c hr.1 hr.2 (by omega) (by omega)
    rw [l_Pr_aim_1_eq, mF_t o1, v3, mLt_f (by omega), mF_t wS, E_valS hd hW hI hR hr (by omega), mC_s, mF_t w436, mF_t w436]
    try dsimp only
    simp only [mF_t w436]
    rw [mI_id (x := h 436 2 + aVal s r c) (by omega) (by omega), mI_id (x := c + 1) (by omega) (by omega)]
    generalize hg : mUp (mUp (mUp h 436 2 (h 436 2 + aVal s r c)) 436 3 (mMax (mUp h 436 2 (h 436 2 + aVal s r c) 436 3) (aVal s r c))) 436 4 (mMin (mUp (mUp h 436 2 (h 436 2 + aVal s r c)) 436 3 (mMax (mUp h 436 2 (h 436 2 + aVal s r c) 436 3) (aVal s r c)) 436 4) (aVal s r c)) = h1
    have o : PO h h1 := by rw [← hg]; exact PO_tr (PO_tr (PO_up (by decide)) (PO_up (by decide))) (PO_up (by decide))
    have z2 : h1 436 2 = h 436 2 + aVal s r c := by rw [← hg]; simp [mUp]
    have z3 : h1 436 3 = mMax (h 436 3) (aVal s r c) := by rw [← hg]; simp [mUp]
    have z4 : h1 436 4 = mMin (h 436 4) (aVal s r c) := by rw [← hg]; simp [mUp]
    obtain ⟨h', g1, g2, g3, g4, g5⟩ := ih (c + 1) h1 (RC_PO hS hI hR o) (by rw [o.1 _ (by unfold sOk at hS; omega) (by unfold sOk at hS; omega)]; exact ho) (by omega) (by omega) (by omega)
    refine ⟨h', g1, PO_tr o g2, ?_, ?_, ?_⟩
    · rw [g3, z2]
      show _ = h 436 2 + (aVal s r c + sumN (fun j => aVal s r j) m (c + 1))
      omega
    · rw [g4, z3]; rfl
    · rw [g5, z4]; rfl
theorem L_aim0 (hd : 1 ≤ d) (hP : PW w) (hS : sOk S) (hW : ShW w S) (hI : aI s) (hk : 0 ≤ k ∧ k < aN s) {o : Int} : ∀ (m : Nat) (r : Int) (h : mm_H), RC w h S s → h (S + 5) k = o → aRul s k 0 ≤ r → r + m = aRul s k 2 + 1 → (-300000 + 16000 * m ≤ h 436 2 ∧ h 436 2 ≤ 300000 - 16000 * m) → ∃ h', l_Pr_aim_0 (mm_P d) 436 S o r w h = some (.inr (105, [(2, 436), (2, S), (2, o), (0, aRul s k 2 + 1), (9, 0), (9, 0)], w, h')) ∧ PO h h' ∧ h' 436 2 = h 436 2 + sumN (fun r => sumN (fun j => aVal s r j) (rW s k) (aRul s k 1)) m r ∧ h' 436 3 = mx2 (aVal s) (rW s k) (aRul s k 1) m r (h 436 3) ∧ h' 436 4 = mn2 (aVal s) (rW s k) (aRul s k 1) m r (h 436 4) := by
  have w436 : (w.1 436).1 = 5 := by rw [hP.1]
  have hb := rul_b hI hk
  intro m
  induction m with
  | zero =>
    intro r h hR ho a1 a2 a3
    obtain ⟨o1, o2, o3, v0, v1, v2, v3⟩ := rul_f hS hW hI hR hk ho
    rw [l_Pr_aim_0_eq, mF_t o1, v2, mLt_t (by omega), show r = aRul s k 2 + 1 by omega]
    exact ⟨h, rfl, PO_rf h, by unfold sumN; omega, rfl, rfl⟩
  | succ m ih =>
    intro r h hR ho a1 a2 a3
    obtain ⟨o1, o2, o3, v0, v1, v2, v3⟩ := rul_f hS hW hI hR hk ho
    have hw16 : rW s k ≤ 16 := by unfold rW; omega
    have hwb : aRul s k 1 + (rW s k : Int) = aRul s k 3 + 1 := by unfold rW; omega
    obtain ⟨h1, b1, b2, b3, b4, b5⟩ := L_aim1 (d := d) hd hP hS hW hI hk (r := r) (by omega) (rW s k) (aRul s k 1) h hR ho (Int.le_refl _) hwb (by omega)
    have hs := sumN_le (f := fun j => aVal s r j) (a := -999) (b := 999) (rW s k) (aRul s k 1) (fun j j0 j1 => hI.2.2.2.1 r j (by omega) (by omega) (by omega) (by omega))
    rw [l_Pr_aim_0_eq, mF_t o1, v2, mLt_f (by omega), mF_t o1, v1]
    try dsimp only
    rw [b1, mK_r, if_pos rfl]
    simp only [mP_0, mP_1, mP_2, mP_3]
    rw [mI_id (x := r + 1) (by omega) (by omega)]
    obtain ⟨h', g1, g2, g3, g4, g5⟩ := ih (r + 1) h1 (RC_PO hS hI hR b2) (by rw [b2.1 _ (by unfold sOk at hS; omega) (by unfold sOk at hS; omega)]; exact ho) (by omega) (by omega) (by omega)
    refine ⟨h', g1, PO_tr b2 g2, ?_, ?_, ?_⟩
    · rw [g3, b3]
      show _ = h 436 2 + (sumN (fun j => aVal s r j) (rW s k) (aRul s k 1) + sumN (fun r => sumN (fun j => aVal s r j) (rW s k) (aRul s k 1)) m (r + 1))
      omega
    · rw [g4, b4]; rfl
    · rw [g5, b5]; rfl
/-- what is the same for all cells of the rule -/
def aimed (h : mm_H) (s : aS) (k : Int) : Prop := h 436 2 = ruSum s k ∧ h 436 3 = ruMax s k ∧ h 436 4 = ruMin s k
theorem E_aim (hd : 2 ≤ d) (hP : PW w) (hS : sOk S) (hW : ShW w S) (hI : aI s) (hR : RC w h S s) (hk : 0 ≤ k ∧ k < aN s) : ∃ h', mm_P d 53 [(2, 436), (2, S), (2, h (S + 5) k)] w h = some ((9, 0), w, h') ∧ PO h h' ∧ aimed h' s k := by
  obtain ⟨d, rfl, hd2⟩ := mm_dS hd; clear hd; have hd := hd2; clear hd2
  have w436 : (w.1 436).1 = 5 := by rw [hP.1]
  have hb := rul_b hI hk
  generalize ho : h (S + 5) k = o
  obtain ⟨o1, o2, o3, v0, v1, v2, v3⟩ := rul_f hS hW hI hR hk ho
  rw [P_Pr_aim]
  simp only [mF_t w436, mF_t o1]
  generalize hg : mUp (mUp (mUp h 436 2 0) 436 3 (-999)) 436 4 999 = h1
  have oo : PO h h1 := by rw [← hg]; exact PO_tr (PO_tr (PO_up (by decide)) (PO_up (by decide))) (PO_up (by decide))
  have z2 : h1 436 2 = 0 := by rw [← hg]; simp [mUp]
  have z3 : h1 436 3 = -999 := by rw [← hg]; simp [mUp]
  have z4 : h1 436 4 = 999 := by rw [← hg]; simp [mUp]
  have hR1 := RC_PO hS hI hR oo
  have ho1 : h1 (S + 5) k = o := by rw [oo.1 _ (by unfold sOk at hS; omega) (by unfold sOk at hS; omega)]; exact ho
  obtain ⟨_, _, _, v0', _⟩ := rul_f hS hW hI hR1 hk ho1
  have hh : aRul s k 0 + (rH s k : Int) = aRul s k 2 + 1 := by unfold rH; omega
  have hh16 : rH s k ≤ 16 := by unfold rH; omega
  obtain ⟨h', g1, g2, g3, g4, g5⟩ := L_aim0 (d := d) (by omega) hP hS hW hI hk (o := o) (rH s k) (aRul s k 0) h1 hR1 ho1 (Int.le_refl _) hh (by omega)
  rw [v0', g1, mK_r, if_pos rfl]
  refine ⟨h', rfl, PO_tr oo g2, ?_, ?_, ?_⟩
  · rw [g3, z2, Int.zero_add]; rfl
  · rw [g4, z3]; rfl
  · rw [g5, z4]; rfl
end PU
