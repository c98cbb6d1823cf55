/-! PURE: what a sheet is; conditions; how class and reference keep them. -/
/-- (high, wide, rules), values, CELL's, lines (0 rows, 1 columns), grounds, rules' numbers (top, left, bottom, right, property, number, stops), their conditions -/
abbrev aS : Type := (Int × Int × Int) × (Int → Int → Int) × (Int → Int → Int → Int) × (Int → Int → Int → Int) × (Int → Int) × (Int → Int → Int) × (Int → Term)
abbrev aHi (s : aS) : Int := s.1.1
abbrev aWi (s : aS) : Int := s.1.2.1
abbrev aN (s : aS) : Int := s.1.2.2
abbrev aVal (s : aS) : Int → Int → Int := s.2.1
abbrev aCel (s : aS) : Int → Int → Int → Int := s.2.2.1
abbrev aLin (s : aS) : Int → Int → Int → Int := s.2.2.2.1
abbrev aGro (s : aS) : Int → Int := s.2.2.2.2.1
abbrev aRul (s : aS) : Int → Int → Int := s.2.2.2.2.2.1
abbrev aCod (s : aS) : Int → Term := s.2.2.2.2.2.2
/-! conditions: a number is .arg, a word .index, - .length, not .old, < .div, = .rem, > .elem, or .op2 .ior, and .op2 .iand -/
def lenC : Term → Nat
  | .arg _ => 2
  | .index k => if k < 8 then 2 else 1
  | .length a => lenC a + 1
  | .old a => lenC a + 1
  | .add a b => lenC a + lenC b + 1
  | .sub a b => lenC a + lenC b + 1
  | .mul a b => lenC a + lenC b + 1
  | .div a b => lenC a + lenC b + 1
  | .rem a b => lenC a + lenC b + 1
  | .elem a b => lenC a + lenC b + 1
  | .op2 _ a b => lenC a + lenC b + 2
  | _ => 0
def lenM : Term → Nat
  | .arg _ => 2
  | .index _ => 2
  | .length a => lenM a + 1
  | .old a => lenM a + 1
  | .add a b => lenM a + lenM b + 1
  | .sub a b => lenM a + lenM b + 1
  | .mul a b => lenM a + lenM b + 1
  | .div a b => lenM a + lenM b + 1
  | .rem a b => lenM a + lenM b + 1
  | .elem a b => lenM a + lenM b + 1
  | .op2 _ a b => lenM a + lenM b + 2
  | _ => 0
/-- the class's code at the place p -/
def compC : Term → Nat → List Int
  | .arg n, _ => [1, (n : Int)]
  | .index k, _ => if k < 8 then [2, (k : Int)] else if k = 8 then [3] else [4]
  | .length a, p => compC a p ++ [5]
  | .old a, p => compC a p ++ [6]
  | .add a b, p => compC a p ++ (compC b (p + lenC a) ++ [43])
  | .sub a b, p => compC a p ++ (compC b (p + lenC a) ++ [45])
  | .mul a b, p => compC a p ++ (compC b (p + lenC a) ++ [42])
  | .div a b, p => compC a p ++ (compC b (p + lenC a) ++ [60])
  | .rem a b, p => compC a p ++ (compC b (p + lenC a) ++ [61])
  | .elem a b, p => compC a p ++ (compC b (p + lenC a) ++ [62])
  | .op2 o a b, p => compC a p ++ ((if o = .ior then 7 else 8) :: ((p + lenC a + 2 + lenC b : Nat) : Int) :: compC b (p + lenC a + 2))
  | _, _ => []
/-- the reference's -/
def compM : Term → Nat → List Int
  | .arg n, _ => [1, (n : Int)]
  | .index k, _ => [2, (k : Int)]
  | .length a, p => compM a p ++ [6]
  | .old a, p => compM a p ++ [10]
  | .add a b, p => compM a p ++ (compM b (p + lenM a) ++ [3])
  | .sub a b, p => compM a p ++ (compM b (p + lenM a) ++ [4])
  | .mul a b, p => compM a p ++ (compM b (p + lenM a) ++ [5])
  | .div a b, p => compM a p ++ (compM b (p + lenM a) ++ [7])
  | .rem a b, p => compM a p ++ (compM b (p + lenM a) ++ [8])
  | .elem a b, p => compM a p ++ (compM b (p + lenM a) ++ [9])
  | .op2 o a b, p => compM a p ++ ((if o = .ior then 11 else 12) :: ((p + lenM a + 2 + lenM b : Nat) : Int) :: compM b (p + lenM a + 2))
  | _, _ => []
/-- leaves, at most so many are stacked -/
def lvs : Term → Nat
  | .arg _ => 1
  | .index _ => 1
  | .length a => lvs a
  | .old a => lvs a
  | .add a b => lvs a + lvs b
  | .sub a b => lvs a + lvs b
  | .mul a b => lvs a + lvs b
  | .div a b => lvs a + lvs b
  | .rem a b => lvs a + lvs b
  | .elem a b => lvs a + lvs b
  | .op2 _ a b => lvs a + lvs b
  | _ => 0
/-- a number's term (true), or a condition's (false) -/
def wfT : Bool → Term → Prop
  | true, .arg n => n ≤ 9999
  | true, .index k => k ≤ 9
  | true, .length a => wfT true a
  | true, .add a b => wfT true a ∧ wfT true b
  | true, .sub a b => wfT true a ∧ wfT true b
  | true, .mul a b => wfT true a ∧ wfT true b
  | false, .old a => wfT false a
  | false, .div a b => wfT true a ∧ wfT true b
  | false, .rem a b => wfT true a ∧ wfT true b
  | false, .elem a b => wfT true a ∧ wfT true b
  | false, .op2 o a b => (o = .ior ∨ o = .iand) ∧ wfT false a ∧ wfT false b
  | _, _ => False
theorem compC_len : ∀ (T : Term) (p : Nat), (compC T p).length = lenC T := by
  intro T
  induction T <;> intro p <;> simp_all [compC, lenC] <;> first | omega | (split <;> first | rfl | (split <;> rfl)) | skip
theorem compM_len : ∀ (T : Term) (p : Nat), (compM T p).length = lenM T := by
  intro T
  induction T <;> intro p <;> simp_all [compM, lenM] <;> omega
/-- a rule's condition: small enough -/
def okT (T : Term) : Prop := wfT false T ∧ lenM T ≤ 400 ∧ lvs T ≤ 200
/-- a code row of the class, made by its reader -/
def CC (w : mm_W) (h : mm_H) (a : Int) (T : Term) : Prop := 506 ≤ a ∧ a < w.2.1 ∧ w.1 a = (50, ((lenC T : Nat) : Int)) ∧ ∀ i : Nat, i < lenC T → h a (i : Int) = (compC T 0).getD i 0
/-- what is true of every sheet -/
def aI (s : aS) : Prop := (1 ≤ aHi s ∧ aHi s ≤ 16) ∧ (1 ≤ aWi s ∧ aWi s ≤ 16) ∧ (0 ≤ aN s ∧ aN s ≤ 6) ∧
  (∀ r c : Int, 0 ≤ r → r < aHi s → 0 ≤ c → c < aWi s → -999 ≤ aVal s r c ∧ aVal s r c ≤ 999) ∧
  (∀ p r c : Int, 0 ≤ p → p < 4 → 0 ≤ r → r < aHi s → 0 ≤ c → c < aWi s → -1 ≤ aCel s p r c ∧ aCel s p r c ≤ 9) ∧
  (∀ p i : Int, 0 ≤ p → p < 4 → 0 ≤ i → i < aHi s → -1 ≤ aLin s 0 p i ∧ aLin s 0 p i ≤ 9) ∧
  (∀ p i : Int, 0 ≤ p → p < 4 → 0 ≤ i → i < aWi s → -1 ≤ aLin s 1 p i ∧ aLin s 1 p i ≤ 9) ∧
  (∀ p : Int, 0 ≤ p → p < 4 → 0 ≤ aGro s p ∧ aGro s p ≤ 9) ∧
  ∀ k : Int, 0 ≤ k → k < aN s → (0 ≤ aRul s k 0 ∧ aRul s k 0 ≤ aRul s k 2 ∧ aRul s k 2 < aHi s) ∧ (0 ≤ aRul s k 1 ∧ aRul s k 1 ≤ aRul s k 3 ∧ aRul s k 3 < aWi s) ∧ (0 ≤ aRul s k 4 ∧ aRul s k 4 < 4) ∧ (0 ≤ aRul s k 5 ∧ aRul s k 5 ≤ 9) ∧ (aRul s k 6 = 0 ∨ aRul s k 6 = 1) ∧ okT (aCod s k)
/-- the class's sheet at S is the sheet s -/
def RC (w : mm_W) (h : mm_H) (S : Int) (s : aS) : Prop := ShH h S ∧ (h S 0 = aHi s ∧ h S 1 = aWi s ∧ h S 2 = aN s) ∧
  (∀ r c : Int, 0 ≤ r → r < aHi s → 0 ≤ c → c < aWi s → h (S + 1) (16 * r + c) = aVal s r c) ∧
  (∀ p r c : Int, 0 ≤ p → p < 4 → 0 ≤ r → r < aHi s → 0 ≤ c → c < aWi s → h (S + 2) (256 * p + 16 * r + c) = aCel s p r c) ∧
  (∀ p i : Int, 0 ≤ p → p < 4 → 0 ≤ i → i < aHi s → h (S + 3) (16 * p + i) = aLin s 0 p i) ∧
  (∀ p i : Int, 0 ≤ p → p < 4 → 0 ≤ i → i < aWi s → h (S + 3) (64 + 16 * p + i) = aLin s 1 p i) ∧
  (∀ p : Int, 0 ≤ p → p < 4 → h (S + 4) p = aGro s p) ∧
  ∀ k : Int, 0 ≤ k → k < aN s → (∀ f : Int, 0 ≤ f → f < 7 → h (h (S + 5) k) f = aRul s k f) ∧ CC w h (h (h (S + 5) k) 7) (aCod s k)
/-- the reference's row is the sheet s -/
def RM (row : Int → Int) (s : aS) : Prop := (row 0 = aHi s ∧ row 1 = aWi s ∧ row 2 = aN s) ∧
  (∀ r c : Int, 0 ≤ r → r < aHi s → 0 ≤ c → c < aWi s → row (135 + 16 * r + c) = aVal s r c) ∧
  (∀ p r c : Int, 0 ≤ p → p < 4 → 0 ≤ r → r < aHi s → 0 ≤ c → c < aWi s → row (391 + 256 * p + 16 * r + c) = aCel s p r c) ∧
  (∀ p i : Int, 0 ≤ p → p < 4 → 0 ≤ i → i < aHi s → row (7 + 16 * p + i) = aLin s 0 p i) ∧
  (∀ p i : Int, 0 ≤ p → p < 4 → 0 ≤ i → i < aWi s → row (71 + 16 * p + i) = aLin s 1 p i) ∧
  (∀ p : Int, 0 ≤ p → p < 4 → row (3 + p) = aGro s p) ∧
  ∀ k : Int, 0 ≤ k → k < aN s → (∀ f : Int, 0 ≤ f → f < 7 → row (1415 + 408 * k + f) = aRul s k f) ∧ row (1415 + 408 * k + 7) = ((lenM (aCod s k) : Nat) : Int) ∧ ∀ i : Nat, i < lenM (aCod s k) → row (1415 + 408 * k + 8 + (i : Int)) = (compM (aCod s k) 0).getD i 0
theorem ShH_fr {h h' : mm_H} {S : Int} (hH : ShH h S) (h1 : ∀ i : Int, 3 ≤ i → i ≤ 8 → h' S i = h S i) (h2 : h' (S + 5) = h (S + 5)) : ShH h' S := by
  obtain ⟨a1, a2, a3, a4, a5, a6, a7, a8⟩ := hH
  refine ⟨by rw [h1 3 (by omega) (by omega)]; exact a1, by rw [h1 4 (by omega) (by omega)]; exact a2, by rw [h1 5 (by omega) (by omega)]; exact a3, by rw [h1 6 (by omega) (by omega)]; exact a4, by rw [h1 7 (by omega) (by omega)]; exact a5, by rw [h1 8 (by omega) (by omega)]; exact a6, ?_, ?_⟩
  · rw [h2]; exact a7
  · rw [h2]; exact a8
/-- code rows stay -/
def CS (w w' : mm_W) (h h' : mm_H) : Prop := w.2.1 ≤ w'.2.1 ∧ ∀ a : Int, 506 ≤ a → a < w.2.1 → w'.1 a = w.1 a ∧ h' a = h a
theorem CS_rf (w : mm_W) (h : mm_H) : CS w w h h := ⟨Int.le_refl _, fun _ _ _ => ⟨rfl, rfl⟩⟩
theorem CS_tr {w1 w2 w3 : mm_W} {h1 h2 h3 : mm_H} (a : CS w1 w2 h1 h2) (b : CS w2 w3 h2 h3) : CS w1 w3 h1 h3 :=
  ⟨Int.le_trans a.1 b.1, fun x hx hy => ⟨((b.2 x hx (Int.lt_of_lt_of_le hy a.1)).1).trans (a.2 x hx hy).1, ((b.2 x hx (Int.lt_of_lt_of_le hy a.1)).2).trans (a.2 x hx hy).2⟩⟩
theorem CC_fr {w w' : mm_W} {h h' : mm_H} {a : Int} {T : Term} (hc : CC w h a T) (hs : CS w w' h h') : CC w' h' a T := by
  obtain ⟨c1, c2, c3, c4⟩ := hc
  obtain ⟨e1, e2⟩ := hs.2 a c1 c2
  exact ⟨c1, Int.lt_of_lt_of_le c2 hs.1, by rw [e1]; exact c3, by rw [e2]; exact c4⟩
theorem RC_fr {w w' : mm_W} {h h' : mm_H} {S : Int} {s : aS} (hR : RC w h S s) (hI : aI s) (hs : CS w w' h h') (hb : ∀ b : Int, S ≤ b → b < S + 13 → h' b = h b) : RC w' h' S s := by
  obtain ⟨r1, r2, r3, r4, r5, r6, r7, r8⟩ := hR
  have e0 := hb S (by omega) (by omega)
  have e1 := hb (S + 1) (by omega) (by omega)
  have e2 := hb (S + 2) (by omega) (by omega)
  have e3 := hb (S + 3) (by omega) (by omega)
  have e4 := hb (S + 4) (by omega) (by omega)
  have e5 := hb (S + 5) (by omega) (by omega)
  refine ⟨ShH_fr r1 (fun i _ _ => by rw [e0]) e5, by rw [e0]; exact r2, by rw [e1]; exact r3, by rw [e2]; exact r4, by rw [e3]; exact r5, by rw [e3]; exact r6, by rw [e4]; exact r7, fun k h0 h1 => ?_⟩
  have hn := hI.2.2.1
  have ha := r1.2.2.2.2.2.2.1 k h0 (by omega)
  have e6 := hb (h (S + 5) k) (by omega) (by omega)
  rw [e5, e6]
  exact ⟨(r8 k h0 h1).1, CC_fr (r8 k h0 h1).2 hs⟩
