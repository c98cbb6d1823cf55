/-! PURE: the start of the law; the claim's tail. -/
theorem i32_toInt (x : Int32) : i32 x.toInt := ⟨x.le_toInt, x.toInt_lt⟩
theorem Str0 {L : Nat} {scr : Nat → Int32} (hL : L ≤ 3072) (i : Nat) (hi : i < 12) (cs : List Int) (h1 : (mm_nth 0 i mm_sl : Nat) = cs.length) (h2 : (mm_nth [] i mm_sb).map Int32.toInt = cs) (h3 : ∀ c ∈ cs, 0 ≤ c ∧ c < 128) (h4 : cs.length < 1000) : StrAt (mm_w0 L) (mm_h0 scr) (-(10 + 2 * (i : Int))) cs := by
  obtain ⟨n1, n2, n3, n4, n5⟩ := (mm_neg0 (scr := scr) hL).2.2.2.1 i hi
  have e : -(10 + 2 * (i : Int)) - 1 = -(11 + 2 * (i : Int)) := by omega
  refine ⟨n1, by rw [n2, e], n3, by rw [e, n4, h1], fun j hj => ?_, h3, h4⟩
  rw [e, n5 j (by omega), ← h2]
  simp only [List.getD_eq_getElem?_getD, List.getElem?_map]
  cases (mm_nth [] i mm_sb)[j]? <;> rfl
theorem SW0 {L : Nat} {scr : Nat → Int32} (hL : L ≤ 3072) : SW (mm_w0 L) (mm_h0 scr) :=
  ⟨Str0 hL 0 (by decide) _ (by decide +kernel) (by decide +kernel) (by decide +kernel) (by decide +kernel),
   Str0 hL 1 (by decide) _ (by decide +kernel) (by decide +kernel) (by decide +kernel) (by decide +kernel),
   Str0 hL 2 (by decide) _ (by decide +kernel) (by decide +kernel) (by decide +kernel) (by decide +kernel),
   Str0 hL 3 (by decide) _ (by decide +kernel) (by decide +kernel) (by decide +kernel) (by decide +kernel),
   Str0 hL 4 (by decide) _ (by decide +kernel) (by decide +kernel) (by decide +kernel) (by decide +kernel),
   Str0 hL 5 (by decide) _ (by decide +kernel) (by decide +kernel) (by decide +kernel) (by decide +kernel),
   Str0 hL 6 (by decide) _ (by decide +kernel) (by decide +kernel) (by decide +kernel) (by decide +kernel),
   Str0 hL 7 (by decide) _ (by decide +kernel) (by decide +kernel) (by decide +kernel) (by decide +kernel),
   Str0 hL 8 (by decide) _ (by decide +kernel) (by decide +kernel) (by decide +kernel) (by decide +kernel),
   Str0 hL 9 (by decide) _ (by decide +kernel) (by decide +kernel) (by decide +kernel) (by decide +kernel),
   Str0 hL 10 (by decide) _ (by decide +kernel) (by decide +kernel) (by decide +kernel) (by decide +kernel),
   Str0 hL 11 (by decide) _ (by decide +kernel) (by decide +kernel) (by decide +kernel) (by decide +kernel)⟩
theorem mm_pure : mm_PURE := fun L scr hL =>
  law_all (n := (L : Int)) (f := fun j => (scr j.toNat).toInt) ⟨by omega, by omega⟩ (fun j => i32_toInt _) rfl rfl rfl rfl (SW0 hL)
