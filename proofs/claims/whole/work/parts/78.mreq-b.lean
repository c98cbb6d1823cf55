/-! PURE: the reference's requests: copy; the others in the same form. -/
section PU
variable {d : Nat} {w : mm_W} {h : mm_H} {s : aS} {A : aG}
theorem E_M_copy (hd : 4 ≤ d) (hW : MW w) (hH : MH h) (hc : mHis h A) (hI : aI s) (hR : RM (h 484) s) (tu : Int) {n m : Int} (hn : n < 2147483648) (hm : m < 2147483648) : (¬ okCopy s n m tu ∧ ∃ h', mm_P d 250 [(2, 483), (0, n), (0, m), (0, tu)] w h = some ((0, -2), w, h') ∧ mSm h h') ∨ (okCopy s n m tu ∧ ∃ h', mm_P d 250 [(2, 483), (0, n), (0, m), (0, tu)] w h = some ((0, 1), w, h') ∧ mDone h h' A (F_copy s n m tu)) := by
  obtain ⟨d, rfl, hd2⟩ := mm_dS hd; clear hd; have hd := hd2; clear hd2
  have hw : (w.1 483).1 = 13 := by rw [hW.1]
  rw [P_M_copy, mF_t hw]
  by_cases c0 : n < 0
  · rw [E_M_takesRect_f (by omega) c0, mC_s, mEq_t rfl]
    exact Or.inl ⟨fun q => by have := q.1.1; omega, h, rfl, mSm_rf h⟩
  rw [E_M_takesRect (by omega) hW hH (by omega) hn, mC_s, hR.1.1, hR.1.2.1]
  have S1 := mSm_tk h n
  have M1 : MH (mTk h n) := mSm_MH S1 hH
  have k1 := mTk_8 h n
  by_cases c1 : isRect (aHi s) (aWi s) n
  rotate_left
  · rw [bI_f c1, mEq_t rfl]
    exact Or.inl ⟨fun q => c1 q.1, _, rfl, S1⟩
  rw [bI_t c1, mEq_f (by decide)]
  simp only [mF_t hw, k1.1, k1.2.1, k1.2.2.1, k1.2.2.2]
  generalize mTk h n = h1 at S1 M1
  have R1 : RM (h1 484) s := by rw [S1.1 484 (by decide)]; exact hR
  by_cases c2 : m < 0
  · rw [E_M_takesRect_f (by omega) c2, mC_s, mEq_t rfl]
    exact Or.inl ⟨fun q => by have := q.2.1.1; omega, h1, rfl, S1⟩
  rw [E_M_takesRect (by omega) hW M1 (by omega) hm, mC_s, R1.1.1, R1.1.2.1]
  have S2 : mSm h (mTk h1 m) := mSm_tr S1 (mSm_tk h1 m)
  have M2 : MH (mTk h1 m) := mSm_MH (mSm_tk h1 m) M1
  have k2 := mTk_8 h1 m
  by_cases c3 : isRect (aHi s) (aWi s) m
  rotate_left
  · rw [bI_f c3, mEq_t rfl]
    exact Or.inl ⟨fun q => c3 q.2.1, _, rfl, S2⟩
  rw [bI_t c3, mEq_f (by decide)]
  simp only [mF_t hw, k2.1, k2.2.1, k2.2.2.1, k2.2.2.2]
  generalize mTk h1 m = h2 at S2 M2
  have R2 : RM (h2 484) s := by rw [S2.1 484 (by decide)]; exact hR
  rcases E_M_doCopy (d := d) (by omega) hW M2 hI R2 (n / 1000000) (n / 10000 % 100) (n / 100 % 100) (n % 100) (m / 1000000) (m / 10000 % 100) (m / 100 % 100) (m % 100) tu with ⟨z, h3, a1, a2, a3⟩ | ⟨z, a1⟩
  · obtain ⟨h', g1, g2⟩ := mDone_told (d := d) (by omega) hW hc (MH_fr M2 (fun i _ => by rw [a3 483 (by decide) (by decide)])) (fun i hi => by rw [a3 483 (by decide) (by decide)]; exact S2.2 i hi) (fun b b3 b4 _ _ b9 _ => by rw [a3 b b4 b9]; exact S2.1 b b3) a2 (aI_copyC hI z) (a := 1) (by decide)
    rw [a1, mC_s, mF_t hw, g1, mC_s]
    exact Or.inr ⟨(okCopy_C (by omega) (by omega)).2 z, h', rfl, g2⟩
  · rw [a1, mC_s, mF_t hw, E_M_told0 (by omega) (by decide), mC_s]
    exact Or.inl ⟨fun q => z ((okCopy_C (by omega) (by omega)).1 q), _, rfl, S2⟩
theorem D_M_sort (hd : 4 ≤ d) (hW : MW w) (hH : MH h) (hc : mHis h A) (hI : aI s) (hR : RM (h 484) s) {n c fa : Int} (hn : n < 2147483648) (hx : okSort s n c fa → ∃ o, srt (kSort s c fa) (n / 100) (n % 100 - n / 100 + 1).toNat o) : (¬ okSort s n c fa ∧ mm_P d 247 [(2, 483), (0, n), (0, c), (0, fa)] w h = some ((0, -2), w, h)) ∨ (okSort s n c fa ∧ ∃ h', mm_P d 247 [(2, 483), (0, n), (0, c), (0, fa)] w h = some ((0, 1), w, h') ∧ mDone h h' A (F_sort s n c fa)) := by
  rcases E_M_sort hd hW hH hc hI hR hn hx with z | ⟨z, h', a1, a2, a3, a4, a5, a6⟩
  · exact Or.inl z
  · exact Or.inr ⟨z, h', a1, a2, a3, fun b b3 b4 b5 b7 b8 _ _ => a4 b b3 b4 b5 b7 b8, fun i p q r _ => a5 i p q r, a6⟩
theorem D_M_move (hd : 4 ≤ d) (hW : MW w) (hH : MH h) (hc : mHis h A) (hI : aI s) (hR : RM (h 484) s) {y n a : Int} (hn : n < 2147483648) : (¬ okMove s y n a ∧ mm_P d 248 [(2, 483), (0, y), (0, n), (0, a)] w h = some ((0, -2), w, h)) ∨ (okMove s y n a ∧ ∃ h', mm_P d 248 [(2, 483), (0, y), (0, n), (0, a)] w h = some ((0, 1), w, h') ∧ mDone h h' A (F_move s y n a)) := by
  rcases E_M_move hd hW hH hc hI hR hn with z | ⟨z, h', a1, a2, a3, a4, a5, a6⟩
  · exact Or.inl z
  · exact Or.inr ⟨z, h', a1, a2, a3, fun b b3 b4 b5 b7 b8 _ _ => a4 b b3 b4 b5 b7 b8, fun i p q r _ => a5 i p q r, a6⟩
theorem D_M_drop (hd : 4 ≤ d) (hW : MW w) (hH : MH h) (hc : mHis h A) (hI : aI s) (hR : RM (h 484) s) (r : Int) : (¬ (0 ≤ r ∧ r < aN s) ∧ mm_P d 277 [(2, 483), (0, r)] w h = some ((0, -2), w, h)) ∨ ((0 ≤ r ∧ r < aN s) ∧ ∃ h', mm_P d 277 [(2, 483), (0, r)] w h = some ((0, aN s - 1), w, h') ∧ mDone h h' A (F_drop s r)) := by
  rcases E_M_drop hd hW hH hc hI hR r with z | ⟨z, h', a1, a2, a3, a4, a5, a6⟩
  · exact Or.inl z
  · exact Or.inr ⟨z, h', a1, a2, a3, fun b b3 b4 b5 _ _ _ _ => a4 b b3 b4 b5, fun i p q r _ => a5 i p q r, a6⟩
theorem D_M_bring (hd : 3 ≤ d) (hW : MW w) (hH : MH h) (hc : mHis h A) (hI : aI s) (hR : RM (h 484) s) (f t : Int) : (¬ ((0 ≤ f ∧ f < aN s) ∧ 0 ≤ t ∧ t < aN s) ∧ mm_P d 278 [(2, 483), (0, f), (0, t)] w h = some ((0, -2), w, h)) ∨ (((0 ≤ f ∧ f < aN s) ∧ 0 ≤ t ∧ t < aN s) ∧ ∃ h', mm_P d 278 [(2, 483), (0, f), (0, t)] w h = some ((0, 1), w, h') ∧ mDone h h' A (F_carry s f t)) := by
  rcases E_M_bring hd hW hH hc hI hR f t with z | ⟨z, h', a1, a2, a3, a4, a5, a6⟩
  · exact Or.inl z
  · exact Or.inr ⟨z, h', a1, a2, a3, fun b b3 b4 b5 _ _ _ b9 => a4 b b3 b4 b5 b9, fun i p q r _ => a5 i p q r, a6⟩
end PU
