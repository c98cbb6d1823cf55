/-! PURE: the reference works a condition out, more. -/
section PU
variable {d : Nat} {w : mm_W} {h : mm_H} {s : aS} {k r c : Int}
theorem code_1 {U : Term} {q : Nat} {R : List Int} {T : Term} {base : Int} (cT : compM T q = compM U q ++ R) (lT : lenM U ≤ lenM T) (hc : ∀ i : Nat, i < lenM T → h 484 (base + ((q + i : Nat) : Int)) = (compM T q).getD i 0) : ∀ i : Nat, i < lenM U → h 484 (base + ((q + i : Nat) : Int)) = (compM U q).getD i 0 := fun i hi => by
  rw [hc i (by omega), cT, getD_app1 _ _ (by rw [compM_len]; exact hi)]
theorem code_2 {U : Term} {q : Nat} {R : List Int} {T : Term} {base : Int} (cT : compM T q = compM U q ++ R) (hc : ∀ i : Nat, i < lenM T → h 484 (base + ((q + i : Nat) : Int)) = (compM T q).getD i 0) : ∀ i : Nat, lenM U + i < lenM T → h 484 (base + ((q + (lenM U + i) : Nat) : Int)) = R.getD i 0 := fun i hi => by
  have e := compM_len U q
  rw [hc _ hi, cT, ← e, getD_app2]
theorem EM_un (hd : 10 ≤ d) (hW : MW w) (hk : 0 ≤ k ∧ k < 6) {N : Nat} (hN : N ≤ 400) {T U : Term} {op : Int} {f : Int → Int} (hop : op = 6 ∧ (∀ x, f x = -x) ∨ op = 10 ∧ (∀ x, f x = 1 - x)) (lT : lenM T = lenM U + 1) (cT : ∀ q, compM T q = compM U q ++ [op]) (vT : lvs T = lvs U) (eT : ev (wEnv s k r c) T = (ev (wEnv s k r c) U).bind (fun x => lim (f x))) (hU : EM d w s k r c N U) (hb : ∀ v, ev (wEnv s k r c) U = some v → i32 v) (lU : 1 ≤ lvs U) : EM d w s k r c N T := by
  intro q y h hX hc hs hq hy hst
  rw [lT] at hq ⊢
  rw [vT] at hy
  have hqN : q + lenM U < N := by omega
  have hw : (w.1 483).1 = 13 := by rw [hW.1]
  obtain ⟨u1, u2⟩ := hU q y h hX (code_1 (cT q) (by omega) hc) hs (by omega) hy hst
  have cop := code_2 (cT q) hc 0 (by omega)
  rw [getD_0, Nat.add_zero] at cop
  cases hu : ev (wEnv s k r c) U with
  | none =>
    refine ⟨fun v hv => ?_, fun _ => u2 hu⟩
    rw [eT, hu] at hv; cases hv
  | some x =>
    obtain ⟨h1, x1, x2, x3, x4⟩ := u1 x hu
    have hx := hb x hu
    unfold i32 at hx
    have X1 := MX_fr hX x2
    have cop1 : h1 484 (1423 + 408 * k + ((q + lenM U : Nat) : Int)) = op := by rw [x2 484 (by decide)]; exact cop
    have hs1 : h1 484 (1422 + 408 * k) = (N : Int) := by rw [x2 484 (by decide)]; exact hs
    have opf : h1 (h1 483 0) (mI (1423 + 408 * k + ((q + lenM U : Nat) : Int))) = op := by rw [X1.1.1, mI_id (by omega) (by omega)]; exact cop1
    have h27 : mUp h1 495 (y : Int) (f x) 483 27 = 495 := by rw [mUp_n (Or.inl (by decide))]; exact MH_27 X1.1
    have e1 : mI (((y + 1 : Nat) : Int) - 1) = (y : Int) := by rw [mI_id (by omega) (by omega)]; omega
    have e2 : mI (((q + lenM U : Nat) : Int) + 1) = ((q + (lenM U + 1) : Nat) : Int) := by rw [mI_id (by omega) (by omega)]; omega
    have g : (if 1 ≤ ((y + 1 : Nat) : Int) then ((y + 1 : Nat) : Int) - 1 else 0) = (y : Int) := by rw [if_pos (by omega)]; omega
    have go : (i32 (f x) → mL d w k r c ((y + 1 : Nat) : Int) ((q + lenM U : Nat) : Int) h1 = mL d w k r c ((y + 1 : Nat) : Int) ((q + (lenM U + 1) : Nat) : Int) (mUp h1 495 (y : Int) (f x))) ∧ (¬ i32 (f x) → mL d w k r c ((y + 1 : Nat) : Int) ((q + lenM U : Nat) : Int) h1 = some (.inl ((0, 0), w, mUp h1 495 (y : Int) (f x)))) := by
      show (_ → l_M_isSo_0 (mm_P d) 483 (1415 + 408 * k) r c (1423 + 408 * k) ((y + 1 : Nat) : Int) ((q + lenM U : Nat) : Int) w h1 = _) ∧ (_ → l_M_isSo_0 (mm_P d) 483 (1415 + 408 * k) r c (1423 + 408 * k) ((y + 1 : Nat) : Int) ((q + lenM U : Nat) : Int) w h1 = _)
      rcases hop with ⟨rfl, hf⟩ | ⟨rfl, hf⟩
      · rw [I_6 _ _ _ _ _ _ _ _ _ _ opf, I_pre hW hk X1 hqN hN hs1]
        simp only [mF_t hw]
        rw [e1, e2, MH_27 X1.1, mA_t (MW_495 hW) (by omega) (by omega), mA_t (MW_495 hW) (by omega) (by omega), x3, mJ_id (by omega) (by omega), ← hf x]
        have chk := M_chk (d := d) (w := w) (by omega) hW (y := ((y + 1 : Nat) : Int)) (by omega) (h1 := mUp h1 495 (y : Int) (f x)) h27 (K := fun w h => mL d w k r c ((y + 1 : Nat) : Int) ((q + (lenM U + 1) : Nat) : Int) h)
        rw [e1, g, mUp_s] at chk
        exact chk
      · rw [I_10 _ _ _ _ _ _ _ _ _ _ opf, I_pre hW hk X1 hqN hN hs1]
        simp only [mF_t hw]
        rw [e1, e2, MH_27 X1.1, mA_t (MW_495 hW) (by omega) (by omega), mA_t (MW_495 hW) (by omega) (by omega), x3, mJ_id (by omega) (by omega), ← hf x]
        have chk := M_chk (d := d) (w := w) (by omega) hW (y := ((y + 1 : Nat) : Int)) (by omega) (h1 := mUp h1 495 (y : Int) (f x)) h27 (K := fun w h => mL d w k r c ((y + 1 : Nat) : Int) ((q + (lenM U + 1) : Nat) : Int) h)
        rw [e1, g, mUp_s] at chk
        exact chk
    have fr : ∀ b : Int, b ≠ 495 → mUp h1 495 (y : Int) (f x) b = h b := fun b hb => by rw [mUp_row hb, x2 b hb]
    refine ⟨fun v hv => ?_, fun hv => ?_⟩
    · rw [eT, hu] at hv
      have hv' : lim (f x) = some v := hv
      obtain ⟨e1, e2⟩ := lim_some.mp hv'
      exact ⟨_, by rw [x1]; exact go.1 e2, fr, by rw [mUp_s, e1], fun j hj => by rw [mUp_n (Or.inr (by omega)), x4 j hj]⟩
    · rw [eT, hu] at hv
      exact ⟨_, by rw [x1]; exact go.2 (lim_none.mp hv), fr⟩
theorem EM_bin (hd : 10 ≤ d) (hW : MW w) (hk : 0 ≤ k ∧ k < 6) {N : Nat} (hN : N ≤ 400) {T U V : Term} {op : Int} {f : Int → Int → Int} (hop : op = 3 ∨ op = 4 ∨ op = 5 ∨ op = 7 ∨ op = 8 ∨ op = 9) (hj : ∀ (x y : Int) (h : mm_H), i32 x → i32 y → mm_P d 282 [(0, op), (1, x), (1, y)] w h = some ((1, f x y), w, h)) (lT : lenM T = lenM U + lenM V + 1) (cT : ∀ q, compM T q = compM U q ++ (compM V (q + lenM U) ++ [op])) (vT : lvs T = lvs U + lvs V) (eT : ev (wEnv s k r c) T = ev2 f (ev (wEnv s k r c) U) (ev (wEnv s k r c) V)) (hU : EM d w s k r c N U) (hV : EM d w s k r c N V) (bU : ∀ v, ev (wEnv s k r c) U = some v → i32 v) (bV : ∀ v, ev (wEnv s k r c) V = some v → i32 v) (lU : 1 ≤ lvs U) (lV : 1 ≤ lvs V) : EM d w s k r c N T := by
  intro q y h hX hc hs hq hy hst
  rw [lT] at hq ⊢
  rw [vT] at hy
  have hqN : q + lenM U + lenM V < N := by omega
  have hw : (w.1 483).1 = 13 := by rw [hW.1]
  obtain ⟨u1, u2⟩ := hU q y h hX (code_1 (cT q) (by omega) hc) hs (by omega) (by omega) hst
  have c2 := code_2 (cT q) hc
  cases hu : ev (wEnv s k r c) U with
  | none =>
    refine ⟨fun v hv => ?_, fun _ => u2 hu⟩
    rw [eT, hu] at hv; cases hv
  | some x =>
    obtain ⟨h1, x1, x2, x3, x4⟩ := u1 x hu
    have hx := bU x hu
    have X1 := MX_fr hX x2
    have lV2 := compM_len V (q + lenM U)
    have cV : ∀ i : Nat, i < lenM V → h1 484 (1423 + 408 * k + ((q + lenM U + i : Nat) : Int)) = (compM V (q + lenM U)).getD i 0 := fun i hi => by
      rw [x2 484 (by decide), show q + lenM U + i = q + (lenM U + i) by omega, c2 i (by omega), getD_app1 _ _ (by omega)]
    have cop : h1 484 (1423 + 408 * k + ((q + lenM U + lenM V : Nat) : Int)) = op := by
      have := c2 (lenM V + 0) (by omega)
      rw [show lenM V + 0 = (compM V (q + lenM U)).length + 0 by omega, getD_app2, getD_0] at this
      rw [x2 484 (by decide), show q + lenM U + lenM V = q + (lenM U + ((compM V (q + lenM U)).length + 0)) by omega]
      exact this
    obtain ⟨v1, v2⟩ := hV (q + lenM U) (y + 1) h1 X1 cV (by rw [x2 484 (by decide)]; exact hs) (by omega) (by omega) (fun j j0 j1 => by
      by_cases e : j = (y : Int)
      · rw [e, x3]; exact hx
      · rw [x4 j (by omega)]; exact hst j j0 (by omega))
    cases hv0 : ev (wEnv s k r c) V with
    | none =>
      refine ⟨fun v hv => ?_, fun _ => ?_⟩
      · rw [eT, hu, hv0] at hv; cases hv
      · obtain ⟨h2, y1, y2⟩ := v2 hv0
        exact ⟨h2, by rw [x1, y1], fun b hb => by rw [y2 b hb, x2 b hb]⟩
    | some z =>
      obtain ⟨h2, y1, y2, y3, y4⟩ := v1 z hv0
      have hz := bV z hv0
      have X2 := MX_fr X1 y2
      have cop2 : h2 484 (1423 + 408 * k + ((q + lenM U + lenM V : Nat) : Int)) = op := by rw [y2 484 (by decide)]; exact cop
      have hs2 : h2 484 (1422 + 408 * k) = (N : Int) := by rw [y2 484 (by decide), x2 484 (by decide)]; exact hs
      have opf : h2 (h2 483 0) (mI (1423 + 408 * k + ((q + lenM U + lenM V : Nat) : Int))) = op := by rw [X2.1.1, mI_id (by omega) (by omega)]; exact cop2
      have vx : h2 495 (y : Int) = x := by rw [y4 _ (by omega)]; exact x3
      have h27 : mUp h2 495 (y : Int) (f x z) 483 27 = 495 := by rw [mUp_n (Or.inl (by decide))]; exact MH_27 X2.1
      have e0 : mI (((y + 1 + 1 : Nat) : Int) + (-1)) = ((y + 1 : Nat) : Int) := by rw [mI_id (by omega) (by omega)]; omega
      have e1 : mI (((y + 1 : Nat) : Int) - 1) = (y : Int) := by rw [mI_id (by omega) (by omega)]; omega
      have e2 : mI (((q + lenM U + lenM V : Nat) : Int) + 1) = ((q + (lenM U + lenM V + 1) : Nat) : Int) := by rw [mI_id (by omega) (by omega)]; omega
      have g : (if 1 ≤ ((y + 1 : Nat) : Int) then ((y + 1 : Nat) : Int) - 1 else 0) = (y : Int) := by rw [if_pos (by omega)]; omega
      have go : (i32 (f x z) → mL d w k r c ((y + 1 + 1 : Nat) : Int) ((q + lenM U + lenM V : Nat) : Int) h2 = mL d w k r c ((y + 1 : Nat) : Int) ((q + (lenM U + lenM V + 1) : Nat) : Int) (mUp h2 495 (y : Int) (f x z))) ∧ (¬ i32 (f x z) → mL d w k r c ((y + 1 + 1 : Nat) : Int) ((q + lenM U + lenM V : Nat) : Int) h2 = some (.inl ((0, 0), w, mUp h2 495 (y : Int) (f x z)))) := by
        show (_ → l_M_isSo_0 (mm_P d) 483 (1415 + 408 * k) r c (1423 + 408 * k) ((y + 1 + 1 : Nat) : Int) ((q + lenM U + lenM V : Nat) : Int) w h2 = _) ∧ (_ → l_M_isSo_0 (mm_P d) 483 (1415 + 408 * k) r c (1423 + 408 * k) ((y + 1 + 1 : Nat) : Int) ((q + lenM U + lenM V : Nat) : Int) w h2 = _)
        rcases hop with rfl | rfl | rfl | rfl | rfl | rfl
        · rw [I_3 _ _ _ _ _ _ _ _ _ _ opf, I_pre hW hk X2 hqN hN hs2]
          simp only [mF_t hw]
          rw [e0, e1, e2, MH_27 X2.1, mA_t (MW_495 hW) (by omega) (by omega), mA_t (MW_495 hW) (by omega) (by omega), vx, y3, hj x z h2 hx hz, mC_s, mA_t (MW_495 hW) (by omega) (by omega), mF_t hw]
          have chk := M_chk (d := d) (w := w) (by omega) hW (y := ((y + 1 : Nat) : Int)) (by omega) (h1 := mUp h2 495 (y : Int) (f x z)) h27 (K := fun w h => mL d w k r c ((y + 1 : Nat) : Int) ((q + (lenM U + lenM V + 1) : Nat) : Int) h)
          rw [e1, g, mUp_s] at chk
          exact chk
        · rw [I_4 _ _ _ _ _ _ _ _ _ _ opf, I_pre hW hk X2 hqN hN hs2]
          simp only [mF_t hw]
          rw [e0, e1, e2, MH_27 X2.1, mA_t (MW_495 hW) (by omega) (by omega), mA_t (MW_495 hW) (by omega) (by omega), vx, y3, hj x z h2 hx hz, mC_s, mA_t (MW_495 hW) (by omega) (by omega), mF_t hw]
          have chk := M_chk (d := d) (w := w) (by omega) hW (y := ((y + 1 : Nat) : Int)) (by omega) (h1 := mUp h2 495 (y : Int) (f x z)) h27 (K := fun w h => mL d w k r c ((y + 1 : Nat) : Int) ((q + (lenM U + lenM V + 1) : Nat) : Int) h)
          rw [e1, g, mUp_s] at chk
          exact chk
        · rw [I_5 _ _ _ _ _ _ _ _ _ _ opf, I_pre hW hk X2 hqN hN hs2]
          simp only [mF_t hw]
          rw [e0, e1, e2, MH_27 X2.1, mA_t (MW_495 hW) (by omega) (by omega), mA_t (MW_495 hW) (by omega) (by omega), vx, y3, hj x z h2 hx hz, mC_s, mA_t (MW_495 hW) (by omega) (by omega), mF_t hw]
          have chk := M_chk (d := d) (w := w) (by omega) hW (y := ((y + 1 : Nat) : Int)) (by omega) (h1 := mUp h2 495 (y : Int) (f x z)) h27 (K := fun w h => mL d w k r c ((y + 1 : Nat) : Int) ((q + (lenM U + lenM V + 1) : Nat) : Int) h)
          rw [e1, g, mUp_s] at chk
          exact chk
        · rw [I_7 _ _ _ _ _ _ _ _ _ _ opf, I_pre hW hk X2 hqN hN hs2]
          simp only [mF_t hw]
          rw [e0, e1, e2, MH_27 X2.1, mA_t (MW_495 hW) (by omega) (by omega), mA_t (MW_495 hW) (by omega) (by omega), vx, y3, hj x z h2 hx hz, mC_s, mA_t (MW_495 hW) (by omega) (by omega), mF_t hw]
          have chk := M_chk (d := d) (w := w) (by omega) hW (y := ((y + 1 : Nat) : Int)) (by omega) (h1 := mUp h2 495 (y : Int) (f x z)) h27 (K := fun w h => mL d w k r c ((y + 1 : Nat) : Int) ((q + (lenM U + lenM V + 1) : Nat) : Int) h)
          rw [e1, g, mUp_s] at chk
          exact chk
        · rw [I_8 _ _ _ _ _ _ _ _ _ _ opf, I_pre hW hk X2 hqN hN hs2]
          simp only [mF_t hw]
          rw [e0, e1, e2, MH_27 X2.1, mA_t (MW_495 hW) (by omega) (by omega), mA_t (MW_495 hW) (by omega) (by omega), vx, y3, hj x z h2 hx hz, mC_s, mA_t (MW_495 hW) (by omega) (by omega), mF_t hw]
          have chk := M_chk (d := d) (w := w) (by omega) hW (y := ((y + 1 : Nat) : Int)) (by omega) (h1 := mUp h2 495 (y : Int) (f x z)) h27 (K := fun w h => mL d w k r c ((y + 1 : Nat) : Int) ((q + (lenM U + lenM V + 1) : Nat) : Int) h)
          rw [e1, g, mUp_s] at chk
          exact chk
        · rw [I_9 _ _ _ _ _ _ _ _ _ _ opf, I_pre hW hk X2 hqN hN hs2]
          simp only [mF_t hw]
          rw [e0, e1, e2, MH_27 X2.1, mA_t (MW_495 hW) (by omega) (by omega), mA_t (MW_495 hW) (by omega) (by omega), vx, y3, hj x z h2 hx hz, mC_s, mA_t (MW_495 hW) (by omega) (by omega), mF_t hw]
          have chk := M_chk (d := d) (w := w) (by omega) hW (y := ((y + 1 : Nat) : Int)) (by omega) (h1 := mUp h2 495 (y : Int) (f x z)) h27 (K := fun w h => mL d w k r c ((y + 1 : Nat) : Int) ((q + (lenM U + lenM V + 1) : Nat) : Int) h)
          rw [e1, g, mUp_s] at chk
          exact chk
      have fr : ∀ b : Int, b ≠ 495 → mUp h2 495 (y : Int) (f x z) b = h b := fun b hb => by rw [mUp_row hb, y2 b hb, x2 b hb]
      refine ⟨fun v hv => ?_, fun hv => ?_⟩
      · rw [eT, hu, hv0] at hv
        have hv' : lim (f x z) = some v := hv
        obtain ⟨e1, e2⟩ := lim_some.mp hv'
        exact ⟨_, by rw [x1, y1]; exact go.1 e2, fr, by rw [mUp_s, e1], fun j hj => by rw [mUp_n (Or.inr (by omega)), y4 j (by omega), x4 j hj]⟩
      · rw [eT, hu, hv0] at hv
        exact ⟨_, by rw [x1, y1]; exact go.2 (lim_none.mp hv), fr⟩
end PU
