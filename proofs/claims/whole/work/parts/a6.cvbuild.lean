/-! PURE: the class builds its cover. The leaves are printed by wip/whole/gen/gena6.py. -/
def VcW (w : mm_W) : Prop := w.1 452 = (2, 11) ∧ (∀ i : Int, 0 ≤ i → i < 7 → w.1 (453 + i) = (50, 256)) ∧ w.1 460 = (50, 306)
def VcH (h : mm_H) : Prop := ∀ i : Int, 0 ≤ i → i < 8 → h 452 i = 453 + i
theorem VcH_up {h : mm_H} {b i z : Int} (hc : VcH h) (hb : b ≠ 452) : VcH (mUp h b i z) := fun j j0 j1 => by rw [mUp_row (Ne.symm hb)]; exact hc j j0 j1
theorem VcH_8 {h : mm_H} {i z : Int} (hc : VcH h) (hi : 8 ≤ i) : VcH (mUp h 452 i z) := fun j j0 j1 => by rw [mUp_n (Or.inr (by omega))]; exact hc j j0 j1
/-- only the cover has changed, and not its layer -/
def CVf (h h' : mm_H) : Prop := (∀ o : Int, (o < 452 ∨ 458 < o) → h' o = h o) ∧ ∀ i : Int, i ≠ 8 → h' 452 i = h 452 i
theorem CVf_rf (h : mm_H) : CVf h h := ⟨fun _ _ => rfl, fun _ _ => rfl⟩
theorem CVf_tr {a b c : mm_H} (x : CVf a b) (y : CVf b c) : CVf a c := ⟨fun o ho => (y.1 o ho).trans (x.1 o ho), fun i hi => (y.2 i hi).trans (x.2 i hi)⟩
theorem CVf_H {h h' : mm_H} (o : CVf h h') (hc : VcH h) : VcH h' := fun j j0 j1 => by rw [o.2 j (by omega)]; exact hc j j0 j1
/-- the layer is there -/
def LY (h : mm_H) (f : Int → Int → Int) (wi hi : Int) : Prop := (h 452 9 = hi ∧ h 452 10 = wi) ∧ ∀ r c : Int, 0 ≤ r → r < hi → 0 ≤ c → c < wi → h 459 (16 * r + c) = f r c
theorem CVf_LY {h h' : mm_H} {f : Int → Int → Int} {wi hi : Int} (o : CVf h h') (hl : LY h f wi hi) : LY h' f wi hi := ⟨⟨by rw [o.2 9 (by decide)]; exact hl.1.1, by rw [o.2 10 (by decide)]; exact hl.1.2⟩, fun r c a b x y => by rw [o.1 459 (by decide)]; exact hl.2 r c a b x y⟩
section PU
variable {d : Nat} {w : mm_W} {h : mm_H} {f : Int → Int → Int} {wi hi : Int}
theorem VcW_4 (hW : VcW w) : (w.1 452).1 = 2 := by rw [hW.1]
theorem VcW_r (hW : VcW w) {o : Int} (h0 : 453 ≤ o ∧ o < 460) : w.1 o = (50, 256) := by
  have := hW.2.1 (o - 453) (by omega) (by omega)
  rw [show 453 + (o - 453) = o by omega] at this
  exact this
theorem E_fAt (hd : 2 ≤ d) (hW : VcW w) (hc : VcH h) (hl : LY h f wi hi) (hs : hi ≤ 16 ∧ wi ≤ 16) {r c : Int} (hr : 0 ≤ r ∧ r < hi) (hcc : 0 ≤ c ∧ c < wi) : mm_P d 23 [(2, 452), (0, r), (0, c)] w h = some ((0, f r c), w, h) := by
  obtain ⟨d, rfl, hd2⟩ := mm_dS hd; clear hd; have hd := hd2; clear hd2
  rw [P_Cv_formatAt, mF_t (VcW_4 hW), E_placeOf (by omega) (by omega) (by omega) (by omega) (by omega), mC_s, hc 6 (by decide) (by decide), E_peek_t (by omega) (VcW_r hW (o := 453 + 6) (by decide)) (by omega) (by omega), mC_s, show (453 : Int) + 6 = 459 by decide, hl.2 r c hr.1 hr.2 hcc.1 hcc.2]
theorem L_addOwn (hd : 1 ≤ d) (hW : VcW w) {r a b A v g k : Int} (hr : 0 ≤ r ∧ r < 16) (hb : b < 16) : ∀ (m : Nat) (c : Int) (h : mm_H), VcH h → 0 ≤ c → c + m = b + 1 → ∃ h', l_Cv_addRun_0 (mm_P d) 452 r a b A v g k c w h = some (.inr (196, [(2, 452), (0, r), (0, a), (0, b), (0, A), (0, v), (0, g), (0, k), (0, b + 1)], w, h')) ∧ (∀ o : Int, o ≠ 458 → h' o = h o) ∧ (∀ x : Int, ¬ (16 * r + c ≤ x ∧ x ≤ 16 * r + b) → h' 458 x = h 458 x) ∧ ∀ x : Int, 16 * r + c ≤ x → x ≤ 16 * r + b → h' 458 x = k := by
  intro m
  induction m with
  | zero =>
    intro c h hc c0 hm
    rw [l_Cv_addRun_0_eq, mLt_t (by omega), show c = b + 1 by omega]
    exact ⟨h, rfl, fun _ _ => rfl, fun _ _ => rfl, fun x x0 x1 => by omega⟩
  | succ m ih =>
    intro c h hc c0 hm
    obtain ⟨h', g1, g2, g3, g4⟩ := ih (c + 1) (mUp h 458 (16 * r + c) k) (VcH_up hc (by decide)) (by omega) (by omega)
    rw [l_Cv_addRun_0_eq, mLt_f (by omega), mF_t (VcW_4 hW), E_placeOf (by omega) (by omega) (by omega) (by omega) (by omega), mC_s, hc 5 (by decide) (by decide), E_poke_t (by omega) (VcW_r hW (o := 453 + 5) (by decide)) (by decide) (by omega) (by omega), mC_s, show (453 : Int) + 5 = 458 by decide]
    try dsimp only
    rw [mI_id (x := c + 1) (by omega) (by omega), g1]
    refine ⟨h', rfl, fun o ho => by rw [g2 o ho, mUp_row ho], fun x hx => by rw [g3 x (by omega), mUp_n (Or.inr (by omega))], fun x x0 x1 => ?_⟩
    by_cases e : x = 16 * r + c
    · rw [e, g3 _ (by omega), mUp_s]
    · exact g4 x (by omega) x1
/-- a run starts a rectangle -/
theorem LF_0 (hd : 1 ≤ d) (hW : VcW w) (hc : VcH h) {r a b A v K : Int} (hr : 0 ≤ r ∧ r < 16) (hb : 0 ≤ a ∧ a ≤ b ∧ b < 16) (hK : h 452 8 = K) (k0 : 0 ≤ K ∧ K < 256) : ∃ h', (mEq 0 0 (mF w 452 2 none (let x4 := h 452 8; mEq 0 0 (mF w 452 2 none (mF w 452 2 none (let h5 := mUp h 452 8 (mI ((h 452 8) + 1)); mF w 452 2 none (mC ((mm_P d) 200 [(2, h5 452 0), (0, x4), (0, r)] w h5) 9 none (fun v6 w7 h8 => mF w7 452 2 none (mC ((mm_P d) 200 [(2, h8 452 1), (0, x4), (0, a)] w7 h8) 9 none (fun v9 w10 h11 => mF w10 452 2 none (mC ((mm_P d) 200 [(2, h11 452 3), (0, x4), (0, b)] w10 h11) 9 none (fun v12 w13 h14 => mF w13 452 2 none (mC ((mm_P d) 200 [(2, h14 452 4), (0, x4), (0, v)] w13 h14) 9 none (fun v15 w16 h17 => mF w16 452 2 none (mC ((mm_P d) 200 [(2, h17 452 2), (0, x4), (0, r)] w16 h17) 9 none (fun v18 w19 h20 => mK (l_Cv_addRun_0 (mm_P d) 452 r a b A v 0 x4 a w19 h20) none some (fun t21 L22 w23 h24 => if t21 = 196 then some ((9, 0), w23, h24) else none)))))))))))))) (mF w 452 2 none (mC ((mm_P d) 200 [(2, h 452 2), (0, x4), (0, r)] w h) 9 none (fun v25 w26 h27 => mK (l_Cv_addRun_0 (mm_P d) 452 r a b A v 0 x4 a w26 h27) none some (fun t28 L29 w30 h31 => if t28 = 196 then some ((9, 0), w30, h31) else none)))))) (mEq 0 0 (mF w 452 2 none (mF w 452 2 none (let h32 := mUp h 452 8 (mI ((h 452 8) + 1)); mF w 452 2 none (mC ((mm_P d) 200 [(2, h32 452 0), (0, A), (0, r)] w h32) 9 none (fun v33 w34 h35 => mF w34 452 2 none (mC ((mm_P d) 200 [(2, h35 452 1), (0, A), (0, a)] w34 h35) 9 none (fun v36 w37 h38 => mF w37 452 2 none (mC ((mm_P d) 200 [(2, h38 452 3), (0, A), (0, b)] w37 h38) 9 none (fun v39 w40 h41 => mF w40 452 2 none (mC ((mm_P d) 200 [(2, h41 452 4), (0, A), (0, v)] w40 h41) 9 none (fun v42 w43 h44 => mF w43 452 2 none (mC ((mm_P d) 200 [(2, h44 452 2), (0, A), (0, r)] w43 h44) 9 none (fun v45 w46 h47 => mK (l_Cv_addRun_0 (mm_P d) 452 r a b A v 0 A a w46 h47) none some (fun t48 L49 w50 h51 => if t48 = 196 then some ((9, 0), w50, h51) else none)))))))))))))) (mF w 452 2 none (mC ((mm_P d) 200 [(2, h 452 2), (0, A), (0, r)] w h) 9 none (fun v52 w53 h54 => mK (l_Cv_addRun_0 (mm_P d) 452 r a b A v 0 A a w53 h54) none some (fun t55 L56 w57 h58 => if t55 = 196 then some ((9, 0), w57, h58) else none)))))) = some ((9, 0), w, h') ∧ CVf h h' ∧ (∀ x : Int, x ≠ K → h' 453 x = h 453 x ∧ h' 454 x = h 454 x ∧ h' 455 x = h 455 x ∧ h' 456 x = h 456 x ∧ h' 457 x = h 457 x) ∧ (h' 453 K = r ∧ h' 454 K = a ∧ h' 455 K = r ∧ h' 456 K = b ∧ h' 457 K = v) ∧ h' 452 8 = K + 1 ∧ (∀ x : Int, ¬ (16 * r + a ≤ x ∧ x ≤ 16 * r + b) → h' 458 x = h 458 x) ∧ ∀ x : Int, 16 * r + a ≤ x → x ≤ 16 * r + b → h' 458 x = K := by
  have w4 := VcW_4 hW
  rw [mEq_t rfl, mF_t w4, hK]
  try dsimp only
  rw [mEq_t rfl, mI_id (x := K + 1) (by omega) (by omega)]
  simp only [mF_t w4]
  have c1 : VcH (mUp h 452 8 (K + 1)) := VcH_8 hc (by decide)
  rw [c1 0 (by decide) (by decide), E_poke_t (by omega) (VcW_r hW (o := 453 + 0) (by decide)) (by decide) k0.1 k0.2, mC_s, show (453 : Int) + 0 = 453 by decide]
  simp only [mF_t w4]
  have c2 : VcH (mUp (mUp h 452 8 (K + 1)) 453 K r) := VcH_up c1 (by decide)
  rw [c2 1 (by decide) (by decide), E_poke_t (by omega) (VcW_r hW (o := 453 + 1) (by decide)) (by decide) k0.1 k0.2, mC_s, show (453 : Int) + 1 = 454 by decide]
  simp only [mF_t w4]
  have c3 : VcH (mUp (mUp (mUp h 452 8 (K + 1)) 453 K r) 454 K a) := VcH_up c2 (by decide)
  rw [c3 3 (by decide) (by decide), E_poke_t (by omega) (VcW_r hW (o := 453 + 3) (by decide)) (by decide) k0.1 k0.2, mC_s, show (453 : Int) + 3 = 456 by decide]
  simp only [mF_t w4]
  have c4 : VcH (mUp (mUp (mUp (mUp h 452 8 (K + 1)) 453 K r) 454 K a) 456 K b) := VcH_up c3 (by decide)
  rw [c4 4 (by decide) (by decide), E_poke_t (by omega) (VcW_r hW (o := 453 + 4) (by decide)) (by decide) k0.1 k0.2, mC_s, show (453 : Int) + 4 = 457 by decide]
  simp only [mF_t w4]
  have c5 : VcH (mUp (mUp (mUp (mUp (mUp h 452 8 (K + 1)) 453 K r) 454 K a) 456 K b) 457 K v) := VcH_up c4 (by decide)
  rw [c5 2 (by decide) (by decide), E_poke_t (by omega) (VcW_r hW (o := 453 + 2) (by decide)) (by decide) k0.1 k0.2, mC_s, show (453 : Int) + 2 = 455 by decide]
  obtain ⟨h', g1, g2, g3, g4⟩ := L_addOwn (d := d) (k := K) (A := A) (v := v) (g := 0) (a := a) hd hW hr hb.2.2 (b + 1 - a).toNat a (mUp (mUp (mUp (mUp (mUp (mUp h 452 8 (K + 1)) 453 K r) 454 K a) 456 K b) 457 K v) 455 K r) (VcH_up c5 (by decide)) hb.1 (by omega)
  rw [g1, mK_r, if_pos rfl]
  refine ⟨h', rfl, ⟨fun o ho => ?_, fun i hi => ?_⟩, fun x hx => ⟨?_, ?_, ?_, ?_, ?_⟩, ⟨?_, ?_, ?_, ?_, ?_⟩, ?_, fun x hx => ?_, fun x x0 x1 => g4 x x0 x1⟩
  · rw [g2 o (by omega), mUp_row (by omega), mUp_row (by omega), mUp_row (by omega), mUp_row (by omega), mUp_row (by omega), mUp_row (by omega)]
  · rw [g2 452 (by decide), mUp_row (by decide), mUp_row (by decide), mUp_row (by decide), mUp_row (by decide), mUp_row (by decide), mUp_n (Or.inr hi)]
  · rw [g2 453 (by decide)]; simp [mUp, hx]
  · rw [g2 454 (by decide)]; simp [mUp, hx]
  · rw [g2 455 (by decide)]; simp [mUp, hx]
  · rw [g2 456 (by decide)]; simp [mUp, hx]
  · rw [g2 457 (by decide)]; simp [mUp, hx]
  · rw [g2 453 (by decide)]; simp [mUp]
  · rw [g2 454 (by decide)]; simp [mUp]
  · rw [g2 455 (by decide)]; simp [mUp]
  · rw [g2 456 (by decide)]; simp [mUp]
  · rw [g2 457 (by decide)]; simp [mUp]
  · rw [g2 452 (by decide)]; simp [mUp]
  · rw [g3 x hx]; simp [mUp]
/-- a run goes on -/
theorem LF_1 (hd : 1 ≤ d) (hW : VcW w) (hc : VcH h) {r a b A v : Int} (hr : 0 ≤ r ∧ r < 16) (hb : 0 ≤ a ∧ a ≤ b ∧ b < 16) (k0 : 0 ≤ A ∧ A < 256) : ∃ h', (mEq 1 0 (mF w 452 2 none (let x68 := h 452 8; mEq 1 0 (mF w 452 2 none (mF w 452 2 none (let h69 := mUp h 452 8 (mI ((h 452 8) + 1)); mF w 452 2 none (mC ((mm_P d) 200 [(2, h69 452 0), (0, x68), (0, r)] w h69) 9 none (fun v70 w71 h72 => mF w71 452 2 none (mC ((mm_P d) 200 [(2, h72 452 1), (0, x68), (0, a)] w71 h72) 9 none (fun v73 w74 h75 => mF w74 452 2 none (mC ((mm_P d) 200 [(2, h75 452 3), (0, x68), (0, b)] w74 h75) 9 none (fun v76 w77 h78 => mF w77 452 2 none (mC ((mm_P d) 200 [(2, h78 452 4), (0, x68), (0, v)] w77 h78) 9 none (fun v79 w80 h81 => mF w80 452 2 none (mC ((mm_P d) 200 [(2, h81 452 2), (0, x68), (0, r)] w80 h81) 9 none (fun v82 w83 h84 => mK (l_Cv_addRun_0 (mm_P d) 452 r a b A v 1 x68 a w83 h84) none some (fun t85 L86 w87 h88 => if t85 = 196 then some ((9, 0), w87, h88) else none)))))))))))))) (mF w 452 2 none (mC ((mm_P d) 200 [(2, h 452 2), (0, x68), (0, r)] w h) 9 none (fun v89 w90 h91 => mK (l_Cv_addRun_0 (mm_P d) 452 r a b A v 1 x68 a w90 h91) none some (fun t92 L93 w94 h95 => if t92 = 196 then some ((9, 0), w94, h95) else none)))))) (mEq 1 0 (mF w 452 2 none (mF w 452 2 none (let h96 := mUp h 452 8 (mI ((h 452 8) + 1)); mF w 452 2 none (mC ((mm_P d) 200 [(2, h96 452 0), (0, A), (0, r)] w h96) 9 none (fun v97 w98 h99 => mF w98 452 2 none (mC ((mm_P d) 200 [(2, h99 452 1), (0, A), (0, a)] w98 h99) 9 none (fun v100 w101 h102 => mF w101 452 2 none (mC ((mm_P d) 200 [(2, h102 452 3), (0, A), (0, b)] w101 h102) 9 none (fun v103 w104 h105 => mF w104 452 2 none (mC ((mm_P d) 200 [(2, h105 452 4), (0, A), (0, v)] w104 h105) 9 none (fun v106 w107 h108 => mF w107 452 2 none (mC ((mm_P d) 200 [(2, h108 452 2), (0, A), (0, r)] w107 h108) 9 none (fun v109 w110 h111 => mK (l_Cv_addRun_0 (mm_P d) 452 r a b A v 1 A a w110 h111) none some (fun t112 L113 w114 h115 => if t112 = 196 then some ((9, 0), w114, h115) else none)))))))))))))) (mF w 452 2 none (mC ((mm_P d) 200 [(2, h 452 2), (0, A), (0, r)] w h) 9 none (fun v116 w117 h118 => mK (l_Cv_addRun_0 (mm_P d) 452 r a b A v 1 A a w117 h118) none some (fun t119 L120 w121 h122 => if t119 = 196 then some ((9, 0), w121, h122) else none)))))) = some ((9, 0), w, h') ∧ CVf h h' ∧ (∀ o : Int, o ≠ 455 → o ≠ 458 → h' o = h o) ∧ (∀ x : Int, x ≠ A → h' 455 x = h 455 x) ∧ h' 455 A = r ∧ (∀ x : Int, ¬ (16 * r + a ≤ x ∧ x ≤ 16 * r + b) → h' 458 x = h 458 x) ∧ ∀ x : Int, 16 * r + a ≤ x → x ≤ 16 * r + b → h' 458 x = A := by
  have w4 := VcW_4 hW
  rw [mEq_f (show (1 : Int) ≠ 0 by decide), mEq_f (show (1 : Int) ≠ 0 by decide), mF_t w4, hc 2 (by decide) (by decide), E_poke_t (by omega) (VcW_r hW (o := 453 + 2) (by decide)) (by decide) k0.1 k0.2, mC_s, show (453 : Int) + 2 = 455 by decide]
  obtain ⟨h', g1, g2, g3, g4⟩ := L_addOwn (d := d) (k := A) (A := A) (v := v) (g := 1) (a := a) hd hW hr hb.2.2 (b + 1 - a).toNat a (mUp h 455 A r) (VcH_up hc (by decide)) hb.1 (by omega)
  rw [g1, mK_r, if_pos rfl]
  refine ⟨h', rfl, ⟨fun o ho => ?_, fun i hi => ?_⟩, fun o o1 o2 => ?_, fun x hx => ?_, ?_, fun x hx => ?_, fun x x0 x1 => g4 x x0 x1⟩
  · rw [g2 o (by omega), mUp_row (by omega)]
  · rw [g2 452 (by decide), mUp_row (by decide)]
  · rw [g2 o o2, mUp_row o1]
  · rw [g2 455 (by decide), mUp_n (Or.inr hx)]
  · rw [g2 455 (by decide), mUp_s]
  · rw [g3 x hx, mUp_row (by decide)]
end PU
