/-! PURE: a byte of an int, shifted either way. -/
theorem b255 : ∀ j : Fin 32, ¬ j.val < 8 → (255#32)[j.val] = false := by decide
theorem sh_b (x : BitVec 32) (k : Nat) (hk : k ≤ 24) : (x >>> k) &&& 255#32 = (x.sshiftRight k) &&& 255#32 := by
  ext i hi
  rw [BitVec.getElem_and, BitVec.getElem_and, BitVec.getElem_ushiftRight, BitVec.getElem_sshiftRight]
  by_cases h : i < 8
  · rw [dif_pos (by omega)]
    congr 1
  · have := b255 ⟨i, hi⟩ h
    rw [this, Bool.and_false, Bool.and_false]
theorem sh_i (x k : Int32) (n : Nat) (hn : n = 0 ∨ n = 8 ∨ n = 16 ∨ n = 24) (hk : k = Int32.ofNat n) : (x.toUInt32 >>> (k.toUInt32 &&& Int32.toUInt32 31)).toInt32 &&& 255 = (x >>> (k &&& 31)) &&& 255 := by
  apply Int32.toBitVec_inj.1
  have e : k.toBitVec = BitVec.ofNat 32 n := by rw [hk]; rfl
  have key := sh_b x.toBitVec n (by omega)
  have a1 : ((x.toUInt32 >>> (k.toUInt32 &&& Int32.toUInt32 31)).toInt32 &&& 255).toBitVec = (x.toBitVec >>> ((k.toBitVec &&& 31#32) % 32#32).toNat) &&& 255#32 := rfl
  have a2 : ((x >>> (k &&& 31)) &&& 255).toBitVec = (x.toBitVec.sshiftRight ((k.toBitVec &&& 31#32).smod 32#32).toNat) &&& 255#32 := rfl
  rw [a1, a2, e]
  rcases hn with rfl | rfl | rfl | rfl
  · have z1 : ((BitVec.ofNat 32 0 &&& 31#32) % 32#32).toNat = 0 := by decide
    have z2 : ((BitVec.ofNat 32 0 &&& 31#32).smod 32#32).toNat = 0 := by decide
    rw [z1, z2]; exact key
  · have z1 : ((BitVec.ofNat 32 8 &&& 31#32) % 32#32).toNat = 8 := by decide
    have z2 : ((BitVec.ofNat 32 8 &&& 31#32).smod 32#32).toNat = 8 := by decide
    rw [z1, z2]; exact key
  · have z1 : ((BitVec.ofNat 32 16 &&& 31#32) % 32#32).toNat = 16 := by decide
    have z2 : ((BitVec.ofNat 32 16 &&& 31#32).smod 32#32).toNat = 16 := by decide
    rw [z1, z2]; exact key
  · have z1 : ((BitVec.ofNat 32 24 &&& 31#32) % 32#32).toNat = 24 := by decide
    have z2 : ((BitVec.ofNat 32 24 &&& 31#32).smod 32#32).toNat = 24 := by decide
    rw [z1, z2]; exact key
/-- the byte k of v -/
def byt (v k : Int) : Int := mAnd (mShr v (8 * k)) 255
theorem byt_u {v k : Int} (hk : 0 ≤ k ∧ k < 4) : mAnd (mUsh v (8 * k)) 255 = byt v k := by
  unfold byt mAnd mUsh mShr
  rw [Int32.ofInt_toInt, Int32.ofInt_toInt]
  rcases (show k = 0 ∨ k = 1 ∨ k = 2 ∨ k = 3 by omega) with rfl | rfl | rfl | rfl
  · exact congrArg Int32.toInt (sh_i (Int32.ofInt v) _ 0 (by decide) rfl)
  · exact congrArg Int32.toInt (sh_i (Int32.ofInt v) _ 8 (by decide) rfl)
  · exact congrArg Int32.toInt (sh_i (Int32.ofInt v) _ 16 (by decide) rfl)
  · exact congrArg Int32.toInt (sh_i (Int32.ofInt v) _ 24 (by decide) rfl)
theorem and255 (x : BitVec 32) : (x &&& 255#32).toNat < 256 := by
  rw [BitVec.toNat_and]
  exact Nat.lt_of_le_of_lt Nat.and_le_right (by decide)
theorem mAnd_in (x : Int) : 0 ≤ mAnd x 255 ∧ mAnd x 255 < 256 := by
  unfold mAnd
  have h := and255 (Int32.ofInt x).toBitVec
  have e : (Int32.ofInt x &&& Int32.ofInt 255).toInt = ((Int32.ofInt x).toBitVec &&& 255#32).toInt := rfl
  rw [e, BitVec.toInt_eq_toNat_cond, if_pos (by omega)]
  omega
theorem byt_in (v k : Int) : 0 ≤ byt v k ∧ byt v k < 256 := mAnd_in _
