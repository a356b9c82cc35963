/-! ===== feed ===== -/
/-- a byte of a number -/
def q_bt (x : Int32) (i : Nat) : Nat := x.toBitVec.toNat / 2 ^ (8 * i) % 256
theorem q_bt_lt (x : Int32) (i : Nat) : q_bt x i < 256 := Nat.mod_lt _ (by omega)
theorem q_ush (x : Int32) : ∀ i, i < 4 → (am_ush x (nI (8 * i))) &&& 255 = nI (q_bt x i) := by
  intro i hi
  have hs : (((nI (8 * i)).toUInt32 &&& Int32.toUInt32 31).toBitVec % 32).toNat = 8 * i := by
    have h : i = 0 ∨ i = 1 ∨ i = 2 ∨ i = 3 := by omega
    rcases h with rfl | rfl | rfl | rfl <;> decide +kernel
  have e := pk_ushr x (nI (8 * i)) (8 * i) hs
  rw [pk_and (am_ush x (nI (8 * i))) (m := 255) 8 (by decide)]
  unfold am_ush q_bt
  rw [e]
theorem q_shr0 (x : Int32) (i : Nat) (hi : i < 4) : (x >>> (nI (8 * i) &&& 31)).toBitVec.toNat % 256 = q_bt x i := by
  have hs : ((nI (8 * i) &&& 31).toBitVec.smod 32).toNat = 8 * i := by
    have h : i = 0 ∨ i = 1 ∨ i = 2 ∨ i = 3 := by omega
    rcases h with rfl | rfl | rfl | rfl <;> decide +kernel
  have e := pk_shr x (nI (8 * i) &&& 31) (8 * i) hs
  have t1 : (x >>> (nI (8 * i) &&& 31)).toInt = (x >>> (nI (8 * i) &&& 31)).toBitVec.toInt := rfl
  have t2 : x.toInt = x.toBitVec.toInt := rfl
  rw [t1, t2, BitVec.toInt_eq_toNat_cond, BitVec.toInt_eq_toNat_cond, Int.shiftRight_eq_div_pow] at e
  have l1 := (x >>> (nI (8 * i) &&& 31)).toBitVec.isLt
  have l2 := x.toBitVec.isLt
  unfold q_bt
  generalize (x >>> (nI (8 * i) &&& 31)).toBitVec.toNat = a at *
  generalize x.toBitVec.toNat = b at *
  have h : i = 0 ∨ i = 1 ∨ i = 2 ∨ i = 3 := by omega
  rcases h with rfl | rfl | rfl | rfl
  · have p : (2 : Nat) ^ (8 * 0) = 1 := rfl
    rw [p] at e ⊢
    split at e <;> split at e <;> omega
  · have p : (2 : Nat) ^ (8 * 1) = 256 := rfl
    rw [p] at e ⊢
    split at e <;> split at e <;> omega
  · have p : (2 : Nat) ^ (8 * 2) = 65536 := rfl
    rw [p] at e ⊢
    split at e <;> split at e <;> omega
  · have p : (2 : Nat) ^ (8 * 3) = 16777216 := rfl
    rw [p] at e ⊢
    split at e <;> split at e <;> omega
theorem q_shr (x : Int32) (i : Nat) (hi : i < 4) : (x >>> (nI (8 * i) &&& 31)) &&& 255 = nI (q_bt x i) := by
  rw [pk_and (x >>> (nI (8 * i) &&& 31)) (m := 255) 8 (by decide), ← q_shr0 x i hi]
theorem q_i8 (z : Int32) : z.toInt8 = (nI (z.toBitVec.toNat % 256)).toInt8 := by
  apply Int8.toBitVec_inj.mp
  rw [Int32.toBitVec_toInt8, Int32.toBitVec_toInt8]
  apply BitVec.eq_of_getLsbD_eq
  intro i hi
  have e : (nI (z.toBitVec.toNat % 256)).toBitVec = BitVec.ofNat 32 (z.toBitVec.toNat % 256) := rfl
  rw [e, BitVec.getLsbD_signExtend, BitVec.getLsbD_signExtend, BitVec.getLsbD_ofNat]
  have h32 : i < 32 := by omega
  have e2 : z.toBitVec.toNat % 256 = z.toBitVec.toNat % 2 ^ 8 := rfl
  rw [e2, Nat.testBit_mod_two_pow]
  simp [hi, h32, BitVec.getLsbD]
theorem q_by2 (z : Int32) : (z.toInt8.toInt32).toInt8.toInt32 = q_by (z.toBitVec.toNat % 256) := by
  unfold q_by
  rw [Int8.toInt8_toInt32, q_i8 z]
