/-! BYTES OF A NUMBER -/
theorem u32 (x : Int32) : x = nI x.toUInt32.toNat := by
  apply Int32.toBitVec_inj.mp
  show x.toBitVec = BitVec.ofNat 32 x.toUInt32.toNat
  refine BitVec.eq_of_toNat_eq ?_
  rw [BitVec.toNat_ofNat]
  exact (Nat.mod_eq_of_lt x.toUInt32.toNat_lt).symm
theorem and255 (x : Int32) : x &&& 255 = nI (x.toUInt32.toNat % 256) := by
  conv => lhs; rw [u32 x, show (255 : Int32) = nI 255 from rfl, tk_and]
  rw [show (255 : Nat) = 2 ^ 8 - 1 from rfl, Nat.and_two_pow_sub_one_eq_mod]
/-- the byte of p at shift 8 * j -/
def bt (p : Int32) (j : Nat) : Nat := p.toUInt32.toNat / 2 ^ (8 * j) % 256
theorem bt_lt {p : Int32} {j : Nat} : bt p j < 256 := Nat.mod_lt _ (by decide)
theorem sh_dec : ∀ j : Nat, j < 4 → ((nI (8 * j)).toUInt32 &&& Int32.toUInt32 31).toNat = 8 * j ∧ ((nI (8 * j) &&& 31 : Int32).toBitVec.smod 32).toNat = 8 * j := by decide +kernel
theorem bt_x (p : Int32) {j : Nat} (hj : j < 4) : ((p.toUInt32 >>> ((nI (8 * j)).toUInt32 &&& Int32.toUInt32 31)).toInt32) &&& 255 = nI (bt p j) := by
  rw [and255]
  show nI ((p.toUInt32 >>> ((nI (8 * j)).toUInt32 &&& Int32.toUInt32 31)).toNat % 256) = _
  rw [UInt32.toNat_shiftRight, (sh_dec j hj).1, Nat.mod_eq_of_lt (show 8 * j < 32 by omega), Nat.shiftRight_eq_div_pow]
  rfl
theorem bt_s (p : Int32) {j : Nat} (hj : j < 4) : (p >>> (nI (8 * j) &&& 31)).toUInt32.toNat % 256 = bt p j := by
  have e : (p >>> (nI (8 * j) &&& 31)).toUInt32.toNat = (p.toBitVec.sshiftRight (8 * j)).toNat := by
    show (p.toBitVec.sshiftRight (((nI (8 * j) &&& 31 : Int32).toBitVec.smod 32).toNat)).toNat = _
    rw [(sh_dec j hj).2]
  rw [e]
  unfold bt
  rw [show (256 : Nat) = 2 ^ 8 from rfl]
  apply Nat.eq_of_testBit_eq
  intro i
  rw [Nat.testBit_mod_two_pow, Nat.testBit_mod_two_pow, Nat.testBit_div_two_pow]
  by_cases hi : i < 8
  · rw [decide_eq_true hi, Bool.true_and, Bool.true_and]
    show (p.toBitVec.sshiftRight (8 * j)).getLsbD i = p.toBitVec.getLsbD (i + 8 * j)
    rw [BitVec.getLsbD_sshiftRight, if_pos (by omega), decide_eq_false (by omega), Nat.add_comm]
    rfl
  · rw [decide_eq_false hi, Bool.false_and, Bool.false_and]
theorem bt_y (p : Int32) {j : Nat} (hj : j < 4) : (p >>> (nI (8 * j) &&& 31)) &&& 255 = nI (bt p j) := by
  rw [and255, bt_s p hj]
theorem nar_dec : ∀ b : Nat, b < 256 → vp_nar .byte (sb b) = sb b := by decide +kernel
theorem bt_n (p : Int32) {j : Nat} (hj : j < 4) : vp_nar .byte ((p >>> (nI (8 * j) &&& 31) : Int32).toInt8.toInt32) = sb (bt p j) := by
  have e : (p >>> (nI (8 * j) &&& 31) : Int32).toInt8 = (nI (bt p j)).toInt8 := by
    apply Int8.toBitVec_inj.mp
    apply BitVec.eq_of_toNat_eq
    show (BitVec.signExtend 8 (p >>> (nI (8 * j) &&& 31)).toBitVec).toNat = (BitVec.signExtend 8 (BitVec.ofNat 32 (bt p j))).toNat
    rw [BitVec.signExtend_eq_setWidth_of_le _ (by decide), BitVec.signExtend_eq_setWidth_of_le _ (by decide), BitVec.toNat_setWidth, BitVec.toNat_setWidth, BitVec.toNat_ofNat]
    have h := bt_s p hj
    have hl := bt_lt (p := p) (j := j)
    show (p >>> (nI (8 * j) &&& 31)).toUInt32.toNat % 2 ^ 8 = _
    omega
  rw [e]
  exact nar_dec _ bt_lt
