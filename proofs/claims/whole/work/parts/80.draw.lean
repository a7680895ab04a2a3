/-! DRAWS -/
def drS (s : Int64) : Int64 := s * 6364136223846793005 + 1442695040888963407
def drU (s : Int64) : UInt64 := s.toUInt64 >>> ((33 : Int32).toInt64.toUInt64 &&& Int64.toUInt64 63)
def drV (s : Int64) (N : Nat) : Nat := (drU s).toNat % N
theorem u_l (u : UInt64) : u.toInt64 = lN u.toNat := by
  apply Int64.toBitVec_inj.mp
  show u.toBitVec = BitVec.ofNat 64 u.toNat
  refine BitVec.eq_of_toNat_eq ?_
  rw [BitVec.toNat_ofNat]
  exact (Nat.mod_eq_of_lt u.toNat_lt).symm
theorem drU_lt (s : Int64) : (drU s).toNat < 2147483648 := by
  unfold drU
  rw [show ((33 : Int32).toInt64.toUInt64 &&& Int64.toUInt64 63) = (33 : UInt64) by decide, UInt64.toNat_shiftRight, Nat.shiftRight_eq_div_pow]
  have := s.toUInt64.toNat_lt
  rw [show (33 : UInt64).toNat % 64 = 33 from rfl]
  omega
theorem drV_lt {s : Int64} {N : Nat} (h : 0 < N) : drV s N < N := Nat.mod_lt _ h
theorem drV_eq {s : Int64} {N : Nat} (h : 0 < N) (h2 : N < 2147483648) : ((drU s).toInt64 - (drU s).toInt64 / (nI N).toInt64 * (nI N).toInt64 : Int64).toInt32 = nI (drV s N) := by
  have hl := drU_lt s
  rw [u_l, nI_l (by omega), pk_lRem (by omega) (by omega) (by omega), lN_i]
  rfl
section
variable {G : zG} {d : Nat} {I : Nat → Nat → Int32} {J : Nat → Nat → Int64} {R : Nat → Nat → Option Nat} {K : Nat → Nat × Nat} {n : Nat} {x m v w q t c : Nat} {Q : Option Value → zH → Prop}
theorem c_draw (S : hX G R K n x v w q) {N : Nat} (h : 0 < N) (h2 : N < 1000) (hQ : Q (some (.int (nI (drV (drS (J x 17)) N)))) (I, zU J x 17 (drS (J x 17)), R, K, n)) : zC G (d + 1) mX11_draw 0 0 [.ref x, .int (nI N)] (I, J, R, K, n) Q := by
  refine zC.of (by decide) (Nat.le_of_ble_eq_true rfl) ?_
  refine wX11_draw_0 x v w q S _ ?_
  rintro _ rfl
  have e1 : (1 : Int32) ≤ nI N := (tk_le (a := 1) (by omega) (by omega)).mpr h
  refine ⟨fun _ h3 => ?_, qI ?_ hQ⟩
  · rw [nI_l (by omega), show (0 : Int64) = lN 0 from rfl, lN_eq (by omega) (by omega)] at h3
    omega
  · rw [if_pos e1, zU_self]
    exact (drV_eq h (by omega)).symm
theorem c_mdraw (S : hMod G R K n m t c) {N : Nat} (h : 0 < N) (h2 : N < 1000) (hQ : Q (some (.int (nI (drV (drS (J m 40)) N)))) (I, zU J m 40 (drS (J m 40)), R, K, n)) : zC G (d + 1) mX12_draw 0 0 [.ref m, .int (nI N)] (I, J, R, K, n) Q := by
  refine zC.of (by decide) (Nat.le_of_ble_eq_true rfl) ?_
  refine wX12_draw_0 m t c S _ ?_
  rintro _ rfl
  refine ⟨fun h3 => ?_, qI ?_ hQ⟩
  · rw [nI_l (by omega), show (0 : Int64) = lN 0 from rfl, lN_eq (by omega) (by omega)] at h3
    omega
  · rw [zU_self]
    exact (drV_eq h (by omega)).symm
end
