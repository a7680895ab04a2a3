/-! THE CLASS'S STATE: what it reads -/
section
variable {G : zG} {d : Nat} {I : Nat → Nat → Int32} {J : Nat → Nat → Int64} {R : Nat → Nat → Option Nat} {K : Nat → Nat × Nat} {n : Nat} {a s v nf B : Nat} {Y T : Nat → Nat} {Q : Option Value → zH → Prop}
theorem c_isOpen (S : hSt G R K n a s v) (C : CS I a T) (p : Int32) (hQ : Q (some (.int (if 0 ≤ p ∧ p < 9 ∧ 0 < T (3 * p.toNatClampNeg + 2) then 1 else 0))) (I, J, R, K, n)) (O : ∀ p, p < 9 → T (3 * p + 2) ≤ 9) : zC G (d + 1) mX8_isOpen 0 0 [.ref a, .int p] (I, J, R, K, n) Q := by
  refine zC.of (by decide) (Nat.le_of_ble_eq_true rfl) ?_
  refine wX8_isOpen_0 a s v S p ?_
  rcases pk_ix p (n := 9) (by decide) with h | h | ⟨j, hj, rfl⟩
  · refine ⟨fun h1 => absurd h h1, ?_⟩
    rw [if_pos h]
    rw [if_neg (fun h2 => by have := h2.1; rw [Int32.le_iff_toInt_le] at this; rw [Int32.lt_iff_toInt_lt] at h; omega)] at hQ
    exact hQ
  · refine ⟨fun _ h1 => absurd h h1, ?_⟩
    have h' : (9 : Int32) ≤ p := h
    rw [if_pos h', ite_self]
    rw [if_neg (fun h2 => by have := h2.2.1; rw [Int32.lt_iff_toInt_lt] at this; rw [Int32.le_iff_toInt_le] at h'; omega)] at hQ
    exact hQ
  · have h1 := (C.1 j hj).1
    have h2 := O j hj
    simp (disch := omega) only [tk_0, tk_1, tk_2, tk_3, tk_4, tk_5, tk_6, tk_7, tk_8, tk_9, tk_10, tk_11, tk_12, tk_13, tk_14, tk_15, tk_16, tk_20, tk_24, tk_25, tk_26, tk_27, tk_28, tk_29, tk_30, tk_31, tk_32, tk_40, tk_41, tk_45, tk_46, tk_47, tk_48, tk_49, tk_50, tk_51, tk_57, tk_60, tk_99, tk_100, tk_120, tk_128, tk_231, tk_240, tk_255, tk_500, tk_999, tk_9999, tk_10000, pk_mul, nI_add, tk_c, tk_in, tk_lt, tk_le, tk_eq, tk_and31, tk_shl1, tk_shr1, tk_and1, tk_or, tk_ite, tk_tb, tk_mn, tk_mx] at hQ ⊢
    simp (disch := omega) only [h1, tk_0, tk_1, tk_2, tk_3, tk_4, tk_5, tk_6, tk_7, tk_8, tk_9, tk_10, tk_11, tk_12, tk_13, tk_14, tk_15, tk_16, tk_20, tk_24, tk_25, tk_26, tk_27, tk_28, tk_29, tk_30, tk_31, tk_32, tk_40, tk_41, tk_45, tk_46, tk_47, tk_48, tk_49, tk_50, tk_51, tk_57, tk_60, tk_99, tk_100, tk_120, tk_128, tk_231, tk_240, tk_255, tk_500, tk_999, tk_9999, tk_10000, pk_mul, nI_add, tk_c, tk_in, tk_lt, tk_le, tk_eq, tk_and31, tk_shl1, tk_shr1, tk_and1, tk_or, tk_ite, tk_tb, tk_mn, tk_mx]
    refine ⟨fun _ _ => hj, ?_⟩
    by_cases hh : 0 < T (3 * j + 2)
    · rw [if_pos ⟨by omega, hj, hh⟩] at hQ
      rw [if_neg (by omega), if_neg (by omega), if_neg (by omega)]
      exact hQ
    · rw [if_neg (by omega)] at hQ
      rw [if_neg (by omega), if_neg (by omega), if_pos (by omega)]
      exact hQ
theorem c_whiteYards (S : hSt G R K n a s v) (C : CS I a T) {f : Nat} (hf : f < 6) (hQ : Q (some (.int (nI (T (27 + 3 * f) + T (28 + 3 * f))))) (I, J, R, K, n)) : zC G (d + 1) mX8_whiteYards 0 0 [.ref a, .int (nI f)] (I, J, R, K, n) Q := by
  refine zC.of (by decide) (Nat.le_of_ble_eq_true rfl) ?_
  refine wX8_whiteYards_0 a s v S (nI f) ?_
  simp (disch := omega) only [(C.2.1 f hf).1, (C.2.1 f hf).2.1, tk_0, tk_1, tk_2, tk_3, tk_4, tk_5, tk_6, tk_7, tk_8, tk_9, tk_10, tk_11, tk_12, tk_13, tk_14, tk_15, tk_16, tk_20, tk_24, tk_25, tk_26, tk_27, tk_28, tk_29, tk_30, tk_31, tk_32, tk_40, tk_41, tk_45, tk_46, tk_47, tk_48, tk_49, tk_50, tk_51, tk_57, tk_60, tk_99, tk_100, tk_120, tk_128, tk_231, tk_240, tk_255, tk_500, tk_999, tk_9999, tk_10000, pk_mul, nI_add, tk_c, tk_in, tk_lt, tk_le, tk_eq, tk_and31, tk_shl1, tk_shr1, tk_and1, tk_or, tk_ite, tk_tb, tk_mn, tk_mx]
  exact ⟨hf, hf, hQ⟩
theorem c_bare (S : hSt G R K n a s v) (V : VL I v nf Y) (W : okV nf Y) (C : CS I a T) (O : okT B nf Y T) {f : Nat} (hf : f < nf) (hQ : Q (some (.int (nI (bareA Y T f)))) (I, J, R, K, n)) : zC G (d + 2) mX8_bare 0 0 [.ref a, .int (nI f)] (I, J, R, K, n) Q := by
  have h6 := W.1
  refine zC.of (by decide) (Nat.le_of_ble_eq_true rfl) ?_
  refine wX8_bare_0 a s v S (nI f) ?_
  refine ⟨(tk_in (by omega) (by omega)).mpr (by omega), ?_⟩
  refine c_whiteYards S C (by omega) ?_
  refine ⟨_, _, rfl, rfl, ?_⟩
  simp (disch := omega) only [(V.2 f hf).1, tk_0, tk_1, tk_2, tk_3, tk_4, tk_5, tk_6, tk_7, tk_8, tk_9, tk_10, tk_11, tk_12, tk_13, tk_14, tk_15, tk_16, tk_20, tk_24, tk_25, tk_26, tk_27, tk_28, tk_29, tk_30, tk_31, tk_32, tk_40, tk_41, tk_45, tk_46, tk_47, tk_48, tk_49, tk_50, tk_51, tk_57, tk_60, tk_99, tk_100, tk_120, tk_128, tk_231, tk_240, tk_255, tk_500, tk_999, tk_9999, tk_10000, pk_mul, nI_add, tk_c, tk_in, tk_lt, tk_le, tk_eq, tk_and31, tk_shl1, tk_shr1, tk_and1, tk_or, tk_ite, tk_tb, tk_mn, tk_mx]
  rw [tk_sub (O.2.1 f hf)]
  exact hQ
theorem l_whites (S : hSt G R K n a s v) (V : VL I v nf Y) (W : okV nf Y) (C : CS I a T) (O : okT B nf Y T) (hQ : Q (some (.int (nI (whitesA nf Y T)))) (I, J, R, K, n)) : ∀ j k : Nat, k + j = nf → zV G (d + 3) mX8_whites 0 0 4 [(0, .ref a), (1, .int (nI (bitsA (fun f => decide (bareA Y T f = 0)) k))), (2, .int (nI k))] [] (I, J, R, K, n) Q := by
  have h6 := W.1
  intro j
  induction j with
  | zero =>
    intro k hk
    obtain rfl : k = nf := by omega
    refine wX8_whites_4 a s v S _ _ ⟨fun _ => hQ, fun h => ?_⟩
    simp (disch := omega) only [V.1, tk_0, tk_1, tk_2, tk_3, tk_4, tk_5, tk_6, tk_7, tk_8, tk_9, tk_10, tk_11, tk_12, tk_13, tk_14, tk_15, tk_16, tk_20, tk_24, tk_25, tk_26, tk_27, tk_28, tk_29, tk_30, tk_31, tk_32, tk_40, tk_41, tk_45, tk_46, tk_47, tk_48, tk_49, tk_50, tk_51, tk_57, tk_60, tk_99, tk_100, tk_120, tk_128, tk_231, tk_240, tk_255, tk_500, tk_999, tk_9999, tk_10000, pk_mul, nI_add, tk_c, tk_in, tk_lt, tk_le, tk_eq, tk_and31, tk_shl1, tk_shr1, tk_and1, tk_or, tk_ite, tk_tb, tk_mn, tk_mx] at h
    omega
  | succ j ih =>
    intro k hk
    refine wX8_whites_4 a s v S _ _ ⟨fun h => ?_, fun _ => ?_⟩
    · simp (disch := omega) only [V.1, tk_0, tk_1, tk_2, tk_3, tk_4, tk_5, tk_6, tk_7, tk_8, tk_9, tk_10, tk_11, tk_12, tk_13, tk_14, tk_15, tk_16, tk_20, tk_24, tk_25, tk_26, tk_27, tk_28, tk_29, tk_30, tk_31, tk_32, tk_40, tk_41, tk_45, tk_46, tk_47, tk_48, tk_49, tk_50, tk_51, tk_57, tk_60, tk_99, tk_100, tk_120, tk_128, tk_231, tk_240, tk_255, tk_500, tk_999, tk_9999, tk_10000, pk_mul, nI_add, tk_c, tk_in, tk_lt, tk_le, tk_eq, tk_and31, tk_shl1, tk_shr1, tk_and1, tk_or, tk_ite, tk_tb, tk_mn, tk_mx] at h
      omega
    · refine c_bare S V W C O (f := k) (by omega) ?_
      refine ⟨_, _, rfl, rfl, ?_⟩
      have h4 := bareA_le (T := T) W (f := k) (by omega)
      simp (disch := omega) only [tk_0, tk_1, tk_2, tk_3, tk_4, tk_5, tk_6, tk_7, tk_8, tk_9, tk_10, tk_11, tk_12, tk_13, tk_14, tk_15, tk_16, tk_20, tk_24, tk_25, tk_26, tk_27, tk_28, tk_29, tk_30, tk_31, tk_32, tk_40, tk_41, tk_45, tk_46, tk_47, tk_48, tk_49, tk_50, tk_51, tk_57, tk_60, tk_99, tk_100, tk_120, tk_128, tk_231, tk_240, tk_255, tk_500, tk_999, tk_9999, tk_10000, pk_mul, nI_add, tk_c, tk_in, tk_lt, tk_le, tk_eq, tk_and31, tk_shl1, tk_shr1, tk_and1, tk_or, tk_ite, tk_tb, tk_mn, tk_mx]
      rw [bitsA_or (x := if bareA Y T k = 0 then 2 ^ k else 0) (fun h => if_pos (by simpa using h)) (fun h => if_neg (by simpa using h))]
      exact ih (k + 1) (by omega)
theorem c_whites (S : hSt G R K n a s v) (V : VL I v nf Y) (W : okV nf Y) (C : CS I a T) (O : okT B nf Y T) (hQ : Q (some (.int (nI (whitesA nf Y T)))) (I, J, R, K, n)) : zC G (d + 3) mX8_whites 0 0 [.ref a] (I, J, R, K, n) Q := by
  refine zC.of (by decide) (Nat.le_of_ble_eq_true rfl) ?_
  refine wX8_whites_0 a s v S ?_
  exact l_whites S V W C O hQ nf 0 (by omega)
end
