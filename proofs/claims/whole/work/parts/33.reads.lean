/-! THE CLASS'S STATE: what it reads, further -/
section
variable {G : zG} {d : Nat} {I : Nat → Nat → Int32} {J : Nat → Nat → Int64} {R : Nat → Nat → Option Nat} {K : Nat → Nat × Nat} {n : Nat} {a s v nf B : Nat} {Y T : Nat → Nat} {Q : Option Value → zH → Prop}
theorem l_falseFarms (S : hSt G R K n a s v) (V : VL I v nf Y) (W : okV nf Y) (C : CS I a T) (O : okT B nf Y T) (hQ : Q (some (.int (nI (falsesA nf T)))) (I, J, R, K, n)) : ∀ j k : Nat, k + j = nf → zV G (d + 1) mX8_falseFarms 0 0 4 [(0, .ref a), (1, .int (nI (bitsA (fun f => decide (0 < T (28 + 3 * f))) k))), (2, .int (nI k))] [] (I, J, R, K, n) Q := by
  have h6 := W.1
  intro j
  induction j with
  | zero =>
    intro k hk
    obtain rfl : k = nf := by omega
    refine wX8_falseFarms_4 a s v S _ _ ⟨fun _ => hQ, fun h => ?_⟩
    simp (disch := omega) only [V.1, tk_0, tk_1, tk_2, tk_3, tk_4, tk_5, tk_6, tk_7, tk_8, tk_9, tk_10, tk_11, tk_12, tk_13, tk_14, tk_15, tk_16, tk_20, tk_24, tk_25, tk_26, tk_27, tk_28, tk_29, tk_30, tk_31, tk_32, tk_40, tk_41, tk_45, tk_46, tk_47, tk_48, tk_49, tk_50, tk_51, tk_57, tk_60, tk_99, tk_100, tk_120, tk_128, tk_231, tk_240, tk_255, tk_500, tk_999, tk_9999, tk_10000, pk_mul, nI_add, tk_c, tk_in, tk_lt, tk_le, tk_eq, tk_and31, tk_shl1, tk_shr1, tk_and1, tk_or, tk_ite, tk_tb, tk_mn, tk_mx] at h
    omega
  | succ j ih =>
    intro k hk
    have h4 := O.t W (f := k) (by omega)
    refine wX8_falseFarms_4 a s v S _ _ ⟨fun h => ?_, fun _ => ?_⟩
    · simp (disch := omega) only [V.1, tk_0, tk_1, tk_2, tk_3, tk_4, tk_5, tk_6, tk_7, tk_8, tk_9, tk_10, tk_11, tk_12, tk_13, tk_14, tk_15, tk_16, tk_20, tk_24, tk_25, tk_26, tk_27, tk_28, tk_29, tk_30, tk_31, tk_32, tk_40, tk_41, tk_45, tk_46, tk_47, tk_48, tk_49, tk_50, tk_51, tk_57, tk_60, tk_99, tk_100, tk_120, tk_128, tk_231, tk_240, tk_255, tk_500, tk_999, tk_9999, tk_10000, pk_mul, nI_add, tk_c, tk_in, tk_lt, tk_le, tk_eq, tk_and31, tk_shl1, tk_shr1, tk_and1, tk_or, tk_ite, tk_tb, tk_mn, tk_mx] at h
      omega
    · simp (disch := omega) only [(C.2.1 k (by omega)).2.1, tk_0, tk_1, tk_2, tk_3, tk_4, tk_5, tk_6, tk_7, tk_8, tk_9, tk_10, tk_11, tk_12, tk_13, tk_14, tk_15, tk_16, tk_20, tk_24, tk_25, tk_26, tk_27, tk_28, tk_29, tk_30, tk_31, tk_32, tk_40, tk_41, tk_45, tk_46, tk_47, tk_48, tk_49, tk_50, tk_51, tk_57, tk_60, tk_99, tk_100, tk_120, tk_128, tk_231, tk_240, tk_255, tk_500, tk_999, tk_9999, tk_10000, pk_mul, nI_add, tk_c, tk_in, tk_lt, tk_le, tk_eq, tk_and31, tk_shl1, tk_shr1, tk_and1, tk_or, tk_ite, tk_tb, tk_mn, tk_mx]
      refine ⟨by omega, ?_⟩
      rw [bitsA_or (x := if T (28 + 3 * k) ≤ 0 then 0 else 2 ^ k) (fun h => if_neg (by simp at h; omega)) (fun h => if_pos (by simp at h; omega))]
      exact ih (k + 1) (by omega)
theorem c_falseFarms (S : hSt G R K n a s v) (V : VL I v nf Y) (W : okV nf Y) (C : CS I a T) (O : okT B nf Y T) (hQ : Q (some (.int (nI (falsesA nf T)))) (I, J, R, K, n)) : zC G (d + 1) mX8_falseFarms 0 0 [.ref a] (I, J, R, K, n) Q := by
  refine zC.of (by decide) (Nat.le_of_ble_eq_true rfl) ?_
  refine wX8_falseFarms_0 a s v S ?_
  exact l_falseFarms S V W C O hQ nf 0 (by omega)
theorem l_opens (S : hSt G R K n a s v) (C : CS I a T) (O : okT B nf Y T) (hQ : Q (some (.int (nI (opensA T)))) (I, J, R, K, n)) : ∀ j k : Nat, k + j = 9 → zV G (d + 1) mX8_opens 0 0 4 [(0, .ref a), (1, .int (nI (bitsA (fun p => openA T p) k))), (2, .int (nI k))] [] (I, J, R, K, n) Q := by
  intro j
  induction j with
  | zero =>
    intro k hk
    obtain rfl : k = 9 := by omega
    exact wX8_opens_4 a s v S _ _ ⟨fun _ => hQ, fun h => absurd (by decide) h⟩
  | succ j ih =>
    intro k hk
    have h4 := (O.1 k (by omega)).1
    refine wX8_opens_4 a s v S _ _ ⟨fun h => ?_, fun _ => ?_⟩
    · simp (disch := omega) only [tk_0, tk_1, tk_2, tk_3, tk_4, tk_5, tk_6, tk_7, tk_8, tk_9, tk_10, tk_11, tk_12, tk_13, tk_14, tk_15, tk_16, tk_20, tk_24, tk_25, tk_26, tk_27, tk_28, tk_29, tk_30, tk_31, tk_32, tk_40, tk_41, tk_45, tk_46, tk_47, tk_48, tk_49, tk_50, tk_51, tk_57, tk_60, tk_99, tk_100, tk_120, tk_128, tk_231, tk_240, tk_255, tk_500, tk_999, tk_9999, tk_10000, pk_mul, nI_add, tk_c, tk_in, tk_lt, tk_le, tk_eq, tk_and31, tk_shl1, tk_shr1, tk_and1, tk_or, tk_ite, tk_tb, tk_mn, tk_mx] at h
      omega
    · simp (disch := omega) only [(C.1 k (by omega)).1, tk_0, tk_1, tk_2, tk_3, tk_4, tk_5, tk_6, tk_7, tk_8, tk_9, tk_10, tk_11, tk_12, tk_13, tk_14, tk_15, tk_16, tk_20, tk_24, tk_25, tk_26, tk_27, tk_28, tk_29, tk_30, tk_31, tk_32, tk_40, tk_41, tk_45, tk_46, tk_47, tk_48, tk_49, tk_50, tk_51, tk_57, tk_60, tk_99, tk_100, tk_120, tk_128, tk_231, tk_240, tk_255, tk_500, tk_999, tk_9999, tk_10000, pk_mul, nI_add, tk_c, tk_in, tk_lt, tk_le, tk_eq, tk_and31, tk_shl1, tk_shr1, tk_and1, tk_or, tk_ite, tk_tb, tk_mn, tk_mx]
      refine ⟨by omega, ?_⟩
      rw [bitsA_or (x := if T (3 * k + 2) ≤ 0 then 0 else 2 ^ k) (fun h => if_neg (by simp [openA] at h; omega)) (fun h => if_pos (by simp [openA] at h; omega))]
      exact ih (k + 1) (by omega)
theorem c_opens (S : hSt G R K n a s v) (C : CS I a T) (O : okT B nf Y T) (hQ : Q (some (.int (nI (opensA T)))) (I, J, R, K, n)) : zC G (d + 1) mX8_opens 0 0 [.ref a] (I, J, R, K, n) Q := by
  refine zC.of (by decide) (Nat.le_of_ble_eq_true rfl) ?_
  refine wX8_opens_0 a s v S ?_
  exact l_opens S C O hQ 9 0 (by omega)
theorem l_doneBy (S : hSt G R K n a s v) (W : okV nf Y) (C : CS I a T) (O : okT B nf Y T) {f : Nat} (hf : f < 6) (hQ : Q (some (.int (nI (byA T f)))) (I, J, R, K, n)) : ∀ j k : Nat, k + j = 9 → zV G (d + 1) mX8_doneBy 0 0 4 [(0, .ref a), (1, .int (nI f)), (2, .int (nI (bitsA (fun p => openA T p && decide (T (3 * p) = f)) k))), (3, .int (nI k))] [] (I, J, R, K, n) Q := by
  have h6 := W.1
  intro j
  induction j with
  | zero =>
    intro k hk
    obtain rfl : k = 9 := by omega
    exact wX8_doneBy_4 a s v S _ _ _ ⟨fun _ => hQ, fun h => absurd (by decide) h⟩
  | succ j ih =>
    intro k hk
    have h4 := O.1 k (by omega)
    refine wX8_doneBy_4 a s v S _ _ _ ⟨fun h => ?_, fun _ => ?_⟩
    · simp (disch := omega) only [tk_0, tk_1, tk_2, tk_3, tk_4, tk_5, tk_6, tk_7, tk_8, tk_9, tk_10, tk_11, tk_12, tk_13, tk_14, tk_15, tk_16, tk_20, tk_24, tk_25, tk_26, tk_27, tk_28, tk_29, tk_30, tk_31, tk_32, tk_40, tk_41, tk_45, tk_46, tk_47, tk_48, tk_49, tk_50, tk_51, tk_57, tk_60, tk_99, tk_100, tk_120, tk_128, tk_231, tk_240, tk_255, tk_500, tk_999, tk_9999, tk_10000, pk_mul, nI_add, tk_c, tk_in, tk_lt, tk_le, tk_eq, tk_and31, tk_shl1, tk_shr1, tk_and1, tk_or, tk_ite, tk_tb, tk_mn, tk_mx] at h
      omega
    · simp (disch := omega) only [(C.1 k (by omega)).1, tk_0, tk_1, tk_2, tk_3, tk_4, tk_5, tk_6, tk_7, tk_8, tk_9, tk_10, tk_11, tk_12, tk_13, tk_14, tk_15, tk_16, tk_20, tk_24, tk_25, tk_26, tk_27, tk_28, tk_29, tk_30, tk_31, tk_32, tk_40, tk_41, tk_45, tk_46, tk_47, tk_48, tk_49, tk_50, tk_51, tk_57, tk_60, tk_99, tk_100, tk_120, tk_128, tk_231, tk_240, tk_255, tk_500, tk_999, tk_9999, tk_10000, pk_mul, nI_add, tk_c, tk_in, tk_lt, tk_le, tk_eq, tk_and31, tk_shl1, tk_shr1, tk_and1, tk_or, tk_ite, tk_tb, tk_mn, tk_mx]
      refine ⟨by omega, fun _ => by omega, ?_⟩
      by_cases hp : 0 < T (3 * k + 2)
      · have h5 := h4.2 hp
        simp (disch := omega) only [((C.1 k (by omega)).2 hp).1, tk_0, tk_1, tk_2, tk_3, tk_4, tk_5, tk_6, tk_7, tk_8, tk_9, tk_10, tk_11, tk_12, tk_13, tk_14, tk_15, tk_16, tk_20, tk_24, tk_25, tk_26, tk_27, tk_28, tk_29, tk_30, tk_31, tk_32, tk_40, tk_41, tk_45, tk_46, tk_47, tk_48, tk_49, tk_50, tk_51, tk_57, tk_60, tk_99, tk_100, tk_120, tk_128, tk_231, tk_240, tk_255, tk_500, tk_999, tk_9999, tk_10000, pk_mul, nI_add, tk_c, tk_in, tk_lt, tk_le, tk_eq, tk_and31, tk_shl1, tk_shr1, tk_and1, tk_or, tk_ite, tk_tb, tk_mn, tk_mx]
        rw [if_neg (by omega), bitsA_or (x := if T (3 * k) = f then 2 ^ k else 0) (fun h => if_pos (by simp [openA] at h; omega)) (fun h => if_neg (by simp [openA] at h; omega))]
        exact ih (k + 1) (by omega)
      · rw [if_pos (by omega)]
        rw [bitsA_or (x := 0) (fun h => absurd hp (by simp [openA] at h; omega)) (fun h => rfl)]
        exact ih (k + 1) (by omega)
theorem c_doneBy (S : hSt G R K n a s v) (W : okV nf Y) (C : CS I a T) (O : okT B nf Y T) {f : Nat} (hf : f < 6) (hQ : Q (some (.int (nI (byA T f)))) (I, J, R, K, n)) : zC G (d + 1) mX8_doneBy 0 0 [.ref a, .int (nI f)] (I, J, R, K, n) Q := by
  refine zC.of (by decide) (Nat.le_of_ble_eq_true rfl) ?_
  refine wX8_doneBy_0 a s v S _ ?_
  exact l_doneBy S W C O hf hQ 9 0 (by omega)
theorem l_doneTo (S : hSt G R K n a s v) (W : okV nf Y) (C : CS I a T) (O : okT B nf Y T) {f : Nat} (hf : f < 6) (hQ : Q (some (.int (nI (toA T f)))) (I, J, R, K, n)) : ∀ j k : Nat, k + j = 9 → zV G (d + 1) mX8_doneTo 0 0 4 [(0, .ref a), (1, .int (nI f)), (2, .int (nI (bitsA (fun p => openA T p && decide (T (3 * p + 1) = f)) k))), (3, .int (nI k))] [] (I, J, R, K, n) Q := by
  have h6 := W.1
  intro j
  induction j with
  | zero =>
    intro k hk
    obtain rfl : k = 9 := by omega
    exact wX8_doneTo_4 a s v S _ _ _ ⟨fun _ => hQ, fun h => absurd (by decide) h⟩
  | succ j ih =>
    intro k hk
    have h4 := O.1 k (by omega)
    refine wX8_doneTo_4 a s v S _ _ _ ⟨fun h => ?_, fun _ => ?_⟩
    · simp (disch := omega) only [tk_0, tk_1, tk_2, tk_3, tk_4, tk_5, tk_6, tk_7, tk_8, tk_9, tk_10, tk_11, tk_12, tk_13, tk_14, tk_15, tk_16, tk_20, tk_24, tk_25, tk_26, tk_27, tk_28, tk_29, tk_30, tk_31, tk_32, tk_40, tk_41, tk_45, tk_46, tk_47, tk_48, tk_49, tk_50, tk_51, tk_57, tk_60, tk_99, tk_100, tk_120, tk_128, tk_231, tk_240, tk_255, tk_500, tk_999, tk_9999, tk_10000, pk_mul, nI_add, tk_c, tk_in, tk_lt, tk_le, tk_eq, tk_and31, tk_shl1, tk_shr1, tk_and1, tk_or, tk_ite, tk_tb, tk_mn, tk_mx] at h
      omega
    · simp (disch := omega) only [(C.1 k (by omega)).1, tk_0, tk_1, tk_2, tk_3, tk_4, tk_5, tk_6, tk_7, tk_8, tk_9, tk_10, tk_11, tk_12, tk_13, tk_14, tk_15, tk_16, tk_20, tk_24, tk_25, tk_26, tk_27, tk_28, tk_29, tk_30, tk_31, tk_32, tk_40, tk_41, tk_45, tk_46, tk_47, tk_48, tk_49, tk_50, tk_51, tk_57, tk_60, tk_99, tk_100, tk_120, tk_128, tk_231, tk_240, tk_255, tk_500, tk_999, tk_9999, tk_10000, pk_mul, nI_add, tk_c, tk_in, tk_lt, tk_le, tk_eq, tk_and31, tk_shl1, tk_shr1, tk_and1, tk_or, tk_ite, tk_tb, tk_mn, tk_mx]
      refine ⟨by omega, fun _ => by omega, ?_⟩
      by_cases hp : 0 < T (3 * k + 2)
      · have h5 := h4.2 hp
        simp (disch := omega) only [((C.1 k (by omega)).2 hp).2, tk_0, tk_1, tk_2, tk_3, tk_4, tk_5, tk_6, tk_7, tk_8, tk_9, tk_10, tk_11, tk_12, tk_13, tk_14, tk_15, tk_16, tk_20, tk_24, tk_25, tk_26, tk_27, tk_28, tk_29, tk_30, tk_31, tk_32, tk_40, tk_41, tk_45, tk_46, tk_47, tk_48, tk_49, tk_50, tk_51, tk_57, tk_60, tk_99, tk_100, tk_120, tk_128, tk_231, tk_240, tk_255, tk_500, tk_999, tk_9999, tk_10000, pk_mul, nI_add, tk_c, tk_in, tk_lt, tk_le, tk_eq, tk_and31, tk_shl1, tk_shr1, tk_and1, tk_or, tk_ite, tk_tb, tk_mn, tk_mx]
        rw [if_neg (by omega), bitsA_or (x := if T (3 * k + 1) = f then 2 ^ k else 0) (fun h => if_pos (by simp [openA] at h; omega)) (fun h => if_neg (by simp [openA] at h; omega))]
        exact ih (k + 1) (by omega)
      · rw [if_pos (by omega)]
        rw [bitsA_or (x := 0) (fun h => absurd hp (by simp [openA] at h; omega)) (fun h => rfl)]
        exact ih (k + 1) (by omega)
theorem c_doneTo (S : hSt G R K n a s v) (W : okV nf Y) (C : CS I a T) (O : okT B nf Y T) {f : Nat} (hf : f < 6) (hQ : Q (some (.int (nI (toA T f)))) (I, J, R, K, n)) : zC G (d + 1) mX8_doneTo 0 0 [.ref a, .int (nI f)] (I, J, R, K, n) Q := by
  refine zC.of (by decide) (Nat.le_of_ble_eq_true rfl) ?_
  refine wX8_doneTo_0 a s v S _ ?_
  exact l_doneTo S W C O hf hQ 9 0 (by omega)
theorem l_reachedFrom (S : hSt G R K n a s v) (W : okV nf Y) (C : CS I a T) (O : okT B nf Y T) {set : Nat} (hs : set < 64) (hQ : Q (some (.int (nI (reachA T set 9)))) (I, J, R, K, n)) : ∀ j k : Nat, k + j = 9 → zV G (d + 1) mX8_reachedFrom 0 0 4 [(0, .ref a), (1, .int (nI set)), (2, .int (nI (reachA T set k))), (3, .int (nI k))] [] (I, J, R, K, n) Q := by
  have h6 := W.1
  intro j
  induction j with
  | zero =>
    intro k hk
    obtain rfl : k = 9 := by omega
    exact wX8_reachedFrom_4 a s v S _ _ _ ⟨fun _ => hQ, fun h => absurd (by decide) h⟩
  | succ j ih =>
    intro k hk
    have h4 := O.1 k (by omega)
    refine wX8_reachedFrom_4 a s v S _ _ _ ⟨fun h => ?_, fun _ => ?_⟩
    · simp (disch := omega) only [tk_0, tk_1, tk_2, tk_3, tk_4, tk_5, tk_6, tk_7, tk_8, tk_9, tk_10, tk_11, tk_12, tk_13, tk_14, tk_15, tk_16, tk_20, tk_24, tk_25, tk_26, tk_27, tk_28, tk_29, tk_30, tk_31, tk_32, tk_40, tk_41, tk_45, tk_46, tk_47, tk_48, tk_49, tk_50, tk_51, tk_57, tk_60, tk_99, tk_100, tk_120, tk_128, tk_231, tk_240, tk_255, tk_500, tk_999, tk_9999, tk_10000, pk_mul, nI_add, tk_c, tk_in, tk_lt, tk_le, tk_eq, tk_and31, tk_shl1, tk_shr1, tk_and1, tk_or, tk_ite, tk_tb, tk_mn, tk_mx] at h
      omega
    · simp (disch := omega) only [(C.1 k (by omega)).1, tk_0, tk_1, tk_2, tk_3, tk_4, tk_5, tk_6, tk_7, tk_8, tk_9, tk_10, tk_11, tk_12, tk_13, tk_14, tk_15, tk_16, tk_20, tk_24, tk_25, tk_26, tk_27, tk_28, tk_29, tk_30, tk_31, tk_32, tk_40, tk_41, tk_45, tk_46, tk_47, tk_48, tk_49, tk_50, tk_51, tk_57, tk_60, tk_99, tk_100, tk_120, tk_128, tk_231, tk_240, tk_255, tk_500, tk_999, tk_9999, tk_10000, pk_mul, nI_add, tk_c, tk_in, tk_lt, tk_le, tk_eq, tk_and31, tk_shl1, tk_shr1, tk_and1, tk_or, tk_ite, tk_tb, tk_mn, tk_mx]
      refine ⟨by omega, fun _ => by omega, fun _ _ => by omega, ?_⟩
      have h7 : reachA T set (k + 1) = reachA T set k ||| (if openA T k && set.testBit (T (3 * k)) then 2 ^ T (3 * k + 1) else 0) := rfl
      have h8 := ih (k + 1) (by omega)
      rw [h7] at h8
      by_cases hp : 0 < T (3 * k + 2)
      · have h5 := h4.2 hp
        simp (disch := omega) only [((C.1 k (by omega)).2 hp).1, ((C.1 k (by omega)).2 hp).2, tk_0, tk_1, tk_2, tk_3, tk_4, tk_5, tk_6, tk_7, tk_8, tk_9, tk_10, tk_11, tk_12, tk_13, tk_14, tk_15, tk_16, tk_20, tk_24, tk_25, tk_26, tk_27, tk_28, tk_29, tk_30, tk_31, tk_32, tk_40, tk_41, tk_45, tk_46, tk_47, tk_48, tk_49, tk_50, tk_51, tk_57, tk_60, tk_99, tk_100, tk_120, tk_128, tk_231, tk_240, tk_255, tk_500, tk_999, tk_9999, tk_10000, pk_mul, nI_add, tk_c, tk_in, tk_lt, tk_le, tk_eq, tk_and31, tk_shl1, tk_shr1, tk_and1, tk_or, tk_ite, tk_tb, tk_mn, tk_mx]
        rw [if_neg (by omega)]
        have h9 : openA T k = true := by simp [openA]; omega
        rw [h9, Bool.true_and] at h8
        exact h8
      · rw [if_pos (by omega)]
        simp (disch := omega) only [tk_0, tk_1, tk_2, tk_3, tk_4, tk_5, tk_6, tk_7, tk_8, tk_9, tk_10, tk_11, tk_12, tk_13, tk_14, tk_15, tk_16, tk_20, tk_24, tk_25, tk_26, tk_27, tk_28, tk_29, tk_30, tk_31, tk_32, tk_40, tk_41, tk_45, tk_46, tk_47, tk_48, tk_49, tk_50, tk_51, tk_57, tk_60, tk_99, tk_100, tk_120, tk_128, tk_231, tk_240, tk_255, tk_500, tk_999, tk_9999, tk_10000, pk_mul, nI_add, tk_c, tk_in, tk_lt, tk_le, tk_eq, tk_and31, tk_shl1, tk_shr1, tk_and1, tk_or, tk_ite, tk_tb, tk_mn, tk_mx]
        have h9 : openA T k = false := by simp [openA]; omega
        rw [h9, Bool.false_and, if_neg (by decide)] at h8
        exact h8
theorem c_reachedFrom (S : hSt G R K n a s v) (W : okV nf Y) (C : CS I a T) (O : okT B nf Y T) {set : Nat} (hs : set < 64) (hQ : Q (some (.int (nI (reachA T set 9)))) (I, J, R, K, n)) : zC G (d + 1) mX8_reachedFrom 0 0 [.ref a, .int (nI set)] (I, J, R, K, n) Q := by
  refine zC.of (by decide) (Nat.le_of_ble_eq_true rfl) ?_
  refine wX8_reachedFrom_0 a s v S _ ?_
  exact l_reachedFrom S W C O hs hQ 9 0 (by omega)
/-- the fewest links, at most i more, from a set to a farm; c: so many were gone already -/
def linksA (T : Nat → Nat) (to : Nat) : Nat → Nat → Nat → Int32
  | 0, _, _ => -1
  | i + 1, c, set => if set.testBit to then nI c else linksA T to i (c + 1) (set ||| reachA T set 9)
theorem l_links (S : hSt G R K n a s v) (W : okV nf Y) (C : CS I a T) (O : okT B nf Y T) {to : Nat} (ht : to < 6) {l1 : Int32} : ∀ j k set : Nat, k + j = 6 → set < 64 → Q (some (.int (linksA T to j k set))) (I, J, R, K, n) → zV G (d + 2) mX8_links 0 0 5 [(0, .ref a), (1, .int l1), (2, .int (nI to)), (3, .int (nI set)), (4, .int (nI k))] [] (I, J, R, K, n) Q := by
  intro j
  induction j with
  | zero =>
    intro k set hk hs hQ
    obtain rfl : k = 6 := by omega
    exact wX8_links_5 a s v S _ _ _ _ ⟨fun _ => hQ, fun h => absurd (by decide) h⟩
  | succ j ih =>
    intro k set hk hs hQ
    rw [linksA] at hQ
    refine wX8_links_5 a s v S _ _ _ _ ⟨fun h => ?_, fun _ => ⟨fun h => ?_, fun h => ?_⟩⟩
    · simp (disch := omega) only [tk_0, tk_1, tk_2, tk_3, tk_4, tk_5, tk_6, tk_7, tk_8, tk_9, tk_10, tk_11, tk_12, tk_13, tk_14, tk_15, tk_16, tk_20, tk_24, tk_25, tk_26, tk_27, tk_28, tk_29, tk_30, tk_31, tk_32, tk_40, tk_41, tk_45, tk_46, tk_47, tk_48, tk_49, tk_50, tk_51, tk_57, tk_60, tk_99, tk_100, tk_120, tk_128, tk_231, tk_240, tk_255, tk_500, tk_999, tk_9999, tk_10000, pk_mul, nI_add, tk_c, tk_in, tk_lt, tk_le, tk_eq, tk_and31, tk_shl1, tk_shr1, tk_and1, tk_or, tk_ite, tk_tb, tk_mn, tk_mx] at h
      omega
    · simp (disch := omega) only [tk_0, tk_1, tk_2, tk_3, tk_4, tk_5, tk_6, tk_7, tk_8, tk_9, tk_10, tk_11, tk_12, tk_13, tk_14, tk_15, tk_16, tk_20, tk_24, tk_25, tk_26, tk_27, tk_28, tk_29, tk_30, tk_31, tk_32, tk_40, tk_41, tk_45, tk_46, tk_47, tk_48, tk_49, tk_50, tk_51, tk_57, tk_60, tk_99, tk_100, tk_120, tk_128, tk_231, tk_240, tk_255, tk_500, tk_999, tk_9999, tk_10000, pk_mul, nI_add, tk_c, tk_in, tk_lt, tk_le, tk_eq, tk_and31, tk_shl1, tk_shr1, tk_and1, tk_or, tk_ite, tk_tb, tk_mn, tk_mx] at h
      rw [if_pos h] at hQ
      exact hQ
    · simp (disch := omega) only [tk_0, tk_1, tk_2, tk_3, tk_4, tk_5, tk_6, tk_7, tk_8, tk_9, tk_10, tk_11, tk_12, tk_13, tk_14, tk_15, tk_16, tk_20, tk_24, tk_25, tk_26, tk_27, tk_28, tk_29, tk_30, tk_31, tk_32, tk_40, tk_41, tk_45, tk_46, tk_47, tk_48, tk_49, tk_50, tk_51, tk_57, tk_60, tk_99, tk_100, tk_120, tk_128, tk_231, tk_240, tk_255, tk_500, tk_999, tk_9999, tk_10000, pk_mul, nI_add, tk_c, tk_in, tk_lt, tk_le, tk_eq, tk_and31, tk_shl1, tk_shr1, tk_and1, tk_or, tk_ite, tk_tb, tk_mn, tk_mx] at h
      rw [if_neg h] at hQ
      refine c_reachedFrom S W C O hs ?_
      refine ⟨_, _, rfl, rfl, ?_⟩
      have h1 : set ||| reachA T set 9 < 64 := Nat.or_lt_two_pow (n := 6) hs (reachA_lt O W set 9 (Nat.le_refl _))
      simp (disch := omega) only [tk_0, tk_1, tk_2, tk_3, tk_4, tk_5, tk_6, tk_7, tk_8, tk_9, tk_10, tk_11, tk_12, tk_13, tk_14, tk_15, tk_16, tk_20, tk_24, tk_25, tk_26, tk_27, tk_28, tk_29, tk_30, tk_31, tk_32, tk_40, tk_41, tk_45, tk_46, tk_47, tk_48, tk_49, tk_50, tk_51, tk_57, tk_60, tk_99, tk_100, tk_120, tk_128, tk_231, tk_240, tk_255, tk_500, tk_999, tk_9999, tk_10000, pk_mul, nI_add, tk_c, tk_in, tk_lt, tk_le, tk_eq, tk_and31, tk_shl1, tk_shr1, tk_and1, tk_or, tk_ite, tk_tb, tk_mn, tk_mx]
      exact ih (k + 1) _ (by omega) h1 hQ
theorem c_links (S : hSt G R K n a s v) (W : okV nf Y) (C : CS I a T) (O : okT B nf Y T) {to set : Nat} (ht : to < 6) (hs : set < 64) (hQ : Q (some (.int (linksA T to 6 0 set))) (I, J, R, K, n)) : zC G (d + 2) mX8_links 0 0 [.ref a, .int (nI set), .int (nI to)] (I, J, R, K, n) Q := by
  refine zC.of (by decide) (Nat.le_of_ble_eq_true rfl) ?_
  refine wX8_links_0 a s v S _ _ ?_
  exact l_links S W C O ht 6 0 set (by omega) hs hQ
theorem l_bareInAll (S : hSt G R K n a s v) (V : VL I v nf Y) (W : okV nf Y) (C : CS I a T) (O : okT B nf Y T) (hQ : Q (some (.int (nI (sumA (bareA Y T) nf)))) (I, J, R, K, n)) : ∀ j k : Nat, k + j = nf → zV G (d + 3) mX8_bareInAll 0 0 4 [(0, .ref a), (1, .int (nI (sumA (bareA Y T) k))), (2, .int (nI k))] [] (I, J, R, K, n) Q := by
  have h6 := W.1
  intro j
  induction j with
  | zero =>
    intro k hk
    obtain rfl : k = nf := by omega
    refine wX8_bareInAll_4 a s v S _ _ ⟨fun _ => hQ, fun h => ?_⟩
    simp (disch := omega) only [V.1, tk_0, tk_1, tk_2, tk_3, tk_4, tk_5, tk_6, tk_7, tk_8, tk_9, tk_10, tk_11, tk_12, tk_13, tk_14, tk_15, tk_16, tk_20, tk_24, tk_25, tk_26, tk_27, tk_28, tk_29, tk_30, tk_31, tk_32, tk_40, tk_41, tk_45, tk_46, tk_47, tk_48, tk_49, tk_50, tk_51, tk_57, tk_60, tk_99, tk_100, tk_120, tk_128, tk_231, tk_240, tk_255, tk_500, tk_999, tk_9999, tk_10000, pk_mul, nI_add, tk_c, tk_in, tk_lt, tk_le, tk_eq, tk_and31, tk_shl1, tk_shr1, tk_and1, tk_or, tk_ite, tk_tb, tk_mn, tk_mx] at h
    omega
  | succ j ih =>
    intro k hk
    refine wX8_bareInAll_4 a s v S _ _ ⟨fun h => ?_, fun _ => ?_⟩
    · simp (disch := omega) only [V.1, tk_0, tk_1, tk_2, tk_3, tk_4, tk_5, tk_6, tk_7, tk_8, tk_9, tk_10, tk_11, tk_12, tk_13, tk_14, tk_15, tk_16, tk_20, tk_24, tk_25, tk_26, tk_27, tk_28, tk_29, tk_30, tk_31, tk_32, tk_40, tk_41, tk_45, tk_46, tk_47, tk_48, tk_49, tk_50, tk_51, tk_57, tk_60, tk_99, tk_100, tk_120, tk_128, tk_231, tk_240, tk_255, tk_500, tk_999, tk_9999, tk_10000, pk_mul, nI_add, tk_c, tk_in, tk_lt, tk_le, tk_eq, tk_and31, tk_shl1, tk_shr1, tk_and1, tk_or, tk_ite, tk_tb, tk_mn, tk_mx] at h
      omega
    · refine c_bare S V W C O (f := k) (by omega) ?_
      refine ⟨_, _, rfl, rfl, ?_⟩
      simp (disch := omega) only [tk_0, tk_1, tk_2, tk_3, tk_4, tk_5, tk_6, tk_7, tk_8, tk_9, tk_10, tk_11, tk_12, tk_13, tk_14, tk_15, tk_16, tk_20, tk_24, tk_25, tk_26, tk_27, tk_28, tk_29, tk_30, tk_31, tk_32, tk_40, tk_41, tk_45, tk_46, tk_47, tk_48, tk_49, tk_50, tk_51, tk_57, tk_60, tk_99, tk_100, tk_120, tk_128, tk_231, tk_240, tk_255, tk_500, tk_999, tk_9999, tk_10000, pk_mul, nI_add, tk_c, tk_in, tk_lt, tk_le, tk_eq, tk_and31, tk_shl1, tk_shr1, tk_and1, tk_or, tk_ite, tk_tb, tk_mn, tk_mx]
      exact ih (k + 1) (by omega)
theorem c_bareInAll (S : hSt G R K n a s v) (V : VL I v nf Y) (W : okV nf Y) (C : CS I a T) (O : okT B nf Y T) (hQ : Q (some (.int (nI (sumA (bareA Y T) nf)))) (I, J, R, K, n)) : zC G (d + 3) mX8_bareInAll 0 0 [.ref a] (I, J, R, K, n) Q := by
  refine zC.of (by decide) (Nat.le_of_ble_eq_true rfl) ?_
  refine wX8_bareInAll_0 a s v S ?_
  exact l_bareInAll S V W C O hQ nf 0 (by omega)
end
