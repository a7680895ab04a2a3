/-! THE MODEL'S ROWS: what it reads -/
theorem tk_nat {p : Int32} (h : 0 ≤ p.toInt) : ∃ k : Nat, k < 2147483648 ∧ p = nI k ∧ p.toInt = k := by
  obtain ⟨k, hk, e⟩ := nI_of (x := p) (fun h2 => by rw [Int32.lt_iff_toInt_lt] at h2; have e0 : (0 : Int32).toInt = 0 := rfl; omega)
  exact ⟨k, hk, e, by rw [e, nI_toInt hk]⟩
theorem tk_t {k : Nat} (h : k < 2147483648) : (nI k).toInt = k := nI_toInt (by omega)
theorem sumA_le2 (g : Nat → Nat) (b : Nat) : ∀ k, (∀ j, j < k → g j ≤ b) → sumA g k ≤ k * b
  | 0, _ => Nat.zero_le _
  | k + 1, h => by rw [sumA, Nat.add_mul, Nat.one_mul]; exact Nat.add_le_add (sumA_le2 g b k (fun j hj => h j (by omega))) (h k (by omega))
theorem tk_pos {a b : Nat} (ha : a < 1000000) (hb : b < 1000000) : (if (0 : Int32) < nI a - nI b then nI a - nI b else 0) = nI (a - b) := by
  by_cases h : b ≤ a
  · rw [tk_sub h]
    by_cases e : a - b = 0
    · rw [e, if_neg (by decide)]; rfl
    · exact if_pos ((tk_lt (a := 0) (by omega) (by omega)).mpr (by omega))
  · rw [show a - b = 0 by omega]
    refine if_neg (fun h2 => ?_)
    have h3 := pk_sneg (a := a) (b := b) (by omega) (by omega)
    rw [Int32.lt_iff_toInt_lt] at h2 h3
    omega
section
variable {G : zG} {d : Nat} {I : Nat → Nat → Int32} {J : Nat → Nat → Int64} {R : Nat → Nat → Option Nat} {K : Nat → Nat × Nat} {n : Nat} {m t c b nf B : Nat} {Y T : Nat → Nat} {Q : Option Value → zH → Prop}
theorem c_isIn {x lo hi : Int64} (h1 : lo.toInt ≤ x.toInt → x.toInt ≤ hi.toInt → Q (some (.int 1)) (I, J, R, K, n)) (h0 : (lo.toInt ≤ x.toInt → x.toInt ≤ hi.toInt → False) → Q (some (.int 0)) (I, J, R, K, n)) : zC G (d + 1) mX12_isIn 0 0 [.long x, .long lo, .long hi] (I, J, R, K, n) Q := by
  refine zC.of (by decide) (Nat.le_of_ble_eq_true rfl) ?_
  refine wX12_isIn_0 _ _ _ ?_
  by_cases h2 : x < lo
  · rw [if_pos ((lg_cmp_lt _ _).mpr h2)]
    rw [Int64.lt_iff_toInt_lt] at h2
    exact h0 (fun h3 => by omega)
  · rw [if_neg (fun h => h2 ((lg_cmp_lt _ _).mp h))]
    rw [Int64.lt_iff_toInt_lt] at h2
    by_cases h3 : hi < x
    · rw [if_pos ((lg_cmp_gt _ _).mpr h3)]
      rw [Int64.lt_iff_toInt_lt] at h3
      exact h0 (fun _ h4 => by omega)
    · rw [if_neg (fun h => h3 ((lg_cmp_gt _ _).mp h))]
      rw [Int64.lt_iff_toInt_lt] at h3
      exact h1 (by omega) (by omega)
theorem c_isIn32 {p : Int32} {lo hi : Int64} {a z : Int} (ha : lo.toInt = a) (hz : hi.toInt = z) (h1 : a ≤ p.toInt → p.toInt ≤ z → Q (some (.int 1)) (I, J, R, K, n)) (h0 : (a ≤ p.toInt → p.toInt ≤ z → False) → Q (some (.int 0)) (I, J, R, K, n)) : zC G (d + 1) mX12_isIn 0 0 [.long p.toInt64, .long lo, .long hi] (I, J, R, K, n) Q := by
  refine c_isIn (fun h2 h3 => ?_) (fun h2 => ?_)
  · rw [Int32.toInt_toInt64] at h2 h3
    exact h1 (by omega) (by omega)
  · rw [Int32.toInt_toInt64] at h2
    exact h0 (fun h3 h4 => h2 (by omega) (by omega))
theorem c_has {s k : Nat} (hs : s < 2147483648) (hk : k < 31) (hQ : Q (some (.int (if s.testBit k then 1 else 0))) (I, J, R, K, n)) : zC G (d + 1) mX12_has 0 0 [.int (nI s), .int (nI k)] (I, J, R, K, n) Q := by
  refine zC.of (by decide) (Nat.le_of_ble_eq_true rfl) ?_
  refine wX12_has_0 _ _ ?_
  by_cases h : s.testBit k = true
  · rw [if_pos ((tk_bit hs hk).mpr h)]
    rw [if_pos h] at hQ
    exact hQ
  · rw [if_neg (fun h2 => h ((tk_bit hs hk).mp h2))]
    rw [if_neg h] at hQ
    exact hQ
theorem c_mf_y (S : hMod G R K n m t c) (V : I m 26 = nI nf) (h6 : nf ≤ 6) {f : Nat} (hf : f < nf) (hQ : Q (some (.int 1)) (I, J, R, K, n)) : zC G (d + 1) mX12_isFarm 0 0 [.ref m, .int (nI f)] (I, J, R, K, n) Q := by
  refine zC.of (by decide) (Nat.le_of_ble_eq_true rfl) ?_
  refine wX12_isFarm_0 m t c S _ ?_
  rw [V, if_neg (nI_pos (by omega)), if_neg (by rw [tk_le (by omega) (by omega)]; omega)]
  exact hQ
theorem c_mf_n (S : hMod G R K n m t c) (V : I m 26 = nI nf) {p : Int32} (hp : bad nf p) (hQ : Q (some (.int 0)) (I, J, R, K, n)) : zC G (d + 1) mX12_isFarm 0 0 [.ref m, .int p] (I, J, R, K, n) Q := by
  refine zC.of (by decide) (Nat.le_of_ble_eq_true rfl) ?_
  refine wX12_isFarm_0 m t c S _ ?_
  rw [V]
  rcases hp with h | h
  · rw [if_pos h]; exact hQ
  · rw [if_pos h, ite_self]; exact hQ
/-- two farms that are not one -/
def areTwo (nf : Nat) (p q : Int32) : Prop := ∃ x y : Nat, x < nf ∧ y < nf ∧ x ≠ y ∧ p = nI x ∧ q = nI y
theorem c_areTwo (S : hMod G R K n m t c) (V : I m 26 = nI nf) (h6 : nf ≤ 6) {p q : Int32} (h1 : areTwo nf p q → Q (some (.int 1)) (I, J, R, K, n)) (h0 : ¬ areTwo nf p q → Q (some (.int 0)) (I, J, R, K, n)) : zC G (d + 2) mX12_areTwo 0 0 [.ref m, .int p, .int q] (I, J, R, K, n) Q := by
  refine zC.of (by decide) (Nat.le_of_ble_eq_true rfl) ?_
  refine wX12_areTwo_0 m t c S _ _ ?_
  rcases bad_or (N := nf) (by omega) p with hb | ⟨x, hx, rfl⟩
  · refine c_mf_n S V hb ?_
    refine ⟨_, _, rfl, rfl, ?_⟩
    refine ⟨fun _ => h0 ?_, fun h => absurd rfl h⟩
    rintro ⟨x, y, hx, -, -, rfl, -⟩
    exact bad_not (by omega) hx hb
  · refine c_mf_y S V h6 hx ?_
    refine ⟨_, _, rfl, rfl, ?_⟩
    refine ⟨fun h => absurd h (by decide), fun _ => ?_⟩
    rcases bad_or (N := nf) (by omega) q with hb | ⟨y, hy, rfl⟩
    · refine c_mf_n S V hb ?_
      refine ⟨_, _, rfl, rfl, ?_⟩
      rw [if_pos rfl]
      refine h0 ?_
      rintro ⟨x, y, -, hy, -, -, rfl⟩
      exact bad_not (by omega) hy hb
    · refine c_mf_y S V h6 hy ?_
      refine ⟨_, _, rfl, rfl, ?_⟩
      rw [if_neg (by decide)]
      by_cases e : x = y
      · subst e
        rw [if_pos rfl]
        refine h0 ?_
        rintro ⟨x', y', hx', hy', hne, e1, e2⟩
        rw [tk_eq (by omega) (by omega)] at e1 e2
        omega
      · rw [if_neg (by rw [tk_eq (by omega) (by omega)]; exact e)]
        exact h1 ⟨x, y, hx, hy, e, rfl, rfl⟩
theorem c_mo_y (hb : sA G K n b 32 231) (C : MR I b T) (O : okT B nf Y T) {p : Nat} (hp : p < 9) (ho : 0 < T (3 * p + 2)) (hQ : Q (some (.int 1)) (I, J, R, K, n)) : zC G (d + 1) mX12_isOpen 0 0 [.ref b, .int (nI p)] (I, J, R, K, n) Q := by
  have h2 := (O.1 p hp).1
  refine zC.of (by decide) (Nat.le_of_ble_eq_true rfl) ?_
  refine wX12_isOpen_0 b hb _ ?_
  simp (disch := omega) only [C (3 * p + 2) (by omega), tk_0, tk_1, tk_2, tk_3, tk_4, tk_5, tk_6, tk_7, tk_8, tk_9, tk_10, tk_11, tk_12, tk_13, tk_14, tk_15, tk_16, tk_20, tk_24, tk_25, tk_26, tk_27, tk_28, tk_29, tk_30, tk_31, tk_32, tk_40, tk_41, tk_45, tk_46, tk_47, tk_48, tk_49, tk_50, tk_51, tk_57, tk_60, tk_99, tk_100, tk_120, tk_128, tk_231, tk_240, tk_255, tk_500, tk_999, tk_9999, tk_10000, pk_mul, nI_add, tk_c, tk_in, tk_lt, tk_le, tk_eq, tk_and31, tk_shl1, tk_shr1, tk_and1, tk_or, tk_ite, tk_tb, tk_mn, tk_mx]
  rw [if_neg (by omega), if_neg (by omega), if_neg (by omega)]
  exact ⟨fun _ _ => by omega, hQ⟩
theorem c_mo_n (hb : sA G K n b 32 231) (C : MR I b T) {p : Int32} (hp : shut T p) (hQ : Q (some (.int 0)) (I, J, R, K, n)) : zC G (d + 1) mX12_isOpen 0 0 [.ref b, .int p] (I, J, R, K, n) Q := by
  refine zC.of (by decide) (Nat.le_of_ble_eq_true rfl) ?_
  refine wX12_isOpen_0 b hb _ ?_
  rcases hp with (h | h) | ⟨j, hj, rfl, h⟩
  · rw [if_pos h]
    exact ⟨fun h2 => absurd h h2, hQ⟩
  · have h' : (9 : Int32) ≤ p := h
    rw [if_pos h', ite_self]
    exact ⟨fun _ h2 => absurd h' h2, hQ⟩
  · simp (disch := omega) only [C (3 * j + 2) (by omega), h, tk_0, tk_1, tk_2, tk_3, tk_4, tk_5, tk_6, tk_7, tk_8, tk_9, tk_10, tk_11, tk_12, tk_13, tk_14, tk_15, tk_16, tk_20, tk_24, tk_25, tk_26, tk_27, tk_28, tk_29, tk_30, tk_31, tk_32, tk_40, tk_41, tk_45, tk_46, tk_47, tk_48, tk_49, tk_50, tk_51, tk_57, tk_60, tk_99, tk_100, tk_120, tk_128, tk_231, tk_240, tk_255, tk_500, tk_999, tk_9999, tk_10000, pk_mul, nI_add, tk_c, tk_in, tk_lt, tk_le, tk_eq, tk_and31, tk_shl1, tk_shr1, tk_and1, tk_or, tk_ite, tk_tb, tk_mn, tk_mx]
    rw [if_neg (by omega), if_neg (by omega), if_pos (by omega)]
    exact ⟨fun _ _ => by omega, hQ⟩
theorem c_mwhite (hb : sA G K n b 32 231) (C : MR I b T) {f : Nat} (hf : f < 6) (hQ : Q (some (.int (nI (T (27 + 3 * f) + T (28 + 3 * f))))) (I, J, R, K, n)) : zC G (d + 1) mX12_white 0 0 [.ref b, .int (nI f)] (I, J, R, K, n) Q := by
  refine zC.of (by decide) (Nat.le_of_ble_eq_true rfl) ?_
  refine wX12_white_0 b hb _ ?_
  simp (disch := omega) only [tk_0, tk_1, tk_2, tk_3, tk_4, tk_5, tk_6, tk_7, tk_8, tk_9, tk_10, tk_11, tk_12, tk_13, tk_14, tk_15, tk_16, tk_20, tk_24, tk_25, tk_26, tk_27, tk_28, tk_29, tk_30, tk_31, tk_32, tk_40, tk_41, tk_45, tk_46, tk_47, tk_48, tk_49, tk_50, tk_51, tk_57, tk_60, tk_99, tk_100, tk_120, tk_128, tk_231, tk_240, tk_255, tk_500, tk_999, tk_9999, tk_10000, pk_mul, nI_add, tk_c, tk_in, tk_lt, tk_le, tk_eq, tk_and31, tk_shl1, tk_shr1, tk_and1, tk_or, tk_ite, tk_tb, tk_mn, tk_mx]
  rw [show 27 + 3 * f + 0 = 27 + 3 * f from rfl, show 27 + 3 * f + 1 = 28 + 3 * f by omega, C (27 + 3 * f) (by omega), C (28 + 3 * f) (by omega), nI_add]
  exact ⟨by omega, by omega, hQ⟩
theorem c_mbare (S : hMod G R K n m t c) (hb : sA G K n b 32 231) (V : VM I m nf Y) (W : okV nf Y) (C : MR I b T) (O : okT B nf Y T) {f : Nat} (hf : f < nf) (hQ : Q (some (.int (nI (bareA Y T f)))) (I, J, R, K, n)) : zC G (d + 2) mX12_bare 0 0 [.ref m, .ref b, .int (nI f)] (I, J, R, K, n) Q := by
  have h6 := W.1
  refine zC.of (by decide) (Nat.le_of_ble_eq_true rfl) ?_
  refine wX12_bare_0 m t c b hb S _ ?_
  simp (disch := omega) only [tk_0, tk_1, tk_2, tk_3, tk_4, tk_5, tk_6, tk_7, tk_8, tk_9, tk_10, tk_11, tk_12, tk_13, tk_14, tk_15, tk_16, tk_20, tk_24, tk_25, tk_26, tk_27, tk_28, tk_29, tk_30, tk_31, tk_32, tk_40, tk_41, tk_45, tk_46, tk_47, tk_48, tk_49, tk_50, tk_51, tk_57, tk_60, tk_99, tk_100, tk_120, tk_128, tk_231, tk_240, tk_255, tk_500, tk_999, tk_9999, tk_10000, pk_mul, nI_add, tk_c, tk_in, tk_lt, tk_le, tk_eq, tk_and31, tk_shl1, tk_shr1, tk_and1, tk_or, tk_ite, tk_tb, tk_mn, tk_mx]
  refine ⟨by omega, ?_⟩
  refine c_mwhite hb C (by omega) ?_
  refine ⟨_, _, rfl, rfl, ?_⟩
  rw [(V.2 f hf).1, tk_sub (O.2.1 f hf)]
  exact hQ
theorem l_mwhites (S : hMod G R K n m t c) (hb : sA G K n b 32 231) (V : VM I m nf Y) (W : okV nf Y) (C : MR I b T) (O : okT B nf Y T) (hQ : Q (some (.int (nI (whitesA nf Y T)))) (I, J, R, K, n)) : ∀ j k : Nat, k + j = nf → zV G (d + 3) mX12_whites 0 0 4 [(0, .ref m), (1, .ref b), (2, .int (nI (bitsA (fun f => decide (bareA Y T f = 0)) k))), (3, .int (nI k))] [] (I, J, R, K, n) Q := by
  have h6 := W.1
  intro j
  induction j with
  | zero =>
    intro k hk
    obtain rfl : k = nf := by omega
    refine wX12_whites_4 m t c b hb S _ _ ⟨fun _ => hQ, fun h => ?_⟩
    simp (disch := omega) only [tk_0, tk_1, tk_2, tk_3, tk_4, tk_5, tk_6, tk_7, tk_8, tk_9, tk_10, tk_11, tk_12, tk_13, tk_14, tk_15, tk_16, tk_20, tk_24, tk_25, tk_26, tk_27, tk_28, tk_29, tk_30, tk_31, tk_32, tk_40, tk_41, tk_45, tk_46, tk_47, tk_48, tk_49, tk_50, tk_51, tk_57, tk_60, tk_99, tk_100, tk_120, tk_128, tk_231, tk_240, tk_255, tk_500, tk_999, tk_9999, tk_10000, pk_mul, nI_add, tk_c, tk_in, tk_lt, tk_le, tk_eq, tk_and31, tk_shl1, tk_shr1, tk_and1, tk_or, tk_ite, tk_tb, tk_mn, tk_mx, V.1] at h
    omega
  | succ j ih =>
    intro k hk
    refine wX12_whites_4 m t c b hb S _ _ ⟨fun h => ?_, fun _ => ?_⟩
    · simp (disch := omega) only [tk_0, tk_1, tk_2, tk_3, tk_4, tk_5, tk_6, tk_7, tk_8, tk_9, tk_10, tk_11, tk_12, tk_13, tk_14, tk_15, tk_16, tk_20, tk_24, tk_25, tk_26, tk_27, tk_28, tk_29, tk_30, tk_31, tk_32, tk_40, tk_41, tk_45, tk_46, tk_47, tk_48, tk_49, tk_50, tk_51, tk_57, tk_60, tk_99, tk_100, tk_120, tk_128, tk_231, tk_240, tk_255, tk_500, tk_999, tk_9999, tk_10000, pk_mul, nI_add, tk_c, tk_in, tk_lt, tk_le, tk_eq, tk_and31, tk_shl1, tk_shr1, tk_and1, tk_or, tk_ite, tk_tb, tk_mn, tk_mx, V.1] at h
      omega
    · refine c_mbare S hb V W C O (f := k) (by omega) ?_
      refine ⟨_, _, rfl, rfl, ?_⟩
      have h4 := bareA_le (T := T) W (f := k) (by omega)
      simp (disch := omega) only [tk_0, tk_1, tk_2, tk_3, tk_4, tk_5, tk_6, tk_7, tk_8, tk_9, tk_10, tk_11, tk_12, tk_13, tk_14, tk_15, tk_16, tk_20, tk_24, tk_25, tk_26, tk_27, tk_28, tk_29, tk_30, tk_31, tk_32, tk_40, tk_41, tk_45, tk_46, tk_47, tk_48, tk_49, tk_50, tk_51, tk_57, tk_60, tk_99, tk_100, tk_120, tk_128, tk_231, tk_240, tk_255, tk_500, tk_999, tk_9999, tk_10000, pk_mul, nI_add, tk_c, tk_in, tk_lt, tk_le, tk_eq, tk_and31, tk_shl1, tk_shr1, tk_and1, tk_or, tk_ite, tk_tb, tk_mn, tk_mx]
      rw [bitsA_or (x := if bareA Y T k = 0 then 2 ^ k else 0) (fun h => if_pos (by simpa using h)) (fun h => if_neg (by simpa using h))]
      exact ih (k + 1) (by omega)
theorem c_mwhites (S : hMod G R K n m t c) (hb : sA G K n b 32 231) (V : VM I m nf Y) (W : okV nf Y) (C : MR I b T) (O : okT B nf Y T) (hQ : Q (some (.int (nI (whitesA nf Y T)))) (I, J, R, K, n)) : zC G (d + 3) mX12_whites 0 0 [.ref m, .ref b] (I, J, R, K, n) Q := by
  refine zC.of (by decide) (Nat.le_of_ble_eq_true rfl) ?_
  refine wX12_whites_0 m t c b hb S ?_
  exact l_mwhites S hb V W C O hQ nf 0 (by omega)
theorem l_mfalses (S : hMod G R K n m t c) (V : VM I m nf Y) (W : okV nf Y) (C : MR I (m + 13) T) (O : okT B nf Y T) (hQ : Q (some (.int (nI (falsesA nf T)))) (I, J, R, K, n)) : ∀ j k : Nat, k + j = nf → zV G (d + 1) mX12_falses 0 0 4 [(0, .ref m), (1, .int (nI (bitsA (fun f => decide (0 < T (28 + 3 * f))) k))), (2, .int (nI k))] [] (I, J, R, K, n) Q := by
  have h6 := W.1
  intro j
  induction j with
  | zero =>
    intro k hk
    obtain rfl : k = nf := by omega
    refine wX12_falses_4 m t c S _ _ ⟨fun _ => hQ, fun h => ?_⟩
    simp (disch := omega) only [tk_0, tk_1, tk_2, tk_3, tk_4, tk_5, tk_6, tk_7, tk_8, tk_9, tk_10, tk_11, tk_12, tk_13, tk_14, tk_15, tk_16, tk_20, tk_24, tk_25, tk_26, tk_27, tk_28, tk_29, tk_30, tk_31, tk_32, tk_40, tk_41, tk_45, tk_46, tk_47, tk_48, tk_49, tk_50, tk_51, tk_57, tk_60, tk_99, tk_100, tk_120, tk_128, tk_231, tk_240, tk_255, tk_500, tk_999, tk_9999, tk_10000, pk_mul, nI_add, tk_c, tk_in, tk_lt, tk_le, tk_eq, tk_and31, tk_shl1, tk_shr1, tk_and1, tk_or, tk_ite, tk_tb, tk_mn, tk_mx, V.1] at h
    omega
  | succ j ih =>
    intro k hk
    have h4 := O.t W (f := k) (by omega)
    refine wX12_falses_4 m t c S _ _ ⟨fun h => ?_, fun _ => ?_⟩
    · simp (disch := omega) only [tk_0, tk_1, tk_2, tk_3, tk_4, tk_5, tk_6, tk_7, tk_8, tk_9, tk_10, tk_11, tk_12, tk_13, tk_14, tk_15, tk_16, tk_20, tk_24, tk_25, tk_26, tk_27, tk_28, tk_29, tk_30, tk_31, tk_32, tk_40, tk_41, tk_45, tk_46, tk_47, tk_48, tk_49, tk_50, tk_51, tk_57, tk_60, tk_99, tk_100, tk_120, tk_128, tk_231, tk_240, tk_255, tk_500, tk_999, tk_9999, tk_10000, pk_mul, nI_add, tk_c, tk_in, tk_lt, tk_le, tk_eq, tk_and31, tk_shl1, tk_shr1, tk_and1, tk_or, tk_ite, tk_tb, tk_mn, tk_mx, V.1] at h
      omega
    · simp (disch := omega) only [tk_0, tk_1, tk_2, tk_3, tk_4, tk_5, tk_6, tk_7, tk_8, tk_9, tk_10, tk_11, tk_12, tk_13, tk_14, tk_15, tk_16, tk_20, tk_24, tk_25, tk_26, tk_27, tk_28, tk_29, tk_30, tk_31, tk_32, tk_40, tk_41, tk_45, tk_46, tk_47, tk_48, tk_49, tk_50, tk_51, tk_57, tk_60, tk_99, tk_100, tk_120, tk_128, tk_231, tk_240, tk_255, tk_500, tk_999, tk_9999, tk_10000, pk_mul, nI_add, tk_c, tk_in, tk_lt, tk_le, tk_eq, tk_and31, tk_shl1, tk_shr1, tk_and1, tk_or, tk_ite, tk_tb, tk_mn, tk_mx]
      rw [show 27 + 3 * k + 1 = 28 + 3 * k by omega, C (28 + 3 * k) (by omega)]
      simp (disch := omega) only [tk_0, tk_1, tk_2, tk_3, tk_4, tk_5, tk_6, tk_7, tk_8, tk_9, tk_10, tk_11, tk_12, tk_13, tk_14, tk_15, tk_16, tk_20, tk_24, tk_25, tk_26, tk_27, tk_28, tk_29, tk_30, tk_31, tk_32, tk_40, tk_41, tk_45, tk_46, tk_47, tk_48, tk_49, tk_50, tk_51, tk_57, tk_60, tk_99, tk_100, tk_120, tk_128, tk_231, tk_240, tk_255, tk_500, tk_999, tk_9999, tk_10000, pk_mul, nI_add, tk_c, tk_in, tk_lt, tk_le, tk_eq, tk_and31, tk_shl1, tk_shr1, tk_and1, tk_or, tk_ite, tk_tb, tk_mn, tk_mx]
      refine ⟨by omega, ?_⟩
      rw [bitsA_or (x := if T (28 + 3 * k) ≤ 0 then 0 else 2 ^ k) (fun h => if_neg (by simp at h; omega)) (fun h => if_pos (by simp at h; omega))]
      exact ih (k + 1) (by omega)
theorem c_mfalses (S : hMod G R K n m t c) (V : VM I m nf Y) (W : okV nf Y) (C : MR I (m + 13) T) (O : okT B nf Y T) (hQ : Q (some (.int (nI (falsesA nf T)))) (I, J, R, K, n)) : zC G (d + 1) mX12_falses 0 0 [.ref m] (I, J, R, K, n) Q := by
  refine zC.of (by decide) (Nat.le_of_ble_eq_true rfl) ?_
  refine wX12_falses_0 m t c S ?_
  exact l_mfalses S V W C O hQ nf 0 (by omega)
theorem l_msum (S : hMod G R K n m t c) (V : VM I m nf Y) (W : okV nf Y) (C : MR I (m + 13) T) {w : Nat} (hw : w < 3) (hQ : Q (some (.int (nI (sumA (fun f => T (27 + w + 3 * f)) nf)))) (I, J, R, K, n)) : ∀ j k : Nat, k + j = nf → zV G (d + 1) mX12_sumOf 0 0 4 [(0, .ref m), (1, .int (nI w)), (2, .int (nI (sumA (fun f => T (27 + w + 3 * f)) k))), (3, .int (nI k))] [] (I, J, R, K, n) Q := by
  have h6 := W.1
  intro j
  induction j with
  | zero =>
    intro k hk
    obtain rfl : k = nf := by omega
    refine wX12_sumOf_4 m t c S _ _ _ ⟨fun _ => hQ, fun h => ?_⟩
    simp (disch := omega) only [tk_0, tk_1, tk_2, tk_3, tk_4, tk_5, tk_6, tk_7, tk_8, tk_9, tk_10, tk_11, tk_12, tk_13, tk_14, tk_15, tk_16, tk_20, tk_24, tk_25, tk_26, tk_27, tk_28, tk_29, tk_30, tk_31, tk_32, tk_40, tk_41, tk_45, tk_46, tk_47, tk_48, tk_49, tk_50, tk_51, tk_57, tk_60, tk_99, tk_100, tk_120, tk_128, tk_231, tk_240, tk_255, tk_500, tk_999, tk_9999, tk_10000, pk_mul, nI_add, tk_c, tk_in, tk_lt, tk_le, tk_eq, tk_and31, tk_shl1, tk_shr1, tk_and1, tk_or, tk_ite, tk_tb, tk_mn, tk_mx, V.1] at h
    omega
  | succ j ih =>
    intro k hk
    refine wX12_sumOf_4 m t c S _ _ _ ⟨fun h => ?_, fun _ => ?_⟩
    · simp (disch := omega) only [tk_0, tk_1, tk_2, tk_3, tk_4, tk_5, tk_6, tk_7, tk_8, tk_9, tk_10, tk_11, tk_12, tk_13, tk_14, tk_15, tk_16, tk_20, tk_24, tk_25, tk_26, tk_27, tk_28, tk_29, tk_30, tk_31, tk_32, tk_40, tk_41, tk_45, tk_46, tk_47, tk_48, tk_49, tk_50, tk_51, tk_57, tk_60, tk_99, tk_100, tk_120, tk_128, tk_231, tk_240, tk_255, tk_500, tk_999, tk_9999, tk_10000, pk_mul, nI_add, tk_c, tk_in, tk_lt, tk_le, tk_eq, tk_and31, tk_shl1, tk_shr1, tk_and1, tk_or, tk_ite, tk_tb, tk_mn, tk_mx, V.1] at h
      omega
    · simp (disch := omega) only [tk_0, tk_1, tk_2, tk_3, tk_4, tk_5, tk_6, tk_7, tk_8, tk_9, tk_10, tk_11, tk_12, tk_13, tk_14, tk_15, tk_16, tk_20, tk_24, tk_25, tk_26, tk_27, tk_28, tk_29, tk_30, tk_31, tk_32, tk_40, tk_41, tk_45, tk_46, tk_47, tk_48, tk_49, tk_50, tk_51, tk_57, tk_60, tk_99, tk_100, tk_120, tk_128, tk_231, tk_240, tk_255, tk_500, tk_999, tk_9999, tk_10000, pk_mul, nI_add, tk_c, tk_in, tk_lt, tk_le, tk_eq, tk_and31, tk_shl1, tk_shr1, tk_and1, tk_or, tk_ite, tk_tb, tk_mn, tk_mx]
      rw [show 27 + 3 * k + w = 27 + w + 3 * k by omega, C (27 + w + 3 * k) (by omega), nI_add]
      exact ⟨by omega, ih (k + 1) (by omega)⟩
theorem c_msum (S : hMod G R K n m t c) (V : VM I m nf Y) (W : okV nf Y) (C : MR I (m + 13) T) {w : Nat} (hw : w < 3) (hQ : Q (some (.int (nI (sumA (fun f => T (27 + w + 3 * f)) nf)))) (I, J, R, K, n)) : zC G (d + 1) mX12_sumOf 0 0 [.ref m, .int (nI w)] (I, J, R, K, n) Q := by
  refine zC.of (by decide) (Nat.le_of_ble_eq_true rfl) ?_
  refine wX12_sumOf_0 m t c S _ ?_
  exact l_msum S V W C hw hQ nf 0 (by omega)
theorem l_mneed (S : hMod G R K n m t c) (V : VM I m nf Y) (W : okV nf Y) (C : MR I (m + 13) T) (O : okT B nf Y T) (hQ : Q (some (.int (nI (sumA (bareA Y T) nf - T 47)))) (I, J, R, K, n)) : ∀ j k : Nat, k + j = nf → zV G (d + 3) mX12_needed 0 0 4 [(0, .ref m), (1, .int (nI (sumA (bareA Y T) k))), (2, .int (nI k))] [] (I, J, R, K, n) Q := by
  have h6 := W.1
  have h13 : sA G K n (m + 13) 32 231 := Mod_26 S
  intro j
  induction j with
  | zero =>
    intro k hk
    obtain rfl : k = nf := by omega
    have hs := sumA_le2 (bareA Y T) 40 k (fun j hj => bareA_le W hj)
    have o := O.2.2.2.2
    refine wX12_needed_4 m t c S _ _ ⟨fun _ => ?_, fun h => ?_⟩
    · rw [show (47 : Int32).toNatClampNeg = 47 from rfl, C 47 (by omega)]
      refine ⟨(tk_in (n := 47) (by omega) (by omega)).mpr (by omega), qI ?_ hQ⟩
      exact (tk_pos (by omega) (by omega)).symm
    · simp (disch := omega) only [tk_0, tk_1, tk_2, tk_3, tk_4, tk_5, tk_6, tk_7, tk_8, tk_9, tk_10, tk_11, tk_12, tk_13, tk_14, tk_15, tk_16, tk_20, tk_24, tk_25, tk_26, tk_27, tk_28, tk_29, tk_30, tk_31, tk_32, tk_40, tk_41, tk_45, tk_46, tk_47, tk_48, tk_49, tk_50, tk_51, tk_57, tk_60, tk_99, tk_100, tk_120, tk_128, tk_231, tk_240, tk_255, tk_500, tk_999, tk_9999, tk_10000, pk_mul, nI_add, tk_c, tk_in, tk_lt, tk_le, tk_eq, tk_and31, tk_shl1, tk_shr1, tk_and1, tk_or, tk_ite, tk_tb, tk_mn, tk_mx, V.1] at h
      omega
  | succ j ih =>
    intro k hk
    refine wX12_needed_4 m t c S _ _ ⟨fun h => ?_, fun _ => ?_⟩
    · simp (disch := omega) only [tk_0, tk_1, tk_2, tk_3, tk_4, tk_5, tk_6, tk_7, tk_8, tk_9, tk_10, tk_11, tk_12, tk_13, tk_14, tk_15, tk_16, tk_20, tk_24, tk_25, tk_26, tk_27, tk_28, tk_29, tk_30, tk_31, tk_32, tk_40, tk_41, tk_45, tk_46, tk_47, tk_48, tk_49, tk_50, tk_51, tk_57, tk_60, tk_99, tk_100, tk_120, tk_128, tk_231, tk_240, tk_255, tk_500, tk_999, tk_9999, tk_10000, pk_mul, nI_add, tk_c, tk_in, tk_lt, tk_le, tk_eq, tk_and31, tk_shl1, tk_shr1, tk_and1, tk_or, tk_ite, tk_tb, tk_mn, tk_mx, V.1] at h
      omega
    · refine c_mbare S h13 V W C O (f := k) (by omega) ?_
      refine ⟨_, _, rfl, rfl, ?_⟩
      rw [nI_add, nI_1]
      exact ih (k + 1) (by omega)
theorem c_mneed (S : hMod G R K n m t c) (V : VM I m nf Y) (W : okV nf Y) (C : MR I (m + 13) T) (O : okT B nf Y T) (hQ : Q (some (.int (nI (sumA (bareA Y T) nf - T 47)))) (I, J, R, K, n)) : zC G (d + 3) mX12_needed 0 0 [.ref m] (I, J, R, K, n) Q := by
  refine zC.of (by decide) (Nat.le_of_ble_eq_true rfl) ?_
  refine wX12_needed_0 m t c S ?_
  exact l_mneed S V W C O hQ nf 0 (by omega)
end
