-- NUMBERS: small naturals as ints
theorem tk_0 : (0 : Int32) = nI 0 := rfl
theorem tk_1 : (1 : Int32) = nI 1 := rfl
theorem tk_2 : (2 : Int32) = nI 2 := rfl
theorem tk_3 : (3 : Int32) = nI 3 := rfl
theorem tk_4 : (4 : Int32) = nI 4 := rfl
theorem tk_5 : (5 : Int32) = nI 5 := rfl
theorem tk_6 : (6 : Int32) = nI 6 := rfl
theorem tk_7 : (7 : Int32) = nI 7 := rfl
theorem tk_8 : (8 : Int32) = nI 8 := rfl
theorem tk_9 : (9 : Int32) = nI 9 := rfl
theorem tk_10 : (10 : Int32) = nI 10 := rfl
theorem tk_11 : (11 : Int32) = nI 11 := rfl
theorem tk_12 : (12 : Int32) = nI 12 := rfl
theorem tk_13 : (13 : Int32) = nI 13 := rfl
theorem tk_14 : (14 : Int32) = nI 14 := rfl
theorem tk_15 : (15 : Int32) = nI 15 := rfl
theorem tk_16 : (16 : Int32) = nI 16 := rfl
theorem tk_20 : (20 : Int32) = nI 20 := rfl
theorem tk_24 : (24 : Int32) = nI 24 := rfl
theorem tk_25 : (25 : Int32) = nI 25 := rfl
theorem tk_26 : (26 : Int32) = nI 26 := rfl
theorem tk_27 : (27 : Int32) = nI 27 := rfl
theorem tk_28 : (28 : Int32) = nI 28 := rfl
theorem tk_29 : (29 : Int32) = nI 29 := rfl
theorem tk_30 : (30 : Int32) = nI 30 := rfl
theorem tk_31 : (31 : Int32) = nI 31 := rfl
theorem tk_32 : (32 : Int32) = nI 32 := rfl
theorem tk_40 : (40 : Int32) = nI 40 := rfl
theorem tk_41 : (41 : Int32) = nI 41 := rfl
theorem tk_45 : (45 : Int32) = nI 45 := rfl
theorem tk_46 : (46 : Int32) = nI 46 := rfl
theorem tk_47 : (47 : Int32) = nI 47 := rfl
theorem tk_48 : (48 : Int32) = nI 48 := rfl
theorem tk_49 : (49 : Int32) = nI 49 := rfl
theorem tk_50 : (50 : Int32) = nI 50 := rfl
theorem tk_51 : (51 : Int32) = nI 51 := rfl
theorem tk_57 : (57 : Int32) = nI 57 := rfl
theorem tk_60 : (60 : Int32) = nI 60 := rfl
theorem tk_99 : (99 : Int32) = nI 99 := rfl
theorem tk_100 : (100 : Int32) = nI 100 := rfl
theorem tk_120 : (120 : Int32) = nI 120 := rfl
theorem tk_128 : (128 : Int32) = nI 128 := rfl
theorem tk_231 : (231 : Int32) = nI 231 := rfl
theorem tk_240 : (240 : Int32) = nI 240 := rfl
theorem tk_255 : (255 : Int32) = nI 255 := rfl
theorem tk_500 : (500 : Int32) = nI 500 := rfl
theorem tk_999 : (999 : Int32) = nI 999 := rfl
theorem tk_9999 : (9999 : Int32) = nI 9999 := rfl
theorem tk_10000 : (10000 : Int32) = nI 10000 := rfl
theorem tk_c {n : Nat} (h : n < 2147483648) : (nI n).toNatClampNeg = n := nI_clamp (by omega)
theorem tk_in {n N : Nat} (hn : n < 2147483648) (hN : N < 2147483648) : vp_in (nI n) N ↔ n < N := by
  rw [vp_in_iff, nI_toInt (by omega)]
  omega
theorem tk_lt {a b : Nat} (ha : a < 2147483648) (hb : b < 2147483648) : nI a < nI b ↔ a < b := nI_ltI (by omega) (by omega)
theorem tk_le {a b : Nat} (ha : a < 2147483648) (hb : b < 2147483648) : nI a ≤ nI b ↔ a ≤ b := nI_leI (by omega) (by omega)
theorem tk_eq {a b : Nat} (ha : a < 2147483648) (hb : b < 2147483648) : nI a = nI b ↔ a = b := nI_eq (by omega) (by omega)
theorem tk_sub {a b : Nat} (h : b ≤ a) : nI a - nI b = nI (a - b) := pk_sub h
theorem tk_div {a d : Nat} (ha : a < 2147483648) (h0 : 0 < d) (hd : d < 2147483648) : nI a / nI d = nI (a / d) := pk_div (by omega) h0 (by omega)
theorem tk_rem {a d : Nat} (ha : a < 2147483648) (h0 : 0 < d) (hd : d < 2147483648) : nI a - nI a / nI d * nI d = nI (a % d) := pk_rem (by omega) h0 (by omega)
theorem tk_m1 {a : Nat} (ha : a < 2147483648) : nI a = -1 ↔ False := by
  refine iff_false_intro fun h => ?_
  have h1 := congrArg Int32.toInt h
  rw [nI_toInt (by omega)] at h1
  have h2 : ((-1 : Int32)).toInt = -1 := by decide
  rw [h2] at h1
  omega
theorem tk_m1l {a : Nat} (ha : a < 2147483648) : nI a < -1 ↔ False := by
  refine iff_false_intro fun h => ?_
  rw [Int32.lt_iff_toInt_lt, nI_toInt (by omega)] at h
  have h2 : ((-1 : Int32)).toInt = -1 := by decide
  rw [h2] at h
  omega
theorem tk_or (a b : Nat) : nI a ||| nI b = nI (a ||| b) := by
  unfold nI
  apply Int32.toBitVec_inj.mp
  simp
theorem tk_and (a b : Nat) : nI a &&& nI b = nI (a &&& b) := by
  unfold nI
  apply Int32.toBitVec_inj.mp
  simp
theorem tk_shl : ∀ k : Nat, k < 31 → (1 : Int32) <<< (nI k &&& 31) = nI (2 ^ k) := by decide +kernel
theorem tk_sh31 : ∀ k : Nat, k < 31 → ((nI k &&& 31 : Int32).toBitVec.smod 32).toNat = k := by decide +kernel
theorem tk_shr {a k : Nat} (ha : a < 2147483648) (hk : k < 31) : nI a >>> (nI k &&& 31) = nI (a / 2 ^ k) := pk_shrN (by omega) _ k (tk_sh31 k hk)
theorem tk_bit {a k : Nat} (ha : a < 2147483648) (hk : k < 31) : (nI a >>> (nI k &&& 31)) &&& 1 = 1 ↔ a.testBit k = true := by
  rw [tk_shr ha hk, tk_1, tk_and, Nat.and_one_is_mod, tk_eq (by omega) (by omega), Nat.testBit_eq_decide_div_mod_eq, decide_eq_true_iff]
/-- a set of numbers below k, as bits -/
def bitsA (P : Nat → Bool) : Nat → Nat
  | 0 => 0
  | k + 1 => bitsA P k + (if P k then 2 ^ k else 0)
theorem bitsA_lt (P : Nat → Bool) (k : Nat) : bitsA P k < 2 ^ k := by
  induction k with
  | zero => simp [bitsA]
  | succ k ih =>
    rw [bitsA, Nat.pow_succ]
    split <;> omega
theorem bitsA_small (P : Nat → Bool) {k : Nat} (hk : k ≤ 10) : bitsA P k < 1024 := Nat.lt_of_lt_of_le (bitsA_lt P k) (Nat.pow_le_pow_right (by decide) hk)
theorem tk_orp {a k : Nat} (h : a < 2 ^ k) : a ||| 2 ^ k = a + 2 ^ k := by
  have h1 := Nat.two_pow_add_eq_or_of_lt h 1
  rw [Nat.mul_one] at h1
  rw [Nat.or_comm, ← h1, Nat.add_comm]
theorem bitsA_step (P : Nat → Bool) {k : Nat} (hk : k < 31) : nI (bitsA P k) ||| (if P k = true then (1 : Int32) <<< (nI k &&& 31) else 0) = nI (bitsA P (k + 1)) := by
  rw [bitsA]
  split
  · rw [tk_shl k hk, tk_or, tk_orp (bitsA_lt P k)]
  · rw [tk_0, tk_or, Nat.or_zero, Nat.add_zero]
theorem bitsA_bit (P : Nat → Bool) (k j : Nat) : (bitsA P k).testBit j = (decide (j < k) && P j) := by
  induction k with
  | zero => simp [bitsA]
  | succ k ih =>
    rw [bitsA]
    by_cases h : P k = true
    · rw [if_pos h, ← tk_orp (bitsA_lt P k), Nat.testBit_or, ih, Nat.testBit_two_pow]
      by_cases hj : j = k
      · subst hj; simp [h]
      · have e1 : decide (k = j) = false := by simp; omega
        have e2 : decide (j < k + 1) = decide (j < k) := by simp; omega
        rw [e1, e2, Bool.or_false]
    · rw [if_neg h, Nat.add_zero, ih]
      by_cases hj : j = k
      · subst hj
        have : P j = false := by simpa using h
        simp [this]
      · have e2 : decide (j < k + 1) = decide (j < k) := by simp; omega
        rw [e2]
theorem bitsA_congr {P P' : Nat → Bool} {k : Nat} (h : ∀ j, j < k → P j = P' j) : bitsA P k = bitsA P' k := by
  induction k with
  | zero => rfl
  | succ k ih => rw [bitsA, bitsA, ih (fun j hj => h j (by omega)), h k (by omega)]
/-- a row with one number changed -/
def up (T : Nat → Nat) (k v : Nat) : Nat → Nat := fun j => if j = k then v else T j
theorem up_at {T : Nat → Nat} {k v : Nat} : up T k v k = v := by simp [up]
theorem up_ne {T : Nat → Nat} {k v j : Nat} (h : j ≠ k) : up T k v j = T j := by simp [up, h]
theorem tk_of {x : Int32} {N : Nat} (h : ¬ x < 0) (h1 : x < nI N) (hN : N < 2147483648) : ∃ f : Nat, f < N ∧ x = nI f := by
  obtain ⟨j, hj, rfl⟩ := nI_of h
  rw [tk_lt (by omega) hN] at h1
  exact ⟨j, h1, rfl⟩
theorem tk_and31 {k : Nat} (hk : k < 31) : nI k &&& nI 31 = nI k := by
  rw [tk_and]
  exact congrArg nI ((Nat.and_two_pow_sub_one_eq_mod k 5).trans (Nat.mod_eq_of_lt (by omega)))
theorem tk_shl1 {k : Nat} (hk : k < 31) : nI 1 <<< nI k = nI (2 ^ k) := by
  have h := tk_shl k hk
  rw [tk_31, tk_and31 hk] at h
  exact h
theorem tk_shr1 {a k : Nat} (ha : a < 2147483648) (hk : k < 31) : nI a >>> nI k = nI (a / 2 ^ k) := by
  have h := tk_shr ha hk
  rw [tk_31, tk_and31 hk] at h
  exact h
theorem tk_and1 (a : Nat) : nI a &&& nI 1 = nI (a % 2) := by rw [tk_and, Nat.and_one_is_mod]
theorem tk_ite {c : Prop} {hc : Decidable c} {a b : Nat} : (if c then nI a else nI b) = nI (if c then a else b) := by split <;> rfl
theorem tk_tb {a k : Nat} : a / 2 ^ k % 2 = 1 ↔ a.testBit k = true := by rw [Nat.testBit_eq_decide_div_mod_eq, decide_eq_true_iff]
theorem bitsA_or {P : Nat → Bool} {k x : Nat} (h1 : P k = true → x = 2 ^ k) (h2 : P k = false → x = 0) : bitsA P k ||| x = bitsA P (k + 1) := by
  rw [bitsA]
  cases h : P k with
  | true => rw [h1 h, tk_orp (bitsA_lt P k), if_pos rfl]
  | false => rw [h2 h, Nat.or_zero, if_neg (by decide), Nat.add_zero]
theorem tk_mn {a b : Nat} : (if a < b then a else b) = min b a := by
  rw [Nat.min_def]
  split <;> split <;> omega
theorem tk_mx {a b : Nat} : (if a < b then b else a) = max a b := by
  rw [Nat.max_def]
  split <;> split <;> omega
