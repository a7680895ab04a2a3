/-! TEXTS OF THE JDK: how long, a sign, where a sign is -/
def chrA (i k : Nat) : Int32 := (zStrB.getD i []).getD k 0
def lenA (i : Nat) : Nat := zStrN.getD i 0
def idxF (i : Nat) (c : Int32) : Nat → Nat → Int32
  | 0, _ => -1
  | j + 1, k => if chrA i k = c then nI k else idxF i c j (k + 1)
def idxA (i : Nat) (c : Int32) : Int32 := idxF i c (lenA i) 0
theorem lenA_le : ∀ i : Nat, i < 6 → 1 ≤ lenA i ∧ lenA i ≤ 6 := by decide +kernel
theorem chr_dec : ∀ i : Nat, i < 6 → ∀ k : Nat, k < 6 → ((((zStrB.getD i []).getD k 0) &&& 255 : Int32).toUInt32 % 65536).toInt32 = chrA i k ∧ (chrA i k).toUInt32.toUInt16.toUInt32.toInt32 = chrA i k := by decide +kernel
theorem idx_dec : ∀ b : Nat, b < 256 → ∀ i : Nat, i < 6 → ∀ k : Nat, k < 6 → (chrA i k = (nI b).toInt8.toInt32 ↔ chrA i k = nI b) := by decide +kernel
theorem chr_b : ∀ b : Nat, b < 256 → ((nI b).toUInt32 % 65536).toInt32 = nI b := by decide +kernel
theorem len_sh : ∀ i : Nat, i < 6 → (nI (zStrN.getD i 0) : Int32) >>> ((0 : Int32) &&& 31) = nI (lenA i) := by decide +kernel
section
variable {G : zG} {d : Nat} {I : Nat → Nat → Int32} {J : Nat → Nat → Int64} {R : Nat → Nat → Option Nat} {K : Nat → Nat × Nat} {n : Nat} {Q : Option Value → zH → Prop} {i : Nat}
theorem c_checkIndex {r : Option Nat} {k N : Nat} (hk : k < N) (hN : N < 100) (hQ : Q (some (.int (nI k))) (I, J, R, K, n)) : zC G (d + 1) mJ3_checkIndex_8e157 0 0 [.int (nI k), .int (nI N), va_rf r] (I, J, R, K, n) Q := by
  cases r with
  | none =>
    refine zC.of (by decide) (Nat.le_of_ble_eq_true rfl) ?_
    refine zIload_n 0 0 1 (by decide +kernel) rfl rfl ?_
    refine zIf_lt 8 9 4 (by decide +kernel) rfl rfl ⟨fun h => absurd h (nI_pos (by omega)), fun _ => ?_⟩
    refine zIload_n 0 0 5 (by decide +kernel) rfl rfl ?_
    refine zIload_n 1 1 6 (by decide +kernel) rfl rfl ?_
    refine zIcmp_lt 10 16 9 (by decide +kernel) rfl rfl ⟨fun _ => ?_, fun h => absurd ((tk_lt (by omega) (by omega)).mpr hk) h⟩
    refine zIload_n 0 0 17 (by decide +kernel) rfl rfl ?_
    exact zIret rfl (by decide +kernel) hQ
  | some b =>
    refine zC.of (by decide) (Nat.le_of_ble_eq_true rfl) ?_
    refine zIload_n 0 0 1 (by decide +kernel) rfl rfl ?_
    refine zIf_lt 8 9 4 (by decide +kernel) rfl rfl ⟨fun h => absurd h (nI_pos (by omega)), fun _ => ?_⟩
    refine zIload_n 0 0 5 (by decide +kernel) rfl rfl ?_
    refine zIload_n 1 1 6 (by decide +kernel) rfl rfl ?_
    refine zIcmp_lt 10 16 9 (by decide +kernel) rfl rfl ⟨fun _ => ?_, fun h => absurd ((tk_lt (by omega) (by omega)).mpr hk) h⟩
    refine zIload_n 0 0 17 (by decide +kernel) rfl rfl ?_
    exact zIret rfl (by decide +kernel) hQ
theorem c_checkIndex0 {k N : Nat} (hk : k < N) (hN : N < 100) (hQ : Q none (I, J, R, K, n)) : zC G (d + 2) mJ0_checkIndex_df160 0 0 [.int (nI k), .int (nI N)] (I, J, R, K, n) Q := by
  refine zC.of (by decide) (Nat.le_of_ble_eq_true rfl) ?_
  refine wJ0_checkIndex_df160_0 _ _ ?_
  intro r
  refine c_checkIndex hk hN ?_
  refine ⟨_, rfl, rfl, ?_⟩
  exact hQ
theorem c_coder (hi : i < 6) (hQ : Q (some (.int 0)) (I, J, R, K, n)) : zC G (d + 1) mJ0_coder_7d493 0 0 [.ref (G.2.2.2.1 i)] (I, J, R, K, n) Q := by
  refine zC.of (by decide) (Nat.le_of_ble_eq_true rfl) ?_
  refine wJ0_coder_7d493_0 i hi ?_
  rw [if_neg (by decide)]
  exact ⟨rfl, hQ⟩
theorem c_isLatin1 (hi : i < 6) (hQ : Q (some (.int 1)) (I, J, R, K, n)) : zC G (d + 1) mJ0_isLatin1_aae02 0 0 [.ref (G.2.2.2.1 i)] (I, J, R, K, n) Q := by
  refine zC.of (by decide) (Nat.le_of_ble_eq_true rfl) ?_
  refine wJ0_isLatin1_aae02_0 i hi ?_
  rw [if_neg (by decide), if_pos rfl]
  exact hQ
theorem c_slen (hi : i < 6) (hQ : Q (some (.int (nI (lenA i)))) (I, J, R, K, n)) : zC G (d + 2) mJ0_length_8abf5 0 0 [.ref (G.2.2.2.1 i)] (I, J, R, K, n) Q := by
  refine zC.of (by decide) (Nat.le_of_ble_eq_true rfl) ?_
  refine wJ0_length_8abf5_0 i hi ?_
  refine c_coder hi ?_
  refine ⟨_, rfl, rfl, ?_⟩
  rw [len_sh i hi]
  exact hQ
theorem c_charAt (hi : i < 6) {k : Nat} (hk : k < lenA i) (hQ : Q (some (.int (chrA i k))) (I, J, R, K, n)) : zC G (d + 4) mJ0_charAt_5068e 0 0 [.ref (G.2.2.2.1 i), .int (nI k)] (I, J, R, K, n) Q := by
  have hl := lenA_le i hi
  obtain ⟨e1, e2⟩ := chr_dec i hi k (by omega)
  have e3 : narrow .char (.int (chrA i k)) = .int (chrA i k) := congrArg Value.int e2
  refine zC.of (by decide) (Nat.le_of_ble_eq_true rfl) ?_
  refine wJ0_charAt_5068e_0 i hi _ ?_
  refine c_isLatin1 hi ?_
  refine ⟨_, rfl, rfl, ?_⟩
  refine ⟨fun h => absurd h (by decide), fun _ => ?_⟩
  refine zC.of (by decide) (Nat.le_of_ble_eq_true rfl) ?_
  refine wJ1_charAt_3b067_0 i hi _ ?_
  refine c_checkIndex0 (N := lenA i) hk (by omega) ?_
  refine ⟨rfl, rfl, ?_⟩
  rw [tk_c (by omega), e1]
  exact ⟨(tk_in (by omega) (show zStrN.getD i 0 < 2147483648 from Nat.lt_of_le_of_lt hl.2 (by decide))).mpr hk, e3, _, rfl, rfl, e3, hQ⟩
theorem l_idx (hi : i < 6) {c c8 p1 p2 : Int32} (hc : ∀ k, k < 6 → (chrA i k = c8 ↔ chrA i k = c)) : ∀ j k : Nat, k + j = lenA i → Q (some (.int (idxF i c j k))) (I, J, R, K, n) → zV G (d + 1) mJ1_indexOfChar_4cfef 0 0 7 [(0, .ref (G.2.2.2.2.1 i)), (1, .int p1), (2, .int p2), (3, .int (nI (lenA i))), (4, .int c8), (5, .int (nI k))] [] (I, J, R, K, n) Q := by
  have hl := lenA_le i hi
  intro j
  induction j with
  | zero =>
    intro k hk hQ
    obtain rfl : k = lenA i := by omega
    exact wJ1_indexOfChar_4cfef_7 i hi _ _ _ _ _ ⟨fun _ => hQ, fun h => absurd ((tk_le (by omega) (by omega)).mpr (Nat.le_refl _)) h⟩
  | succ j ih =>
    intro k hk hQ
    rw [idxF] at hQ
    refine wJ1_indexOfChar_4cfef_7 i hi _ _ _ _ _ ⟨fun h => ?_, fun _ => ?_⟩
    · rw [tk_le (by omega) (by omega)] at h
      omega
    · rw [tk_c (by omega)]
      refine ⟨(tk_in (by omega) (show zStrN.getD i 0 < 2147483648 from Nat.lt_of_le_of_lt hl.2 (by decide))).mpr (show k < lenA i by omega), fun h => ?_, fun h => ?_⟩
      · rw [if_pos ((hc k (by omega)).mp h)] at hQ
        exact hQ
      · rw [if_neg (fun h2 => h ((hc k (by omega)).mpr h2))] at hQ
        rw [nI_1]
        exact ih (k + 1) (by omega) hQ
theorem c_indexOf (hi : i < 6) {b : Nat} (hb : b < 256) (hQ : Q (some (.int (idxA i (nI b)))) (I, J, R, K, n)) : zC G (d + 4) mJ0_indexOf_0f7a4 0 0 [.ref (G.2.2.2.1 i), .int (((nI b).toUInt32 % 65536).toInt32)] (I, J, R, K, n) Q := by
  have hl := lenA_le i hi
  rw [chr_b b hb]
  refine zC.of (by decide) (Nat.le_of_ble_eq_true rfl) ?_
  refine wJ0_indexOf_0f7a4_0 i hi _ ?_
  refine zC.of (by decide) (Nat.le_of_ble_eq_true rfl) ?_
  refine wJ0_indexOf_7cf53_0 i hi _ _ ?_
  refine c_isLatin1 hi ?_
  refine ⟨_, rfl, rfl, ?_⟩
  refine ⟨fun h => absurd h (by decide), fun _ => ?_⟩
  refine c_slen hi ?_
  refine ⟨_, rfl, rfl, ?_⟩
  refine zC.of (by decide) (Nat.le_of_ble_eq_true rfl) ?_
  refine wJ1_indexOf_4cfef_0 i hi _ _ _ ?_
  refine zC.of (by decide) (Nat.le_of_ble_eq_true rfl) ?_
  refine wJ1_canEncode_9a6ad_0 _ ?_
  rw [if_neg (nI_pos (by omega)), if_neg (by rw [show (255 : Int32) = nI 255 from rfl, tk_lt (by omega) (by omega)]; omega)]
  refine ⟨_, rfl, rfl, fun h => absurd h (by decide), fun _ => ?_⟩
  rw [ite_self, show nI (zStrN.getD i 0) = nI (lenA i) from rfl, ite_self]
  refine ⟨fun _ => ?_, fun h => absurd ((tk_lt (a := 0) (by omega) (by omega)).mpr (by omega)) h⟩
  refine zC.of (by decide) (Nat.le_of_ble_eq_true rfl) ?_
  refine wJ1_indexOfChar_4cfef_0 i hi _ _ _ ?_
  exact l_idx hi (idx_dec b hb i hi) (lenA i) 0 (by omega) ⟨_, rfl, rfl, _, rfl, rfl, _, rfl, rfl, hQ⟩
theorem l_spot (hi : i < 6) {c : Int32} : ∀ j k : Nat, k + j = lenA i → Q (some (.int (idxF i c j k))) (I, J, R, K, n) → zV G (d + 5) mX12_spotOf 0 0 2 [(0, .ref (G.2.2.2.1 i)), (1, .int c), (2, .int (nI k))] [] (I, J, R, K, n) Q := by
  have hl := lenA_le i hi
  intro j
  induction j with
  | zero =>
    intro k hk hQ
    obtain rfl : k = lenA i := by omega
    refine wX12_spotOf_2 i hi _ _ ?_
    refine c_slen hi ?_
    refine ⟨_, rfl, rfl, ?_⟩
    exact ⟨fun _ => hQ, fun h => absurd ((tk_le (by omega) (by omega)).mpr (Nat.le_refl _)) h⟩
  | succ j ih =>
    intro k hk hQ
    rw [idxF] at hQ
    refine wX12_spotOf_2 i hi _ _ ?_
    refine c_slen hi ?_
    refine ⟨_, rfl, rfl, ?_⟩
    refine ⟨fun h => ?_, fun _ => ?_⟩
    · rw [tk_le (by omega) (by omega)] at h
      omega
    · refine c_charAt hi (k := k) (by omega) ?_
      refine ⟨_, rfl, rfl, ?_⟩
      refine ⟨fun h => ?_, fun h => ?_⟩
      · rw [if_pos h] at hQ
        exact hQ
      · rw [if_neg h] at hQ
        rw [nI_1]
        exact ih (k + 1) (by omega) hQ
theorem c_spotOf (hi : i < 6) {c : Int32} (hQ : Q (some (.int (idxA i c))) (I, J, R, K, n)) : zC G (d + 5) mX12_spotOf 0 0 [.ref (G.2.2.2.1 i), .int c] (I, J, R, K, n) Q := by
  refine zC.of (by decide) (Nat.le_of_ble_eq_true rfl) ?_
  refine wX12_spotOf_0 i hi _ ?_
  exact l_spot hi (lenA i) 0 (by omega) hQ
theorem l_among (hi : i < 6) {c : Int32} : ∀ j k : Nat, k + j = lenA i → Q (some (.int (if idxF i c j k = -1 then 0 else 1))) (I, J, R, K, n) → zV G (d + 5) mX12_isAmong 0 0 2 [(0, .ref (G.2.2.2.1 i)), (1, .int c), (2, .int (nI k))] [] (I, J, R, K, n) Q := by
  have hl := lenA_le i hi
  intro j
  induction j with
  | zero =>
    intro k hk hQ
    obtain rfl : k = lenA i := by omega
    refine wX12_isAmong_2 i hi _ _ ?_
    refine c_slen hi ?_
    refine ⟨_, rfl, rfl, ?_⟩
    exact ⟨fun _ => hQ, fun h => absurd ((tk_le (by omega) (by omega)).mpr (Nat.le_refl _)) h⟩
  | succ j ih =>
    intro k hk hQ
    rw [idxF] at hQ
    refine wX12_isAmong_2 i hi _ _ ?_
    refine c_slen hi ?_
    refine ⟨_, rfl, rfl, ?_⟩
    refine ⟨fun h => ?_, fun _ => ?_⟩
    · rw [tk_le (by omega) (by omega)] at h
      omega
    · refine c_charAt hi (k := k) (by omega) ?_
      refine ⟨_, rfl, rfl, ?_⟩
      refine ⟨fun h => ?_, fun h => ?_⟩
      · rw [if_pos h, if_neg (by rw [tk_m1 (by omega)]; exact id)] at hQ
        exact hQ
      · rw [if_neg h] at hQ
        rw [nI_1]
        exact ih (k + 1) (by omega) hQ
theorem c_isAmong (hi : i < 6) {c : Int32} (hQ : Q (some (.int (if idxA i c = -1 then 0 else 1))) (I, J, R, K, n)) : zC G (d + 5) mX12_isAmong 0 0 [.ref (G.2.2.2.1 i), .int c] (I, J, R, K, n) Q := by
  refine zC.of (by decide) (Nat.le_of_ble_eq_true rfl) ?_
  refine wX12_isAmong_0 i hi _ ?_
  exact l_among hi (lenA i) 0 (by omega) hQ
end
