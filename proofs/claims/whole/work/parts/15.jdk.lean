set_option maxHeartbeats 2000000 in
theorem wJ6_bitCount_0f7a4_0 {G : zG} {d kc ks : Nat} {I : Nat → Nat → Int32} {J : Nat → Nat → Int64} {R : Nat → Nat → Option Nat} {K : Nat → Nat × Nat} {n : Nat} {Q : Option Value → zH → Prop}  (p0 : Int32) (F : Q (some (.int ((((((((p0 - (((p0.toUInt32 >>> ((1 : Int32).toUInt32 &&& Int32.toUInt32 31)).toInt32) &&& 1431655765)) &&& 858993459) + ((((p0 - (((p0.toUInt32 >>> ((1 : Int32).toUInt32 &&& Int32.toUInt32 31)).toInt32) &&& 1431655765) : Int32).toUInt32 >>> ((2 : Int32).toUInt32 &&& Int32.toUInt32 31)).toInt32) &&& 858993459)) + (((((p0 - (((p0.toUInt32 >>> ((1 : Int32).toUInt32 &&& Int32.toUInt32 31)).toInt32) &&& 1431655765)) &&& 858993459) + ((((p0 - (((p0.toUInt32 >>> ((1 : Int32).toUInt32 &&& Int32.toUInt32 31)).toInt32) &&& 1431655765) : Int32).toUInt32 >>> ((2 : Int32).toUInt32 &&& Int32.toUInt32 31)).toInt32) &&& 858993459) : Int32).toUInt32 >>> ((4 : Int32).toUInt32 &&& Int32.toUInt32 31)).toInt32)) &&& 252645135) + (((((((p0 - (((p0.toUInt32 >>> ((1 : Int32).toUInt32 &&& Int32.toUInt32 31)).toInt32) &&& 1431655765)) &&& 858993459) + ((((p0 - (((p0.toUInt32 >>> ((1 : Int32).toUInt32 &&& Int32.toUInt32 31)).toInt32) &&& 1431655765) : Int32).toUInt32 >>> ((2 : Int32).toUInt32 &&& Int32.toUInt32 31)).toInt32) &&& 858993459)) + (((((p0 - (((p0.toUInt32 >>> ((1 : Int32).toUInt32 &&& Int32.toUInt32 31)).toInt32) &&& 1431655765)) &&& 858993459) + ((((p0 - (((p0.toUInt32 >>> ((1 : Int32).toUInt32 &&& Int32.toUInt32 31)).toInt32) &&& 1431655765) : Int32).toUInt32 >>> ((2 : Int32).toUInt32 &&& Int32.toUInt32 31)).toInt32) &&& 858993459) : Int32).toUInt32 >>> ((4 : Int32).toUInt32 &&& Int32.toUInt32 31)).toInt32)) &&& 252645135 : Int32).toUInt32 >>> ((8 : Int32).toUInt32 &&& Int32.toUInt32 31)).toInt32)) + ((((((((p0 - (((p0.toUInt32 >>> ((1 : Int32).toUInt32 &&& Int32.toUInt32 31)).toInt32) &&& 1431655765)) &&& 858993459) + ((((p0 - (((p0.toUInt32 >>> ((1 : Int32).toUInt32 &&& Int32.toUInt32 31)).toInt32) &&& 1431655765) : Int32).toUInt32 >>> ((2 : Int32).toUInt32 &&& Int32.toUInt32 31)).toInt32) &&& 858993459)) + (((((p0 - (((p0.toUInt32 >>> ((1 : Int32).toUInt32 &&& Int32.toUInt32 31)).toInt32) &&& 1431655765)) &&& 858993459) + ((((p0 - (((p0.toUInt32 >>> ((1 : Int32).toUInt32 &&& Int32.toUInt32 31)).toInt32) &&& 1431655765) : Int32).toUInt32 >>> ((2 : Int32).toUInt32 &&& Int32.toUInt32 31)).toInt32) &&& 858993459) : Int32).toUInt32 >>> ((4 : Int32).toUInt32 &&& Int32.toUInt32 31)).toInt32)) &&& 252645135) + (((((((p0 - (((p0.toUInt32 >>> ((1 : Int32).toUInt32 &&& Int32.toUInt32 31)).toInt32) &&& 1431655765)) &&& 858993459) + ((((p0 - (((p0.toUInt32 >>> ((1 : Int32).toUInt32 &&& Int32.toUInt32 31)).toInt32) &&& 1431655765) : Int32).toUInt32 >>> ((2 : Int32).toUInt32 &&& Int32.toUInt32 31)).toInt32) &&& 858993459)) + (((((p0 - (((p0.toUInt32 >>> ((1 : Int32).toUInt32 &&& Int32.toUInt32 31)).toInt32) &&& 1431655765)) &&& 858993459) + ((((p0 - (((p0.toUInt32 >>> ((1 : Int32).toUInt32 &&& Int32.toUInt32 31)).toInt32) &&& 1431655765) : Int32).toUInt32 >>> ((2 : Int32).toUInt32 &&& Int32.toUInt32 31)).toInt32) &&& 858993459) : Int32).toUInt32 >>> ((4 : Int32).toUInt32 &&& Int32.toUInt32 31)).toInt32)) &&& 252645135 : Int32).toUInt32 >>> ((8 : Int32).toUInt32 &&& Int32.toUInt32 31)).toInt32) : Int32).toUInt32 >>> ((16 : Int32).toUInt32 &&& Int32.toUInt32 31)).toInt32)) &&& 63))) (I, J, R, K, n)) : zV G (d + 1) mJ6_bitCount_0f7a4 kc ks 0 [(0, .int (p0))] [] (I, J, R, K, n) Q := by
  refine zIload_n 0 0 1 (by decide +kernel) rfl rfl ?_
  refine zIload_n 0 0 2 (by decide +kernel) rfl rfl ?_
  refine zIconst 1 1 3 (by decide +kernel) rfl (by decide) ?_
  refine zIushr 4 (by decide +kernel) rfl ?_
  refine zLdcw 265 1431655765 7 (by decide +kernel) rfl kcJ6_265 ?_
  refine zIand 8 (by decide +kernel) rfl ?_
  refine zIsub 9 (by decide +kernel) rfl ?_
  refine zIstore_n 0 [(0, .int (p0 - (((p0.toUInt32 >>> ((1 : Int32).toUInt32 &&& Int32.toUInt32 31)).toInt32) &&& 1431655765)))] 10 (by decide +kernel) rfl (by decide) rfl ?_
  refine zIload_n 0 0 11 (by decide +kernel) rfl rfl ?_
  refine zLdcw 266 858993459 14 (by decide +kernel) rfl kcJ6_266 ?_
  refine zIand 15 (by decide +kernel) rfl ?_
  refine zIload_n 0 0 16 (by decide +kernel) rfl rfl ?_
  refine zIconst 2 2 17 (by decide +kernel) rfl (by decide) ?_
  refine zIushr 18 (by decide +kernel) rfl ?_
  refine zLdcw 266 858993459 21 (by decide +kernel) rfl kcJ6_266 ?_
  refine zIand 22 (by decide +kernel) rfl ?_
  refine zIadd 23 (by decide +kernel) rfl ?_
  refine zIstore_n 0 [(0, .int (((p0 - (((p0.toUInt32 >>> ((1 : Int32).toUInt32 &&& Int32.toUInt32 31)).toInt32) &&& 1431655765)) &&& 858993459) + ((((p0 - (((p0.toUInt32 >>> ((1 : Int32).toUInt32 &&& Int32.toUInt32 31)).toInt32) &&& 1431655765) : Int32).toUInt32 >>> ((2 : Int32).toUInt32 &&& Int32.toUInt32 31)).toInt32) &&& 858993459)))] 24 (by decide +kernel) rfl (by decide) rfl ?_
  refine zIload_n 0 0 25 (by decide +kernel) rfl rfl ?_
  refine zIload_n 0 0 26 (by decide +kernel) rfl rfl ?_
  refine zIconst 4 4 27 (by decide +kernel) rfl (by decide) ?_
  refine zIushr 28 (by decide +kernel) rfl ?_
  refine zIadd 29 (by decide +kernel) rfl ?_
  refine zLdcw 267 252645135 32 (by decide +kernel) rfl kcJ6_267 ?_
  refine zIand 33 (by decide +kernel) rfl ?_
  refine zIstore_n 0 [(0, .int (((((p0 - (((p0.toUInt32 >>> ((1 : Int32).toUInt32 &&& Int32.toUInt32 31)).toInt32) &&& 1431655765)) &&& 858993459) + ((((p0 - (((p0.toUInt32 >>> ((1 : Int32).toUInt32 &&& Int32.toUInt32 31)).toInt32) &&& 1431655765) : Int32).toUInt32 >>> ((2 : Int32).toUInt32 &&& Int32.toUInt32 31)).toInt32) &&& 858993459)) + (((((p0 - (((p0.toUInt32 >>> ((1 : Int32).toUInt32 &&& Int32.toUInt32 31)).toInt32) &&& 1431655765)) &&& 858993459) + ((((p0 - (((p0.toUInt32 >>> ((1 : Int32).toUInt32 &&& Int32.toUInt32 31)).toInt32) &&& 1431655765) : Int32).toUInt32 >>> ((2 : Int32).toUInt32 &&& Int32.toUInt32 31)).toInt32) &&& 858993459) : Int32).toUInt32 >>> ((4 : Int32).toUInt32 &&& Int32.toUInt32 31)).toInt32)) &&& 252645135))] 34 (by decide +kernel) rfl (by decide) rfl ?_
  refine zIload_n 0 0 35 (by decide +kernel) rfl rfl ?_
  refine zIload_n 0 0 36 (by decide +kernel) rfl rfl ?_
  refine zBipush 8 8 38 (by decide +kernel) rfl (by decide) ?_
  refine zIushr 39 (by decide +kernel) rfl ?_
  refine zIadd 40 (by decide +kernel) rfl ?_
  refine zIstore_n 0 [(0, .int ((((((p0 - (((p0.toUInt32 >>> ((1 : Int32).toUInt32 &&& Int32.toUInt32 31)).toInt32) &&& 1431655765)) &&& 858993459) + ((((p0 - (((p0.toUInt32 >>> ((1 : Int32).toUInt32 &&& Int32.toUInt32 31)).toInt32) &&& 1431655765) : Int32).toUInt32 >>> ((2 : Int32).toUInt32 &&& Int32.toUInt32 31)).toInt32) &&& 858993459)) + (((((p0 - (((p0.toUInt32 >>> ((1 : Int32).toUInt32 &&& Int32.toUInt32 31)).toInt32) &&& 1431655765)) &&& 858993459) + ((((p0 - (((p0.toUInt32 >>> ((1 : Int32).toUInt32 &&& Int32.toUInt32 31)).toInt32) &&& 1431655765) : Int32).toUInt32 >>> ((2 : Int32).toUInt32 &&& Int32.toUInt32 31)).toInt32) &&& 858993459) : Int32).toUInt32 >>> ((4 : Int32).toUInt32 &&& Int32.toUInt32 31)).toInt32)) &&& 252645135) + (((((((p0 - (((p0.toUInt32 >>> ((1 : Int32).toUInt32 &&& Int32.toUInt32 31)).toInt32) &&& 1431655765)) &&& 858993459) + ((((p0 - (((p0.toUInt32 >>> ((1 : Int32).toUInt32 &&& Int32.toUInt32 31)).toInt32) &&& 1431655765) : Int32).toUInt32 >>> ((2 : Int32).toUInt32 &&& Int32.toUInt32 31)).toInt32) &&& 858993459)) + (((((p0 - (((p0.toUInt32 >>> ((1 : Int32).toUInt32 &&& Int32.toUInt32 31)).toInt32) &&& 1431655765)) &&& 858993459) + ((((p0 - (((p0.toUInt32 >>> ((1 : Int32).toUInt32 &&& Int32.toUInt32 31)).toInt32) &&& 1431655765) : Int32).toUInt32 >>> ((2 : Int32).toUInt32 &&& Int32.toUInt32 31)).toInt32) &&& 858993459) : Int32).toUInt32 >>> ((4 : Int32).toUInt32 &&& Int32.toUInt32 31)).toInt32)) &&& 252645135 : Int32).toUInt32 >>> ((8 : Int32).toUInt32 &&& Int32.toUInt32 31)).toInt32)))] 41 (by decide +kernel) rfl (by decide) rfl ?_
  refine zIload_n 0 0 42 (by decide +kernel) rfl rfl ?_
  refine zIload_n 0 0 43 (by decide +kernel) rfl rfl ?_
  refine zBipush 16 16 45 (by decide +kernel) rfl (by decide) ?_
  refine zIushr 46 (by decide +kernel) rfl ?_
  refine zIadd 47 (by decide +kernel) rfl ?_
  refine zIstore_n 0 [(0, .int (((((((p0 - (((p0.toUInt32 >>> ((1 : Int32).toUInt32 &&& Int32.toUInt32 31)).toInt32) &&& 1431655765)) &&& 858993459) + ((((p0 - (((p0.toUInt32 >>> ((1 : Int32).toUInt32 &&& Int32.toUInt32 31)).toInt32) &&& 1431655765) : Int32).toUInt32 >>> ((2 : Int32).toUInt32 &&& Int32.toUInt32 31)).toInt32) &&& 858993459)) + (((((p0 - (((p0.toUInt32 >>> ((1 : Int32).toUInt32 &&& Int32.toUInt32 31)).toInt32) &&& 1431655765)) &&& 858993459) + ((((p0 - (((p0.toUInt32 >>> ((1 : Int32).toUInt32 &&& Int32.toUInt32 31)).toInt32) &&& 1431655765) : Int32).toUInt32 >>> ((2 : Int32).toUInt32 &&& Int32.toUInt32 31)).toInt32) &&& 858993459) : Int32).toUInt32 >>> ((4 : Int32).toUInt32 &&& Int32.toUInt32 31)).toInt32)) &&& 252645135) + (((((((p0 - (((p0.toUInt32 >>> ((1 : Int32).toUInt32 &&& Int32.toUInt32 31)).toInt32) &&& 1431655765)) &&& 858993459) + ((((p0 - (((p0.toUInt32 >>> ((1 : Int32).toUInt32 &&& Int32.toUInt32 31)).toInt32) &&& 1431655765) : Int32).toUInt32 >>> ((2 : Int32).toUInt32 &&& Int32.toUInt32 31)).toInt32) &&& 858993459)) + (((((p0 - (((p0.toUInt32 >>> ((1 : Int32).toUInt32 &&& Int32.toUInt32 31)).toInt32) &&& 1431655765)) &&& 858993459) + ((((p0 - (((p0.toUInt32 >>> ((1 : Int32).toUInt32 &&& Int32.toUInt32 31)).toInt32) &&& 1431655765) : Int32).toUInt32 >>> ((2 : Int32).toUInt32 &&& Int32.toUInt32 31)).toInt32) &&& 858993459) : Int32).toUInt32 >>> ((4 : Int32).toUInt32 &&& Int32.toUInt32 31)).toInt32)) &&& 252645135 : Int32).toUInt32 >>> ((8 : Int32).toUInt32 &&& Int32.toUInt32 31)).toInt32)) + ((((((((p0 - (((p0.toUInt32 >>> ((1 : Int32).toUInt32 &&& Int32.toUInt32 31)).toInt32) &&& 1431655765)) &&& 858993459) + ((((p0 - (((p0.toUInt32 >>> ((1 : Int32).toUInt32 &&& Int32.toUInt32 31)).toInt32) &&& 1431655765) : Int32).toUInt32 >>> ((2 : Int32).toUInt32 &&& Int32.toUInt32 31)).toInt32) &&& 858993459)) + (((((p0 - (((p0.toUInt32 >>> ((1 : Int32).toUInt32 &&& Int32.toUInt32 31)).toInt32) &&& 1431655765)) &&& 858993459) + ((((p0 - (((p0.toUInt32 >>> ((1 : Int32).toUInt32 &&& Int32.toUInt32 31)).toInt32) &&& 1431655765) : Int32).toUInt32 >>> ((2 : Int32).toUInt32 &&& Int32.toUInt32 31)).toInt32) &&& 858993459) : Int32).toUInt32 >>> ((4 : Int32).toUInt32 &&& Int32.toUInt32 31)).toInt32)) &&& 252645135) + (((((((p0 - (((p0.toUInt32 >>> ((1 : Int32).toUInt32 &&& Int32.toUInt32 31)).toInt32) &&& 1431655765)) &&& 858993459) + ((((p0 - (((p0.toUInt32 >>> ((1 : Int32).toUInt32 &&& Int32.toUInt32 31)).toInt32) &&& 1431655765) : Int32).toUInt32 >>> ((2 : Int32).toUInt32 &&& Int32.toUInt32 31)).toInt32) &&& 858993459)) + (((((p0 - (((p0.toUInt32 >>> ((1 : Int32).toUInt32 &&& Int32.toUInt32 31)).toInt32) &&& 1431655765)) &&& 858993459) + ((((p0 - (((p0.toUInt32 >>> ((1 : Int32).toUInt32 &&& Int32.toUInt32 31)).toInt32) &&& 1431655765) : Int32).toUInt32 >>> ((2 : Int32).toUInt32 &&& Int32.toUInt32 31)).toInt32) &&& 858993459) : Int32).toUInt32 >>> ((4 : Int32).toUInt32 &&& Int32.toUInt32 31)).toInt32)) &&& 252645135 : Int32).toUInt32 >>> ((8 : Int32).toUInt32 &&& Int32.toUInt32 31)).toInt32) : Int32).toUInt32 >>> ((16 : Int32).toUInt32 &&& Int32.toUInt32 31)).toInt32)))] 48 (by decide +kernel) rfl (by decide) rfl ?_
  refine zIload_n 0 0 49 (by decide +kernel) rfl rfl ?_
  refine zBipush 63 63 51 (by decide +kernel) rfl (by decide) ?_
  refine zIand 52 (by decide +kernel) rfl ?_
  exact zIret rfl (by decide +kernel) F
set_option maxHeartbeats 2000000 in
theorem wJ0_length_8abf5_0 {G : zG} {d kc ks : Nat} {I : Nat → Nat → Int32} {J : Nat → Nat → Int64} {R : Nat → Nat → Option Nat} {K : Nat → Nat × Nat} {n : Nat} {Q : Option Value → zH → Prop} (i : Nat) (hi : i < 6)  (F : zC G d mJ0_coder_7d493 0 0 [.ref (G.2.2.2.1 i)] (I, J, R, K, n) (fun r h => ∃ (x1 : Int32), r = some (.int x1) ∧ h = (I, J, R, K, n) ∧ Q (some (.int ((nI (zStrN.getD i 0) : Int32) >>> (x1 &&& 31)))) (I, J, R, K, n))) : zV G (d + 1) mJ0_length_8abf5 kc ks 0 [(0, .ref (G.2.2.2.1 i))] [] (I, J, R, K, n) Q := by
  refine zAload_n 0 0 1 (by decide +kernel) rfl rfl ?_
  refine zStrV i 9 4 (by decide +kernel) rfl hi flJ0_9 ?_
  refine zStrL i 5 (by decide +kernel) rfl hi ?_
  refine zAload_n 0 0 6 (by decide +kernel) rfl rfl ?_
  refine zCallStr i hi mJ0_coder_7d493 335 0 0 0 _ _ 9 [] [.int (nI (zStrN.getD i 0))] okJ0_coder_7d493 mlJ0_335 imJ0_coder_7d493 seJ0_coder_7d493 (by decide +kernel) rfl rfl (Nat.le_of_ble_eq_true rfl) rfl rfl (zC.mono F ?_)
  rintro _ _ ⟨x1, rfl, rfl, F⟩
  change zV G (d + 1) mJ0_length_8abf5 kc ks 9 [(0, .ref (G.2.2.2.1 i))] [.int (x1), .int (nI (zStrN.getD i 0))] (I, J, R, K, n) Q
  refine zIshr 10 (by decide +kernel) rfl ?_
  exact zIret rfl (by decide +kernel) F
set_option maxHeartbeats 2000000 in
theorem wJ0_charAt_5068e_0 {G : zG} {d kc ks : Nat} {I : Nat → Nat → Int32} {J : Nat → Nat → Int64} {R : Nat → Nat → Option Nat} {K : Nat → Nat × Nat} {n : Nat} {Q : Option Value → zH → Prop} (i : Nat) (hi : i < 6)  (p1 : Int32) (F : zC G d mJ0_isLatin1_aae02 0 0 [.ref (G.2.2.2.1 i)] (I, J, R, K, n) (fun r h => ∃ (x1 : Int32), r = some (.int x1) ∧ h = (I, J, R, K, n) ∧ ((x1 = 0 → zC G d mJ2_charAt_3b067 0 0 [.ref (G.2.2.2.2.1 i), .int (p1)] (I, J, R, K, n) (fun r h => ∃ (x3 : Int32) (I4 : Nat → Nat → Int32), r = some (.int x3) ∧ h = (I4, J, R, K, n) ∧ (narrow .char (.int (x3)) = .int (x3) ∧ Q (some (.int (x3))) (I4, J, R, K, n)))) ∧ (¬ (x1 = 0) → zC G d mJ1_charAt_3b067 0 0 [.ref (G.2.2.2.2.1 i), .int (p1)] (I, J, R, K, n) (fun r h => ∃ (x5 : Int32), r = some (.int x5) ∧ h = (I, J, R, K, n) ∧ (narrow .char (.int (x5)) = .int (x5) ∧ Q (some (.int (x5))) (I, J, R, K, n))))))) : zV G (d + 1) mJ0_charAt_5068e kc ks 0 [(0, .ref (G.2.2.2.1 i)), (1, .int (p1))] [] (I, J, R, K, n) Q := by
  refine zAload_n 0 0 1 (by decide +kernel) rfl rfl ?_
  refine zCallStr i hi mJ0_isLatin1_aae02 492 0 0 0 _ _ 4 [] [] okJ0_isLatin1_aae02 mlJ0_492 imJ0_isLatin1_aae02 seJ0_isLatin1_aae02 (by decide +kernel) rfl rfl (Nat.le_of_ble_eq_true rfl) rfl rfl (zC.mono F ?_)
  rintro _ _ ⟨x1, rfl, rfl, F⟩
  change zV G (d + 1) mJ0_charAt_5068e kc ks 4 [(0, .ref (G.2.2.2.1 i)), (1, .int (p1))] [.int (x1)] (I, J, R, K, n) Q
  refine zIf_eq 12 16 7 (by decide +kernel) rfl rfl ⟨fun q2 => ?_, fun q2 => ?_⟩
  · replace F := F.1 q2
    refine zAload_n 0 0 17 (by decide +kernel) rfl rfl ?_
    refine zStrV i 9 20 (by decide +kernel) rfl hi flJ0_9 ?_
    refine zIload_n 1 1 21 (by decide +kernel) rfl rfl ?_
    refine zCallS mJ2_charAt_3b067 498 2 0 0 _ _ 24 [.ref (G.2.2.2.2.1 i), .int (p1)] [] okJ2_charAt_3b067 mlJ0_498 smJ2_charAt_3b067 (by decide +kernel) rfl rfl (Nat.le_of_ble_eq_true rfl) rfl rfl (zC.mono F ?_)
    rintro _ _ ⟨x3, I4, rfl, rfl, F⟩
    change zV G (d + 1) mJ0_charAt_5068e kc ks 24 [(0, .ref (G.2.2.2.1 i)), (1, .int (p1))] [.int (x3)] (I4, J, R, K, n) Q
    exact zZret .char rfl F.1 (by decide +kernel) F.2
  · replace F := F.2 q2
    refine zAload_n 0 0 8 (by decide +kernel) rfl rfl ?_
    refine zStrV i 9 11 (by decide +kernel) rfl hi flJ0_9 ?_
    refine zIload_n 1 1 12 (by decide +kernel) rfl rfl ?_
    refine zCallS mJ1_charAt_3b067 495 2 0 0 _ _ 15 [.ref (G.2.2.2.2.1 i), .int (p1)] [] okJ1_charAt_3b067 mlJ0_495 smJ1_charAt_3b067 (by decide +kernel) rfl rfl (Nat.le_of_ble_eq_true rfl) rfl rfl (zC.mono F ?_)
    rintro _ _ ⟨x5, rfl, rfl, F⟩
    change zV G (d + 1) mJ0_charAt_5068e kc ks 15 [(0, .ref (G.2.2.2.1 i)), (1, .int (p1))] [.int (x5)] (I, J, R, K, n) Q
    exact zZret .char rfl F.1 (by decide +kernel) F.2
set_option maxHeartbeats 2000000 in
theorem wJ0_indexOf_0f7a4_0 {G : zG} {d kc ks : Nat} {I : Nat → Nat → Int32} {J : Nat → Nat → Int64} {R : Nat → Nat → Option Nat} {K : Nat → Nat × Nat} {n : Nat} {Q : Option Value → zH → Prop} (i : Nat) (hi : i < 6)  (p1 : Int32) (F : zC G d mJ0_indexOf_7cf53 0 0 [.ref (G.2.2.2.1 i), .int (p1), .int (0)] (I, J, R, K, n) (fun r h => ∃ (x1 : Int32), r = some (.int x1) ∧ h = (I, J, R, K, n) ∧ Q (some (.int (x1))) (I, J, R, K, n))) : zV G (d + 1) mJ0_indexOf_0f7a4 kc ks 0 [(0, .ref (G.2.2.2.1 i)), (1, .int (p1))] [] (I, J, R, K, n) Q := by
  refine zAload_n 0 0 1 (by decide +kernel) rfl rfl ?_
  refine zIload_n 1 1 2 (by decide +kernel) rfl rfl ?_
  refine zIconst 0 0 3 (by decide +kernel) rfl (by decide) ?_
  refine zCallStr i hi mJ0_indexOf_7cf53 633 2 0 0 _ _ 6 [.int (p1), .int (0)] [] okJ0_indexOf_7cf53 mlJ0_633 imJ0_indexOf_7cf53 seJ0_indexOf_7cf53 (by decide +kernel) rfl rfl (Nat.le_of_ble_eq_true rfl) rfl rfl (zC.mono F ?_)
  rintro _ _ ⟨x1, rfl, rfl, F⟩
  change zV G (d + 1) mJ0_indexOf_0f7a4 kc ks 6 [(0, .ref (G.2.2.2.1 i)), (1, .int (p1))] [.int (x1)] (I, J, R, K, n) Q
  exact zIret rfl (by decide +kernel) F
set_option maxHeartbeats 2000000 in
theorem wJ0_indexOf_7cf53_0 {G : zG} {d kc ks : Nat} {I : Nat → Nat → Int32} {J : Nat → Nat → Int64} {R : Nat → Nat → Option Nat} {K : Nat → Nat × Nat} {n : Nat} {Q : Option Value → zH → Prop} (i : Nat) (hi : i < 6)  (p1 p2 : Int32) (F : zC G d mJ0_isLatin1_aae02 0 0 [.ref (G.2.2.2.1 i)] (I, J, R, K, n) (fun r h => ∃ (x1 : Int32), r = some (.int x1) ∧ h = (I, J, R, K, n) ∧ ((x1 = 0 → zC G d mJ0_length_8abf5 0 0 [.ref (G.2.2.2.1 i)] (I, J, R, K, n) (fun r h => ∃ (x3 : Int32), r = some (.int x3) ∧ h = (I, J, R, K, n) ∧ zC G d mJ2_indexOf_4cfef 0 0 [.ref (G.2.2.2.2.1 i), .int (p1), .int (p2), .int (x3)] (I, J, R, K, n) (fun r h => ∃ (x4 : Int32) (I5 : Nat → Nat → Int32), r = some (.int x4) ∧ h = (I5, J, R, K, n) ∧ Q (some (.int (x4))) (I5, J, R, K, n)))) ∧ (¬ (x1 = 0) → zC G d mJ0_length_8abf5 0 0 [.ref (G.2.2.2.1 i)] (I, J, R, K, n) (fun r h => ∃ (x6 : Int32), r = some (.int x6) ∧ h = (I, J, R, K, n) ∧ zC G d mJ1_indexOf_4cfef 0 0 [.ref (G.2.2.2.2.1 i), .int (p1), .int (p2), .int (x6)] (I, J, R, K, n) (fun r h => ∃ (x7 : Int32), r = some (.int x7) ∧ h = (I, J, R, K, n) ∧ Q (some (.int (x7))) (I, J, R, K, n))))))) : zV G (d + 1) mJ0_indexOf_7cf53 kc ks 0 [(0, .ref (G.2.2.2.1 i)), (1, .int (p1)), (2, .int (p2))] [] (I, J, R, K, n) Q := by
  refine zAload_n 0 0 1 (by decide +kernel) rfl rfl ?_
  refine zCallStr i hi mJ0_isLatin1_aae02 492 0 0 0 _ _ 4 [] [] okJ0_isLatin1_aae02 mlJ0_492 imJ0_isLatin1_aae02 seJ0_isLatin1_aae02 (by decide +kernel) rfl rfl (Nat.le_of_ble_eq_true rfl) rfl rfl (zC.mono F ?_)
  rintro _ _ ⟨x1, rfl, rfl, F⟩
  change zV G (d + 1) mJ0_indexOf_7cf53 kc ks 4 [(0, .ref (G.2.2.2.1 i)), (1, .int (p1)), (2, .int (p2))] [.int (x1)] (I, J, R, K, n) Q
  refine zIf_eq 19 23 7 (by decide +kernel) rfl rfl ⟨fun q2 => ?_, fun q2 => ?_⟩
  · replace F := F.1 q2
    refine zAload_n 0 0 24 (by decide +kernel) rfl rfl ?_
    refine zStrV i 9 27 (by decide +kernel) rfl hi flJ0_9 ?_
    refine zIload_n 1 1 28 (by decide +kernel) rfl rfl ?_
    refine zIload_n 2 2 29 (by decide +kernel) rfl rfl ?_
    refine zAload_n 0 0 30 (by decide +kernel) rfl rfl ?_
    refine zCallStr i hi mJ0_length_8abf5 505 0 0 0 _ _ 33 [] [.int (p2), .int (p1), .ref (G.2.2.2.2.1 i)] okJ0_length_8abf5 mlJ0_505 imJ0_length_8abf5 seJ0_length_8abf5 (by decide +kernel) rfl rfl (Nat.le_of_ble_eq_true rfl) rfl rfl (zC.mono F ?_)
    rintro _ _ ⟨x3, rfl, rfl, F⟩
    change zV G (d + 1) mJ0_indexOf_7cf53 kc ks 33 [(0, .ref (G.2.2.2.1 i)), (1, .int (p1)), (2, .int (p2))] [.int (x3), .int (p2), .int (p1), .ref (G.2.2.2.2.1 i)] (I, J, R, K, n) Q
    refine zCallS mJ2_indexOf_4cfef 640 4 0 0 _ _ 36 [.ref (G.2.2.2.2.1 i), .int (p1), .int (p2), .int (x3)] [] okJ2_indexOf_4cfef mlJ0_640 smJ2_indexOf_4cfef (by decide +kernel) rfl rfl (Nat.le_of_ble_eq_true rfl) rfl rfl (zC.mono F ?_)
    rintro _ _ ⟨x4, I5, rfl, rfl, F⟩
    change zV G (d + 1) mJ0_indexOf_7cf53 kc ks 36 [(0, .ref (G.2.2.2.1 i)), (1, .int (p1)), (2, .int (p2))] [.int (x4)] (I5, J, R, K, n) Q
    exact zIret rfl (by decide +kernel) F
  · replace F := F.2 q2
    refine zAload_n 0 0 8 (by decide +kernel) rfl rfl ?_
    refine zStrV i 9 11 (by decide +kernel) rfl hi flJ0_9 ?_
    refine zIload_n 1 1 12 (by decide +kernel) rfl rfl ?_
    refine zIload_n 2 2 13 (by decide +kernel) rfl rfl ?_
    refine zAload_n 0 0 14 (by decide +kernel) rfl rfl ?_
    refine zCallStr i hi mJ0_length_8abf5 505 0 0 0 _ _ 17 [] [.int (p2), .int (p1), .ref (G.2.2.2.2.1 i)] okJ0_length_8abf5 mlJ0_505 imJ0_length_8abf5 seJ0_length_8abf5 (by decide +kernel) rfl rfl (Nat.le_of_ble_eq_true rfl) rfl rfl (zC.mono F ?_)
    rintro _ _ ⟨x6, rfl, rfl, F⟩
    change zV G (d + 1) mJ0_indexOf_7cf53 kc ks 17 [(0, .ref (G.2.2.2.1 i)), (1, .int (p1)), (2, .int (p2))] [.int (x6), .int (p2), .int (p1), .ref (G.2.2.2.2.1 i)] (I, J, R, K, n) Q
    refine zCallS mJ1_indexOf_4cfef 637 4 0 0 _ _ 20 [.ref (G.2.2.2.2.1 i), .int (p1), .int (p2), .int (x6)] [] okJ1_indexOf_4cfef mlJ0_637 smJ1_indexOf_4cfef (by decide +kernel) rfl rfl (Nat.le_of_ble_eq_true rfl) rfl rfl (zC.mono F ?_)
    rintro _ _ ⟨x7, rfl, rfl, F⟩
    change zV G (d + 1) mJ0_indexOf_7cf53 kc ks 20 [(0, .ref (G.2.2.2.1 i)), (1, .int (p1)), (2, .int (p2))] [.int (x7)] (I, J, R, K, n) Q
    refine zGoto 16 36 (by decide +kernel) rfl ?_
    exact zIret rfl (by decide +kernel) F
set_option maxHeartbeats 2000000 in
theorem wJ0_coder_7d493_0 {G : zG} {d kc ks : Nat} {I : Nat → Nat → Int32} {J : Nat → Nat → Int64} {R : Nat → Nat → Option Nat} {K : Nat → Nat × Nat} {n : Nat} {Q : Option Value → zH → Prop} (i : Nat) (hi : i < 6)  (F : (narrow .byte (.int ((if (1 : Int32) = 0 then 1 else 0))) = .int ((if (1 : Int32) = 0 then 1 else 0)) ∧ Q (some (.int ((if (1 : Int32) = 0 then 1 else 0)))) (I, J, R, K, n))) : zV G (d + 1) mJ0_coder_7d493 kc ks 0 [(0, .ref (G.2.2.2.1 i))] [] (I, J, R, K, n) Q := by
  refine zGetsC 38 3 (by decide +kernel) rfl flJ0_38 ?_
  suffices KK : zV G (d + 1) mJ0_coder_7d493 kc ks 14 [(0, .ref (G.2.2.2.1 i))] [.int ((if (1 : Int32) = 0 then 1 else 0))] (I, J, R, K, n) Q by
    refine zIf_eq 10 13 6 (by decide +kernel) rfl rfl ⟨fun q1 => ?_, fun q1 => ?_⟩
    · refine zIconst 1 1 14 (by decide +kernel) rfl (by decide) ?_
      exact zTop (by rw [if_pos q1]) KK
    · refine zAload_n 0 0 7 (by decide +kernel) rfl rfl ?_
      refine zStrC i 15 10 (by decide +kernel) rfl hi flJ0_15 ?_
      refine zGoto 4 14 (by decide +kernel) rfl ?_
      exact zTop (by rw [if_neg q1]) KK
  exact zZret .byte rfl F.1 (by decide +kernel) F.2
set_option maxHeartbeats 2000000 in
theorem wJ0_isLatin1_aae02_0 {G : zG} {d kc ks : Nat} {I : Nat → Nat → Int32} {J : Nat → Nat → Int64} {R : Nat → Nat → Option Nat} {K : Nat → Nat × Nat} {n : Nat} {Q : Option Value → zH → Prop} (i : Nat) (hi : i < 6)  (F : Q (some (.int ((if (1 : Int32) = 0 then 0 else (if (0 : Int32) = 0 then 1 else 0))))) (I, J, R, K, n)) : zV G (d + 1) mJ0_isLatin1_aae02 kc ks 0 [(0, .ref (G.2.2.2.1 i))] [] (I, J, R, K, n) Q := by
  refine zGetsC 38 3 (by decide +kernel) rfl flJ0_38 ?_
  suffices KK : zV G (d + 1) mJ0_isLatin1_aae02 kc ks 18 [(0, .ref (G.2.2.2.1 i))] [.int ((if (1 : Int32) = 0 then 0 else (if (0 : Int32) = 0 then 1 else 0)))] (I, J, R, K, n) Q by
    refine zIf_eq 14 17 6 (by decide +kernel) rfl rfl ⟨fun q1 => ?_, fun q1 => ?_⟩
    · refine zIconst 0 0 18 (by decide +kernel) rfl (by decide) ?_
      exact zTop (by rw [if_pos q1]) KK
    · refine zAload_n 0 0 7 (by decide +kernel) rfl rfl ?_
      refine zStrC i 15 10 (by decide +kernel) rfl hi flJ0_15 ?_
      refine zIf_ne 7 17 13 (by decide +kernel) rfl rfl ⟨fun q2 => ?_, fun q2 => ?_⟩
      · refine zIconst 0 0 18 (by decide +kernel) rfl (by decide) ?_
        exact zTop (by rw [if_neg q1, if_neg q2]) KK
      · refine zIconst 1 1 14 (by decide +kernel) rfl (by decide) ?_
        refine zGoto 4 18 (by decide +kernel) rfl ?_
        exact zTop (by rw [if_neg q1, if_pos q2]) KK
  exact zZret .boolean rfl (zNarZ (zOrIte (Or.inl rfl) (zOrIte (Or.inr rfl) (Or.inl rfl)))) (by decide +kernel) F
set_option maxHeartbeats 2000000 in
theorem wJ0_checkIndex_df160_0 {G : zG} {d kc ks : Nat} {I : Nat → Nat → Int32} {J : Nat → Nat → Int64} {R : Nat → Nat → Option Nat} {K : Nat → Nat × Nat} {n : Nat} {Q : Option Value → zH → Prop}  (p0 p1 : Int32) (F : (∀ r1 : Option Nat, zC G d mJ3_checkIndex_8e157 0 0 [.int (p0), .int (p1), va_rf (r1)] (I, J, R, K, n) (fun r h => ∃ (x2 : Int32), r = some (.int x2) ∧ h = (I, J, R, K, n) ∧ Q none (I, J, R, K, n)))) : zV G (d + 1) mJ0_checkIndex_df160 kc ks 0 [(0, .int (p0)), (1, .int (p1))] [] (I, J, R, K, n) Q := by
  refine zIload_n 0 0 1 (by decide +kernel) rfl rfl ?_
  refine zIload_n 1 1 2 (by decide +kernel) rfl rfl ?_
  refine zGetsF 1053 5 (by decide +kernel) rfl flJ0_1053 (fun r1 => ?_)
  replace F := F r1
  refine zCallS mJ3_checkIndex_8e157 1059 3 0 0 _ _ 8 [.int (p0), .int (p1), va_rf (r1)] [] okJ3_checkIndex_8e157 mlJ0_1059 smJ3_checkIndex_8e157 (by decide +kernel) rfl rfl (Nat.le_of_ble_eq_true rfl) rfl rfl (zC.mono F ?_)
  rintro _ _ ⟨x2, rfl, rfl, F⟩
  change zV G (d + 1) mJ0_checkIndex_df160 kc ks 8 [(0, .int (p0)), (1, .int (p1))] [.int (x2)] (I, J, R, K, n) Q
  refine zPop 9 (by decide +kernel) rfl rfl ?_
  exact zVret rfl (by decide +kernel) F
set_option maxHeartbeats 2000000 in
theorem wJ0_checkBoundsBeginEnd_23922_0 {G : zG} {d kc ks : Nat} {I : Nat → Nat → Int32} {J : Nat → Nat → Int64} {R : Nat → Nat → Option Nat} {K : Nat → Nat × Nat} {n : Nat} {Q : Option Value → zH → Prop}  (p0 p1 p2 : Int32) (F : (∀ r1 : Option Nat, zC G d mJ3_checkFromToIndex_8c36e 0 0 [.int (p0), .int (p1), .int (p2), va_rf (r1)] (I, J, R, K, n) (fun r h => ∃ (x2 : Int32) (I3 : Nat → Nat → Int32), r = some (.int x2) ∧ h = (I3, J, R, K, n) ∧ Q none (I3, J, R, K, n)))) : zV G (d + 1) mJ0_checkBoundsBeginEnd_23922 kc ks 0 [(0, .int (p0)), (1, .int (p1)), (2, .int (p2))] [] (I, J, R, K, n) Q := by
  refine zIload_n 0 0 1 (by decide +kernel) rfl rfl ?_
  refine zIload_n 1 1 2 (by decide +kernel) rfl rfl ?_
  refine zIload_n 2 2 3 (by decide +kernel) rfl rfl ?_
  refine zGetsF 1053 6 (by decide +kernel) rfl flJ0_1053 (fun r1 => ?_)
  replace F := F r1
  refine zCallS mJ3_checkFromToIndex_8c36e 1062 4 0 0 _ _ 9 [.int (p0), .int (p1), .int (p2), va_rf (r1)] [] okJ3_checkFromToIndex_8c36e mlJ0_1062 smJ3_checkFromToIndex_8c36e (by decide +kernel) rfl rfl (Nat.le_of_ble_eq_true rfl) rfl rfl (zC.mono F ?_)
  rintro _ _ ⟨x2, I3, rfl, rfl, F⟩
  change zV G (d + 1) mJ0_checkBoundsBeginEnd_23922 kc ks 9 [(0, .int (p0)), (1, .int (p1)), (2, .int (p2))] [.int (x2)] (I3, J, R, K, n) Q
  refine zPop 10 (by decide +kernel) rfl rfl ?_
  exact zVret rfl (by decide +kernel) F
set_option maxHeartbeats 2000000 in
theorem wJ1_charAt_3b067_0 {G : zG} {d kc ks : Nat} {I : Nat → Nat → Int32} {J : Nat → Nat → Int64} {R : Nat → Nat → Option Nat} {K : Nat → Nat × Nat} {n : Nat} {Q : Option Value → zH → Prop} (i : Nat) (hi : i < 6)  (p1 : Int32) (F : zC G d mJ0_checkIndex_df160 0 0 [.int (p1), .int (nI (zStrN.getD i 0))] (I, J, R, K, n) (fun r h => r = none ∧ h = (I, J, R, K, n) ∧ ((vp_in p1 (zStrN.getD i 0)) ∧ (narrow .char (.int (((((zStrB.getD i []).getD p1.toNatClampNeg 0) &&& 255 : Int32).toUInt32 % 65536).toInt32)) = .int (((((zStrB.getD i []).getD p1.toNatClampNeg 0) &&& 255 : Int32).toUInt32 % 65536).toInt32) ∧ Q (some (.int (((((zStrB.getD i []).getD p1.toNatClampNeg 0) &&& 255 : Int32).toUInt32 % 65536).toInt32))) (I, J, R, K, n))))) : zV G (d + 1) mJ1_charAt_3b067 kc ks 0 [(0, .ref (G.2.2.2.2.1 i)), (1, .int (p1))] [] (I, J, R, K, n) Q := by
  refine zIload_n 1 1 1 (by decide +kernel) rfl rfl ?_
  refine zAload_n 0 0 2 (by decide +kernel) rfl rfl ?_
  refine zStrL i 3 (by decide +kernel) rfl hi ?_
  refine zCallS mJ0_checkIndex_df160 9 2 0 0 _ _ 6 [.int (p1), .int (nI (zStrN.getD i 0))] [] okJ0_checkIndex_df160 mlJ1_9 smJ0_checkIndex_df160 (by decide +kernel) rfl rfl (Nat.le_of_ble_eq_true rfl) rfl rfl (zC.mono F ?_)
  rintro _ _ ⟨rfl, rfl, F⟩
  change zV G (d + 1) mJ1_charAt_3b067 kc ks 6 [(0, .ref (G.2.2.2.2.1 i)), (1, .int (p1))] [] (I, J, R, K, n) Q
  refine zAload_n 0 0 7 (by decide +kernel) rfl rfl ?_
  refine zIload_n 1 1 8 (by decide +kernel) rfl rfl ?_
  obtain ⟨w1, F⟩ := F
  refine zStrAt i 9 (by decide +kernel) rfl hi (w1) ?_
  refine zSipush 255 255 12 (by decide +kernel) rfl (by decide) ?_
  refine zIand 13 (by decide +kernel) rfl ?_
  refine zI2c 14 (by decide +kernel) rfl ?_
  exact zZret .char rfl F.1 (by decide +kernel) F.2
set_option maxHeartbeats 2000000 in
theorem wJ1_canEncode_9a6ad_0 {G : zG} {d kc ks : Nat} {I : Nat → Nat → Int32} {J : Nat → Nat → Int64} {R : Nat → Nat → Option Nat} {K : Nat → Nat × Nat} {n : Nat} {Q : Option Value → zH → Prop}  (p0 : Int32) (F : Q (some (.int ((if p0 < 0 then 0 else (if 255 < p0 then 0 else 1))))) (I, J, R, K, n)) : zV G (d + 1) mJ1_canEncode_9a6ad kc ks 0 [(0, .int (p0))] [] (I, J, R, K, n) Q := by
  refine zIload_n 0 0 1 (by decide +kernel) rfl rfl ?_
  suffices KK : zV G (d + 1) mJ1_canEncode_9a6ad kc ks 16 [(0, .int (p0))] [.int ((if p0 < 0 then 0 else (if 255 < p0 then 0 else 1)))] (I, J, R, K, n) Q by
    refine zIf_lt 14 15 4 (by decide +kernel) rfl rfl ⟨fun q1 => ?_, fun q1 => ?_⟩
    · refine zIconst 0 0 16 (by decide +kernel) rfl (by decide) ?_
      exact zTop (by rw [if_pos q1]) KK
    · refine zIload_n 0 0 5 (by decide +kernel) rfl rfl ?_
      refine zSipush 255 255 8 (by decide +kernel) rfl (by decide) ?_
      refine zIcmp_gt 7 15 11 (by decide +kernel) rfl rfl ⟨fun q2 => ?_, fun q2 => ?_⟩
      · refine zIconst 0 0 16 (by decide +kernel) rfl (by decide) ?_
        exact zTop (by rw [if_neg q1, if_pos q2]) KK
      · refine zIconst 1 1 12 (by decide +kernel) rfl (by decide) ?_
        refine zGoto 4 16 (by decide +kernel) rfl ?_
        exact zTop (by rw [if_neg q1, if_neg q2]) KK
  exact zZret .boolean rfl (zNarZ (zOrIte (Or.inl rfl) (zOrIte (Or.inl rfl) (Or.inr rfl)))) (by decide +kernel) F
set_option maxHeartbeats 2000000 in
theorem wJ1_indexOf_4cfef_0 {G : zG} {d kc ks : Nat} {I : Nat → Nat → Int32} {J : Nat → Nat → Int64} {R : Nat → Nat → Option Nat} {K : Nat → Nat × Nat} {n : Nat} {Q : Option Value → zH → Prop} (i : Nat) (hi : i < 6)  (p1 p2 p3 : Int32) (F : zC G d mJ1_canEncode_9a6ad 0 0 [.int (p1)] (I, J, R, K, n) (fun r h => ∃ (x1 : Int32), r = some (.int x1) ∧ h = (I, J, R, K, n) ∧ ((x1 = 0 → Q (some (.int ((-1)))) (I, J, R, K, n)) ∧ (¬ (x1 = 0) → ((((if (p2 : Int32) < 0 then 0 else p2) : Int32) < ((if (nI (zStrN.getD i 0) : Int32) < p3 then nI (zStrN.getD i 0) else p3) : Int32) → zC G d mJ1_indexOfChar_4cfef 0 0 [.ref (G.2.2.2.2.1 i), .int (p1), .int ((if (p2 : Int32) < 0 then 0 else p2)), .int ((if (nI (zStrN.getD i 0) : Int32) < p3 then nI (zStrN.getD i 0) else p3))] (I, J, R, K, n) (fun r h => ∃ (x4 : Int32), r = some (.int x4) ∧ h = (I, J, R, K, n) ∧ Q (some (.int (x4))) (I, J, R, K, n))) ∧ (¬ (((if (p2 : Int32) < 0 then 0 else p2) : Int32) < ((if (nI (zStrN.getD i 0) : Int32) < p3 then nI (zStrN.getD i 0) else p3) : Int32)) → Q (some (.int ((-1)))) (I, J, R, K, n))))))) : zV G (d + 1) mJ1_indexOf_4cfef kc ks 0 [(0, .ref (G.2.2.2.2.1 i)), (1, .int (p1)), (2, .int (p2)), (3, .int (p3))] [] (I, J, R, K, n) Q := by
  refine zIload_n 1 1 1 (by decide +kernel) rfl rfl ?_
  refine zCallS mJ1_canEncode_9a6ad 88 1 0 0 _ _ 4 [.int (p1)] [] okJ1_canEncode_9a6ad mlJ1_88 smJ1_canEncode_9a6ad (by decide +kernel) rfl rfl (Nat.le_of_ble_eq_true rfl) rfl rfl (zC.mono F ?_)
  rintro _ _ ⟨x1, rfl, rfl, F⟩
  change zV G (d + 1) mJ1_indexOf_4cfef kc ks 4 [(0, .ref (G.2.2.2.2.1 i)), (1, .int (p1)), (2, .int (p2)), (3, .int (p3))] [.int (x1)] (I, J, R, K, n) Q
  refine zIf_ne 5 9 7 (by decide +kernel) rfl rfl ⟨fun q2 => ?_, fun q2 => ?_⟩
  · replace F := F.2 q2
    refine zIload_n 2 2 10 (by decide +kernel) rfl rfl ?_
    refine zIconst 0 0 11 (by decide +kernel) rfl (by decide) ?_
    refine yMax 92 14 (by decide +kernel) rfl mlJ1_92 (Nat.le_of_ble_eq_true rfl) ?_
    refine zIstore_n 2 [(2, .int ((if (p2 : Int32) < 0 then 0 else p2))), (0, .ref (G.2.2.2.2.1 i)), (1, .int (p1)), (3, .int (p3))] 15 (by decide +kernel) rfl (by decide) rfl ?_
    refine zIload_n 3 3 16 (by decide +kernel) rfl rfl ?_
    refine zAload_n 0 1 17 (by decide +kernel) rfl rfl ?_
    refine zStrL i 18 (by decide +kernel) rfl hi ?_
    refine yMin 38 21 (by decide +kernel) rfl mlJ1_38 (Nat.le_of_ble_eq_true rfl) ?_
    refine zIstore_n 3 [(3, .int ((if (nI (zStrN.getD i 0) : Int32) < p3 then nI (zStrN.getD i 0) else p3))), (2, .int ((if (p2 : Int32) < 0 then 0 else p2))), (0, .ref (G.2.2.2.2.1 i)), (1, .int (p1))] 22 (by decide +kernel) rfl (by decide) rfl ?_
    refine zIload_n 2 1 23 (by decide +kernel) rfl rfl ?_
    refine zIload_n 3 0 24 (by decide +kernel) rfl rfl ?_
    refine zIcmp_lt 5 29 27 (by decide +kernel) rfl rfl ⟨fun q3 => ?_, fun q3 => ?_⟩
    · replace F := F.1 q3
      refine zAload_n 0 2 30 (by decide +kernel) rfl rfl ?_
      refine zIload_n 1 3 31 (by decide +kernel) rfl rfl ?_
      refine zIload_n 2 1 32 (by decide +kernel) rfl rfl ?_
      refine zIload_n 3 0 33 (by decide +kernel) rfl rfl ?_
      refine zCallS mJ1_indexOfChar_4cfef 95 4 0 0 _ _ 36 [.ref (G.2.2.2.2.1 i), .int (p1), .int ((if (p2 : Int32) < 0 then 0 else p2)), .int ((if (nI (zStrN.getD i 0) : Int32) < p3 then nI (zStrN.getD i 0) else p3))] [] okJ1_indexOfChar_4cfef mlJ1_95 smJ1_indexOfChar_4cfef (by decide +kernel) rfl rfl (Nat.le_of_ble_eq_true rfl) rfl rfl (zC.mono F ?_)
      rintro _ _ ⟨x4, rfl, rfl, F⟩
      change zV G (d + 1) mJ1_indexOf_4cfef kc ks 36 [(3, .int ((if (nI (zStrN.getD i 0) : Int32) < p3 then nI (zStrN.getD i 0) else p3))), (2, .int ((if (p2 : Int32) < 0 then 0 else p2))), (0, .ref (G.2.2.2.2.1 i)), (1, .int (p1))] [.int (x4)] (I, J, R, K, n) Q
      exact zIret rfl (by decide +kernel) F
    · replace F := F.2 q3
      refine zIconst (-1) (-1) 28 (by decide +kernel) rfl (by decide) ?_
      exact zIret rfl (by decide +kernel) F
  · replace F := F.1 q2
    refine zIconst (-1) (-1) 8 (by decide +kernel) rfl (by decide) ?_
    exact zIret rfl (by decide +kernel) F
set_option maxHeartbeats 2000000 in
theorem wJ1_indexOfChar_4cfef_0 {G : zG} {d kc ks : Nat} {I : Nat → Nat → Int32} {J : Nat → Nat → Int64} {R : Nat → Nat → Option Nat} {K : Nat → Nat × Nat} {n : Nat} {Q : Option Value → zH → Prop} (i : Nat) (hi : i < 6)  (p1 p2 p3 : Int32) (F : zV G (d + 1) mJ1_indexOfChar_4cfef kc ks 7 [(0, .ref (G.2.2.2.2.1 i)), (1, .int (p1)), (2, .int (p2)), (3, .int (p3)), (4, .int (p1.toInt8.toInt32)), (5, .int (p2))] [] (I, J, R, K, n) Q) : zV G (d + 1) mJ1_indexOfChar_4cfef kc ks 0 [(0, .ref (G.2.2.2.2.1 i)), (1, .int (p1)), (2, .int (p2)), (3, .int (p3))] [] (I, J, R, K, n) Q := by
  refine zIload_n 1 1 1 (by decide +kernel) rfl rfl ?_
  refine zI2b 2 (by decide +kernel) rfl ?_
  refine zIstore 4 [(4, .int (p1.toInt8.toInt32)), (0, .ref (G.2.2.2.2.1 i)), (1, .int (p1)), (2, .int (p2)), (3, .int (p3))] 4 (by decide +kernel) rfl (by decide) rfl ?_
  refine zIload_n 2 3 5 (by decide +kernel) rfl rfl ?_
  refine zIstore 5 [(5, .int (p2)), (4, .int (p1.toInt8.toInt32)), (0, .ref (G.2.2.2.2.1 i)), (1, .int (p1)), (2, .int (p2)), (3, .int (p3))] 7 (by decide +kernel) rfl (by decide) rfl ?_
  exact zLoc [2, 3, 4, 5, 1, 0] _ rfl F
set_option maxHeartbeats 2000000 in
theorem wJ1_indexOfChar_4cfef_7 {G : zG} {d kc ks : Nat} {I : Nat → Nat → Int32} {J : Nat → Nat → Int64} {R : Nat → Nat → Option Nat} {K : Nat → Nat × Nat} {n : Nat} {Q : Option Value → zH → Prop} (i : Nat) (hi : i < 6)  (l1 l2 l3 l4 l5 : Int32) (F : ((l3 ≤ l5 → Q (some (.int ((-1)))) (I, J, R, K, n)) ∧ (¬ (l3 ≤ l5) → ((vp_in l5 (zStrN.getD i 0)) ∧ ((((zStrB.getD i []).getD l5.toNatClampNeg 0 : Int32) = l4 → Q (some (.int (l5))) (I, J, R, K, n)) ∧ (¬ (((zStrB.getD i []).getD l5.toNatClampNeg 0 : Int32) = l4) → zV G (d + 1) mJ1_indexOfChar_4cfef kc ks 7 [(0, .ref (G.2.2.2.2.1 i)), (1, .int (l1)), (2, .int (l2)), (3, .int (l3)), (4, .int (l4)), (5, .int (l5 + 1))] [] (I, J, R, K, n) Q)))))) : zV G (d + 1) mJ1_indexOfChar_4cfef kc ks 7 [(0, .ref (G.2.2.2.2.1 i)), (1, .int (l1)), (2, .int (l2)), (3, .int (l3)), (4, .int (l4)), (5, .int (l5))] [] (I, J, R, K, n) Q := by
  refine zIload 5 5 9 (by decide +kernel) rfl rfl ?_
  refine zIload_n 3 3 10 (by decide +kernel) rfl rfl ?_
  refine zIcmp_ge 21 31 13 (by decide +kernel) rfl rfl ⟨fun q1 => ?_, fun q1 => ?_⟩
  · replace F := F.1 q1
    refine zIconst (-1) (-1) 32 (by decide +kernel) rfl (by decide) ?_
    exact zIret rfl (by decide +kernel) F
  · replace F := F.2 q1
    refine zAload_n 0 0 14 (by decide +kernel) rfl rfl ?_
    refine zIload 5 5 16 (by decide +kernel) rfl rfl ?_
    obtain ⟨w2, F⟩ := F
    refine zStrAt i 17 (by decide +kernel) rfl hi (w2) ?_
    refine zIload 4 4 19 (by decide +kernel) rfl rfl ?_
    refine zIcmp_ne 6 25 22 (by decide +kernel) rfl rfl ⟨fun q3 => ?_, fun q3 => ?_⟩
    · replace F := F.2 q3
      refine zIinc 5 1 5 (l5 + 1) [(5, .int (l5 + 1)), (0, .ref (G.2.2.2.2.1 i)), (1, .int (l1)), (2, .int (l2)), (3, .int (l3)), (4, .int (l4))] 28 (by decide +kernel) rfl rfl (by rfl) (by decide) rfl ?_
      refine zGoto (-21) 7 (by decide +kernel) rfl ?_
      exact zLoc [1, 2, 3, 4, 5, 0] _ rfl F
    · replace F := F.1 q3
      refine zIload 5 5 24 (by decide +kernel) rfl rfl ?_
      exact zIret rfl (by decide +kernel) F
set_option maxHeartbeats 2000000 in
theorem wJ7_fill_53178_0 {G : zG} {d kc ks : Nat} {I : Nat → Nat → Int32} {J : Nat → Nat → Int64} {R : Nat → Nat → Option Nat} {K : Nat → Nat × Nat} {n : Nat} {Q : Option Value → zH → Prop} (b c : Nat) (hb : sA G K n b 32 c)  (p1 : Int32) (F : zV G (d + 1) mJ7_fill_53178 kc ks 5 [(0, .ref (b)), (1, .int (p1)), (2, .int (0)), (3, .int (nI c))] [] (I, J, R, K, n) Q) : zV G (d + 1) mJ7_fill_53178 kc ks 0 [(0, .ref (b)), (1, .int (p1))] [] (I, J, R, K, n) Q := by
  refine zIconst 0 0 1 (by decide +kernel) rfl (by decide) ?_
  refine zIstore_n 2 [(2, .int (0)), (0, .ref (b)), (1, .int (p1))] 2 (by decide +kernel) rfl (by decide) rfl ?_
  refine zAload_n 0 1 3 (by decide +kernel) rfl rfl ?_
  refine yAlenI 32 c 4 (by decide +kernel) rfl (by decide) (by decide) hb ?_
  refine zIstore_n 3 [(3, .int (nI c)), (2, .int (0)), (0, .ref (b)), (1, .int (p1))] 5 (by decide +kernel) rfl (by decide) rfl ?_
  exact zLoc [2, 3, 1, 0] _ rfl F
set_option maxHeartbeats 2000000 in
theorem wJ7_fill_53178_5 {G : zG} {d kc ks : Nat} {I : Nat → Nat → Int32} {J : Nat → Nat → Int64} {R : Nat → Nat → Option Nat} {K : Nat → Nat × Nat} {n : Nat} {Q : Option Value → zH → Prop} (b c : Nat) (hb : sA G K n b 32 c)  (l1 l2 l3 : Int32) (F : ((l3 ≤ l2 → Q none (I, J, R, K, n)) ∧ (¬ (l3 ≤ l2) → (vp_in l2 c ∧ ∀ I2 : Nat → Nat → Int32, I2 = zU I b l2.toNatClampNeg (l1) → zV G (d + 1) mJ7_fill_53178 kc ks 5 [(0, .ref (b)), (1, .int (l1)), (2, .int (l2 + 1)), (3, .int (l3))] [] (I2, J, R, K, n) Q)))) : zV G (d + 1) mJ7_fill_53178 kc ks 5 [(0, .ref (b)), (1, .int (l1)), (2, .int (l2)), (3, .int (l3))] [] (I, J, R, K, n) Q := by
  refine zIload_n 2 2 6 (by decide +kernel) rfl rfl ?_
  refine zIload_n 3 3 7 (by decide +kernel) rfl rfl ?_
  refine zIcmp_ge 13 20 10 (by decide +kernel) rfl rfl ⟨fun q1 => ?_, fun q1 => ?_⟩
  · replace F := F.1 q1
    exact zVret rfl (by decide +kernel) F
  · replace F := F.2 q1
    refine zAload_n 0 0 11 (by decide +kernel) rfl rfl ?_
    refine zIload_n 2 2 12 (by decide +kernel) rfl rfl ?_
    refine zIload_n 1 1 13 (by decide +kernel) rfl rfl ?_
    refine yIastore c 14 (by decide +kernel) rfl hb F.1 ?_
    replace F := F.2 _ rfl
    generalize zU I b l2.toNatClampNeg (l1) = I2 at F ⊢
    refine zIinc 2 1 2 (l2 + 1) [(2, .int (l2 + 1)), (0, .ref (b)), (1, .int (l1)), (3, .int (l3))] 17 (by decide +kernel) rfl rfl (by rfl) (by decide) rfl ?_
    refine zGoto (-12) 5 (by decide +kernel) rfl ?_
    exact zLoc [1, 2, 0, 3] _ rfl F
