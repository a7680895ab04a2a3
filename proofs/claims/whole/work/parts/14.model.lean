set_option maxHeartbeats 2000000 in
theorem wX12_thrown_0 {G : zG} {d kc ks : Nat} {I : Nat → Nat → Int32} {J : Nat → Nat → Int64} {R : Nat → Nat → Option Nat} {K : Nat → Nat × Nat} {n : Nat} {Q : Option Value → zH → Prop} (m t c : Nat) (S0_ : hMod G R K n m t c) (F : Q (some (.int (I m 0))) (I, J, R, K, n)) : zV G (d + 1) mX12_thrown kc ks 0 [(0, .ref (m))] [] (I, J, R, K, n) Q := by
  refine zAload_n 0 0 1 (by decide +kernel) rfl rfl ?_
  refine gf12_0 93 4 (by decide +kernel) rfl flX12_93 (Mod_0 S0_) ?_
  exact zIret rfl (by decide +kernel) F
set_option maxHeartbeats 2000000 in
theorem wX12_isIn_0 {G : zG} {d kc ks : Nat} {I : Nat → Nat → Int32} {J : Nat → Nat → Int64} {R : Nat → Nat → Option Nat} {K : Nat → Nat × Nat} {n : Nat} {Q : Option Value → zH → Prop}  (p0 p2 p4 : Int64) (F : Q (some (.int ((if (lg_cmp p0 p2 : Int32) < 0 then 0 else (if 0 < (lg_cmp p0 p4 : Int32) then 0 else 1))))) (I, J, R, K, n)) : zV G (d + 1) mX12_isIn kc ks 0 [(0, .long (p0)), (2, .long (p2)), (4, .long (p4))] [] (I, J, R, K, n) Q := by
  refine zLload_n 0 0 1 (by decide +kernel) rfl rfl ?_
  refine zLload_n 2 1 2 (by decide +kernel) rfl rfl ?_
  refine zLcmp 3 (by decide +kernel) rfl ?_
  suffices KK : zV G (d + 1) mX12_isIn kc ks 18 [(0, .long (p0)), (2, .long (p2)), (4, .long (p4))] [.int ((if (lg_cmp p0 p2 : Int32) < 0 then 0 else (if 0 < (lg_cmp p0 p4 : Int32) then 0 else 1)))] (I, J, R, K, n) Q by
    refine zIf_lt 14 17 6 (by decide +kernel) rfl rfl ⟨fun q1 => ?_, fun q1 => ?_⟩
    · refine zIconst 0 0 18 (by decide +kernel) rfl (by decide) ?_
      exact zTop (by rw [if_pos q1]) KK
    · refine zLload_n 0 0 7 (by decide +kernel) rfl rfl ?_
      refine zLload 4 2 9 (by decide +kernel) rfl rfl ?_
      refine zLcmp 10 (by decide +kernel) rfl ?_
      refine zIf_gt 7 17 13 (by decide +kernel) rfl rfl ⟨fun q2 => ?_, fun q2 => ?_⟩
      · refine zIconst 0 0 18 (by decide +kernel) rfl (by decide) ?_
        exact zTop (by rw [if_neg q1, if_pos q2]) KK
      · refine zIconst 1 1 14 (by decide +kernel) rfl (by decide) ?_
        refine zGoto 4 18 (by decide +kernel) rfl ?_
        exact zTop (by rw [if_neg q1, if_neg q2]) KK
  exact zZret .boolean rfl (zNarZ (zOrIte (Or.inl rfl) (zOrIte (Or.inl rfl) (Or.inr rfl)))) (by decide +kernel) F
set_option maxHeartbeats 2000000 in
theorem wX12_has_0 {G : zG} {d kc ks : Nat} {I : Nat → Nat → Int32} {J : Nat → Nat → Int64} {R : Nat → Nat → Option Nat} {K : Nat → Nat × Nat} {n : Nat} {Q : Option Value → zH → Prop}  (p0 p1 : Int32) (F : Q (some (.int ((if ((p0 >>> (p1 &&& 31)) &&& 1 : Int32) = 1 then 1 else 0)))) (I, J, R, K, n)) : zV G (d + 1) mX12_has kc ks 0 [(0, .int (p0)), (1, .int (p1))] [] (I, J, R, K, n) Q := by
  refine zIload_n 0 0 1 (by decide +kernel) rfl rfl ?_
  refine zIload_n 1 1 2 (by decide +kernel) rfl rfl ?_
  refine zIshr 3 (by decide +kernel) rfl ?_
  refine zIconst 1 1 4 (by decide +kernel) rfl (by decide) ?_
  refine zIand 5 (by decide +kernel) rfl ?_
  refine zIconst 1 1 6 (by decide +kernel) rfl (by decide) ?_
  suffices KK : zV G (d + 1) mX12_has kc ks 14 [(0, .int (p0)), (1, .int (p1))] [.int ((if ((p0 >>> (p1 &&& 31)) &&& 1 : Int32) = 1 then 1 else 0))] (I, J, R, K, n) Q by
    refine zIcmp_ne 7 13 9 (by decide +kernel) rfl rfl ⟨fun q1 => ?_, fun q1 => ?_⟩
    · refine zIconst 0 0 14 (by decide +kernel) rfl (by decide) ?_
      exact zTop (by rw [if_neg q1]) KK
    · refine zIconst 1 1 10 (by decide +kernel) rfl (by decide) ?_
      refine zGoto 4 14 (by decide +kernel) rfl ?_
      exact zTop (by rw [if_pos q1]) KK
  exact zZret .boolean rfl (zNarZ (zOrIte (Or.inr rfl) (Or.inl rfl))) (by decide +kernel) F
set_option maxHeartbeats 2000000 in
theorem wX12_isAmong_0 {G : zG} {d kc ks : Nat} {I : Nat → Nat → Int32} {J : Nat → Nat → Int64} {R : Nat → Nat → Option Nat} {K : Nat → Nat × Nat} {n : Nat} {Q : Option Value → zH → Prop} (i : Nat) (hi : i < 6)  (p1 : Int32) (F : zV G (d + 1) mX12_isAmong kc ks 2 [(0, .ref (G.2.2.2.1 i)), (1, .int (p1)), (2, .int (0))] [] (I, J, R, K, n) Q) : zV G (d + 1) mX12_isAmong kc ks 0 [(0, .ref (G.2.2.2.1 i)), (1, .int (p1))] [] (I, J, R, K, n) Q := by
  refine zIconst 0 0 1 (by decide +kernel) rfl (by decide) ?_
  refine zIstore_n 2 [(2, .int (0)), (0, .ref (G.2.2.2.1 i)), (1, .int (p1))] 2 (by decide +kernel) rfl (by decide) rfl ?_
  exact zLoc [1, 2, 0] _ rfl F
set_option maxHeartbeats 2000000 in
theorem wX12_isAmong_2 {G : zG} {d kc ks : Nat} {I : Nat → Nat → Int32} {J : Nat → Nat → Int64} {R : Nat → Nat → Option Nat} {K : Nat → Nat × Nat} {n : Nat} {Q : Option Value → zH → Prop} (i : Nat) (hi : i < 6)  (l1 l2 : Int32) (F : zC G d mJ0_length_8abf5 0 0 [.ref (G.2.2.2.1 i)] (I, J, R, K, n) (fun r h => ∃ (x1 : Int32), r = some (.int x1) ∧ h = (I, J, R, K, n) ∧ ((x1 ≤ l2 → Q (some (.int (0))) (I, J, R, K, n)) ∧ (¬ (x1 ≤ l2) → zC G d mJ0_charAt_5068e 0 0 [.ref (G.2.2.2.1 i), .int (l2)] (I, J, R, K, n) (fun r h => ∃ (x3 : Int32), r = some (.int x3) ∧ h = (I, J, R, K, n) ∧ ((x3 = l1 → Q (some (.int (1))) (I, J, R, K, n)) ∧ (¬ (x3 = l1) → zV G (d + 1) mX12_isAmong kc ks 2 [(0, .ref (G.2.2.2.1 i)), (1, .int (l1)), (2, .int (l2 + 1))] [] (I, J, R, K, n) Q))))))) : zV G (d + 1) mX12_isAmong kc ks 2 [(0, .ref (G.2.2.2.1 i)), (1, .int (l1)), (2, .int (l2))] [] (I, J, R, K, n) Q := by
  refine zIload_n 2 2 3 (by decide +kernel) rfl rfl ?_
  refine zAload_n 0 0 4 (by decide +kernel) rfl rfl ?_
  refine zCallStr i hi mJ0_length_8abf5 96 0 0 0 _ _ 7 [] [.int (l2)] okJ0_length_8abf5 mlX12_96 imJ0_length_8abf5 seJ0_length_8abf5 (by decide +kernel) rfl rfl (Nat.le_of_ble_eq_true rfl) rfl rfl (zC.mono F ?_)
  rintro _ _ ⟨x1, rfl, rfl, F⟩
  change zV G (d + 1) mX12_isAmong kc ks 7 [(0, .ref (G.2.2.2.1 i)), (1, .int (l1)), (2, .int (l2))] [.int (x1), .int (l2)] (I, J, R, K, n) Q
  refine zIcmp_ge 20 27 10 (by decide +kernel) rfl rfl ⟨fun q2 => ?_, fun q2 => ?_⟩
  · replace F := F.1 q2
    refine zIconst 0 0 28 (by decide +kernel) rfl (by decide) ?_
    exact zZret .boolean rfl (zNarZ (Or.inl rfl)) (by decide +kernel) F
  · replace F := F.2 q2
    refine zAload_n 0 0 11 (by decide +kernel) rfl rfl ?_
    refine zIload_n 2 2 12 (by decide +kernel) rfl rfl ?_
    refine zCallStr i hi mJ0_charAt_5068e 102 1 0 0 _ _ 15 [.int (l2)] [] okJ0_charAt_5068e mlX12_102 imJ0_charAt_5068e seJ0_charAt_5068e (by decide +kernel) rfl rfl (Nat.le_of_ble_eq_true rfl) rfl rfl (zC.mono F ?_)
    rintro _ _ ⟨x3, rfl, rfl, F⟩
    change zV G (d + 1) mX12_isAmong kc ks 15 [(0, .ref (G.2.2.2.1 i)), (1, .int (l1)), (2, .int (l2))] [.int (x3)] (I, J, R, K, n) Q
    refine zIload_n 1 1 16 (by decide +kernel) rfl rfl ?_
    refine zIcmp_ne 5 21 19 (by decide +kernel) rfl rfl ⟨fun q4 => ?_, fun q4 => ?_⟩
    · replace F := F.2 q4
      refine zIinc 2 1 2 (l2 + 1) [(2, .int (l2 + 1)), (0, .ref (G.2.2.2.1 i)), (1, .int (l1))] 24 (by decide +kernel) rfl rfl (by rfl) (by decide) rfl ?_
      refine zGoto (-22) 2 (by decide +kernel) rfl ?_
      exact zLoc [1, 2, 0] _ rfl F
    · replace F := F.1 q4
      refine zIconst 1 1 20 (by decide +kernel) rfl (by decide) ?_
      exact zZret .boolean rfl (zNarZ (Or.inr rfl)) (by decide +kernel) F
set_option maxHeartbeats 2000000 in
theorem wX12_bytesIn_0 {G : zG} {d kc ks : Nat} {I : Nat → Nat → Int32} {J : Nat → Nat → Int64} {R : Nat → Nat → Option Nat} {K : Nat → Nat × Nat} {n : Nat} {Q : Option Value → zH → Prop}  (p0 : Int32) (F : zV G (d + 1) mX12_bytesIn kc ks 5 [(0, .int (p0)), (1, .int (0)), (2, .int (24))] [] (I, J, R, K, n) Q) : zV G (d + 1) mX12_bytesIn kc ks 0 [(0, .int (p0))] [] (I, J, R, K, n) Q := by
  refine zIconst 0 0 1 (by decide +kernel) rfl (by decide) ?_
  refine zIstore_n 1 [(1, .int (0)), (0, .int (p0))] 2 (by decide +kernel) rfl (by decide) rfl ?_
  refine zBipush 24 24 4 (by decide +kernel) rfl (by decide) ?_
  refine zIstore_n 2 [(2, .int (24)), (1, .int (0)), (0, .int (p0))] 5 (by decide +kernel) rfl (by decide) rfl ?_
  exact zLoc [2, 1, 0] _ rfl F
set_option maxHeartbeats 2000000 in
theorem wX12_bytesIn_5 {G : zG} {d kc ks : Nat} {I : Nat → Nat → Int32} {J : Nat → Nat → Int64} {R : Nat → Nat → Option Nat} {K : Nat → Nat × Nat} {n : Nat} {Q : Option Value → zH → Prop}  (l0 l1 l2 : Int32) (F : ((l2 < 0 → Q (some (.int (l1))) (I, J, R, K, n)) ∧ (¬ (l2 < 0) → zV G (d + 1) mX12_bytesIn kc ks 5 [(0, .int (l0)), (1, .int (l1 + (if ((l0 >>> (l2 &&& 31)) &&& 255 : Int32) = 0 then 0 else 1))), (2, .int (l2 + (-8)))] [] (I, J, R, K, n) Q))) : zV G (d + 1) mX12_bytesIn kc ks 5 [(0, .int (l0)), (1, .int (l1)), (2, .int (l2))] [] (I, J, R, K, n) Q := by
  refine zIload_n 2 2 6 (by decide +kernel) rfl rfl ?_
  refine zIf_lt 27 33 9 (by decide +kernel) rfl rfl ⟨fun q1 => ?_, fun q1 => ?_⟩
  · replace F := F.1 q1
    refine zIload_n 1 1 34 (by decide +kernel) rfl rfl ?_
    exact zIret rfl (by decide +kernel) F
  · replace F := F.2 q1
    refine zIload_n 1 1 10 (by decide +kernel) rfl rfl ?_
    refine zIload_n 0 0 11 (by decide +kernel) rfl rfl ?_
    refine zIload_n 2 2 12 (by decide +kernel) rfl rfl ?_
    refine zIshr 13 (by decide +kernel) rfl ?_
    refine zSipush 255 255 16 (by decide +kernel) rfl (by decide) ?_
    refine zIand 17 (by decide +kernel) rfl ?_
    suffices KK : zV G (d + 1) mX12_bytesIn kc ks 25 [(0, .int (l0)), (1, .int (l1)), (2, .int (l2))] [.int ((if ((l0 >>> (l2 &&& 31)) &&& 255 : Int32) = 0 then 0 else 1)), .int (l1)] (I, J, R, K, n) Q by
      refine zIf_eq 7 24 20 (by decide +kernel) rfl rfl ⟨fun q2 => ?_, fun q2 => ?_⟩
      · refine zIconst 0 0 25 (by decide +kernel) rfl (by decide) ?_
        exact zTop (by rw [if_pos q2]) KK
      · refine zIconst 1 1 21 (by decide +kernel) rfl (by decide) ?_
        refine zGoto 4 25 (by decide +kernel) rfl ?_
        exact zTop (by rw [if_neg q2]) KK
    refine zIadd 26 (by decide +kernel) rfl ?_
    refine zIstore_n 1 [(1, .int (l1 + (if ((l0 >>> (l2 &&& 31)) &&& 255 : Int32) = 0 then 0 else 1))), (0, .int (l0)), (2, .int (l2))] 27 (by decide +kernel) rfl (by decide) rfl ?_
    refine zIinc 2 (-8) 2 (l2 + (-8)) [(2, .int (l2 + (-8))), (1, .int (l1 + (if ((l0 >>> (l2 &&& 31)) &&& 255 : Int32) = 0 then 0 else 1))), (0, .int (l0))] 30 (by decide +kernel) rfl rfl (by rfl) (by decide) rfl ?_
    refine zGoto (-25) 5 (by decide +kernel) rfl ?_
    exact zLoc [2, 1, 0] _ rfl F
set_option maxHeartbeats 2000000 in
theorem wX12_put_0 {G : zG} {d kc ks : Nat} {I : Nat → Nat → Int32} {J : Nat → Nat → Int64} {R : Nat → Nat → Option Nat} {K : Nat → Nat × Nat} {n : Nat} {Q : Option Value → zH → Prop} (m t c : Nat) (S0_ : hMod G R K n m t c) (p1 : Int32) (F : zV G (d + 1) mX12_put kc ks 3 [(0, .ref (m)), (1, .int (p1)), (2, .int (24))] [] (I, J, R, K, n) Q) : zV G (d + 1) mX12_put kc ks 0 [(0, .ref (m)), (1, .int (p1))] [] (I, J, R, K, n) Q := by
  refine zBipush 24 24 2 (by decide +kernel) rfl (by decide) ?_
  refine zIstore_n 2 [(2, .int (24)), (0, .ref (m)), (1, .int (p1))] 3 (by decide +kernel) rfl (by decide) rfl ?_
  exact zLoc [1, 2, 0] _ rfl F
set_option maxHeartbeats 2000000 in
theorem wX12_put_3 {G : zG} {d kc ks : Nat} {I : Nat → Nat → Int32} {J : Nat → Nat → Int64} {R : Nat → Nat → Option Nat} {K : Nat → Nat × Nat} {n : Nat} {Q : Option Value → zH → Prop} (m t c : Nat) (S0_ : hMod G R K n m t c) (l1 l2 : Int32) (F : ((l2 < 0 → Q none (I, J, R, K, n)) ∧ (¬ (l2 < 0) → ((((l1 >>> (l2 &&& 31)) &&& 255 : Int32) = 0 → zV G (d + 1) mX12_put kc ks 3 [(0, .ref (m)), (1, .int (l1)), (2, .int (l2 + (-8)))] [] (I, J, R, K, n) Q) ∧ (¬ (((l1 >>> (l2 &&& 31)) &&& 255 : Int32) = 0) → (vp_in (I m 6) 240 ∧ ∀ I3 : Nat → Nat → Int32, I3 = zU I (m + 1) (I m 6 : Int32).toNatClampNeg (vp_nar .byte ((l1 >>> (l2 &&& 31) : Int32).toInt8.toInt32)) → (∀ I4 : Nat → Nat → Int32, I4 = zU I3 m 6 ((I3 m 6) + 1) → zV G (d + 1) mX12_put kc ks 3 [(0, .ref (m)), (1, .int (l1)), (2, .int (l2 + (-8)))] [] (I4, J, R, K, n) Q))))))) : zV G (d + 1) mX12_put kc ks 3 [(0, .ref (m)), (1, .int (l1)), (2, .int (l2))] [] (I, J, R, K, n) Q := by
  refine zIload_n 2 2 4 (by decide +kernel) rfl rfl ?_
  refine zIf_lt 45 49 7 (by decide +kernel) rfl rfl ⟨fun q1 => ?_, fun q1 => ?_⟩
  · replace F := F.1 q1
    exact zVret rfl (by decide +kernel) F
  · replace F := F.2 q1
    refine zIload_n 1 1 8 (by decide +kernel) rfl rfl ?_
    refine zIload_n 2 2 9 (by decide +kernel) rfl rfl ?_
    refine zIshr 10 (by decide +kernel) rfl ?_
    refine zSipush 255 255 13 (by decide +kernel) rfl (by decide) ?_
    refine zIand 14 (by decide +kernel) rfl ?_
    refine zIf_ne 6 20 17 (by decide +kernel) rfl rfl ⟨fun q2 => ?_, fun q2 => ?_⟩
    · replace F := F.2 q2
      refine zAload_n 0 0 21 (by decide +kernel) rfl rfl ?_
      refine gf12_1 9 24 (by decide +kernel) rfl flX12_9 (Mod_0 S0_) (Mod_1 S0_) ?_
      refine zAload_n 0 0 25 (by decide +kernel) rfl rfl ?_
      refine gf12_6 106 28 (by decide +kernel) rfl flX12_106 (Mod_0 S0_) ?_
      refine zIload_n 1 1 29 (by decide +kernel) rfl rfl ?_
      refine zIload_n 2 2 30 (by decide +kernel) rfl rfl ?_
      refine zIshr 31 (by decide +kernel) rfl ?_
      refine zI2b 32 (by decide +kernel) rfl ?_
      refine yBastore 240 33 (by decide +kernel) rfl (Mod_2 S0_) F.1 ?_
      replace F := F.2 _ rfl
      generalize zU I (m + 1) (I m 6 : Int32).toNatClampNeg (vp_nar .byte ((l1 >>> (l2 &&& 31) : Int32).toInt8.toInt32)) = I3 at F ⊢
      refine zAload_n 0 0 34 (by decide +kernel) rfl rfl ?_
      refine zDup 35 (by decide +kernel) rfl rfl ?_
      refine gf12_6 106 38 (by decide +kernel) rfl flX12_106 (Mod_0 S0_) ?_
      refine zIconst 1 1 39 (by decide +kernel) rfl (by decide) ?_
      refine zIadd 40 (by decide +kernel) rfl ?_
      refine pf12_6 106 43 (by decide +kernel) rfl flX12_106 (Mod_0 S0_) ?_
      replace F := F _ rfl
      generalize zU I3 m 6 ((I3 m 6) + 1) = I4 at F ⊢
      refine zIinc 2 (-8) 2 (l2 + (-8)) [(2, .int (l2 + (-8))), (0, .ref (m)), (1, .int (l1))] 46 (by decide +kernel) rfl rfl (by rfl) (by decide) rfl ?_
      refine zGoto (-43) 3 (by decide +kernel) rfl ?_
      exact zLoc [1, 2, 0] _ rfl F
    · replace F := F.1 q2
      refine zGoto 26 43 (by decide +kernel) rfl ?_
      refine zIinc 2 (-8) 2 (l2 + (-8)) [(2, .int (l2 + (-8))), (0, .ref (m)), (1, .int (l1))] 46 (by decide +kernel) rfl rfl (by rfl) (by decide) rfl ?_
      refine zGoto (-43) 3 (by decide +kernel) rfl ?_
      exact zLoc [1, 2, 0] _ rfl F
set_option maxHeartbeats 2000000 in
theorem wX12_feed_0 {G : zG} {d kc ks : Nat} {I : Nat → Nat → Int32} {J : Nat → Nat → Int64} {R : Nat → Nat → Option Nat} {K : Nat → Nat × Nat} {n : Nat} {Q : Option Value → zH → Prop} (m t c : Nat) (S0_ : hMod G R K n m t c) (p1 p2 p3 p4 p5 : Int32) (F : (∀ I1 : Nat → Nat → Int32, I1 = zU I m 0 (0) → zC G d mX12_bytesIn 0 0 [.int (p1)] (I1, J, R, K, n) (fun r h => ∃ (x2 : Int32) (I3 : Nat → Nat → Int32), r = some (.int x2) ∧ h = (I3, J, R, K, n) ∧ zC G d mX12_bytesIn 0 0 [.int (p2)] (I3, J, R, K, n) (fun r h => ∃ (x4 : Int32) (I5 : Nat → Nat → Int32), r = some (.int x4) ∧ h = (I5, J, R, K, n) ∧ zC G d mX12_bytesIn 0 0 [.int (p3)] (I5, J, R, K, n) (fun r h => ∃ (x6 : Int32) (I7 : Nat → Nat → Int32), r = some (.int x6) ∧ h = (I7, J, R, K, n) ∧ zC G d mX12_bytesIn 0 0 [.int (p4)] (I7, J, R, K, n) (fun r h => ∃ (x8 : Int32) (I9 : Nat → Nat → Int32), r = some (.int x8) ∧ h = (I9, J, R, K, n) ∧ zC G d mX12_bytesIn 0 0 [.int (p5)] (I9, J, R, K, n) (fun r h => ∃ (x10 : Int32) (I11 : Nat → Nat → Int32), r = some (.int x10) ∧ h = (I11, J, R, K, n) ∧ ((((((((I1 m 6) + x2) + x4) + x6) + x8) + x10 : Int32) ≤ 240 → zC G d mX12_put 0 0 [.ref (m), .int (p1)] (I11, J, R, K, n) (fun r h => ∃ (I13 : Nat → Nat → Int32), r = none ∧ h = (I13, J, R, K, n) ∧ zC G d mX12_put 0 0 [.ref (m), .int (p2)] (I13, J, R, K, n) (fun r h => ∃ (I14 : Nat → Nat → Int32), r = none ∧ h = (I14, J, R, K, n) ∧ zC G d mX12_put 0 0 [.ref (m), .int (p3)] (I14, J, R, K, n) (fun r h => ∃ (I15 : Nat → Nat → Int32), r = none ∧ h = (I15, J, R, K, n) ∧ zC G d mX12_put 0 0 [.ref (m), .int (p4)] (I15, J, R, K, n) (fun r h => ∃ (I16 : Nat → Nat → Int32), r = none ∧ h = (I16, J, R, K, n) ∧ zC G d mX12_put 0 0 [.ref (m), .int (p5)] (I16, J, R, K, n) (fun r h => ∃ (I17 : Nat → Nat → Int32), r = none ∧ h = (I17, J, R, K, n) ∧ Q (some (.int (I17 m 6))) (I17, J, R, K, n))))))) ∧ (¬ (((((((I1 m 6) + x2) + x4) + x6) + x8) + x10 : Int32) ≤ 240) → Q (some (.int ((-1)))) (I11, J, R, K, n)))))))))) : zV G (d + 1) mX12_feed kc ks 0 [(0, .ref (m)), (1, .int (p1)), (2, .int (p2)), (3, .int (p3)), (4, .int (p4)), (5, .int (p5))] [] (I, J, R, K, n) Q := by
  refine zAload_n 0 0 1 (by decide +kernel) rfl rfl ?_
  refine zIconst 0 0 2 (by decide +kernel) rfl (by decide) ?_
  refine pf12_0 93 5 (by decide +kernel) rfl flX12_93 (Mod_0 S0_) ?_
  replace F := F _ rfl
  generalize zU I m 0 (0) = I1 at F ⊢
  refine zAload_n 0 0 6 (by decide +kernel) rfl rfl ?_
  refine gf12_6 106 9 (by decide +kernel) rfl flX12_106 (Mod_0 S0_) ?_
  refine zIload_n 1 1 10 (by decide +kernel) rfl rfl ?_
  refine zCallS mX12_bytesIn 108 1 0 0 _ _ 13 [.int (p1)] [.int (I1 m 6)] okX12_bytesIn mlX12_108 smX12_bytesIn (by decide +kernel) rfl rfl (Nat.le_of_ble_eq_true rfl) rfl rfl (zC.mono F ?_)
  rintro _ _ ⟨x2, I3, rfl, rfl, F⟩
  change zV G (d + 1) mX12_feed kc ks 13 [(0, .ref (m)), (1, .int (p1)), (2, .int (p2)), (3, .int (p3)), (4, .int (p4)), (5, .int (p5))] [.int (x2), .int (I1 m 6)] (I3, J, R, K, n) Q
  refine zIadd 14 (by decide +kernel) rfl ?_
  refine zIload_n 2 2 15 (by decide +kernel) rfl rfl ?_
  refine zCallS mX12_bytesIn 108 1 0 0 _ _ 18 [.int (p2)] [.int ((I1 m 6) + x2)] okX12_bytesIn mlX12_108 smX12_bytesIn (by decide +kernel) rfl rfl (Nat.le_of_ble_eq_true rfl) rfl rfl (zC.mono F ?_)
  rintro _ _ ⟨x4, I5, rfl, rfl, F⟩
  change zV G (d + 1) mX12_feed kc ks 18 [(0, .ref (m)), (1, .int (p1)), (2, .int (p2)), (3, .int (p3)), (4, .int (p4)), (5, .int (p5))] [.int (x4), .int ((I1 m 6) + x2)] (I5, J, R, K, n) Q
  refine zIadd 19 (by decide +kernel) rfl ?_
  refine zIload_n 3 3 20 (by decide +kernel) rfl rfl ?_
  refine zCallS mX12_bytesIn 108 1 0 0 _ _ 23 [.int (p3)] [.int (((I1 m 6) + x2) + x4)] okX12_bytesIn mlX12_108 smX12_bytesIn (by decide +kernel) rfl rfl (Nat.le_of_ble_eq_true rfl) rfl rfl (zC.mono F ?_)
  rintro _ _ ⟨x6, I7, rfl, rfl, F⟩
  change zV G (d + 1) mX12_feed kc ks 23 [(0, .ref (m)), (1, .int (p1)), (2, .int (p2)), (3, .int (p3)), (4, .int (p4)), (5, .int (p5))] [.int (x6), .int (((I1 m 6) + x2) + x4)] (I7, J, R, K, n) Q
  refine zIadd 24 (by decide +kernel) rfl ?_
  refine zIload 4 4 26 (by decide +kernel) rfl rfl ?_
  refine zCallS mX12_bytesIn 108 1 0 0 _ _ 29 [.int (p4)] [.int ((((I1 m 6) + x2) + x4) + x6)] okX12_bytesIn mlX12_108 smX12_bytesIn (by decide +kernel) rfl rfl (Nat.le_of_ble_eq_true rfl) rfl rfl (zC.mono F ?_)
  rintro _ _ ⟨x8, I9, rfl, rfl, F⟩
  change zV G (d + 1) mX12_feed kc ks 29 [(0, .ref (m)), (1, .int (p1)), (2, .int (p2)), (3, .int (p3)), (4, .int (p4)), (5, .int (p5))] [.int (x8), .int ((((I1 m 6) + x2) + x4) + x6)] (I9, J, R, K, n) Q
  refine zIadd 30 (by decide +kernel) rfl ?_
  refine zIload 5 5 32 (by decide +kernel) rfl rfl ?_
  refine zCallS mX12_bytesIn 108 1 0 0 _ _ 35 [.int (p5)] [.int (((((I1 m 6) + x2) + x4) + x6) + x8)] okX12_bytesIn mlX12_108 smX12_bytesIn (by decide +kernel) rfl rfl (Nat.le_of_ble_eq_true rfl) rfl rfl (zC.mono F ?_)
  rintro _ _ ⟨x10, I11, rfl, rfl, F⟩
  change zV G (d + 1) mX12_feed kc ks 35 [(0, .ref (m)), (1, .int (p1)), (2, .int (p2)), (3, .int (p3)), (4, .int (p4)), (5, .int (p5))] [.int (x10), .int (((((I1 m 6) + x2) + x4) + x6) + x8)] (I11, J, R, K, n) Q
  refine zIadd 36 (by decide +kernel) rfl ?_
  refine zSipush 240 240 39 (by decide +kernel) rfl (by decide) ?_
  refine zIcmp_le 5 44 42 (by decide +kernel) rfl rfl ⟨fun q12 => ?_, fun q12 => ?_⟩
  · replace F := F.1 q12
    refine zAload_n 0 0 45 (by decide +kernel) rfl rfl ?_
    refine zIload_n 1 1 46 (by decide +kernel) rfl rfl ?_
    refine zCallV 12 zcls12 mX12_put 112 1 0 0 _ _ 49 [.int (p1)] [] okX12_put mlX12_112 imX12_put seX12_put (by decide +kernel) rfl rfl (Nat.le_of_ble_eq_true rfl) rfl rfl (Mod_0 S0_) (zC.mono F ?_)
    rintro _ _ ⟨I13, rfl, rfl, F⟩
    change zV G (d + 1) mX12_feed kc ks 49 [(0, .ref (m)), (1, .int (p1)), (2, .int (p2)), (3, .int (p3)), (4, .int (p4)), (5, .int (p5))] [] (I13, J, R, K, n) Q
    refine zAload_n 0 0 50 (by decide +kernel) rfl rfl ?_
    refine zIload_n 2 2 51 (by decide +kernel) rfl rfl ?_
    refine zCallV 12 zcls12 mX12_put 112 1 0 0 _ _ 54 [.int (p2)] [] okX12_put mlX12_112 imX12_put seX12_put (by decide +kernel) rfl rfl (Nat.le_of_ble_eq_true rfl) rfl rfl (Mod_0 S0_) (zC.mono F ?_)
    rintro _ _ ⟨I14, rfl, rfl, F⟩
    change zV G (d + 1) mX12_feed kc ks 54 [(0, .ref (m)), (1, .int (p1)), (2, .int (p2)), (3, .int (p3)), (4, .int (p4)), (5, .int (p5))] [] (I14, J, R, K, n) Q
    refine zAload_n 0 0 55 (by decide +kernel) rfl rfl ?_
    refine zIload_n 3 3 56 (by decide +kernel) rfl rfl ?_
    refine zCallV 12 zcls12 mX12_put 112 1 0 0 _ _ 59 [.int (p3)] [] okX12_put mlX12_112 imX12_put seX12_put (by decide +kernel) rfl rfl (Nat.le_of_ble_eq_true rfl) rfl rfl (Mod_0 S0_) (zC.mono F ?_)
    rintro _ _ ⟨I15, rfl, rfl, F⟩
    change zV G (d + 1) mX12_feed kc ks 59 [(0, .ref (m)), (1, .int (p1)), (2, .int (p2)), (3, .int (p3)), (4, .int (p4)), (5, .int (p5))] [] (I15, J, R, K, n) Q
    refine zAload_n 0 0 60 (by decide +kernel) rfl rfl ?_
    refine zIload 4 4 62 (by decide +kernel) rfl rfl ?_
    refine zCallV 12 zcls12 mX12_put 112 1 0 0 _ _ 65 [.int (p4)] [] okX12_put mlX12_112 imX12_put seX12_put (by decide +kernel) rfl rfl (Nat.le_of_ble_eq_true rfl) rfl rfl (Mod_0 S0_) (zC.mono F ?_)
    rintro _ _ ⟨I16, rfl, rfl, F⟩
    change zV G (d + 1) mX12_feed kc ks 65 [(0, .ref (m)), (1, .int (p1)), (2, .int (p2)), (3, .int (p3)), (4, .int (p4)), (5, .int (p5))] [] (I16, J, R, K, n) Q
    refine zAload_n 0 0 66 (by decide +kernel) rfl rfl ?_
    refine zIload 5 5 68 (by decide +kernel) rfl rfl ?_
    refine zCallV 12 zcls12 mX12_put 112 1 0 0 _ _ 71 [.int (p5)] [] okX12_put mlX12_112 imX12_put seX12_put (by decide +kernel) rfl rfl (Nat.le_of_ble_eq_true rfl) rfl rfl (Mod_0 S0_) (zC.mono F ?_)
    rintro _ _ ⟨I17, rfl, rfl, F⟩
    change zV G (d + 1) mX12_feed kc ks 71 [(0, .ref (m)), (1, .int (p1)), (2, .int (p2)), (3, .int (p3)), (4, .int (p4)), (5, .int (p5))] [] (I17, J, R, K, n) Q
    refine zAload_n 0 0 72 (by decide +kernel) rfl rfl ?_
    refine gf12_6 106 75 (by decide +kernel) rfl flX12_106 (Mod_0 S0_) ?_
    exact zIret rfl (by decide +kernel) F
  · replace F := F.2 q12
    refine zIconst (-1) (-1) 43 (by decide +kernel) rfl (by decide) ?_
    exact zIret rfl (by decide +kernel) F
set_option maxHeartbeats 2000000 in
theorem wX12_end_0 {G : zG} {d kc ks : Nat} {I : Nat → Nat → Int32} {J : Nat → Nat → Int64} {R : Nat → Nat → Option Nat} {K : Nat → Nat × Nat} {n : Nat} {Q : Option Value → zH → Prop} (m t c : Nat) (S0_ : hMod G R K n m t c) (p1 : Int32) (F : (∀ I1 : Nat → Nat → Int32, I1 = zU I m 0 (0) → ((p1 < 0 → Q (some (.int (0))) (I1, J, R, K, n)) ∧ (¬ (p1 < 0) → ((p1 ≤ (I1 m 6 : Int32) → (∀ I4 : Nat → Nat → Int32, I4 = zU I1 m 6 (p1) → Q (some (.int (1))) (I4, J, R, K, n))) ∧ (¬ (p1 ≤ (I1 m 6 : Int32)) → Q (some (.int (0))) (I1, J, R, K, n))))))) : zV G (d + 1) mX12_end kc ks 0 [(0, .ref (m)), (1, .int (p1))] [] (I, J, R, K, n) Q := by
  refine zAload_n 0 0 1 (by decide +kernel) rfl rfl ?_
  refine zIconst 0 0 2 (by decide +kernel) rfl (by decide) ?_
  refine pf12_0 93 5 (by decide +kernel) rfl flX12_93 (Mod_0 S0_) ?_
  replace F := F _ rfl
  generalize zU I m 0 (0) = I1 at F ⊢
  refine zIload_n 1 1 6 (by decide +kernel) rfl rfl ?_
  refine zIf_lt 11 17 9 (by decide +kernel) rfl rfl ⟨fun q2 => ?_, fun q2 => ?_⟩
  · replace F := F.1 q2
    refine zIconst 0 0 18 (by decide +kernel) rfl (by decide) ?_
    exact zZret .boolean rfl (zNarZ (Or.inl rfl)) (by decide +kernel) F
  · replace F := F.2 q2
    refine zIload_n 1 1 10 (by decide +kernel) rfl rfl ?_
    refine zAload_n 0 0 11 (by decide +kernel) rfl rfl ?_
    refine gf12_6 106 14 (by decide +kernel) rfl flX12_106 (Mod_0 S0_) ?_
    refine zIcmp_le 5 19 17 (by decide +kernel) rfl rfl ⟨fun q3 => ?_, fun q3 => ?_⟩
    · replace F := F.1 q3
      refine zAload_n 0 0 20 (by decide +kernel) rfl rfl ?_
      refine zIload_n 1 1 21 (by decide +kernel) rfl rfl ?_
      refine pf12_6 106 24 (by decide +kernel) rfl flX12_106 (Mod_0 S0_) ?_
      replace F := F _ rfl
      generalize zU I1 m 6 (p1) = I4 at F ⊢
      refine zIconst 1 1 25 (by decide +kernel) rfl (by decide) ?_
      exact zZret .boolean rfl (zNarZ (Or.inr rfl)) (by decide +kernel) F
    · replace F := F.2 q3
      refine zIconst 0 0 18 (by decide +kernel) rfl (by decide) ?_
      exact zZret .boolean rfl (zNarZ (Or.inl rfl)) (by decide +kernel) F
set_option maxHeartbeats 2000000 in
theorem wX12_look_0 {G : zG} {d kc ks : Nat} {I : Nat → Nat → Int32} {J : Nat → Nat → Int64} {R : Nat → Nat → Option Nat} {K : Nat → Nat × Nat} {n : Nat} {Q : Option Value → zH → Prop} (m t c : Nat) (S0_ : hMod G R K n m t c) (F : (((I m 9 : Int32) ≤ (I m 10 : Int32) → (((¬ ((I m 9 : Int32) ≤ (I m 10 : Int32))) → vp_in ((I m 8) + (I m 10)) c) ∧ Q (some (.int ((if (I m 9 : Int32) ≤ (I m 10 : Int32) then (-1) else (I t ((I m 8) + (I m 10) : Int32).toNatClampNeg) &&& 255)))) (I, J, R, K, n))) ∧ (¬ ((I m 9 : Int32) ≤ (I m 10 : Int32)) → ((vp_in ((I m 8) + (I m 10)) c) ∧ (((I t ((I m 8) + (I m 10) : Int32).toNatClampNeg : Int32) = 32 → (∀ I8 : Nat → Nat → Int32, I8 = zU I m 10 ((I m 10) + 1) → zV G (d + 1) mX12_look kc ks 0 [(0, .ref (m))] [] (I8, J, R, K, n) Q)) ∧ (¬ ((I t ((I m 8) + (I m 10) : Int32).toNatClampNeg : Int32) = 32) → (((¬ ((I m 9 : Int32) ≤ (I m 10 : Int32))) → vp_in ((I m 8) + (I m 10)) c) ∧ Q (some (.int ((if (I m 9 : Int32) ≤ (I m 10 : Int32) then (-1) else (I t ((I m 8) + (I m 10) : Int32).toNatClampNeg) &&& 255)))) (I, J, R, K, n)))))))) : zV G (d + 1) mX12_look kc ks 0 [(0, .ref (m))] [] (I, J, R, K, n) Q := by
  refine zAload_n 0 0 1 (by decide +kernel) rfl rfl ?_
  refine gf12_10 116 4 (by decide +kernel) rfl flX12_116 (Mod_0 S0_) ?_
  refine zAload_n 0 0 5 (by decide +kernel) rfl rfl ?_
  refine gf12_9 119 8 (by decide +kernel) rfl flX12_119 (Mod_0 S0_) ?_
  refine zIcmp_ge 35 43 11 (by decide +kernel) rfl rfl ⟨fun q1 => ?_, fun q1 => ?_⟩
  · replace F := F.1 q1
    refine zAload_n 0 0 44 (by decide +kernel) rfl rfl ?_
    refine gf12_10 116 47 (by decide +kernel) rfl flX12_116 (Mod_0 S0_) ?_
    refine zAload_n 0 0 48 (by decide +kernel) rfl rfl ?_
    refine gf12_9 119 51 (by decide +kernel) rfl flX12_119 (Mod_0 S0_) ?_
    obtain ⟨w3, F⟩ := F
    suffices KK : zV G (d + 1) mX12_look kc ks 76 [(0, .ref (m))] [.int ((if (I m 9 : Int32) ≤ (I m 10 : Int32) then (-1) else (I t ((I m 8) + (I m 10) : Int32).toNatClampNeg) &&& 255))] (I, J, R, K, n) Q by
      refine zIcmp_ge 24 75 54 (by decide +kernel) rfl rfl ⟨fun q2 => ?_, fun q2 => ?_⟩
      · refine zIconst (-1) (-1) 76 (by decide +kernel) rfl (by decide) ?_
        exact zTop (by rw [if_pos q2]) KK
      · refine zAload_n 0 0 55 (by decide +kernel) rfl rfl ?_
        refine gf12_5 23 58 (by decide +kernel) rfl flX12_23 (Mod_0 S0_) (Mod_43 S0_) ?_
        refine zAload_n 0 0 59 (by decide +kernel) rfl rfl ?_
        refine gf12_8 122 62 (by decide +kernel) rfl flX12_122 (Mod_0 S0_) ?_
        refine zAload_n 0 0 63 (by decide +kernel) rfl rfl ?_
        refine gf12_10 116 66 (by decide +kernel) rfl flX12_116 (Mod_0 S0_) ?_
        refine zIadd 67 (by decide +kernel) rfl ?_
        refine yBaload c 68 (by decide +kernel) rfl (Mod_44 S0_) (w3 q2) ?_
        refine zSipush 255 255 71 (by decide +kernel) rfl (by decide) ?_
        refine zIand 72 (by decide +kernel) rfl ?_
        refine zGoto 4 76 (by decide +kernel) rfl ?_
        exact zTop (by rw [if_neg q2]) KK
    exact zIret rfl (by decide +kernel) F
  · replace F := F.2 q1
    refine zAload_n 0 0 12 (by decide +kernel) rfl rfl ?_
    refine gf12_5 23 15 (by decide +kernel) rfl flX12_23 (Mod_0 S0_) (Mod_43 S0_) ?_
    refine zAload_n 0 0 16 (by decide +kernel) rfl rfl ?_
    refine gf12_8 122 19 (by decide +kernel) rfl flX12_122 (Mod_0 S0_) ?_
    refine zAload_n 0 0 20 (by decide +kernel) rfl rfl ?_
    refine gf12_10 116 23 (by decide +kernel) rfl flX12_116 (Mod_0 S0_) ?_
    refine zIadd 24 (by decide +kernel) rfl ?_
    obtain ⟨w4, F⟩ := F
    refine yBaload c 25 (by decide +kernel) rfl (Mod_44 S0_) (w4) ?_
    refine zBipush 32 32 27 (by decide +kernel) rfl (by decide) ?_
    refine zIcmp_ne 16 43 30 (by decide +kernel) rfl rfl ⟨fun q5 => ?_, fun q5 => ?_⟩
    · replace F := F.2 q5
      refine zAload_n 0 0 44 (by decide +kernel) rfl rfl ?_
      refine gf12_10 116 47 (by decide +kernel) rfl flX12_116 (Mod_0 S0_) ?_
      refine zAload_n 0 0 48 (by decide +kernel) rfl rfl ?_
      refine gf12_9 119 51 (by decide +kernel) rfl flX12_119 (Mod_0 S0_) ?_
      obtain ⟨w7, F⟩ := F
      suffices KK : zV G (d + 1) mX12_look kc ks 76 [(0, .ref (m))] [.int ((if (I m 9 : Int32) ≤ (I m 10 : Int32) then (-1) else (I t ((I m 8) + (I m 10) : Int32).toNatClampNeg) &&& 255))] (I, J, R, K, n) Q by
        refine zIcmp_ge 24 75 54 (by decide +kernel) rfl rfl ⟨fun q6 => ?_, fun q6 => ?_⟩
        · refine zIconst (-1) (-1) 76 (by decide +kernel) rfl (by decide) ?_
          exact zTop (by rw [if_pos q6]) KK
        · refine zAload_n 0 0 55 (by decide +kernel) rfl rfl ?_
          refine gf12_5 23 58 (by decide +kernel) rfl flX12_23 (Mod_0 S0_) (Mod_43 S0_) ?_
          refine zAload_n 0 0 59 (by decide +kernel) rfl rfl ?_
          refine gf12_8 122 62 (by decide +kernel) rfl flX12_122 (Mod_0 S0_) ?_
          refine zAload_n 0 0 63 (by decide +kernel) rfl rfl ?_
          refine gf12_10 116 66 (by decide +kernel) rfl flX12_116 (Mod_0 S0_) ?_
          refine zIadd 67 (by decide +kernel) rfl ?_
          refine yBaload c 68 (by decide +kernel) rfl (Mod_44 S0_) (w7 q6) ?_
          refine zSipush 255 255 71 (by decide +kernel) rfl (by decide) ?_
          refine zIand 72 (by decide +kernel) rfl ?_
          refine zGoto 4 76 (by decide +kernel) rfl ?_
          exact zTop (by rw [if_neg q6]) KK
      exact zIret rfl (by decide +kernel) F
    · replace F := F.1 q5
      refine zAload_n 0 0 31 (by decide +kernel) rfl rfl ?_
      refine zDup 32 (by decide +kernel) rfl rfl ?_
      refine gf12_10 116 35 (by decide +kernel) rfl flX12_116 (Mod_0 S0_) ?_
      refine zIconst 1 1 36 (by decide +kernel) rfl (by decide) ?_
      refine zIadd 37 (by decide +kernel) rfl ?_
      refine pf12_10 116 40 (by decide +kernel) rfl flX12_116 (Mod_0 S0_) ?_
      replace F := F _ rfl
      generalize zU I m 10 ((I m 10) + 1) = I8 at F ⊢
      refine zGoto (-40) 0 (by decide +kernel) rfl ?_
      exact zLoc [0] _ rfl F
set_option maxHeartbeats 2000000 in
theorem wX12_fails_0 {G : zG} {d kc ks : Nat} {I : Nat → Nat → Int32} {J : Nat → Nat → Int64} {R : Nat → Nat → Option Nat} {K : Nat → Nat × Nat} {n : Nat} {Q : Option Value → zH → Prop} (m t c : Nat) (S0_ : hMod G R K n m t c) (F : (((I m 11 : Int32) = (-1) → (∀ I2 : Nat → Nat → Int32, I2 = zU I m 11 (I m 10) → Q (some (.int (0))) (I2, J, R, K, n))) ∧ (¬ ((I m 11 : Int32) = (-1)) → Q (some (.int (0))) (I, J, R, K, n)))) : zV G (d + 1) mX12_fails kc ks 0 [(0, .ref (m))] [] (I, J, R, K, n) Q := by
  refine zAload_n 0 0 1 (by decide +kernel) rfl rfl ?_
  refine gf12_11 125 4 (by decide +kernel) rfl flX12_125 (Mod_0 S0_) ?_
  refine zIconst (-1) (-1) 5 (by decide +kernel) rfl (by decide) ?_
  refine zIcmp_ne 11 16 8 (by decide +kernel) rfl rfl ⟨fun q1 => ?_, fun q1 => ?_⟩
  · replace F := F.2 q1
    refine zIconst 0 0 17 (by decide +kernel) rfl (by decide) ?_
    exact zZret .boolean rfl (zNarZ (Or.inl rfl)) (by decide +kernel) F
  · replace F := F.1 q1
    refine zAload_n 0 0 9 (by decide +kernel) rfl rfl ?_
    refine zAload_n 0 0 10 (by decide +kernel) rfl rfl ?_
    refine gf12_10 116 13 (by decide +kernel) rfl flX12_116 (Mod_0 S0_) ?_
    refine pf12_11 125 16 (by decide +kernel) rfl flX12_125 (Mod_0 S0_) ?_
    replace F := F _ rfl
    generalize zU I m 11 (I m 10) = I2 at F ⊢
    refine zIconst 0 0 17 (by decide +kernel) rfl (by decide) ?_
    exact zZret .boolean rfl (zNarZ (Or.inl rfl)) (by decide +kernel) F
set_option maxHeartbeats 2000000 in
theorem wX12_goesIn_0 {G : zG} {d kc ks : Nat} {I : Nat → Nat → Int32} {J : Nat → Nat → Int64} {R : Nat → Nat → Option Nat} {K : Nat → Nat × Nat} {n : Nat} {Q : Option Value → zH → Prop} (m t c : Nat) (S0_ : hMod G R K n m t c) (F : (((I m 12 : Int32) = 6 → zC G d mX12_fails 0 0 [.ref (m)] (I, J, R, K, n) (fun r h => ∃ (x4 : Int32) (I5 : Nat → Nat → Int32), r = some (.int x4) ∧ h = (I5, J, R, K, n) ∧ ((x4 = 0 ∨ x4 = 1) ∧ Q (some (.int (x4))) (I5, J, R, K, n)))) ∧ (¬ ((I m 12 : Int32) = 6) → (∀ I2 : Nat → Nat → Int32, I2 = zU I m 12 ((I m 12) + 1) → (∀ I3 : Nat → Nat → Int32, I3 = zU I2 m 10 ((I2 m 10) + 1) → Q (some (.int (1))) (I3, J, R, K, n)))))) : zV G (d + 1) mX12_goesIn kc ks 0 [(0, .ref (m))] [] (I, J, R, K, n) Q := by
  refine zAload_n 0 0 1 (by decide +kernel) rfl rfl ?_
  refine gf12_12 128 4 (by decide +kernel) rfl flX12_128 (Mod_0 S0_) ?_
  refine zBipush 6 6 6 (by decide +kernel) rfl (by decide) ?_
  refine zIcmp_ne 8 14 9 (by decide +kernel) rfl rfl ⟨fun q1 => ?_, fun q1 => ?_⟩
  · replace F := F.2 q1
    refine zAload_n 0 0 15 (by decide +kernel) rfl rfl ?_
    refine zDup 16 (by decide +kernel) rfl rfl ?_
    refine gf12_12 128 19 (by decide +kernel) rfl flX12_128 (Mod_0 S0_) ?_
    refine zIconst 1 1 20 (by decide +kernel) rfl (by decide) ?_
    refine zIadd 21 (by decide +kernel) rfl ?_
    refine pf12_12 128 24 (by decide +kernel) rfl flX12_128 (Mod_0 S0_) ?_
    replace F := F _ rfl
    generalize zU I m 12 ((I m 12) + 1) = I2 at F ⊢
    refine zAload_n 0 0 25 (by decide +kernel) rfl rfl ?_
    refine zDup 26 (by decide +kernel) rfl rfl ?_
    refine gf12_10 116 29 (by decide +kernel) rfl flX12_116 (Mod_0 S0_) ?_
    refine zIconst 1 1 30 (by decide +kernel) rfl (by decide) ?_
    refine zIadd 31 (by decide +kernel) rfl ?_
    refine pf12_10 116 34 (by decide +kernel) rfl flX12_116 (Mod_0 S0_) ?_
    replace F := F _ rfl
    generalize zU I2 m 10 ((I2 m 10) + 1) = I3 at F ⊢
    refine zIconst 1 1 35 (by decide +kernel) rfl (by decide) ?_
    exact zZret .boolean rfl (zNarZ (Or.inr rfl)) (by decide +kernel) F
  · replace F := F.1 q1
    refine zAload_n 0 0 10 (by decide +kernel) rfl rfl ?_
    refine zCallV 12 zcls12 mX12_fails 131 0 0 0 _ _ 13 [] [] okX12_fails mlX12_131 imX12_fails seX12_fails (by decide +kernel) rfl rfl (Nat.le_of_ble_eq_true rfl) rfl rfl (Mod_0 S0_) (zC.mono F ?_)
    rintro _ _ ⟨x4, I5, rfl, rfl, F⟩
    change zV G (d + 1) mX12_goesIn kc ks 13 [(0, .ref (m))] [.int (x4)] (I5, J, R, K, n) Q
    exact zZret .boolean rfl (zNarZ F.1) (by decide +kernel) F.2
set_option maxHeartbeats 2000000 in
theorem wX12_takes_0 {G : zG} {d kc ks : Nat} {I : Nat → Nat → Int32} {J : Nat → Nat → Int64} {R : Nat → Nat → Option Nat} {K : Nat → Nat × Nat} {n : Nat} {Q : Option Value → zH → Prop} (m t c : Nat) (S0_ : hMod G R K n m t c) (p1 : Int32) (F : (((I m 11 : Int32) = (-1) → zC G d mX12_look 0 0 [.ref (m)] (I, J, R, K, n) (fun r h => ∃ (x4 : Int32) (I5 : Nat → Nat → Int32), r = some (.int x4) ∧ h = (I5, J, R, K, n) ∧ ((x4 = p1 → (∀ I7 : Nat → Nat → Int32, I7 = zU I5 m 10 ((I5 m 10) + 1) → Q (some (.int (1))) (I7, J, R, K, n))) ∧ (¬ (x4 = p1) → zC G d mX12_fails 0 0 [.ref (m)] (I5, J, R, K, n) (fun r h => ∃ (x8 : Int32) (I9 : Nat → Nat → Int32), r = some (.int x8) ∧ h = (I9, J, R, K, n) ∧ ((x8 = 0 ∨ x8 = 1) ∧ Q (some (.int (x8))) (I9, J, R, K, n))))))) ∧ (¬ ((I m 11 : Int32) = (-1)) → zC G d mX12_fails 0 0 [.ref (m)] (I, J, R, K, n) (fun r h => ∃ (x2 : Int32) (I3 : Nat → Nat → Int32), r = some (.int x2) ∧ h = (I3, J, R, K, n) ∧ ((x2 = 0 ∨ x2 = 1) ∧ Q (some (.int (x2))) (I3, J, R, K, n)))))) : zV G (d + 1) mX12_takes kc ks 0 [(0, .ref (m)), (1, .int (p1))] [] (I, J, R, K, n) Q := by
  refine zAload_n 0 0 1 (by decide +kernel) rfl rfl ?_
  refine gf12_11 125 4 (by decide +kernel) rfl flX12_125 (Mod_0 S0_) ?_
  refine zIconst (-1) (-1) 5 (by decide +kernel) rfl (by decide) ?_
  refine zIcmp_ne 11 16 8 (by decide +kernel) rfl rfl ⟨fun q1 => ?_, fun q1 => ?_⟩
  · replace F := F.2 q1
    refine zAload_n 0 0 17 (by decide +kernel) rfl rfl ?_
    refine zCallV 12 zcls12 mX12_fails 131 0 0 0 _ _ 20 [] [] okX12_fails mlX12_131 imX12_fails seX12_fails (by decide +kernel) rfl rfl (Nat.le_of_ble_eq_true rfl) rfl rfl (Mod_0 S0_) (zC.mono F ?_)
    rintro _ _ ⟨x2, I3, rfl, rfl, F⟩
    change zV G (d + 1) mX12_takes kc ks 20 [(0, .ref (m)), (1, .int (p1))] [.int (x2)] (I3, J, R, K, n) Q
    exact zZret .boolean rfl (zNarZ F.1) (by decide +kernel) F.2
  · replace F := F.1 q1
    refine zAload_n 0 0 9 (by decide +kernel) rfl rfl ?_
    refine zCallV 12 zcls12 mX12_look 135 0 0 0 _ _ 12 [] [] okX12_look mlX12_135 imX12_look seX12_look (by decide +kernel) rfl rfl (Nat.le_of_ble_eq_true rfl) rfl rfl (Mod_0 S0_) (zC.mono F ?_)
    rintro _ _ ⟨x4, I5, rfl, rfl, F⟩
    change zV G (d + 1) mX12_takes kc ks 12 [(0, .ref (m)), (1, .int (p1))] [.int (x4)] (I5, J, R, K, n) Q
    refine zIload_n 1 1 13 (by decide +kernel) rfl rfl ?_
    refine zIcmp_eq 8 21 16 (by decide +kernel) rfl rfl ⟨fun q6 => ?_, fun q6 => ?_⟩
    · replace F := F.1 q6
      refine zAload_n 0 0 22 (by decide +kernel) rfl rfl ?_
      refine zDup 23 (by decide +kernel) rfl rfl ?_
      refine gf12_10 116 26 (by decide +kernel) rfl flX12_116 (Mod_0 S0_) ?_
      refine zIconst 1 1 27 (by decide +kernel) rfl (by decide) ?_
      refine zIadd 28 (by decide +kernel) rfl ?_
      refine pf12_10 116 31 (by decide +kernel) rfl flX12_116 (Mod_0 S0_) ?_
      replace F := F _ rfl
      generalize zU I5 m 10 ((I5 m 10) + 1) = I7 at F ⊢
      refine zIconst 1 1 32 (by decide +kernel) rfl (by decide) ?_
      exact zZret .boolean rfl (zNarZ (Or.inr rfl)) (by decide +kernel) F
    · replace F := F.2 q6
      refine zAload_n 0 0 17 (by decide +kernel) rfl rfl ?_
      refine zCallV 12 zcls12 mX12_fails 131 0 0 0 _ _ 20 [] [] okX12_fails mlX12_131 imX12_fails seX12_fails (by decide +kernel) rfl rfl (Nat.le_of_ble_eq_true rfl) rfl rfl (Mod_0 S0_) (zC.mono F ?_)
      rintro _ _ ⟨x8, I9, rfl, rfl, F⟩
      change zV G (d + 1) mX12_takes kc ks 20 [(0, .ref (m)), (1, .int (p1))] [.int (x8)] (I9, J, R, K, n) Q
      exact zZret .boolean rfl (zNarZ F.1) (by decide +kernel) F.2
set_option maxHeartbeats 2000000 in
theorem wX12_isDigit_0 {G : zG} {d kc ks : Nat} {I : Nat → Nat → Int32} {J : Nat → Nat → Int64} {R : Nat → Nat → Option Nat} {K : Nat → Nat × Nat} {n : Nat} {Q : Option Value → zH → Prop} (m t c : Nat) (S0_ : hMod G R K n m t c) (F : (((¬ ((I m 9 : Int32) ≤ (I m 10 : Int32))) → vp_in ((I m 8) + (I m 10)) c) ∧ ((¬ ((I m 9 : Int32) ≤ (I m 10 : Int32))) → (¬ ((I t ((I m 8) + (I m 10) : Int32).toNatClampNeg : Int32) < 48)) → vp_in ((I m 8) + (I m 10)) c) ∧ Q (some (.int ((if (I m 9 : Int32) ≤ (I m 10 : Int32) then 0 else (if (I t ((I m 8) + (I m 10) : Int32).toNatClampNeg : Int32) < 48 then 0 else (if 57 < (I t ((I m 8) + (I m 10) : Int32).toNatClampNeg : Int32) then 0 else 1)))))) (I, J, R, K, n))) : zV G (d + 1) mX12_isDigit kc ks 0 [(0, .ref (m))] [] (I, J, R, K, n) Q := by
  refine zAload_n 0 0 1 (by decide +kernel) rfl rfl ?_
  refine gf12_10 116 4 (by decide +kernel) rfl flX12_116 (Mod_0 S0_) ?_
  refine zAload_n 0 0 5 (by decide +kernel) rfl rfl ?_
  refine gf12_9 119 8 (by decide +kernel) rfl flX12_119 (Mod_0 S0_) ?_
  obtain ⟨w2, F⟩ := F
  obtain ⟨w4, F⟩ := F
  suffices KK : zV G (d + 1) mX12_isDigit kc ks 54 [(0, .ref (m))] [.int ((if (I m 9 : Int32) ≤ (I m 10 : Int32) then 0 else (if (I t ((I m 8) + (I m 10) : Int32).toNatClampNeg : Int32) < 48 then 0 else (if 57 < (I t ((I m 8) + (I m 10) : Int32).toNatClampNeg : Int32) then 0 else 1))))] (I, J, R, K, n) Q by
    refine zIcmp_ge 45 53 11 (by decide +kernel) rfl rfl ⟨fun q1 => ?_, fun q1 => ?_⟩
    · refine zIconst 0 0 54 (by decide +kernel) rfl (by decide) ?_
      exact zTop (by rw [if_pos q1]) KK
    · refine zAload_n 0 0 12 (by decide +kernel) rfl rfl ?_
      refine gf12_5 23 15 (by decide +kernel) rfl flX12_23 (Mod_0 S0_) (Mod_43 S0_) ?_
      refine zAload_n 0 0 16 (by decide +kernel) rfl rfl ?_
      refine gf12_8 122 19 (by decide +kernel) rfl flX12_122 (Mod_0 S0_) ?_
      refine zAload_n 0 0 20 (by decide +kernel) rfl rfl ?_
      refine gf12_10 116 23 (by decide +kernel) rfl flX12_116 (Mod_0 S0_) ?_
      refine zIadd 24 (by decide +kernel) rfl ?_
      refine yBaload c 25 (by decide +kernel) rfl (Mod_44 S0_) (w2 q1) ?_
      refine zBipush 48 48 27 (by decide +kernel) rfl (by decide) ?_
      refine zIcmp_lt 26 53 30 (by decide +kernel) rfl rfl ⟨fun q3 => ?_, fun q3 => ?_⟩
      · refine zIconst 0 0 54 (by decide +kernel) rfl (by decide) ?_
        exact zTop (by rw [if_neg q1, if_pos q3]) KK
      · refine zAload_n 0 0 31 (by decide +kernel) rfl rfl ?_
        refine gf12_5 23 34 (by decide +kernel) rfl flX12_23 (Mod_0 S0_) (Mod_43 S0_) ?_
        refine zAload_n 0 0 35 (by decide +kernel) rfl rfl ?_
        refine gf12_8 122 38 (by decide +kernel) rfl flX12_122 (Mod_0 S0_) ?_
        refine zAload_n 0 0 39 (by decide +kernel) rfl rfl ?_
        refine gf12_10 116 42 (by decide +kernel) rfl flX12_116 (Mod_0 S0_) ?_
        refine zIadd 43 (by decide +kernel) rfl ?_
        refine yBaload c 44 (by decide +kernel) rfl (Mod_44 S0_) (w4 q1 q3) ?_
        refine zBipush 57 57 46 (by decide +kernel) rfl (by decide) ?_
        refine zIcmp_gt 7 53 49 (by decide +kernel) rfl rfl ⟨fun q5 => ?_, fun q5 => ?_⟩
        · refine zIconst 0 0 54 (by decide +kernel) rfl (by decide) ?_
          exact zTop (by rw [if_neg q1, if_neg q3, if_pos q5]) KK
        · refine zIconst 1 1 50 (by decide +kernel) rfl (by decide) ?_
          refine zGoto 4 54 (by decide +kernel) rfl ?_
          exact zTop (by rw [if_neg q1, if_neg q3, if_neg q5]) KK
  exact zZret .boolean rfl (zNarZ (zOrIte (Or.inl rfl) (zOrIte (Or.inl rfl) (zOrIte (Or.inl rfl) (Or.inr rfl))))) (by decide +kernel) F
set_option maxHeartbeats 2000000 in
theorem wX12_within_0 {G : zG} {d kc ks : Nat} {I : Nat → Nat → Int32} {J : Nat → Nat → Int64} {R : Nat → Nat → Option Nat} {K : Nat → Nat × Nat} {n : Nat} {Q : Option Value → zH → Prop}  (p0 : Int64) (F : Q (some (.int (((if ((if (p0 : Int64) < 1000000 then p0 else 1000000) : Int64) < (-1000000) then (-1000000) else (if (p0 : Int64) < 1000000 then p0 else 1000000)) : Int64).toInt32))) (I, J, R, K, n)) : zV G (d + 1) mX12_within kc ks 0 [(0, .long (p0))] [] (I, J, R, K, n) Q := by
  refine zLdc2 138 (-1000000) 3 (by decide +kernel) rfl klX12_138 ?_
  refine zLdc2 140 1000000 6 (by decide +kernel) rfl klX12_140 ?_
  refine zLload_n 0 0 7 (by decide +kernel) rfl rfl ?_
  refine yMinL 142 10 (by decide +kernel) rfl mlX12_142 (Nat.le_of_ble_eq_true rfl) ?_
  refine yMaxL 148 13 (by decide +kernel) rfl mlX12_148 (Nat.le_of_ble_eq_true rfl) ?_
  refine zL2i 14 (by decide +kernel) rfl ?_
  exact zIret rfl (by decide +kernel) F
set_option maxHeartbeats 2000000 in
theorem wX12_atom_0 {G : zG} {d kc ks : Nat} {I : Nat → Nat → Int32} {J : Nat → Nat → Int64} {R : Nat → Nat → Option Nat} {K : Nat → Nat × Nat} {n : Nat} {Q : Option Value → zH → Prop} (m t c : Nat) (S0_ : hMod G R K n m t c) (F : zC G d mX12_look 0 0 [.ref (m)] (I, J, R, K, n) (fun r h => ∃ (x1 : Int32) (I2 : Nat → Nat → Int32), r = some (.int x1) ∧ h = (I2, J, R, K, n) ∧ zC G d mX12_isAmong 0 0 [.ref (G.2.2.2.1 3), .int (x1)] (I2, J, R, K, n) (fun r h => ∃ (x3 : Int32) (I4 : Nat → Nat → Int32), r = some (.int x3) ∧ h = (I4, J, R, K, n) ∧ ((x3 = 0 → ((x1 = 91 → zC G d mX12_goesIn 0 0 [.ref (m)] (I4, J, R, K, n) (fun r h => ∃ (x12 : Int32) (I13 : Nat → Nat → Int32), r = some (.int x12) ∧ h = (I13, J, R, K, n) ∧ ((x12 = 0 → Q (some (.int (0))) (I13, J, R, K, n)) ∧ (¬ (x12 = 0) → zC G d mX12_sum 0 0 [.ref (m)] (I13, J, R, K, n) (fun r h => ∃ (x15 : Int32) (I16 : Nat → Nat → Int32), r = some (.int x15) ∧ h = (I16, J, R, K, n) ∧ zC G d mX12_takes 0 0 [.ref (m), .int (93)] (I16, J, R, K, n) (fun r h => ∃ (x17 : Int32) (I18 : Nat → Nat → Int32), r = some (.int x17) ∧ h = (I18, J, R, K, n) ∧ ((x17 = 0 → Q (some (.int (0))) (I18, J, R, K, n)) ∧ (¬ (x17 = 0) → (∀ I20 : Nat → Nat → Int32, I20 = zU I18 m 12 ((I18 m 12) - 1) → Q (some (.int (x15))) (I20, J, R, K, n)))))))))) ∧ (¬ (x1 = 91) → zC G d mX12_isDigit 0 0 [.ref (m)] (I4, J, R, K, n) (fun r h => ∃ (x7 : Int32) (I8 : Nat → Nat → Int32), r = some (.int x7) ∧ h = (I8, J, R, K, n) ∧ ((x7 = 0 → zC G d mX12_fails 0 0 [.ref (m)] (I8, J, R, K, n) (fun r h => ∃ (x10 : Int32) (I11 : Nat → Nat → Int32), r = some (.int x10) ∧ h = (I11, J, R, K, n) ∧ zV G (d + 1) mX12_atom kc ks 90 [(0, .ref (m)), (1, .int (x1)), (2, .int (0)), (3, .int (0))] [] (I11, J, R, K, n) Q)) ∧ (¬ (x7 = 0) → zV G (d + 1) mX12_atom kc ks 90 [(0, .ref (m)), (1, .int (x1)), (2, .int (0)), (3, .int (0))] [] (I8, J, R, K, n) Q)))))) ∧ (¬ (x3 = 0) → (∀ I21 : Nat → Nat → Int32, I21 = zU I4 m 10 ((I4 m 10) + 1) → ((vp_in x1 128) ∧ Q (some (.int (I21 (m + 4) x1.toNatClampNeg))) (I21, J, R, K, n)))))))) : zV G (d + 1) mX12_atom kc ks 0 [(0, .ref (m))] [] (I, J, R, K, n) Q := by
  refine zAload_n 0 0 1 (by decide +kernel) rfl rfl ?_
  refine zCallV 12 zcls12 mX12_look 135 0 0 0 _ _ 4 [] [] okX12_look mlX12_135 imX12_look seX12_look (by decide +kernel) rfl rfl (Nat.le_of_ble_eq_true rfl) rfl rfl (Mod_0 S0_) (zC.mono F ?_)
  rintro _ _ ⟨x1, I2, rfl, rfl, F⟩
  change zV G (d + 1) mX12_atom kc ks 4 [(0, .ref (m))] [.int (x1)] (I2, J, R, K, n) Q
  refine zIstore_n 1 [(1, .int (x1)), (0, .ref (m))] 5 (by decide +kernel) rfl (by decide) rfl ?_
  refine zLdcS 32 "kgnbld" 3 7 (by decide +kernel) rfl (by decide) ?_
  refine zIload_n 1 0 8 (by decide +kernel) rfl rfl ?_
  refine zCallS mX12_isAmong 151 2 0 0 _ _ 11 [.ref (G.2.2.2.1 3), .int (x1)] [] okX12_isAmong mlX12_151 smX12_isAmong (by decide +kernel) rfl rfl (Nat.le_of_ble_eq_true rfl) rfl rfl (zC.mono F ?_)
  rintro _ _ ⟨x3, I4, rfl, rfl, F⟩
  change zV G (d + 1) mX12_atom kc ks 11 [(1, .int (x1)), (0, .ref (m))] [.int (x3)] (I4, J, R, K, n) Q
  refine zIf_eq 20 31 14 (by decide +kernel) rfl rfl ⟨fun q5 => ?_, fun q5 => ?_⟩
  · replace F := F.1 q5
    refine zIload_n 1 0 32 (by decide +kernel) rfl rfl ?_
    refine zBipush 91 91 34 (by decide +kernel) rfl (by decide) ?_
    refine zIcmp_ne 40 74 37 (by decide +kernel) rfl rfl ⟨fun q6 => ?_, fun q6 => ?_⟩
    · replace F := F.2 q6
      refine zAload_n 0 1 75 (by decide +kernel) rfl rfl ?_
      refine zCallV 12 zcls12 mX12_isDigit 165 0 0 0 _ _ 78 [] [] okX12_isDigit mlX12_165 imX12_isDigit seX12_isDigit (by decide +kernel) rfl rfl (Nat.le_of_ble_eq_true rfl) rfl rfl (Mod_0 S0_) (zC.mono F ?_)
      rintro _ _ ⟨x7, I8, rfl, rfl, F⟩
      change zV G (d + 1) mX12_atom kc ks 78 [(1, .int (x1)), (0, .ref (m))] [.int (x7)] (I8, J, R, K, n) Q
      refine zIf_ne 8 86 81 (by decide +kernel) rfl rfl ⟨fun q9 => ?_, fun q9 => ?_⟩
      · replace F := F.2 q9
        refine zIconst 0 0 87 (by decide +kernel) rfl (by decide) ?_
        refine zIstore_n 2 [(2, .int (0)), (1, .int (x1)), (0, .ref (m))] 88 (by decide +kernel) rfl (by decide) rfl ?_
        refine zIconst 0 0 89 (by decide +kernel) rfl (by decide) ?_
        refine zIstore_n 3 [(3, .int (0)), (2, .int (0)), (1, .int (x1)), (0, .ref (m))] 90 (by decide +kernel) rfl (by decide) rfl ?_
        exact zLoc [3, 2, 1, 0] _ rfl F
      · replace F := F.1 q9
        refine zAload_n 0 1 82 (by decide +kernel) rfl rfl ?_
        refine zCallV 12 zcls12 mX12_fails 131 0 0 0 _ _ 85 [] [] okX12_fails mlX12_131 imX12_fails seX12_fails (by decide +kernel) rfl rfl (Nat.le_of_ble_eq_true rfl) rfl rfl (Mod_0 S0_) (zC.mono F ?_)
        rintro _ _ ⟨x10, I11, rfl, rfl, F⟩
        change zV G (d + 1) mX12_atom kc ks 85 [(1, .int (x1)), (0, .ref (m))] [.int (x10)] (I11, J, R, K, n) Q
        refine zPop 86 (by decide +kernel) rfl rfl ?_
        refine zIconst 0 0 87 (by decide +kernel) rfl (by decide) ?_
        refine zIstore_n 2 [(2, .int (0)), (1, .int (x1)), (0, .ref (m))] 88 (by decide +kernel) rfl (by decide) rfl ?_
        refine zIconst 0 0 89 (by decide +kernel) rfl (by decide) ?_
        refine zIstore_n 3 [(3, .int (0)), (2, .int (0)), (1, .int (x1)), (0, .ref (m))] 90 (by decide +kernel) rfl (by decide) rfl ?_
        exact zLoc [3, 2, 1, 0] _ rfl F
    · replace F := F.1 q6
      refine zAload_n 0 1 38 (by decide +kernel) rfl rfl ?_
      refine zCallV 12 zcls12 mX12_goesIn 155 0 0 0 _ _ 41 [] [] okX12_goesIn mlX12_155 imX12_goesIn seX12_goesIn (by decide +kernel) rfl rfl (Nat.le_of_ble_eq_true rfl) rfl rfl (Mod_0 S0_) (zC.mono F ?_)
      rintro _ _ ⟨x12, I13, rfl, rfl, F⟩
      change zV G (d + 1) mX12_atom kc ks 41 [(1, .int (x1)), (0, .ref (m))] [.int (x12)] (I13, J, R, K, n) Q
      refine zIf_ne 5 46 44 (by decide +kernel) rfl rfl ⟨fun q14 => ?_, fun q14 => ?_⟩
      · replace F := F.2 q14
        refine zAload_n 0 1 47 (by decide +kernel) rfl rfl ?_
        refine zCallV 12 zcls12 mX12_sum 158 0 0 0 _ _ 50 [] [] okX12_sum mlX12_158 imX12_sum seX12_sum (by decide +kernel) rfl rfl (Nat.le_of_ble_eq_true rfl) rfl rfl (Mod_0 S0_) (zC.mono F ?_)
        rintro _ _ ⟨x15, I16, rfl, rfl, F⟩
        change zV G (d + 1) mX12_atom kc ks 50 [(1, .int (x1)), (0, .ref (m))] [.int (x15)] (I16, J, R, K, n) Q
        refine zIstore_n 2 [(2, .int (x15)), (1, .int (x1)), (0, .ref (m))] 51 (by decide +kernel) rfl (by decide) rfl ?_
        refine zAload_n 0 2 52 (by decide +kernel) rfl rfl ?_
        refine zBipush 93 93 54 (by decide +kernel) rfl (by decide) ?_
        refine zCallV 12 zcls12 mX12_takes 161 1 0 0 _ _ 57 [.int (93)] [] okX12_takes mlX12_161 imX12_takes seX12_takes (by decide +kernel) rfl rfl (Nat.le_of_ble_eq_true rfl) rfl rfl (Mod_0 S0_) (zC.mono F ?_)
        rintro _ _ ⟨x17, I18, rfl, rfl, F⟩
        change zV G (d + 1) mX12_atom kc ks 57 [(2, .int (x15)), (1, .int (x1)), (0, .ref (m))] [.int (x17)] (I18, J, R, K, n) Q
        refine zIf_ne 5 62 60 (by decide +kernel) rfl rfl ⟨fun q19 => ?_, fun q19 => ?_⟩
        · replace F := F.2 q19
          refine zAload_n 0 2 63 (by decide +kernel) rfl rfl ?_
          refine zDup 64 (by decide +kernel) rfl rfl ?_
          refine gf12_12 128 67 (by decide +kernel) rfl flX12_128 (Mod_0 S0_) ?_
          refine zIconst 1 1 68 (by decide +kernel) rfl (by decide) ?_
          refine zIsub 69 (by decide +kernel) rfl ?_
          refine pf12_12 128 72 (by decide +kernel) rfl flX12_128 (Mod_0 S0_) ?_
          replace F := F _ rfl
          generalize zU I18 m 12 ((I18 m 12) - 1) = I20 at F ⊢
          refine zIload_n 2 0 73 (by decide +kernel) rfl rfl ?_
          exact zIret rfl (by decide +kernel) F
        · replace F := F.1 q19
          refine zIconst 0 0 61 (by decide +kernel) rfl (by decide) ?_
          exact zIret rfl (by decide +kernel) F
      · replace F := F.1 q14
        refine zIconst 0 0 45 (by decide +kernel) rfl (by decide) ?_
        exact zIret rfl (by decide +kernel) F
  · replace F := F.2 q5
    refine zAload_n 0 1 15 (by decide +kernel) rfl rfl ?_
    refine zDup 16 (by decide +kernel) rfl rfl ?_
    refine gf12_10 116 19 (by decide +kernel) rfl flX12_116 (Mod_0 S0_) ?_
    refine zIconst 1 1 20 (by decide +kernel) rfl (by decide) ?_
    refine zIadd 21 (by decide +kernel) rfl ?_
    refine pf12_10 116 24 (by decide +kernel) rfl flX12_116 (Mod_0 S0_) ?_
    replace F := F _ rfl
    generalize zU I4 m 10 ((I4 m 10) + 1) = I21 at F ⊢
    refine zAload_n 0 1 25 (by decide +kernel) rfl rfl ?_
    refine gf12_4 20 28 (by decide +kernel) rfl flX12_20 (Mod_0 S0_) (Mod_7 S0_) ?_
    refine zIload_n 1 0 29 (by decide +kernel) rfl rfl ?_
    obtain ⟨w22, F⟩ := F
    refine yIaload 128 30 (by decide +kernel) rfl (Mod_8 S0_) (w22) ?_
    exact zIret rfl (by decide +kernel) F
set_option maxHeartbeats 2000000 in
theorem wX12_atom_90 {G : zG} {d kc ks : Nat} {I : Nat → Nat → Int32} {J : Nat → Nat → Int64} {R : Nat → Nat → Option Nat} {K : Nat → Nat × Nat} {n : Nat} {Q : Option Value → zH → Prop} (m t c : Nat) (S0_ : hMod G R K n m t c) (l1 l2 l3 : Int32) (F : zC G d mX12_isDigit 0 0 [.ref (m)] (I, J, R, K, n) (fun r h => ∃ (x23 : Int32) (I24 : Nat → Nat → Int32), r = some (.int x23) ∧ h = (I24, J, R, K, n) ∧ ((x23 = 0 → Q (some (.int (l2))) (I24, J, R, K, n)) ∧ (¬ (x23 = 0) → (((I24 m 11 : Int32) = (-1) → ((l3 = 4 → zC G d mX12_fails 0 0 [.ref (m)] (I24, J, R, K, n) (fun r h => ∃ (x30 : Int32) (I31 : Nat → Nat → Int32), r = some (.int x30) ∧ h = (I31, J, R, K, n) ∧ Q (some (.int (0))) (I31, J, R, K, n))) ∧ (¬ (l3 = 4) → ((vp_in ((I24 m 8) + (I24 m 10)) c) ∧ (∀ I29 : Nat → Nat → Int32, I29 = zU I24 m 10 ((I24 m 10) + 1) → zV G (d + 1) mX12_atom kc ks 90 [(0, .ref (m)), (1, .int (l1)), (2, .int (((10 * l2) + (I24 t ((I24 m 8) + (I24 m 10) : Int32).toNatClampNeg)) - 48)), (3, .int (l3 + 1))] [] (I29, J, R, K, n) Q))))) ∧ (¬ ((I24 m 11 : Int32) = (-1)) → Q (some (.int (l2))) (I24, J, R, K, n))))))) : zV G (d + 1) mX12_atom kc ks 90 [(0, .ref (m)), (1, .int (l1)), (2, .int (l2)), (3, .int (l3))] [] (I, J, R, K, n) Q := by
  refine zAload_n 0 0 91 (by decide +kernel) rfl rfl ?_
  refine zCallV 12 zcls12 mX12_isDigit 165 0 0 0 _ _ 94 [] [] okX12_isDigit mlX12_165 imX12_isDigit seX12_isDigit (by decide +kernel) rfl rfl (Nat.le_of_ble_eq_true rfl) rfl rfl (Mod_0 S0_) (zC.mono F ?_)
  rintro _ _ ⟨x23, I24, rfl, rfl, F⟩
  change zV G (d + 1) mX12_atom kc ks 94 [(0, .ref (m)), (1, .int (l1)), (2, .int (l2)), (3, .int (l3))] [.int (x23)] (I24, J, R, K, n) Q
  refine zIf_eq 62 156 97 (by decide +kernel) rfl rfl ⟨fun q25 => ?_, fun q25 => ?_⟩
  · replace F := F.1 q25
    refine zIload_n 2 2 157 (by decide +kernel) rfl rfl ?_
    exact zIret rfl (by decide +kernel) F
  · replace F := F.2 q25
    refine zAload_n 0 0 98 (by decide +kernel) rfl rfl ?_
    refine gf12_11 125 101 (by decide +kernel) rfl flX12_125 (Mod_0 S0_) ?_
    refine zIconst (-1) (-1) 102 (by decide +kernel) rfl (by decide) ?_
    refine zIcmp_ne 54 156 105 (by decide +kernel) rfl rfl ⟨fun q26 => ?_, fun q26 => ?_⟩
    · replace F := F.2 q26
      refine zIload_n 2 2 157 (by decide +kernel) rfl rfl ?_
      exact zIret rfl (by decide +kernel) F
    · replace F := F.1 q26
      refine zIload_n 3 3 106 (by decide +kernel) rfl rfl ?_
      refine zIconst 4 4 107 (by decide +kernel) rfl (by decide) ?_
      refine zIcmp_ne 10 117 110 (by decide +kernel) rfl rfl ⟨fun q27 => ?_, fun q27 => ?_⟩
      · replace F := F.2 q27
        refine zBipush 10 10 119 (by decide +kernel) rfl (by decide) ?_
        refine zIload_n 2 2 120 (by decide +kernel) rfl rfl ?_
        refine zImul 121 (by decide +kernel) rfl ?_
        refine zAload_n 0 0 122 (by decide +kernel) rfl rfl ?_
        refine gf12_5 23 125 (by decide +kernel) rfl flX12_23 (Mod_0 S0_) (Mod_43 S0_) ?_
        refine zAload_n 0 0 126 (by decide +kernel) rfl rfl ?_
        refine gf12_8 122 129 (by decide +kernel) rfl flX12_122 (Mod_0 S0_) ?_
        refine zAload_n 0 0 130 (by decide +kernel) rfl rfl ?_
        refine gf12_10 116 133 (by decide +kernel) rfl flX12_116 (Mod_0 S0_) ?_
        refine zIadd 134 (by decide +kernel) rfl ?_
        obtain ⟨w28, F⟩ := F
        refine yBaload c 135 (by decide +kernel) rfl (Mod_44 S0_) (w28) ?_
        refine zIadd 136 (by decide +kernel) rfl ?_
        refine zBipush 48 48 138 (by decide +kernel) rfl (by decide) ?_
        refine zIsub 139 (by decide +kernel) rfl ?_
        refine zIstore_n 2 [(2, .int (((10 * l2) + (I24 t ((I24 m 8) + (I24 m 10) : Int32).toNatClampNeg)) - 48)), (0, .ref (m)), (1, .int (l1)), (3, .int (l3))] 140 (by decide +kernel) rfl (by decide) rfl ?_
        refine zAload_n 0 1 141 (by decide +kernel) rfl rfl ?_
        refine zDup 142 (by decide +kernel) rfl rfl ?_
        refine gf12_10 116 145 (by decide +kernel) rfl flX12_116 (Mod_0 S0_) ?_
        refine zIconst 1 1 146 (by decide +kernel) rfl (by decide) ?_
        refine zIadd 147 (by decide +kernel) rfl ?_
        refine pf12_10 116 150 (by decide +kernel) rfl flX12_116 (Mod_0 S0_) ?_
        replace F := F _ rfl
        generalize zU I24 m 10 ((I24 m 10) + 1) = I29 at F ⊢
        refine zIinc 3 1 3 (l3 + 1) [(3, .int (l3 + 1)), (2, .int (((10 * l2) + (I24 t ((I24 m 8) + (I24 m 10) : Int32).toNatClampNeg)) - 48)), (0, .ref (m)), (1, .int (l1))] 153 (by decide +kernel) rfl rfl (by rfl) (by decide) rfl ?_
        refine zGoto (-63) 90 (by decide +kernel) rfl ?_
        exact zLoc [2, 3, 1, 0] _ rfl F
      · replace F := F.1 q27
        refine zAload_n 0 0 111 (by decide +kernel) rfl rfl ?_
        refine zCallV 12 zcls12 mX12_fails 131 0 0 0 _ _ 114 [] [] okX12_fails mlX12_131 imX12_fails seX12_fails (by decide +kernel) rfl rfl (Nat.le_of_ble_eq_true rfl) rfl rfl (Mod_0 S0_) (zC.mono F ?_)
        rintro _ _ ⟨x30, I31, rfl, rfl, F⟩
        change zV G (d + 1) mX12_atom kc ks 114 [(0, .ref (m)), (1, .int (l1)), (2, .int (l2)), (3, .int (l3))] [.int (x30)] (I31, J, R, K, n) Q
        refine zPop 115 (by decide +kernel) rfl rfl ?_
        refine zIconst 0 0 116 (by decide +kernel) rfl (by decide) ?_
        exact zIret rfl (by decide +kernel) F
set_option maxHeartbeats 2000000 in
theorem wX12_term_0 {G : zG} {d kc ks : Nat} {I : Nat → Nat → Int32} {J : Nat → Nat → Int64} {R : Nat → Nat → Option Nat} {K : Nat → Nat × Nat} {n : Nat} {Q : Option Value → zH → Prop} (m t c : Nat) (S0_ : hMod G R K n m t c) (F : zC G d mX12_atom 0 0 [.ref (m)] (I, J, R, K, n) (fun r h => ∃ (x1 : Int32) (I2 : Nat → Nat → Int32), r = some (.int x1) ∧ h = (I2, J, R, K, n) ∧ zV G (d + 1) mX12_term kc ks 5 [(0, .ref (m)), (1, .int (x1))] [] (I2, J, R, K, n) Q)) : zV G (d + 1) mX12_term kc ks 0 [(0, .ref (m))] [] (I, J, R, K, n) Q := by
  refine zAload_n 0 0 1 (by decide +kernel) rfl rfl ?_
  refine zCallV 12 zcls12 mX12_atom 168 0 0 0 _ _ 4 [] [] okX12_atom mlX12_168 imX12_atom seX12_atom (by decide +kernel) rfl rfl (Nat.le_of_ble_eq_true rfl) rfl rfl (Mod_0 S0_) (zC.mono F ?_)
  rintro _ _ ⟨x1, I2, rfl, rfl, F⟩
  change zV G (d + 1) mX12_term kc ks 4 [(0, .ref (m))] [.int (x1)] (I2, J, R, K, n) Q
  refine zIstore_n 1 [(1, .int (x1)), (0, .ref (m))] 5 (by decide +kernel) rfl (by decide) rfl ?_
  exact zLoc [1, 0] _ rfl F
set_option maxHeartbeats 2000000 in
theorem wX12_term_5 {G : zG} {d kc ks : Nat} {I : Nat → Nat → Int32} {J : Nat → Nat → Int64} {R : Nat → Nat → Option Nat} {K : Nat → Nat × Nat} {n : Nat} {Q : Option Value → zH → Prop} (m t c : Nat) (S0_ : hMod G R K n m t c) (l1 : Int32) (F : (((I m 11 : Int32) = (-1) → zC G d mX12_look 0 0 [.ref (m)] (I, J, R, K, n) (fun r h => ∃ (x4 : Int32) (I5 : Nat → Nat → Int32), r = some (.int x4) ∧ h = (I5, J, R, K, n) ∧ ((x4 = 42 → zC G d mX12_look 0 0 [.ref (m)] (I5, J, R, K, n) (fun r h => ∃ (x7 : Int32) (I8 : Nat → Nat → Int32), r = some (.int x7) ∧ h = (I8, J, R, K, n) ∧ (∀ I10 : Nat → Nat → Int32, I10 = zU I8 m 10 ((I8 m 10) + 1) → zC G d mX12_atom 0 0 [.ref (m)] (I10, J, R, K, n) (fun r h => ∃ (x11 : Int32) (I12 : Nat → Nat → Int32), r = some (.int x11) ∧ h = (I12, J, R, K, n) ∧ (((((if x7 = 42 then 1 else 0) : Int32) = 0) → (¬ ((lg_cmp x11.toInt64 0 : Int32) = 0)) → ¬ (x11.toInt64 : Int64) = 0) ∧ zC G d mX12_within 0 0 [.long ((if ((if x7 = 42 then 1 else 0) : Int32) = 0 then (if (lg_cmp x11.toInt64 0 : Int32) = 0 then 0 else l1.toInt64 / x11.toInt64) else l1.toInt64 * x11.toInt64))] (I12, J, R, K, n) (fun r h => ∃ (x16 : Int32) (I17 : Nat → Nat → Int32), r = some (.int x16) ∧ h = (I17, J, R, K, n) ∧ zV G (d + 1) mX12_term kc ks 5 [(0, .ref (m)), (1, .int (x16))] [] (I17, J, R, K, n) Q)))))) ∧ (¬ (x4 = 42) → zC G d mX12_look 0 0 [.ref (m)] (I5, J, R, K, n) (fun r h => ∃ (x18 : Int32) (I19 : Nat → Nat → Int32), r = some (.int x18) ∧ h = (I19, J, R, K, n) ∧ ((x18 = 47 → zC G d mX12_look 0 0 [.ref (m)] (I19, J, R, K, n) (fun r h => ∃ (x21 : Int32) (I22 : Nat → Nat → Int32), r = some (.int x21) ∧ h = (I22, J, R, K, n) ∧ (∀ I24 : Nat → Nat → Int32, I24 = zU I22 m 10 ((I22 m 10) + 1) → zC G d mX12_atom 0 0 [.ref (m)] (I24, J, R, K, n) (fun r h => ∃ (x25 : Int32) (I26 : Nat → Nat → Int32), r = some (.int x25) ∧ h = (I26, J, R, K, n) ∧ (((((if x21 = 42 then 1 else 0) : Int32) = 0) → (¬ ((lg_cmp x25.toInt64 0 : Int32) = 0)) → ¬ (x25.toInt64 : Int64) = 0) ∧ zC G d mX12_within 0 0 [.long ((if ((if x21 = 42 then 1 else 0) : Int32) = 0 then (if (lg_cmp x25.toInt64 0 : Int32) = 0 then 0 else l1.toInt64 / x25.toInt64) else l1.toInt64 * x25.toInt64))] (I26, J, R, K, n) (fun r h => ∃ (x30 : Int32) (I31 : Nat → Nat → Int32), r = some (.int x30) ∧ h = (I31, J, R, K, n) ∧ zV G (d + 1) mX12_term kc ks 5 [(0, .ref (m)), (1, .int (x30))] [] (I31, J, R, K, n) Q)))))) ∧ (¬ (x18 = 47) → Q (some (.int (l1))) (I19, J, R, K, n)))))))) ∧ (¬ ((I m 11 : Int32) = (-1)) → Q (some (.int (l1))) (I, J, R, K, n)))) : zV G (d + 1) mX12_term kc ks 5 [(0, .ref (m)), (1, .int (l1))] [] (I, J, R, K, n) Q := by
  refine zAload_n 0 0 6 (by decide +kernel) rfl rfl ?_
  refine gf12_11 125 9 (by decide +kernel) rfl flX12_125 (Mod_0 S0_) ?_
  refine zIconst (-1) (-1) 10 (by decide +kernel) rfl (by decide) ?_
  refine zIcmp_ne 84 94 13 (by decide +kernel) rfl rfl ⟨fun q3 => ?_, fun q3 => ?_⟩
  · replace F := F.2 q3
    refine zIload_n 1 1 95 (by decide +kernel) rfl rfl ?_
    exact zIret rfl (by decide +kernel) F
  · replace F := F.1 q3
    refine zAload_n 0 0 14 (by decide +kernel) rfl rfl ?_
    refine zCallV 12 zcls12 mX12_look 135 0 0 0 _ _ 17 [] [] okX12_look mlX12_135 imX12_look seX12_look (by decide +kernel) rfl rfl (Nat.le_of_ble_eq_true rfl) rfl rfl (Mod_0 S0_) (zC.mono F ?_)
    rintro _ _ ⟨x4, I5, rfl, rfl, F⟩
    change zV G (d + 1) mX12_term kc ks 17 [(0, .ref (m)), (1, .int (l1))] [.int (x4)] (I5, J, R, K, n) Q
    refine zBipush 42 42 19 (by decide +kernel) rfl (by decide) ?_
    refine zIcmp_eq 12 31 22 (by decide +kernel) rfl rfl ⟨fun q6 => ?_, fun q6 => ?_⟩
    · replace F := F.1 q6
      refine zAload_n 0 0 32 (by decide +kernel) rfl rfl ?_
      refine zCallV 12 zcls12 mX12_look 135 0 0 0 _ _ 35 [] [] okX12_look mlX12_135 imX12_look seX12_look (by decide +kernel) rfl rfl (Nat.le_of_ble_eq_true rfl) rfl rfl (Mod_0 S0_) (zC.mono F ?_)
      rintro _ _ ⟨x7, I8, rfl, rfl, F⟩
      change zV G (d + 1) mX12_term kc ks 35 [(0, .ref (m)), (1, .int (l1))] [.int (x7)] (I8, J, R, K, n) Q
      refine zBipush 42 42 37 (by decide +kernel) rfl (by decide) ?_
      suffices KK : zV G (d + 1) mX12_term kc ks 45 [(0, .ref (m)), (1, .int (l1))] [.int ((if x7 = 42 then 1 else 0))] (I8, J, R, K, n) Q by
        refine zIcmp_ne 7 44 40 (by decide +kernel) rfl rfl ⟨fun q9 => ?_, fun q9 => ?_⟩
        · refine zIconst 0 0 45 (by decide +kernel) rfl (by decide) ?_
          exact zTop (by rw [if_neg q9]) KK
        · refine zIconst 1 1 41 (by decide +kernel) rfl (by decide) ?_
          refine zGoto 4 45 (by decide +kernel) rfl ?_
          exact zTop (by rw [if_pos q9]) KK
      refine zIstore_n 2 [(2, .int ((if x7 = 42 then 1 else 0))), (0, .ref (m)), (1, .int (l1))] 46 (by decide +kernel) rfl (by decide) rfl ?_
      refine zAload_n 0 1 47 (by decide +kernel) rfl rfl ?_
      refine zDup 48 (by decide +kernel) rfl rfl ?_
      refine gf12_10 116 51 (by decide +kernel) rfl flX12_116 (Mod_0 S0_) ?_
      refine zIconst 1 1 52 (by decide +kernel) rfl (by decide) ?_
      refine zIadd 53 (by decide +kernel) rfl ?_
      refine pf12_10 116 56 (by decide +kernel) rfl flX12_116 (Mod_0 S0_) ?_
      replace F := F _ rfl
      generalize zU I8 m 10 ((I8 m 10) + 1) = I10 at F ⊢
      refine zAload_n 0 1 57 (by decide +kernel) rfl rfl ?_
      refine zCallV 12 zcls12 mX12_atom 168 0 0 0 _ _ 60 [] [] okX12_atom mlX12_168 imX12_atom seX12_atom (by decide +kernel) rfl rfl (Nat.le_of_ble_eq_true rfl) rfl rfl (Mod_0 S0_) (zC.mono F ?_)
      rintro _ _ ⟨x11, I12, rfl, rfl, F⟩
      change zV G (d + 1) mX12_term kc ks 60 [(2, .int ((if x7 = 42 then 1 else 0))), (0, .ref (m)), (1, .int (l1))] [.int (x11)] (I12, J, R, K, n) Q
      refine zI2l 61 (by decide +kernel) rfl ?_
      refine zLstore_n 3 [(3, .long (x11.toInt64)), (2, .int ((if x7 = 42 then 1 else 0))), (0, .ref (m)), (1, .int (l1))] 62 (by decide +kernel) rfl (by decide) rfl ?_
      refine zIload_n 2 1 63 (by decide +kernel) rfl rfl ?_
      obtain ⟨w15, F⟩ := F
      suffices KK : zV G (d + 1) mX12_term kc ks 87 [(3, .long (x11.toInt64)), (2, .int ((if x7 = 42 then 1 else 0))), (0, .ref (m)), (1, .int (l1))] [.long ((if ((if x7 = 42 then 1 else 0) : Int32) = 0 then (if (lg_cmp x11.toInt64 0 : Int32) = 0 then 0 else l1.toInt64 / x11.toInt64) else l1.toInt64 * x11.toInt64))] (I12, J, R, K, n) Q by
        refine zIf_eq 10 73 66 (by decide +kernel) rfl rfl ⟨fun q13 => ?_, fun q13 => ?_⟩
        · refine zLload_n 3 0 74 (by decide +kernel) rfl rfl ?_
          refine zLconst 0 0 75 (by decide +kernel) rfl (by decide) ?_
          refine zLcmp 76 (by decide +kernel) rfl ?_
          refine zIf_ne 7 83 79 (by decide +kernel) rfl rfl ⟨fun q14 => ?_, fun q14 => ?_⟩
          · refine zIload_n 1 3 84 (by decide +kernel) rfl rfl ?_
            refine zI2l 85 (by decide +kernel) rfl ?_
            refine zLload_n 3 0 86 (by decide +kernel) rfl rfl ?_
            refine zLdiv 87 (by decide +kernel) rfl (w15 q13 q14) ?_
            exact zTopL (by rw [if_pos q13, if_neg q14]) KK
          · refine zLconst 0 0 80 (by decide +kernel) rfl (by decide) ?_
            refine zGoto 7 87 (by decide +kernel) rfl ?_
            exact zTopL (by rw [if_pos q13, if_pos q14]) KK
        · refine zIload_n 1 3 67 (by decide +kernel) rfl rfl ?_
          refine zI2l 68 (by decide +kernel) rfl ?_
          refine zLload_n 3 0 69 (by decide +kernel) rfl rfl ?_
          refine zLmul 70 (by decide +kernel) rfl ?_
          refine zGoto 17 87 (by decide +kernel) rfl ?_
          exact zTopL (by rw [if_neg q13]) KK
      refine zCallS mX12_within 171 1 0 0 _ _ 90 [.long ((if ((if x7 = 42 then 1 else 0) : Int32) = 0 then (if (lg_cmp x11.toInt64 0 : Int32) = 0 then 0 else l1.toInt64 / x11.toInt64) else l1.toInt64 * x11.toInt64))] [] okX12_within mlX12_171 smX12_within (by decide +kernel) rfl rfl (Nat.le_of_ble_eq_true rfl) rfl rfl (zC.mono F ?_)
      rintro _ _ ⟨x16, I17, rfl, rfl, F⟩
      change zV G (d + 1) mX12_term kc ks 90 [(3, .long (x11.toInt64)), (2, .int ((if x7 = 42 then 1 else 0))), (0, .ref (m)), (1, .int (l1))] [.int (x16)] (I17, J, R, K, n) Q
      refine zIstore_n 1 [(1, .int (x16)), (3, .long (x11.toInt64)), (2, .int ((if x7 = 42 then 1 else 0))), (0, .ref (m))] 91 (by decide +kernel) rfl (by decide) rfl ?_
      refine zGoto (-86) 5 (by decide +kernel) rfl ?_
      exact zLoc [3, 0] _ rfl F
    · replace F := F.2 q6
      refine zAload_n 0 0 23 (by decide +kernel) rfl rfl ?_
      refine zCallV 12 zcls12 mX12_look 135 0 0 0 _ _ 26 [] [] okX12_look mlX12_135 imX12_look seX12_look (by decide +kernel) rfl rfl (Nat.le_of_ble_eq_true rfl) rfl rfl (Mod_0 S0_) (zC.mono F ?_)
      rintro _ _ ⟨x18, I19, rfl, rfl, F⟩
      change zV G (d + 1) mX12_term kc ks 26 [(0, .ref (m)), (1, .int (l1))] [.int (x18)] (I19, J, R, K, n) Q
      refine zBipush 47 47 28 (by decide +kernel) rfl (by decide) ?_
      refine zIcmp_ne 66 94 31 (by decide +kernel) rfl rfl ⟨fun q20 => ?_, fun q20 => ?_⟩
      · replace F := F.2 q20
        refine zIload_n 1 1 95 (by decide +kernel) rfl rfl ?_
        exact zIret rfl (by decide +kernel) F
      · replace F := F.1 q20
        refine zAload_n 0 0 32 (by decide +kernel) rfl rfl ?_
        refine zCallV 12 zcls12 mX12_look 135 0 0 0 _ _ 35 [] [] okX12_look mlX12_135 imX12_look seX12_look (by decide +kernel) rfl rfl (Nat.le_of_ble_eq_true rfl) rfl rfl (Mod_0 S0_) (zC.mono F ?_)
        rintro _ _ ⟨x21, I22, rfl, rfl, F⟩
        change zV G (d + 1) mX12_term kc ks 35 [(0, .ref (m)), (1, .int (l1))] [.int (x21)] (I22, J, R, K, n) Q
        refine zBipush 42 42 37 (by decide +kernel) rfl (by decide) ?_
        suffices KK : zV G (d + 1) mX12_term kc ks 45 [(0, .ref (m)), (1, .int (l1))] [.int ((if x21 = 42 then 1 else 0))] (I22, J, R, K, n) Q by
          refine zIcmp_ne 7 44 40 (by decide +kernel) rfl rfl ⟨fun q23 => ?_, fun q23 => ?_⟩
          · refine zIconst 0 0 45 (by decide +kernel) rfl (by decide) ?_
            exact zTop (by rw [if_neg q23]) KK
          · refine zIconst 1 1 41 (by decide +kernel) rfl (by decide) ?_
            refine zGoto 4 45 (by decide +kernel) rfl ?_
            exact zTop (by rw [if_pos q23]) KK
        refine zIstore_n 2 [(2, .int ((if x21 = 42 then 1 else 0))), (0, .ref (m)), (1, .int (l1))] 46 (by decide +kernel) rfl (by decide) rfl ?_
        refine zAload_n 0 1 47 (by decide +kernel) rfl rfl ?_
        refine zDup 48 (by decide +kernel) rfl rfl ?_
        refine gf12_10 116 51 (by decide +kernel) rfl flX12_116 (Mod_0 S0_) ?_
        refine zIconst 1 1 52 (by decide +kernel) rfl (by decide) ?_
        refine zIadd 53 (by decide +kernel) rfl ?_
        refine pf12_10 116 56 (by decide +kernel) rfl flX12_116 (Mod_0 S0_) ?_
        replace F := F _ rfl
        generalize zU I22 m 10 ((I22 m 10) + 1) = I24 at F ⊢
        refine zAload_n 0 1 57 (by decide +kernel) rfl rfl ?_
        refine zCallV 12 zcls12 mX12_atom 168 0 0 0 _ _ 60 [] [] okX12_atom mlX12_168 imX12_atom seX12_atom (by decide +kernel) rfl rfl (Nat.le_of_ble_eq_true rfl) rfl rfl (Mod_0 S0_) (zC.mono F ?_)
        rintro _ _ ⟨x25, I26, rfl, rfl, F⟩
        change zV G (d + 1) mX12_term kc ks 60 [(2, .int ((if x21 = 42 then 1 else 0))), (0, .ref (m)), (1, .int (l1))] [.int (x25)] (I26, J, R, K, n) Q
        refine zI2l 61 (by decide +kernel) rfl ?_
        refine zLstore_n 3 [(3, .long (x25.toInt64)), (2, .int ((if x21 = 42 then 1 else 0))), (0, .ref (m)), (1, .int (l1))] 62 (by decide +kernel) rfl (by decide) rfl ?_
        refine zIload_n 2 1 63 (by decide +kernel) rfl rfl ?_
        obtain ⟨w29, F⟩ := F
        suffices KK : zV G (d + 1) mX12_term kc ks 87 [(3, .long (x25.toInt64)), (2, .int ((if x21 = 42 then 1 else 0))), (0, .ref (m)), (1, .int (l1))] [.long ((if ((if x21 = 42 then 1 else 0) : Int32) = 0 then (if (lg_cmp x25.toInt64 0 : Int32) = 0 then 0 else l1.toInt64 / x25.toInt64) else l1.toInt64 * x25.toInt64))] (I26, J, R, K, n) Q by
          refine zIf_eq 10 73 66 (by decide +kernel) rfl rfl ⟨fun q27 => ?_, fun q27 => ?_⟩
          · refine zLload_n 3 0 74 (by decide +kernel) rfl rfl ?_
            refine zLconst 0 0 75 (by decide +kernel) rfl (by decide) ?_
            refine zLcmp 76 (by decide +kernel) rfl ?_
            refine zIf_ne 7 83 79 (by decide +kernel) rfl rfl ⟨fun q28 => ?_, fun q28 => ?_⟩
            · refine zIload_n 1 3 84 (by decide +kernel) rfl rfl ?_
              refine zI2l 85 (by decide +kernel) rfl ?_
              refine zLload_n 3 0 86 (by decide +kernel) rfl rfl ?_
              refine zLdiv 87 (by decide +kernel) rfl (w29 q27 q28) ?_
              exact zTopL (by rw [if_pos q27, if_neg q28]) KK
            · refine zLconst 0 0 80 (by decide +kernel) rfl (by decide) ?_
              refine zGoto 7 87 (by decide +kernel) rfl ?_
              exact zTopL (by rw [if_pos q27, if_pos q28]) KK
          · refine zIload_n 1 3 67 (by decide +kernel) rfl rfl ?_
            refine zI2l 68 (by decide +kernel) rfl ?_
            refine zLload_n 3 0 69 (by decide +kernel) rfl rfl ?_
            refine zLmul 70 (by decide +kernel) rfl ?_
            refine zGoto 17 87 (by decide +kernel) rfl ?_
            exact zTopL (by rw [if_neg q27]) KK
        refine zCallS mX12_within 171 1 0 0 _ _ 90 [.long ((if ((if x21 = 42 then 1 else 0) : Int32) = 0 then (if (lg_cmp x25.toInt64 0 : Int32) = 0 then 0 else l1.toInt64 / x25.toInt64) else l1.toInt64 * x25.toInt64))] [] okX12_within mlX12_171 smX12_within (by decide +kernel) rfl rfl (Nat.le_of_ble_eq_true rfl) rfl rfl (zC.mono F ?_)
        rintro _ _ ⟨x30, I31, rfl, rfl, F⟩
        change zV G (d + 1) mX12_term kc ks 90 [(3, .long (x25.toInt64)), (2, .int ((if x21 = 42 then 1 else 0))), (0, .ref (m)), (1, .int (l1))] [.int (x30)] (I31, J, R, K, n) Q
        refine zIstore_n 1 [(1, .int (x30)), (3, .long (x25.toInt64)), (2, .int ((if x21 = 42 then 1 else 0))), (0, .ref (m))] 91 (by decide +kernel) rfl (by decide) rfl ?_
        refine zGoto (-86) 5 (by decide +kernel) rfl ?_
        exact zLoc [3, 0] _ rfl F
set_option maxHeartbeats 2000000 in
theorem wX12_sum_0 {G : zG} {d kc ks : Nat} {I : Nat → Nat → Int32} {J : Nat → Nat → Int64} {R : Nat → Nat → Option Nat} {K : Nat → Nat × Nat} {n : Nat} {Q : Option Value → zH → Prop} (m t c : Nat) (S0_ : hMod G R K n m t c) (F : zC G d mX12_term 0 0 [.ref (m)] (I, J, R, K, n) (fun r h => ∃ (x1 : Int32) (I2 : Nat → Nat → Int32), r = some (.int x1) ∧ h = (I2, J, R, K, n) ∧ zV G (d + 1) mX12_sum kc ks 5 [(0, .ref (m)), (1, .int (x1))] [] (I2, J, R, K, n) Q)) : zV G (d + 1) mX12_sum kc ks 0 [(0, .ref (m))] [] (I, J, R, K, n) Q := by
  refine zAload_n 0 0 1 (by decide +kernel) rfl rfl ?_
  refine zCallV 12 zcls12 mX12_term 175 0 0 0 _ _ 4 [] [] okX12_term mlX12_175 imX12_term seX12_term (by decide +kernel) rfl rfl (Nat.le_of_ble_eq_true rfl) rfl rfl (Mod_0 S0_) (zC.mono F ?_)
  rintro _ _ ⟨x1, I2, rfl, rfl, F⟩
  change zV G (d + 1) mX12_sum kc ks 4 [(0, .ref (m))] [.int (x1)] (I2, J, R, K, n) Q
  refine zIstore_n 1 [(1, .int (x1)), (0, .ref (m))] 5 (by decide +kernel) rfl (by decide) rfl ?_
  exact zLoc [1, 0] _ rfl F
set_option maxHeartbeats 2000000 in
theorem wX12_sum_5 {G : zG} {d kc ks : Nat} {I : Nat → Nat → Int32} {J : Nat → Nat → Int64} {R : Nat → Nat → Option Nat} {K : Nat → Nat × Nat} {n : Nat} {Q : Option Value → zH → Prop} (m t c : Nat) (S0_ : hMod G R K n m t c) (l1 : Int32) (F : (((I m 11 : Int32) = (-1) → zC G d mX12_look 0 0 [.ref (m)] (I, J, R, K, n) (fun r h => ∃ (x4 : Int32) (I5 : Nat → Nat → Int32), r = some (.int x4) ∧ h = (I5, J, R, K, n) ∧ ((x4 = 43 → zC G d mX12_look 0 0 [.ref (m)] (I5, J, R, K, n) (fun r h => ∃ (x7 : Int32) (I8 : Nat → Nat → Int32), r = some (.int x7) ∧ h = (I8, J, R, K, n) ∧ (∀ I10 : Nat → Nat → Int32, I10 = zU I8 m 10 ((I8 m 10) + 1) → zC G d mX12_term 0 0 [.ref (m)] (I10, J, R, K, n) (fun r h => ∃ (x11 : Int32) (I12 : Nat → Nat → Int32), r = some (.int x11) ∧ h = (I12, J, R, K, n) ∧ zC G d mX12_within 0 0 [.long ((if ((if x7 = 43 then 1 else 0) : Int32) = 0 then l1.toInt64 - x11.toInt64 else l1.toInt64 + x11.toInt64))] (I12, J, R, K, n) (fun r h => ∃ (x14 : Int32) (I15 : Nat → Nat → Int32), r = some (.int x14) ∧ h = (I15, J, R, K, n) ∧ zV G (d + 1) mX12_sum kc ks 5 [(0, .ref (m)), (1, .int (x14))] [] (I15, J, R, K, n) Q))))) ∧ (¬ (x4 = 43) → zC G d mX12_look 0 0 [.ref (m)] (I5, J, R, K, n) (fun r h => ∃ (x16 : Int32) (I17 : Nat → Nat → Int32), r = some (.int x16) ∧ h = (I17, J, R, K, n) ∧ ((x16 = 45 → zC G d mX12_look 0 0 [.ref (m)] (I17, J, R, K, n) (fun r h => ∃ (x19 : Int32) (I20 : Nat → Nat → Int32), r = some (.int x19) ∧ h = (I20, J, R, K, n) ∧ (∀ I22 : Nat → Nat → Int32, I22 = zU I20 m 10 ((I20 m 10) + 1) → zC G d mX12_term 0 0 [.ref (m)] (I22, J, R, K, n) (fun r h => ∃ (x23 : Int32) (I24 : Nat → Nat → Int32), r = some (.int x23) ∧ h = (I24, J, R, K, n) ∧ zC G d mX12_within 0 0 [.long ((if ((if x19 = 43 then 1 else 0) : Int32) = 0 then l1.toInt64 - x23.toInt64 else l1.toInt64 + x23.toInt64))] (I24, J, R, K, n) (fun r h => ∃ (x26 : Int32) (I27 : Nat → Nat → Int32), r = some (.int x26) ∧ h = (I27, J, R, K, n) ∧ zV G (d + 1) mX12_sum kc ks 5 [(0, .ref (m)), (1, .int (x26))] [] (I27, J, R, K, n) Q))))) ∧ (¬ (x16 = 45) → Q (some (.int (l1))) (I17, J, R, K, n)))))))) ∧ (¬ ((I m 11 : Int32) = (-1)) → Q (some (.int (l1))) (I, J, R, K, n)))) : zV G (d + 1) mX12_sum kc ks 5 [(0, .ref (m)), (1, .int (l1))] [] (I, J, R, K, n) Q := by
  refine zAload_n 0 0 6 (by decide +kernel) rfl rfl ?_
  refine gf12_11 125 9 (by decide +kernel) rfl flX12_125 (Mod_0 S0_) ?_
  refine zIconst (-1) (-1) 10 (by decide +kernel) rfl (by decide) ?_
  refine zIcmp_ne 74 84 13 (by decide +kernel) rfl rfl ⟨fun q3 => ?_, fun q3 => ?_⟩
  · replace F := F.2 q3
    refine zIload_n 1 1 85 (by decide +kernel) rfl rfl ?_
    exact zIret rfl (by decide +kernel) F
  · replace F := F.1 q3
    refine zAload_n 0 0 14 (by decide +kernel) rfl rfl ?_
    refine zCallV 12 zcls12 mX12_look 135 0 0 0 _ _ 17 [] [] okX12_look mlX12_135 imX12_look seX12_look (by decide +kernel) rfl rfl (Nat.le_of_ble_eq_true rfl) rfl rfl (Mod_0 S0_) (zC.mono F ?_)
    rintro _ _ ⟨x4, I5, rfl, rfl, F⟩
    change zV G (d + 1) mX12_sum kc ks 17 [(0, .ref (m)), (1, .int (l1))] [.int (x4)] (I5, J, R, K, n) Q
    refine zBipush 43 43 19 (by decide +kernel) rfl (by decide) ?_
    refine zIcmp_eq 12 31 22 (by decide +kernel) rfl rfl ⟨fun q6 => ?_, fun q6 => ?_⟩
    · replace F := F.1 q6
      refine zAload_n 0 0 32 (by decide +kernel) rfl rfl ?_
      refine zCallV 12 zcls12 mX12_look 135 0 0 0 _ _ 35 [] [] okX12_look mlX12_135 imX12_look seX12_look (by decide +kernel) rfl rfl (Nat.le_of_ble_eq_true rfl) rfl rfl (Mod_0 S0_) (zC.mono F ?_)
      rintro _ _ ⟨x7, I8, rfl, rfl, F⟩
      change zV G (d + 1) mX12_sum kc ks 35 [(0, .ref (m)), (1, .int (l1))] [.int (x7)] (I8, J, R, K, n) Q
      refine zBipush 43 43 37 (by decide +kernel) rfl (by decide) ?_
      suffices KK : zV G (d + 1) mX12_sum kc ks 45 [(0, .ref (m)), (1, .int (l1))] [.int ((if x7 = 43 then 1 else 0))] (I8, J, R, K, n) Q by
        refine zIcmp_ne 7 44 40 (by decide +kernel) rfl rfl ⟨fun q9 => ?_, fun q9 => ?_⟩
        · refine zIconst 0 0 45 (by decide +kernel) rfl (by decide) ?_
          exact zTop (by rw [if_neg q9]) KK
        · refine zIconst 1 1 41 (by decide +kernel) rfl (by decide) ?_
          refine zGoto 4 45 (by decide +kernel) rfl ?_
          exact zTop (by rw [if_pos q9]) KK
      refine zIstore_n 2 [(2, .int ((if x7 = 43 then 1 else 0))), (0, .ref (m)), (1, .int (l1))] 46 (by decide +kernel) rfl (by decide) rfl ?_
      refine zAload_n 0 1 47 (by decide +kernel) rfl rfl ?_
      refine zDup 48 (by decide +kernel) rfl rfl ?_
      refine gf12_10 116 51 (by decide +kernel) rfl flX12_116 (Mod_0 S0_) ?_
      refine zIconst 1 1 52 (by decide +kernel) rfl (by decide) ?_
      refine zIadd 53 (by decide +kernel) rfl ?_
      refine pf12_10 116 56 (by decide +kernel) rfl flX12_116 (Mod_0 S0_) ?_
      replace F := F _ rfl
      generalize zU I8 m 10 ((I8 m 10) + 1) = I10 at F ⊢
      refine zAload_n 0 1 57 (by decide +kernel) rfl rfl ?_
      refine zCallV 12 zcls12 mX12_term 175 0 0 0 _ _ 60 [] [] okX12_term mlX12_175 imX12_term seX12_term (by decide +kernel) rfl rfl (Nat.le_of_ble_eq_true rfl) rfl rfl (Mod_0 S0_) (zC.mono F ?_)
      rintro _ _ ⟨x11, I12, rfl, rfl, F⟩
      change zV G (d + 1) mX12_sum kc ks 60 [(2, .int ((if x7 = 43 then 1 else 0))), (0, .ref (m)), (1, .int (l1))] [.int (x11)] (I12, J, R, K, n) Q
      refine zI2l 61 (by decide +kernel) rfl ?_
      refine zLstore_n 3 [(3, .long (x11.toInt64)), (2, .int ((if x7 = 43 then 1 else 0))), (0, .ref (m)), (1, .int (l1))] 62 (by decide +kernel) rfl (by decide) rfl ?_
      refine zIload_n 2 1 63 (by decide +kernel) rfl rfl ?_
      suffices KK : zV G (d + 1) mX12_sum kc ks 77 [(3, .long (x11.toInt64)), (2, .int ((if x7 = 43 then 1 else 0))), (0, .ref (m)), (1, .int (l1))] [.long ((if ((if x7 = 43 then 1 else 0) : Int32) = 0 then l1.toInt64 - x11.toInt64 else l1.toInt64 + x11.toInt64))] (I12, J, R, K, n) Q by
        refine zIf_eq 10 73 66 (by decide +kernel) rfl rfl ⟨fun q13 => ?_, fun q13 => ?_⟩
        · refine zIload_n 1 3 74 (by decide +kernel) rfl rfl ?_
          refine zI2l 75 (by decide +kernel) rfl ?_
          refine zLload_n 3 0 76 (by decide +kernel) rfl rfl ?_
          refine zLsub 77 (by decide +kernel) rfl ?_
          exact zTopL (by rw [if_pos q13]) KK
        · refine zIload_n 1 3 67 (by decide +kernel) rfl rfl ?_
          refine zI2l 68 (by decide +kernel) rfl ?_
          refine zLload_n 3 0 69 (by decide +kernel) rfl rfl ?_
          refine zLadd 70 (by decide +kernel) rfl ?_
          refine zGoto 7 77 (by decide +kernel) rfl ?_
          exact zTopL (by rw [if_neg q13]) KK
      refine zCallS mX12_within 171 1 0 0 _ _ 80 [.long ((if ((if x7 = 43 then 1 else 0) : Int32) = 0 then l1.toInt64 - x11.toInt64 else l1.toInt64 + x11.toInt64))] [] okX12_within mlX12_171 smX12_within (by decide +kernel) rfl rfl (Nat.le_of_ble_eq_true rfl) rfl rfl (zC.mono F ?_)
      rintro _ _ ⟨x14, I15, rfl, rfl, F⟩
      change zV G (d + 1) mX12_sum kc ks 80 [(3, .long (x11.toInt64)), (2, .int ((if x7 = 43 then 1 else 0))), (0, .ref (m)), (1, .int (l1))] [.int (x14)] (I15, J, R, K, n) Q
      refine zIstore_n 1 [(1, .int (x14)), (3, .long (x11.toInt64)), (2, .int ((if x7 = 43 then 1 else 0))), (0, .ref (m))] 81 (by decide +kernel) rfl (by decide) rfl ?_
      refine zGoto (-76) 5 (by decide +kernel) rfl ?_
      exact zLoc [3, 0] _ rfl F
    · replace F := F.2 q6
      refine zAload_n 0 0 23 (by decide +kernel) rfl rfl ?_
      refine zCallV 12 zcls12 mX12_look 135 0 0 0 _ _ 26 [] [] okX12_look mlX12_135 imX12_look seX12_look (by decide +kernel) rfl rfl (Nat.le_of_ble_eq_true rfl) rfl rfl (Mod_0 S0_) (zC.mono F ?_)
      rintro _ _ ⟨x16, I17, rfl, rfl, F⟩
      change zV G (d + 1) mX12_sum kc ks 26 [(0, .ref (m)), (1, .int (l1))] [.int (x16)] (I17, J, R, K, n) Q
      refine zBipush 45 45 28 (by decide +kernel) rfl (by decide) ?_
      refine zIcmp_ne 56 84 31 (by decide +kernel) rfl rfl ⟨fun q18 => ?_, fun q18 => ?_⟩
      · replace F := F.2 q18
        refine zIload_n 1 1 85 (by decide +kernel) rfl rfl ?_
        exact zIret rfl (by decide +kernel) F
      · replace F := F.1 q18
        refine zAload_n 0 0 32 (by decide +kernel) rfl rfl ?_
        refine zCallV 12 zcls12 mX12_look 135 0 0 0 _ _ 35 [] [] okX12_look mlX12_135 imX12_look seX12_look (by decide +kernel) rfl rfl (Nat.le_of_ble_eq_true rfl) rfl rfl (Mod_0 S0_) (zC.mono F ?_)
        rintro _ _ ⟨x19, I20, rfl, rfl, F⟩
        change zV G (d + 1) mX12_sum kc ks 35 [(0, .ref (m)), (1, .int (l1))] [.int (x19)] (I20, J, R, K, n) Q
        refine zBipush 43 43 37 (by decide +kernel) rfl (by decide) ?_
        suffices KK : zV G (d + 1) mX12_sum kc ks 45 [(0, .ref (m)), (1, .int (l1))] [.int ((if x19 = 43 then 1 else 0))] (I20, J, R, K, n) Q by
          refine zIcmp_ne 7 44 40 (by decide +kernel) rfl rfl ⟨fun q21 => ?_, fun q21 => ?_⟩
          · refine zIconst 0 0 45 (by decide +kernel) rfl (by decide) ?_
            exact zTop (by rw [if_neg q21]) KK
          · refine zIconst 1 1 41 (by decide +kernel) rfl (by decide) ?_
            refine zGoto 4 45 (by decide +kernel) rfl ?_
            exact zTop (by rw [if_pos q21]) KK
        refine zIstore_n 2 [(2, .int ((if x19 = 43 then 1 else 0))), (0, .ref (m)), (1, .int (l1))] 46 (by decide +kernel) rfl (by decide) rfl ?_
        refine zAload_n 0 1 47 (by decide +kernel) rfl rfl ?_
        refine zDup 48 (by decide +kernel) rfl rfl ?_
        refine gf12_10 116 51 (by decide +kernel) rfl flX12_116 (Mod_0 S0_) ?_
        refine zIconst 1 1 52 (by decide +kernel) rfl (by decide) ?_
        refine zIadd 53 (by decide +kernel) rfl ?_
        refine pf12_10 116 56 (by decide +kernel) rfl flX12_116 (Mod_0 S0_) ?_
        replace F := F _ rfl
        generalize zU I20 m 10 ((I20 m 10) + 1) = I22 at F ⊢
        refine zAload_n 0 1 57 (by decide +kernel) rfl rfl ?_
        refine zCallV 12 zcls12 mX12_term 175 0 0 0 _ _ 60 [] [] okX12_term mlX12_175 imX12_term seX12_term (by decide +kernel) rfl rfl (Nat.le_of_ble_eq_true rfl) rfl rfl (Mod_0 S0_) (zC.mono F ?_)
        rintro _ _ ⟨x23, I24, rfl, rfl, F⟩
        change zV G (d + 1) mX12_sum kc ks 60 [(2, .int ((if x19 = 43 then 1 else 0))), (0, .ref (m)), (1, .int (l1))] [.int (x23)] (I24, J, R, K, n) Q
        refine zI2l 61 (by decide +kernel) rfl ?_
        refine zLstore_n 3 [(3, .long (x23.toInt64)), (2, .int ((if x19 = 43 then 1 else 0))), (0, .ref (m)), (1, .int (l1))] 62 (by decide +kernel) rfl (by decide) rfl ?_
        refine zIload_n 2 1 63 (by decide +kernel) rfl rfl ?_
        suffices KK : zV G (d + 1) mX12_sum kc ks 77 [(3, .long (x23.toInt64)), (2, .int ((if x19 = 43 then 1 else 0))), (0, .ref (m)), (1, .int (l1))] [.long ((if ((if x19 = 43 then 1 else 0) : Int32) = 0 then l1.toInt64 - x23.toInt64 else l1.toInt64 + x23.toInt64))] (I24, J, R, K, n) Q by
          refine zIf_eq 10 73 66 (by decide +kernel) rfl rfl ⟨fun q25 => ?_, fun q25 => ?_⟩
          · refine zIload_n 1 3 74 (by decide +kernel) rfl rfl ?_
            refine zI2l 75 (by decide +kernel) rfl ?_
            refine zLload_n 3 0 76 (by decide +kernel) rfl rfl ?_
            refine zLsub 77 (by decide +kernel) rfl ?_
            exact zTopL (by rw [if_pos q25]) KK
          · refine zIload_n 1 3 67 (by decide +kernel) rfl rfl ?_
            refine zI2l 68 (by decide +kernel) rfl ?_
            refine zLload_n 3 0 69 (by decide +kernel) rfl rfl ?_
            refine zLadd 70 (by decide +kernel) rfl ?_
            refine zGoto 7 77 (by decide +kernel) rfl ?_
            exact zTopL (by rw [if_neg q25]) KK
        refine zCallS mX12_within 171 1 0 0 _ _ 80 [.long ((if ((if x19 = 43 then 1 else 0) : Int32) = 0 then l1.toInt64 - x23.toInt64 else l1.toInt64 + x23.toInt64))] [] okX12_within mlX12_171 smX12_within (by decide +kernel) rfl rfl (Nat.le_of_ble_eq_true rfl) rfl rfl (zC.mono F ?_)
        rintro _ _ ⟨x26, I27, rfl, rfl, F⟩
        change zV G (d + 1) mX12_sum kc ks 80 [(3, .long (x23.toInt64)), (2, .int ((if x19 = 43 then 1 else 0))), (0, .ref (m)), (1, .int (l1))] [.int (x26)] (I27, J, R, K, n) Q
        refine zIstore_n 1 [(1, .int (x26)), (3, .long (x23.toInt64)), (2, .int ((if x19 = 43 then 1 else 0))), (0, .ref (m))] 81 (by decide +kernel) rfl (by decide) rfl ?_
        refine zGoto (-76) 5 (by decide +kernel) rfl ?_
        exact zLoc [3, 0] _ rfl F
set_option maxHeartbeats 2000000 in
theorem wX12_isSign_0 {G : zG} {d kc ks : Nat} {I : Nat → Nat → Int32} {J : Nat → Nat → Int64} {R : Nat → Nat → Option Nat} {K : Nat → Nat × Nat} {n : Nat} {Q : Option Value → zH → Prop}  (p0 : Int32) (F : Q (some (.int ((if p0 = 61 then 1 else (if p0 = 60 then 1 else (if p0 = 62 then 1 else 0)))))) (I, J, R, K, n)) : zV G (d + 1) mX12_isSign kc ks 0 [(0, .int (p0))] [] (I, J, R, K, n) Q := by
  refine zIload_n 0 0 1 (by decide +kernel) rfl rfl ?_
  refine zBipush 61 61 3 (by decide +kernel) rfl (by decide) ?_
  suffices KK : zV G (d + 1) mX12_isSign kc ks 23 [(0, .int (p0))] [.int ((if p0 = 61 then 1 else (if p0 = 60 then 1 else (if p0 = 62 then 1 else 0))))] (I, J, R, K, n) Q by
    refine zIcmp_eq 15 18 6 (by decide +kernel) rfl rfl ⟨fun q1 => ?_, fun q1 => ?_⟩
    · refine zIconst 1 1 19 (by decide +kernel) rfl (by decide) ?_
      refine zGoto 4 23 (by decide +kernel) rfl ?_
      exact zTop (by rw [if_pos q1]) KK
    · refine zIload_n 0 0 7 (by decide +kernel) rfl rfl ?_
      refine zBipush 60 60 9 (by decide +kernel) rfl (by decide) ?_
      refine zIcmp_eq 9 18 12 (by decide +kernel) rfl rfl ⟨fun q2 => ?_, fun q2 => ?_⟩
      · refine zIconst 1 1 19 (by decide +kernel) rfl (by decide) ?_
        refine zGoto 4 23 (by decide +kernel) rfl ?_
        exact zTop (by rw [if_neg q1, if_pos q2]) KK
      · refine zIload_n 0 0 13 (by decide +kernel) rfl rfl ?_
        refine zBipush 62 62 15 (by decide +kernel) rfl (by decide) ?_
        refine zIcmp_ne 7 22 18 (by decide +kernel) rfl rfl ⟨fun q3 => ?_, fun q3 => ?_⟩
        · refine zIconst 0 0 23 (by decide +kernel) rfl (by decide) ?_
          exact zTop (by rw [if_neg q1, if_neg q2, if_neg q3]) KK
        · refine zIconst 1 1 19 (by decide +kernel) rfl (by decide) ?_
          refine zGoto 4 23 (by decide +kernel) rfl ?_
          exact zTop (by rw [if_neg q1, if_neg q2, if_pos q3]) KK
  exact zZret .boolean rfl (zNarZ (zOrIte (Or.inr rfl) (zOrIte (Or.inr rfl) (zOrIte (Or.inr rfl) (Or.inl rfl))))) (by decide +kernel) F
set_option maxHeartbeats 2000000 in
theorem wX12_compares_0 {G : zG} {d kc ks : Nat} {I : Nat → Nat → Int32} {J : Nat → Nat → Int64} {R : Nat → Nat → Option Nat} {K : Nat → Nat × Nat} {n : Nat} {Q : Option Value → zH → Prop} (m t c : Nat) (S0_ : hMod G R K n m t c) (p1 p2 : Int32) (F : ((p1 = 0 → zC G d mX12_sum 0 0 [.ref (m)] (I, J, R, K, n) (fun r h => ∃ (x2 : Int32) (I3 : Nat → Nat → Int32), r = some (.int x2) ∧ h = (I3, J, R, K, n) ∧ (((I3 m 11 : Int32) = (-1) → zC G d mX12_look 0 0 [.ref (m)] (I3, J, R, K, n) (fun r h => ∃ (x5 : Int32) (I6 : Nat → Nat → Int32), r = some (.int x5) ∧ h = (I6, J, R, K, n) ∧ zC G d mX12_isSign 0 0 [.int (x5)] (I6, J, R, K, n) (fun r h => ∃ (x7 : Int32) (I8 : Nat → Nat → Int32), r = some (.int x7) ∧ h = (I8, J, R, K, n) ∧ ((x7 = 0 → zC G d mX12_fails 0 0 [.ref (m)] (I8, J, R, K, n) (fun r h => ∃ (x18 : Int32) (I19 : Nat → Nat → Int32), r = some (.int x18) ∧ h = (I19, J, R, K, n) ∧ ((x18 = 0 ∨ x18 = 1) ∧ Q (some (.int (x18))) (I19, J, R, K, n)))) ∧ (¬ (x7 = 0) → (∀ I10 : Nat → Nat → Int32, I10 = zU I8 m 10 ((I8 m 10) + 1) → zC G d mX12_sum 0 0 [.ref (m)] (I10, J, R, K, n) (fun r h => ∃ (x11 : Int32) (I12 : Nat → Nat → Int32), r = some (.int x11) ∧ h = (I12, J, R, K, n) ∧ Q (some (.int ((if x5 = 61 then (if x2 = x11 then 1 else 0) else (if x5 = 60 then (if x11 ≤ x2 then 0 else 1) else (if x2 ≤ x11 then 0 else 1)))))) (I12, J, R, K, n)))))))) ∧ (¬ ((I3 m 11 : Int32) = (-1)) → Q (some (.int (0))) (I3, J, R, K, n))))) ∧ (¬ (p1 = 0) → (((I m 11 : Int32) = (-1) → zC G d mX12_look 0 0 [.ref (m)] (I, J, R, K, n) (fun r h => ∃ (x21 : Int32) (I22 : Nat → Nat → Int32), r = some (.int x21) ∧ h = (I22, J, R, K, n) ∧ zC G d mX12_isSign 0 0 [.int (x21)] (I22, J, R, K, n) (fun r h => ∃ (x23 : Int32) (I24 : Nat → Nat → Int32), r = some (.int x23) ∧ h = (I24, J, R, K, n) ∧ ((x23 = 0 → zC G d mX12_fails 0 0 [.ref (m)] (I24, J, R, K, n) (fun r h => ∃ (x34 : Int32) (I35 : Nat → Nat → Int32), r = some (.int x34) ∧ h = (I35, J, R, K, n) ∧ ((x34 = 0 ∨ x34 = 1) ∧ Q (some (.int (x34))) (I35, J, R, K, n)))) ∧ (¬ (x23 = 0) → (∀ I26 : Nat → Nat → Int32, I26 = zU I24 m 10 ((I24 m 10) + 1) → zC G d mX12_sum 0 0 [.ref (m)] (I26, J, R, K, n) (fun r h => ∃ (x27 : Int32) (I28 : Nat → Nat → Int32), r = some (.int x27) ∧ h = (I28, J, R, K, n) ∧ Q (some (.int ((if x21 = 61 then (if p2 = x27 then 1 else 0) else (if x21 = 60 then (if x27 ≤ p2 then 0 else 1) else (if p2 ≤ x27 then 0 else 1)))))) (I28, J, R, K, n)))))))) ∧ (¬ ((I m 11 : Int32) = (-1)) → Q (some (.int (0))) (I, J, R, K, n)))))) : zV G (d + 1) mX12_compares kc ks 0 [(0, .ref (m)), (1, .int (p1)), (2, .int (p2))] [] (I, J, R, K, n) Q := by
  refine zIload_n 1 1 1 (by decide +kernel) rfl rfl ?_
  refine zIf_eq 7 8 4 (by decide +kernel) rfl rfl ⟨fun q1 => ?_, fun q1 => ?_⟩
  · replace F := F.1 q1
    refine zAload_n 0 0 9 (by decide +kernel) rfl rfl ?_
    refine zCallV 12 zcls12 mX12_sum 158 0 0 0 _ _ 12 [] [] okX12_sum mlX12_158 imX12_sum seX12_sum (by decide +kernel) rfl rfl (Nat.le_of_ble_eq_true rfl) rfl rfl (Mod_0 S0_) (zC.mono F ?_)
    rintro _ _ ⟨x2, I3, rfl, rfl, F⟩
    change zV G (d + 1) mX12_compares kc ks 12 [(0, .ref (m)), (1, .int (p1)), (2, .int (p2))] [.int (x2)] (I3, J, R, K, n) Q
    refine zIstore_n 3 [(3, .int (x2)), (0, .ref (m)), (1, .int (p1)), (2, .int (p2))] 13 (by decide +kernel) rfl (by decide) rfl ?_
    refine zAload_n 0 1 14 (by decide +kernel) rfl rfl ?_
    refine gf12_11 125 17 (by decide +kernel) rfl flX12_125 (Mod_0 S0_) ?_
    refine zIconst (-1) (-1) 18 (by decide +kernel) rfl (by decide) ?_
    refine zIcmp_eq 5 23 21 (by decide +kernel) rfl rfl ⟨fun q4 => ?_, fun q4 => ?_⟩
    · replace F := F.1 q4
      refine zAload_n 0 1 24 (by decide +kernel) rfl rfl ?_
      refine zCallV 12 zcls12 mX12_look 135 0 0 0 _ _ 27 [] [] okX12_look mlX12_135 imX12_look seX12_look (by decide +kernel) rfl rfl (Nat.le_of_ble_eq_true rfl) rfl rfl (Mod_0 S0_) (zC.mono F ?_)
      rintro _ _ ⟨x5, I6, rfl, rfl, F⟩
      change zV G (d + 1) mX12_compares kc ks 27 [(3, .int (x2)), (0, .ref (m)), (1, .int (p1)), (2, .int (p2))] [.int (x5)] (I6, J, R, K, n) Q
      refine zIstore 4 [(4, .int (x5)), (3, .int (x2)), (0, .ref (m)), (1, .int (p1)), (2, .int (p2))] 29 (by decide +kernel) rfl (by decide) rfl ?_
      refine zIload 4 0 31 (by decide +kernel) rfl rfl ?_
      refine zCallS mX12_isSign 178 1 0 0 _ _ 34 [.int (x5)] [] okX12_isSign mlX12_178 smX12_isSign (by decide +kernel) rfl rfl (Nat.le_of_ble_eq_true rfl) rfl rfl (zC.mono F ?_)
      rintro _ _ ⟨x7, I8, rfl, rfl, F⟩
      change zV G (d + 1) mX12_compares kc ks 34 [(4, .int (x5)), (3, .int (x2)), (0, .ref (m)), (1, .int (p1)), (2, .int (p2))] [.int (x7)] (I8, J, R, K, n) Q
      refine zIf_ne 8 42 37 (by decide +kernel) rfl rfl ⟨fun q9 => ?_, fun q9 => ?_⟩
      · replace F := F.2 q9
        refine zAload_n 0 2 43 (by decide +kernel) rfl rfl ?_
        refine zDup 44 (by decide +kernel) rfl rfl ?_
        refine gf12_10 116 47 (by decide +kernel) rfl flX12_116 (Mod_0 S0_) ?_
        refine zIconst 1 1 48 (by decide +kernel) rfl (by decide) ?_
        refine zIadd 49 (by decide +kernel) rfl ?_
        refine pf12_10 116 52 (by decide +kernel) rfl flX12_116 (Mod_0 S0_) ?_
        replace F := F _ rfl
        generalize zU I8 m 10 ((I8 m 10) + 1) = I10 at F ⊢
        refine zAload_n 0 2 53 (by decide +kernel) rfl rfl ?_
        refine zCallV 12 zcls12 mX12_sum 158 0 0 0 _ _ 56 [] [] okX12_sum mlX12_158 imX12_sum seX12_sum (by decide +kernel) rfl rfl (Nat.le_of_ble_eq_true rfl) rfl rfl (Mod_0 S0_) (zC.mono F ?_)
        rintro _ _ ⟨x11, I12, rfl, rfl, F⟩
        change zV G (d + 1) mX12_compares kc ks 56 [(4, .int (x5)), (3, .int (x2)), (0, .ref (m)), (1, .int (p1)), (2, .int (p2))] [.int (x11)] (I12, J, R, K, n) Q
        refine zIstore 5 [(5, .int (x11)), (4, .int (x5)), (3, .int (x2)), (0, .ref (m)), (1, .int (p1)), (2, .int (p2))] 58 (by decide +kernel) rfl (by decide) rfl ?_
        refine zIload 4 1 60 (by decide +kernel) rfl rfl ?_
        refine zBipush 61 61 62 (by decide +kernel) rfl (by decide) ?_
        suffices KK : zV G (d + 1) mX12_compares kc ks 111 [(5, .int (x11)), (4, .int (x5)), (3, .int (x2)), (0, .ref (m)), (1, .int (p1)), (2, .int (p2))] [.int ((if x5 = 61 then (if x2 = x11 then 1 else 0) else (if x5 = 60 then (if x11 ≤ x2 then 0 else 1) else (if x2 ≤ x11 then 0 else 1))))] (I12, J, R, K, n) Q by
          refine zIcmp_ne 17 79 65 (by decide +kernel) rfl rfl ⟨fun q13 => ?_, fun q13 => ?_⟩
          · refine zIload 4 1 81 (by decide +kernel) rfl rfl ?_
            refine zBipush 60 60 83 (by decide +kernel) rfl (by decide) ?_
            refine zIcmp_ne 17 100 86 (by decide +kernel) rfl rfl ⟨fun q14 => ?_, fun q14 => ?_⟩
            · refine zIload_n 3 2 101 (by decide +kernel) rfl rfl ?_
              refine zIload 5 0 103 (by decide +kernel) rfl rfl ?_
              refine zIcmp_le 7 110 106 (by decide +kernel) rfl rfl ⟨fun q15 => ?_, fun q15 => ?_⟩
              · refine zIconst 0 0 111 (by decide +kernel) rfl (by decide) ?_
                exact zTop (by rw [if_neg q13, if_neg q14, if_pos q15]) KK
              · refine zIconst 1 1 107 (by decide +kernel) rfl (by decide) ?_
                refine zGoto 4 111 (by decide +kernel) rfl ?_
                exact zTop (by rw [if_neg q13, if_neg q14, if_neg q15]) KK
            · refine zIload_n 3 2 87 (by decide +kernel) rfl rfl ?_
              refine zIload 5 0 89 (by decide +kernel) rfl rfl ?_
              refine zIcmp_ge 7 96 92 (by decide +kernel) rfl rfl ⟨fun q16 => ?_, fun q16 => ?_⟩
              · refine zIconst 0 0 97 (by decide +kernel) rfl (by decide) ?_
                refine zGoto 14 111 (by decide +kernel) rfl ?_
                exact zTop (by rw [if_neg q13, if_pos q14, if_pos q16]) KK
              · refine zIconst 1 1 93 (by decide +kernel) rfl (by decide) ?_
                refine zGoto 18 111 (by decide +kernel) rfl ?_
                exact zTop (by rw [if_neg q13, if_pos q14, if_neg q16]) KK
          · refine zIload_n 3 2 66 (by decide +kernel) rfl rfl ?_
            refine zIload 5 0 68 (by decide +kernel) rfl rfl ?_
            refine zIcmp_ne 7 75 71 (by decide +kernel) rfl rfl ⟨fun q17 => ?_, fun q17 => ?_⟩
            · refine zIconst 0 0 76 (by decide +kernel) rfl (by decide) ?_
              refine zGoto 35 111 (by decide +kernel) rfl ?_
              exact zTop (by rw [if_pos q13, if_neg q17]) KK
            · refine zIconst 1 1 72 (by decide +kernel) rfl (by decide) ?_
              refine zGoto 39 111 (by decide +kernel) rfl ?_
              exact zTop (by rw [if_pos q13, if_pos q17]) KK
        exact zZret .boolean rfl (zNarZ (zOrIte (zOrIte (Or.inr rfl) (Or.inl rfl)) (zOrIte (zOrIte (Or.inl rfl) (Or.inr rfl)) (zOrIte (Or.inl rfl) (Or.inr rfl))))) (by decide +kernel) F
      · replace F := F.1 q9
        refine zAload_n 0 2 38 (by decide +kernel) rfl rfl ?_
        refine zCallV 12 zcls12 mX12_fails 131 0 0 0 _ _ 41 [] [] okX12_fails mlX12_131 imX12_fails seX12_fails (by decide +kernel) rfl rfl (Nat.le_of_ble_eq_true rfl) rfl rfl (Mod_0 S0_) (zC.mono F ?_)
        rintro _ _ ⟨x18, I19, rfl, rfl, F⟩
        change zV G (d + 1) mX12_compares kc ks 41 [(4, .int (x5)), (3, .int (x2)), (0, .ref (m)), (1, .int (p1)), (2, .int (p2))] [.int (x18)] (I19, J, R, K, n) Q
        exact zZret .boolean rfl (zNarZ F.1) (by decide +kernel) F.2
    · replace F := F.2 q4
      refine zIconst 0 0 22 (by decide +kernel) rfl (by decide) ?_
      exact zZret .boolean rfl (zNarZ (Or.inl rfl)) (by decide +kernel) F
  · replace F := F.2 q1
    refine zIload_n 2 2 5 (by decide +kernel) rfl rfl ?_
    refine zGoto 7 12 (by decide +kernel) rfl ?_
    refine zIstore_n 3 [(3, .int (p2)), (0, .ref (m)), (1, .int (p1)), (2, .int (p2))] 13 (by decide +kernel) rfl (by decide) rfl ?_
    refine zAload_n 0 1 14 (by decide +kernel) rfl rfl ?_
    refine gf12_11 125 17 (by decide +kernel) rfl flX12_125 (Mod_0 S0_) ?_
    refine zIconst (-1) (-1) 18 (by decide +kernel) rfl (by decide) ?_
    refine zIcmp_eq 5 23 21 (by decide +kernel) rfl rfl ⟨fun q20 => ?_, fun q20 => ?_⟩
    · replace F := F.1 q20
      refine zAload_n 0 1 24 (by decide +kernel) rfl rfl ?_
      refine zCallV 12 zcls12 mX12_look 135 0 0 0 _ _ 27 [] [] okX12_look mlX12_135 imX12_look seX12_look (by decide +kernel) rfl rfl (Nat.le_of_ble_eq_true rfl) rfl rfl (Mod_0 S0_) (zC.mono F ?_)
      rintro _ _ ⟨x21, I22, rfl, rfl, F⟩
      change zV G (d + 1) mX12_compares kc ks 27 [(3, .int (p2)), (0, .ref (m)), (1, .int (p1)), (2, .int (p2))] [.int (x21)] (I22, J, R, K, n) Q
      refine zIstore 4 [(4, .int (x21)), (3, .int (p2)), (0, .ref (m)), (1, .int (p1)), (2, .int (p2))] 29 (by decide +kernel) rfl (by decide) rfl ?_
      refine zIload 4 0 31 (by decide +kernel) rfl rfl ?_
      refine zCallS mX12_isSign 178 1 0 0 _ _ 34 [.int (x21)] [] okX12_isSign mlX12_178 smX12_isSign (by decide +kernel) rfl rfl (Nat.le_of_ble_eq_true rfl) rfl rfl (zC.mono F ?_)
      rintro _ _ ⟨x23, I24, rfl, rfl, F⟩
      change zV G (d + 1) mX12_compares kc ks 34 [(4, .int (x21)), (3, .int (p2)), (0, .ref (m)), (1, .int (p1)), (2, .int (p2))] [.int (x23)] (I24, J, R, K, n) Q
      refine zIf_ne 8 42 37 (by decide +kernel) rfl rfl ⟨fun q25 => ?_, fun q25 => ?_⟩
      · replace F := F.2 q25
        refine zAload_n 0 2 43 (by decide +kernel) rfl rfl ?_
        refine zDup 44 (by decide +kernel) rfl rfl ?_
        refine gf12_10 116 47 (by decide +kernel) rfl flX12_116 (Mod_0 S0_) ?_
        refine zIconst 1 1 48 (by decide +kernel) rfl (by decide) ?_
        refine zIadd 49 (by decide +kernel) rfl ?_
        refine pf12_10 116 52 (by decide +kernel) rfl flX12_116 (Mod_0 S0_) ?_
        replace F := F _ rfl
        generalize zU I24 m 10 ((I24 m 10) + 1) = I26 at F ⊢
        refine zAload_n 0 2 53 (by decide +kernel) rfl rfl ?_
        refine zCallV 12 zcls12 mX12_sum 158 0 0 0 _ _ 56 [] [] okX12_sum mlX12_158 imX12_sum seX12_sum (by decide +kernel) rfl rfl (Nat.le_of_ble_eq_true rfl) rfl rfl (Mod_0 S0_) (zC.mono F ?_)
        rintro _ _ ⟨x27, I28, rfl, rfl, F⟩
        change zV G (d + 1) mX12_compares kc ks 56 [(4, .int (x21)), (3, .int (p2)), (0, .ref (m)), (1, .int (p1)), (2, .int (p2))] [.int (x27)] (I28, J, R, K, n) Q
        refine zIstore 5 [(5, .int (x27)), (4, .int (x21)), (3, .int (p2)), (0, .ref (m)), (1, .int (p1)), (2, .int (p2))] 58 (by decide +kernel) rfl (by decide) rfl ?_
        refine zIload 4 1 60 (by decide +kernel) rfl rfl ?_
        refine zBipush 61 61 62 (by decide +kernel) rfl (by decide) ?_
        suffices KK : zV G (d + 1) mX12_compares kc ks 111 [(5, .int (x27)), (4, .int (x21)), (3, .int (p2)), (0, .ref (m)), (1, .int (p1)), (2, .int (p2))] [.int ((if x21 = 61 then (if p2 = x27 then 1 else 0) else (if x21 = 60 then (if x27 ≤ p2 then 0 else 1) else (if p2 ≤ x27 then 0 else 1))))] (I28, J, R, K, n) Q by
          refine zIcmp_ne 17 79 65 (by decide +kernel) rfl rfl ⟨fun q29 => ?_, fun q29 => ?_⟩
          · refine zIload 4 1 81 (by decide +kernel) rfl rfl ?_
            refine zBipush 60 60 83 (by decide +kernel) rfl (by decide) ?_
            refine zIcmp_ne 17 100 86 (by decide +kernel) rfl rfl ⟨fun q30 => ?_, fun q30 => ?_⟩
            · refine zIload_n 3 2 101 (by decide +kernel) rfl rfl ?_
              refine zIload 5 0 103 (by decide +kernel) rfl rfl ?_
              refine zIcmp_le 7 110 106 (by decide +kernel) rfl rfl ⟨fun q31 => ?_, fun q31 => ?_⟩
              · refine zIconst 0 0 111 (by decide +kernel) rfl (by decide) ?_
                exact zTop (by rw [if_neg q29, if_neg q30, if_pos q31]) KK
              · refine zIconst 1 1 107 (by decide +kernel) rfl (by decide) ?_
                refine zGoto 4 111 (by decide +kernel) rfl ?_
                exact zTop (by rw [if_neg q29, if_neg q30, if_neg q31]) KK
            · refine zIload_n 3 2 87 (by decide +kernel) rfl rfl ?_
              refine zIload 5 0 89 (by decide +kernel) rfl rfl ?_
              refine zIcmp_ge 7 96 92 (by decide +kernel) rfl rfl ⟨fun q32 => ?_, fun q32 => ?_⟩
              · refine zIconst 0 0 97 (by decide +kernel) rfl (by decide) ?_
                refine zGoto 14 111 (by decide +kernel) rfl ?_
                exact zTop (by rw [if_neg q29, if_pos q30, if_pos q32]) KK
              · refine zIconst 1 1 93 (by decide +kernel) rfl (by decide) ?_
                refine zGoto 18 111 (by decide +kernel) rfl ?_
                exact zTop (by rw [if_neg q29, if_pos q30, if_neg q32]) KK
          · refine zIload_n 3 2 66 (by decide +kernel) rfl rfl ?_
            refine zIload 5 0 68 (by decide +kernel) rfl rfl ?_
            refine zIcmp_ne 7 75 71 (by decide +kernel) rfl rfl ⟨fun q33 => ?_, fun q33 => ?_⟩
            · refine zIconst 0 0 76 (by decide +kernel) rfl (by decide) ?_
              refine zGoto 35 111 (by decide +kernel) rfl ?_
              exact zTop (by rw [if_pos q29, if_neg q33]) KK
            · refine zIconst 1 1 72 (by decide +kernel) rfl (by decide) ?_
              refine zGoto 39 111 (by decide +kernel) rfl ?_
              exact zTop (by rw [if_pos q29, if_pos q33]) KK
        exact zZret .boolean rfl (zNarZ (zOrIte (zOrIte (Or.inr rfl) (Or.inl rfl)) (zOrIte (zOrIte (Or.inl rfl) (Or.inr rfl)) (zOrIte (Or.inl rfl) (Or.inr rfl))))) (by decide +kernel) F
      · replace F := F.1 q25
        refine zAload_n 0 2 38 (by decide +kernel) rfl rfl ?_
        refine zCallV 12 zcls12 mX12_fails 131 0 0 0 _ _ 41 [] [] okX12_fails mlX12_131 imX12_fails seX12_fails (by decide +kernel) rfl rfl (Nat.le_of_ble_eq_true rfl) rfl rfl (Mod_0 S0_) (zC.mono F ?_)
        rintro _ _ ⟨x34, I35, rfl, rfl, F⟩
        change zV G (d + 1) mX12_compares kc ks 41 [(4, .int (x21)), (3, .int (p2)), (0, .ref (m)), (1, .int (p1)), (2, .int (p2))] [.int (x34)] (I35, J, R, K, n) Q
        exact zZret .boolean rfl (zNarZ F.1) (by decide +kernel) F.2
    · replace F := F.2 q20
      refine zIconst 0 0 22 (by decide +kernel) rfl (by decide) ?_
      exact zZret .boolean rfl (zNarZ (Or.inl rfl)) (by decide +kernel) F
set_option maxHeartbeats 2000000 in
theorem wX12_unit_0 {G : zG} {d kc ks : Nat} {I : Nat → Nat → Int32} {J : Nat → Nat → Int64} {R : Nat → Nat → Option Nat} {K : Nat → Nat × Nat} {n : Nat} {Q : Option Value → zH → Prop} (m t c : Nat) (S0_ : hMod G R K n m t c) (F : zC G d mX12_look 0 0 [.ref (m)] (I, J, R, K, n) (fun r h => ∃ (x1 : Int32) (I2 : Nat → Nat → Int32), r = some (.int x1) ∧ h = (I2, J, R, K, n) ∧ ((x1 = 33 → zC G d mX12_goesIn 0 0 [.ref (m)] (I2, J, R, K, n) (fun r h => ∃ (x16 : Int32) (I17 : Nat → Nat → Int32), r = some (.int x16) ∧ h = (I17, J, R, K, n) ∧ ((x16 = 0 → Q (some (.int (0))) (I17, J, R, K, n)) ∧ (¬ (x16 = 0) → zC G d mX12_unit 0 0 [.ref (m)] (I17, J, R, K, n) (fun r h => ∃ (x19 : Int32) (I20 : Nat → Nat → Int32), r = some (.int x19) ∧ h = (I20, J, R, K, n) ∧ (∀ I21 : Nat → Nat → Int32, I21 = zU I20 m 12 ((I20 m 12) - 1) → Q (some (.int ((if x19 = 0 then 1 else 0)))) (I21, J, R, K, n))))))) ∧ (¬ (x1 = 33) → ((x1 = 40 → zC G d mX12_goesIn 0 0 [.ref (m)] (I2, J, R, K, n) (fun r h => ∃ (x7 : Int32) (I8 : Nat → Nat → Int32), r = some (.int x7) ∧ h = (I8, J, R, K, n) ∧ ((x7 = 0 → Q (some (.int (0))) (I8, J, R, K, n)) ∧ (¬ (x7 = 0) → zC G d mX12_condition 0 0 [.ref (m), .int (0), .int (0)] (I8, J, R, K, n) (fun r h => ∃ (x10 : Int32) (I11 : Nat → Nat → Int32), r = some (.int x10) ∧ h = (I11, J, R, K, n) ∧ zC G d mX12_takes 0 0 [.ref (m), .int (41)] (I11, J, R, K, n) (fun r h => ∃ (x12 : Int32) (I13 : Nat → Nat → Int32), r = some (.int x12) ∧ h = (I13, J, R, K, n) ∧ ((x12 = 0 → Q (some (.int (0))) (I13, J, R, K, n)) ∧ (¬ (x12 = 0) → (∀ I15 : Nat → Nat → Int32, I15 = zU I13 m 12 ((I13 m 12) - 1) → ((x10 = 0 ∨ x10 = 1) ∧ Q (some (.int (x10))) (I15, J, R, K, n))))))))))) ∧ (¬ (x1 = 40) → zC G d mX12_compares 0 0 [.ref (m), .int (0), .int (0)] (I2, J, R, K, n) (fun r h => ∃ (x5 : Int32) (I6 : Nat → Nat → Int32), r = some (.int x5) ∧ h = (I6, J, R, K, n) ∧ ((x5 = 0 ∨ x5 = 1) ∧ Q (some (.int (x5))) (I6, J, R, K, n))))))))) : zV G (d + 1) mX12_unit kc ks 0 [(0, .ref (m))] [] (I, J, R, K, n) Q := by
  refine zAload_n 0 0 1 (by decide +kernel) rfl rfl ?_
  refine zCallV 12 zcls12 mX12_look 135 0 0 0 _ _ 4 [] [] okX12_look mlX12_135 imX12_look seX12_look (by decide +kernel) rfl rfl (Nat.le_of_ble_eq_true rfl) rfl rfl (Mod_0 S0_) (zC.mono F ?_)
  rintro _ _ ⟨x1, I2, rfl, rfl, F⟩
  change zV G (d + 1) mX12_unit kc ks 4 [(0, .ref (m))] [.int (x1)] (I2, J, R, K, n) Q
  refine zIstore_n 1 [(1, .int (x1)), (0, .ref (m))] 5 (by decide +kernel) rfl (by decide) rfl ?_
  refine zIload_n 1 0 6 (by decide +kernel) rfl rfl ?_
  refine zBipush 33 33 8 (by decide +kernel) rfl (by decide) ?_
  refine zIcmp_ne 37 45 11 (by decide +kernel) rfl rfl ⟨fun q3 => ?_, fun q3 => ?_⟩
  · replace F := F.2 q3
    refine zIload_n 1 0 46 (by decide +kernel) rfl rfl ?_
    refine zBipush 40 40 48 (by decide +kernel) rfl (by decide) ?_
    refine zIcmp_ne 42 90 51 (by decide +kernel) rfl rfl ⟨fun q4 => ?_, fun q4 => ?_⟩
    · replace F := F.2 q4
      refine zAload_n 0 1 91 (by decide +kernel) rfl rfl ?_
      refine zIconst 0 0 92 (by decide +kernel) rfl (by decide) ?_
      refine zIconst 0 0 93 (by decide +kernel) rfl (by decide) ?_
      refine zCallV 12 zcls12 mX12_compares 188 2 0 0 _ _ 96 [.int (0), .int (0)] [] okX12_compares mlX12_188 imX12_compares seX12_compares (by decide +kernel) rfl rfl (Nat.le_of_ble_eq_true rfl) rfl rfl (Mod_0 S0_) (zC.mono F ?_)
      rintro _ _ ⟨x5, I6, rfl, rfl, F⟩
      change zV G (d + 1) mX12_unit kc ks 96 [(1, .int (x1)), (0, .ref (m))] [.int (x5)] (I6, J, R, K, n) Q
      exact zZret .boolean rfl (zNarZ F.1) (by decide +kernel) F.2
    · replace F := F.1 q4
      refine zAload_n 0 1 52 (by decide +kernel) rfl rfl ?_
      refine zCallV 12 zcls12 mX12_goesIn 155 0 0 0 _ _ 55 [] [] okX12_goesIn mlX12_155 imX12_goesIn seX12_goesIn (by decide +kernel) rfl rfl (Nat.le_of_ble_eq_true rfl) rfl rfl (Mod_0 S0_) (zC.mono F ?_)
      rintro _ _ ⟨x7, I8, rfl, rfl, F⟩
      change zV G (d + 1) mX12_unit kc ks 55 [(1, .int (x1)), (0, .ref (m))] [.int (x7)] (I8, J, R, K, n) Q
      refine zIf_ne 5 60 58 (by decide +kernel) rfl rfl ⟨fun q9 => ?_, fun q9 => ?_⟩
      · replace F := F.2 q9
        refine zAload_n 0 1 61 (by decide +kernel) rfl rfl ?_
        refine zIconst 0 0 62 (by decide +kernel) rfl (by decide) ?_
        refine zIconst 0 0 63 (by decide +kernel) rfl (by decide) ?_
        refine zCallV 12 zcls12 mX12_condition 184 2 0 0 _ _ 66 [.int (0), .int (0)] [] okX12_condition mlX12_184 imX12_condition seX12_condition (by decide +kernel) rfl rfl (Nat.le_of_ble_eq_true rfl) rfl rfl (Mod_0 S0_) (zC.mono F ?_)
        rintro _ _ ⟨x10, I11, rfl, rfl, F⟩
        change zV G (d + 1) mX12_unit kc ks 66 [(1, .int (x1)), (0, .ref (m))] [.int (x10)] (I11, J, R, K, n) Q
        refine zIstore_n 2 [(2, .int (x10)), (1, .int (x1)), (0, .ref (m))] 67 (by decide +kernel) rfl (by decide) rfl ?_
        refine zAload_n 0 2 68 (by decide +kernel) rfl rfl ?_
        refine zBipush 41 41 70 (by decide +kernel) rfl (by decide) ?_
        refine zCallV 12 zcls12 mX12_takes 161 1 0 0 _ _ 73 [.int (41)] [] okX12_takes mlX12_161 imX12_takes seX12_takes (by decide +kernel) rfl rfl (Nat.le_of_ble_eq_true rfl) rfl rfl (Mod_0 S0_) (zC.mono F ?_)
        rintro _ _ ⟨x12, I13, rfl, rfl, F⟩
        change zV G (d + 1) mX12_unit kc ks 73 [(2, .int (x10)), (1, .int (x1)), (0, .ref (m))] [.int (x12)] (I13, J, R, K, n) Q
        refine zIf_ne 5 78 76 (by decide +kernel) rfl rfl ⟨fun q14 => ?_, fun q14 => ?_⟩
        · replace F := F.2 q14
          refine zAload_n 0 2 79 (by decide +kernel) rfl rfl ?_
          refine zDup 80 (by decide +kernel) rfl rfl ?_
          refine gf12_12 128 83 (by decide +kernel) rfl flX12_128 (Mod_0 S0_) ?_
          refine zIconst 1 1 84 (by decide +kernel) rfl (by decide) ?_
          refine zIsub 85 (by decide +kernel) rfl ?_
          refine pf12_12 128 88 (by decide +kernel) rfl flX12_128 (Mod_0 S0_) ?_
          replace F := F _ rfl
          generalize zU I13 m 12 ((I13 m 12) - 1) = I15 at F ⊢
          refine zIload_n 2 0 89 (by decide +kernel) rfl rfl ?_
          exact zZret .boolean rfl (zNarZ F.1) (by decide +kernel) F.2
        · replace F := F.1 q14
          refine zIconst 0 0 77 (by decide +kernel) rfl (by decide) ?_
          exact zZret .boolean rfl (zNarZ (Or.inl rfl)) (by decide +kernel) F
      · replace F := F.1 q9
        refine zIconst 0 0 59 (by decide +kernel) rfl (by decide) ?_
        exact zZret .boolean rfl (zNarZ (Or.inl rfl)) (by decide +kernel) F
  · replace F := F.1 q3
    refine zAload_n 0 1 12 (by decide +kernel) rfl rfl ?_
    refine zCallV 12 zcls12 mX12_goesIn 155 0 0 0 _ _ 15 [] [] okX12_goesIn mlX12_155 imX12_goesIn seX12_goesIn (by decide +kernel) rfl rfl (Nat.le_of_ble_eq_true rfl) rfl rfl (Mod_0 S0_) (zC.mono F ?_)
    rintro _ _ ⟨x16, I17, rfl, rfl, F⟩
    change zV G (d + 1) mX12_unit kc ks 15 [(1, .int (x1)), (0, .ref (m))] [.int (x16)] (I17, J, R, K, n) Q
    refine zIf_ne 5 20 18 (by decide +kernel) rfl rfl ⟨fun q18 => ?_, fun q18 => ?_⟩
    · replace F := F.2 q18
      refine zAload_n 0 1 21 (by decide +kernel) rfl rfl ?_
      refine zCallV 12 zcls12 mX12_unit 181 0 0 0 _ _ 24 [] [] okX12_unit mlX12_181 imX12_unit seX12_unit (by decide +kernel) rfl rfl (Nat.le_of_ble_eq_true rfl) rfl rfl (Mod_0 S0_) (zC.mono F ?_)
      rintro _ _ ⟨x19, I20, rfl, rfl, F⟩
      change zV G (d + 1) mX12_unit kc ks 24 [(1, .int (x1)), (0, .ref (m))] [.int (x19)] (I20, J, R, K, n) Q
      refine zIstore_n 2 [(2, .int (x19)), (1, .int (x1)), (0, .ref (m))] 25 (by decide +kernel) rfl (by decide) rfl ?_
      refine zAload_n 0 2 26 (by decide +kernel) rfl rfl ?_
      refine zDup 27 (by decide +kernel) rfl rfl ?_
      refine gf12_12 128 30 (by decide +kernel) rfl flX12_128 (Mod_0 S0_) ?_
      refine zIconst 1 1 31 (by decide +kernel) rfl (by decide) ?_
      refine zIsub 32 (by decide +kernel) rfl ?_
      refine pf12_12 128 35 (by decide +kernel) rfl flX12_128 (Mod_0 S0_) ?_
      replace F := F _ rfl
      generalize zU I20 m 12 ((I20 m 12) - 1) = I21 at F ⊢
      refine zIload_n 2 0 36 (by decide +kernel) rfl rfl ?_
      suffices KK : zV G (d + 1) mX12_unit kc ks 44 [(2, .int (x19)), (1, .int (x1)), (0, .ref (m))] [.int ((if x19 = 0 then 1 else 0))] (I21, J, R, K, n) Q by
        refine zIf_ne 7 43 39 (by decide +kernel) rfl rfl ⟨fun q22 => ?_, fun q22 => ?_⟩
        · refine zIconst 0 0 44 (by decide +kernel) rfl (by decide) ?_
          exact zTop (by rw [if_neg q22]) KK
        · refine zIconst 1 1 40 (by decide +kernel) rfl (by decide) ?_
          refine zGoto 4 44 (by decide +kernel) rfl ?_
          exact zTop (by rw [if_pos q22]) KK
      exact zZret .boolean rfl (zNarZ (zOrIte (Or.inr rfl) (Or.inl rfl))) (by decide +kernel) F
    · replace F := F.1 q18
      refine zIconst 0 0 19 (by decide +kernel) rfl (by decide) ?_
      exact zZret .boolean rfl (zNarZ (Or.inl rfl)) (by decide +kernel) F
set_option maxHeartbeats 2000000 in
theorem wX12_part_0 {G : zG} {d kc ks : Nat} {I : Nat → Nat → Int32} {J : Nat → Nat → Int64} {R : Nat → Nat → Option Nat} {K : Nat → Nat × Nat} {n : Nat} {Q : Option Value → zH → Prop} (m t c : Nat) (S0_ : hMod G R K n m t c) (p1 p2 : Int32) (F : ((p1 = 0 → zC G d mX12_unit 0 0 [.ref (m)] (I, J, R, K, n) (fun r h => ∃ (x2 : Int32) (I3 : Nat → Nat → Int32), r = some (.int x2) ∧ h = (I3, J, R, K, n) ∧ zV G (d + 1) mX12_part kc ks 18 [(0, .ref (m)), (1, .int (p1)), (2, .int (p2)), (3, .int (x2))] [] (I3, J, R, K, n) Q)) ∧ (¬ (p1 = 0) → zC G d mX12_compares 0 0 [.ref (m), .int (1), .int (p2)] (I, J, R, K, n) (fun r h => ∃ (x4 : Int32) (I5 : Nat → Nat → Int32), r = some (.int x4) ∧ h = (I5, J, R, K, n) ∧ zV G (d + 1) mX12_part kc ks 18 [(0, .ref (m)), (1, .int (p1)), (2, .int (p2)), (3, .int (x4))] [] (I5, J, R, K, n) Q)))) : zV G (d + 1) mX12_part kc ks 0 [(0, .ref (m)), (1, .int (p1)), (2, .int (p2))] [] (I, J, R, K, n) Q := by
  refine zIload_n 1 1 1 (by decide +kernel) rfl rfl ?_
  refine zIf_eq 12 13 4 (by decide +kernel) rfl rfl ⟨fun q1 => ?_, fun q1 => ?_⟩
  · replace F := F.1 q1
    refine zAload_n 0 0 14 (by decide +kernel) rfl rfl ?_
    refine zCallV 12 zcls12 mX12_unit 181 0 0 0 _ _ 17 [] [] okX12_unit mlX12_181 imX12_unit seX12_unit (by decide +kernel) rfl rfl (Nat.le_of_ble_eq_true rfl) rfl rfl (Mod_0 S0_) (zC.mono F ?_)
    rintro _ _ ⟨x2, I3, rfl, rfl, F⟩
    change zV G (d + 1) mX12_part kc ks 17 [(0, .ref (m)), (1, .int (p1)), (2, .int (p2))] [.int (x2)] (I3, J, R, K, n) Q
    refine zIstore_n 3 [(3, .int (x2)), (0, .ref (m)), (1, .int (p1)), (2, .int (p2))] 18 (by decide +kernel) rfl (by decide) rfl ?_
    exact zLoc [1, 2, 3, 0] _ rfl F
  · replace F := F.2 q1
    refine zAload_n 0 0 5 (by decide +kernel) rfl rfl ?_
    refine zIconst 1 1 6 (by decide +kernel) rfl (by decide) ?_
    refine zIload_n 2 2 7 (by decide +kernel) rfl rfl ?_
    refine zCallV 12 zcls12 mX12_compares 188 2 0 0 _ _ 10 [.int (1), .int (p2)] [] okX12_compares mlX12_188 imX12_compares seX12_compares (by decide +kernel) rfl rfl (Nat.le_of_ble_eq_true rfl) rfl rfl (Mod_0 S0_) (zC.mono F ?_)
    rintro _ _ ⟨x4, I5, rfl, rfl, F⟩
    change zV G (d + 1) mX12_part kc ks 10 [(0, .ref (m)), (1, .int (p1)), (2, .int (p2))] [.int (x4)] (I5, J, R, K, n) Q
    refine zGoto 7 17 (by decide +kernel) rfl ?_
    refine zIstore_n 3 [(3, .int (x4)), (0, .ref (m)), (1, .int (p1)), (2, .int (p2))] 18 (by decide +kernel) rfl (by decide) rfl ?_
    exact zLoc [1, 2, 3, 0] _ rfl F
set_option maxHeartbeats 2000000 in
theorem wX12_part_18 {G : zG} {d kc ks : Nat} {I : Nat → Nat → Int32} {J : Nat → Nat → Int64} {R : Nat → Nat → Option Nat} {K : Nat → Nat × Nat} {n : Nat} {Q : Option Value → zH → Prop} (m t c : Nat) (S0_ : hMod G R K n m t c) (l1 l2 l3 : Int32) (F : (((I m 11 : Int32) = (-1) → zC G d mX12_look 0 0 [.ref (m)] (I, J, R, K, n) (fun r h => ∃ (x7 : Int32) (I8 : Nat → Nat → Int32), r = some (.int x7) ∧ h = (I8, J, R, K, n) ∧ ((x7 = 38 → (∀ I10 : Nat → Nat → Int32, I10 = zU I8 m 10 ((I8 m 10) + 1) → zC G d mX12_unit 0 0 [.ref (m)] (I10, J, R, K, n) (fun r h => ∃ (x11 : Int32) (I12 : Nat → Nat → Int32), r = some (.int x11) ∧ h = (I12, J, R, K, n) ∧ zV G (d + 1) mX12_part kc ks 18 [(0, .ref (m)), (1, .int (l1)), (2, .int (l2)), (3, .int ((if l3 = 0 then 0 else (if x11 = 0 then 0 else 1))))] [] (I12, J, R, K, n) Q))) ∧ (¬ (x7 = 38) → ((l3 = 0 ∨ l3 = 1) ∧ Q (some (.int (l3))) (I8, J, R, K, n)))))) ∧ (¬ ((I m 11 : Int32) = (-1)) → ((l3 = 0 ∨ l3 = 1) ∧ Q (some (.int (l3))) (I, J, R, K, n))))) : zV G (d + 1) mX12_part kc ks 18 [(0, .ref (m)), (1, .int (l1)), (2, .int (l2)), (3, .int (l3))] [] (I, J, R, K, n) Q := by
  refine zAload_n 0 0 19 (by decide +kernel) rfl rfl ?_
  refine gf12_11 125 22 (by decide +kernel) rfl flX12_125 (Mod_0 S0_) ?_
  refine zIconst (-1) (-1) 23 (by decide +kernel) rfl (by decide) ?_
  refine zIcmp_ne 46 69 26 (by decide +kernel) rfl rfl ⟨fun q6 => ?_, fun q6 => ?_⟩
  · replace F := F.2 q6
    refine zIload_n 3 3 70 (by decide +kernel) rfl rfl ?_
    exact zZret .boolean rfl (zNarZ F.1) (by decide +kernel) F.2
  · replace F := F.1 q6
    refine zAload_n 0 0 27 (by decide +kernel) rfl rfl ?_
    refine zCallV 12 zcls12 mX12_look 135 0 0 0 _ _ 30 [] [] okX12_look mlX12_135 imX12_look seX12_look (by decide +kernel) rfl rfl (Nat.le_of_ble_eq_true rfl) rfl rfl (Mod_0 S0_) (zC.mono F ?_)
    rintro _ _ ⟨x7, I8, rfl, rfl, F⟩
    change zV G (d + 1) mX12_part kc ks 30 [(0, .ref (m)), (1, .int (l1)), (2, .int (l2)), (3, .int (l3))] [.int (x7)] (I8, J, R, K, n) Q
    refine zBipush 38 38 32 (by decide +kernel) rfl (by decide) ?_
    refine zIcmp_ne 37 69 35 (by decide +kernel) rfl rfl ⟨fun q9 => ?_, fun q9 => ?_⟩
    · replace F := F.2 q9
      refine zIload_n 3 3 70 (by decide +kernel) rfl rfl ?_
      exact zZret .boolean rfl (zNarZ F.1) (by decide +kernel) F.2
    · replace F := F.1 q9
      refine zAload_n 0 0 36 (by decide +kernel) rfl rfl ?_
      refine zDup 37 (by decide +kernel) rfl rfl ?_
      refine gf12_10 116 40 (by decide +kernel) rfl flX12_116 (Mod_0 S0_) ?_
      refine zIconst 1 1 41 (by decide +kernel) rfl (by decide) ?_
      refine zIadd 42 (by decide +kernel) rfl ?_
      refine pf12_10 116 45 (by decide +kernel) rfl flX12_116 (Mod_0 S0_) ?_
      replace F := F _ rfl
      generalize zU I8 m 10 ((I8 m 10) + 1) = I10 at F ⊢
      refine zAload_n 0 0 46 (by decide +kernel) rfl rfl ?_
      refine zCallV 12 zcls12 mX12_unit 181 0 0 0 _ _ 49 [] [] okX12_unit mlX12_181 imX12_unit seX12_unit (by decide +kernel) rfl rfl (Nat.le_of_ble_eq_true rfl) rfl rfl (Mod_0 S0_) (zC.mono F ?_)
      rintro _ _ ⟨x11, I12, rfl, rfl, F⟩
      change zV G (d + 1) mX12_part kc ks 49 [(0, .ref (m)), (1, .int (l1)), (2, .int (l2)), (3, .int (l3))] [.int (x11)] (I12, J, R, K, n) Q
      refine zIstore 4 [(4, .int (x11)), (0, .ref (m)), (1, .int (l1)), (2, .int (l2)), (3, .int (l3))] 51 (by decide +kernel) rfl (by decide) rfl ?_
      refine zIload_n 3 4 52 (by decide +kernel) rfl rfl ?_
      suffices KK : zV G (d + 1) mX12_part kc ks 65 [(4, .int (x11)), (0, .ref (m)), (1, .int (l1)), (2, .int (l2)), (3, .int (l3))] [.int ((if l3 = 0 then 0 else (if x11 = 0 then 0 else 1)))] (I12, J, R, K, n) Q by
        refine zIf_eq 12 64 55 (by decide +kernel) rfl rfl ⟨fun q13 => ?_, fun q13 => ?_⟩
        · refine zIconst 0 0 65 (by decide +kernel) rfl (by decide) ?_
          exact zTop (by rw [if_pos q13]) KK
        · refine zIload 4 0 57 (by decide +kernel) rfl rfl ?_
          refine zIf_eq 7 64 60 (by decide +kernel) rfl rfl ⟨fun q14 => ?_, fun q14 => ?_⟩
          · refine zIconst 0 0 65 (by decide +kernel) rfl (by decide) ?_
            exact zTop (by rw [if_neg q13, if_pos q14]) KK
          · refine zIconst 1 1 61 (by decide +kernel) rfl (by decide) ?_
            refine zGoto 4 65 (by decide +kernel) rfl ?_
            exact zTop (by rw [if_neg q13, if_neg q14]) KK
      refine zIstore_n 3 [(3, .int ((if l3 = 0 then 0 else (if x11 = 0 then 0 else 1)))), (4, .int (x11)), (0, .ref (m)), (1, .int (l1)), (2, .int (l2))] 66 (by decide +kernel) rfl (by decide) rfl ?_
      refine zGoto (-48) 18 (by decide +kernel) rfl ?_
      exact zLoc [2, 3, 4, 0] _ rfl F
set_option maxHeartbeats 2000000 in
theorem wX12_condition_0 {G : zG} {d kc ks : Nat} {I : Nat → Nat → Int32} {J : Nat → Nat → Int64} {R : Nat → Nat → Option Nat} {K : Nat → Nat × Nat} {n : Nat} {Q : Option Value → zH → Prop} (m t c : Nat) (S0_ : hMod G R K n m t c) (p1 p2 : Int32) (F : zC G d mX12_part 0 0 [.ref (m), .int (p1), .int (p2)] (I, J, R, K, n) (fun r h => ∃ (x1 : Int32) (I2 : Nat → Nat → Int32), r = some (.int x1) ∧ h = (I2, J, R, K, n) ∧ zV G (d + 1) mX12_condition kc ks 7 [(0, .ref (m)), (1, .int (p1)), (2, .int (p2)), (3, .int (x1))] [] (I2, J, R, K, n) Q)) : zV G (d + 1) mX12_condition kc ks 0 [(0, .ref (m)), (1, .int (p1)), (2, .int (p2))] [] (I, J, R, K, n) Q := by
  refine zAload_n 0 0 1 (by decide +kernel) rfl rfl ?_
  refine zIload_n 1 1 2 (by decide +kernel) rfl rfl ?_
  refine zIload_n 2 2 3 (by decide +kernel) rfl rfl ?_
  refine zCallV 12 zcls12 mX12_part 191 2 0 0 _ _ 6 [.int (p1), .int (p2)] [] okX12_part mlX12_191 imX12_part seX12_part (by decide +kernel) rfl rfl (Nat.le_of_ble_eq_true rfl) rfl rfl (Mod_0 S0_) (zC.mono F ?_)
  rintro _ _ ⟨x1, I2, rfl, rfl, F⟩
  change zV G (d + 1) mX12_condition kc ks 6 [(0, .ref (m)), (1, .int (p1)), (2, .int (p2))] [.int (x1)] (I2, J, R, K, n) Q
  refine zIstore_n 3 [(3, .int (x1)), (0, .ref (m)), (1, .int (p1)), (2, .int (p2))] 7 (by decide +kernel) rfl (by decide) rfl ?_
  exact zLoc [1, 2, 3, 0] _ rfl F
set_option maxHeartbeats 2000000 in
theorem wX12_condition_7 {G : zG} {d kc ks : Nat} {I : Nat → Nat → Int32} {J : Nat → Nat → Int64} {R : Nat → Nat → Option Nat} {K : Nat → Nat × Nat} {n : Nat} {Q : Option Value → zH → Prop} (m t c : Nat) (S0_ : hMod G R K n m t c) (l1 l2 l3 : Int32) (F : (((I m 11 : Int32) = (-1) → zC G d mX12_look 0 0 [.ref (m)] (I, J, R, K, n) (fun r h => ∃ (x4 : Int32) (I5 : Nat → Nat → Int32), r = some (.int x4) ∧ h = (I5, J, R, K, n) ∧ ((x4 = 124 → (∀ I7 : Nat → Nat → Int32, I7 = zU I5 m 10 ((I5 m 10) + 1) → zC G d mX12_part 0 0 [.ref (m), .int (0), .int (0)] (I7, J, R, K, n) (fun r h => ∃ (x8 : Int32) (I9 : Nat → Nat → Int32), r = some (.int x8) ∧ h = (I9, J, R, K, n) ∧ zV G (d + 1) mX12_condition kc ks 7 [(0, .ref (m)), (1, .int (l1)), (2, .int (l2)), (3, .int ((if l3 = 0 then (if x8 = 0 then 0 else 1) else 1)))] [] (I9, J, R, K, n) Q))) ∧ (¬ (x4 = 124) → ((l3 = 0 ∨ l3 = 1) ∧ Q (some (.int (l3))) (I5, J, R, K, n)))))) ∧ (¬ ((I m 11 : Int32) = (-1)) → ((l3 = 0 ∨ l3 = 1) ∧ Q (some (.int (l3))) (I, J, R, K, n))))) : zV G (d + 1) mX12_condition kc ks 7 [(0, .ref (m)), (1, .int (l1)), (2, .int (l2)), (3, .int (l3))] [] (I, J, R, K, n) Q := by
  refine zAload_n 0 0 8 (by decide +kernel) rfl rfl ?_
  refine gf12_11 125 11 (by decide +kernel) rfl flX12_125 (Mod_0 S0_) ?_
  refine zIconst (-1) (-1) 12 (by decide +kernel) rfl (by decide) ?_
  refine zIcmp_ne 48 60 15 (by decide +kernel) rfl rfl ⟨fun q3 => ?_, fun q3 => ?_⟩
  · replace F := F.2 q3
    refine zIload_n 3 3 61 (by decide +kernel) rfl rfl ?_
    exact zZret .boolean rfl (zNarZ F.1) (by decide +kernel) F.2
  · replace F := F.1 q3
    refine zAload_n 0 0 16 (by decide +kernel) rfl rfl ?_
    refine zCallV 12 zcls12 mX12_look 135 0 0 0 _ _ 19 [] [] okX12_look mlX12_135 imX12_look seX12_look (by decide +kernel) rfl rfl (Nat.le_of_ble_eq_true rfl) rfl rfl (Mod_0 S0_) (zC.mono F ?_)
    rintro _ _ ⟨x4, I5, rfl, rfl, F⟩
    change zV G (d + 1) mX12_condition kc ks 19 [(0, .ref (m)), (1, .int (l1)), (2, .int (l2)), (3, .int (l3))] [.int (x4)] (I5, J, R, K, n) Q
    refine zBipush 124 124 21 (by decide +kernel) rfl (by decide) ?_
    refine zIcmp_ne 39 60 24 (by decide +kernel) rfl rfl ⟨fun q6 => ?_, fun q6 => ?_⟩
    · replace F := F.2 q6
      refine zIload_n 3 3 61 (by decide +kernel) rfl rfl ?_
      exact zZret .boolean rfl (zNarZ F.1) (by decide +kernel) F.2
    · replace F := F.1 q6
      refine zAload_n 0 0 25 (by decide +kernel) rfl rfl ?_
      refine zDup 26 (by decide +kernel) rfl rfl ?_
      refine gf12_10 116 29 (by decide +kernel) rfl flX12_116 (Mod_0 S0_) ?_
      refine zIconst 1 1 30 (by decide +kernel) rfl (by decide) ?_
      refine zIadd 31 (by decide +kernel) rfl ?_
      refine pf12_10 116 34 (by decide +kernel) rfl flX12_116 (Mod_0 S0_) ?_
      replace F := F _ rfl
      generalize zU I5 m 10 ((I5 m 10) + 1) = I7 at F ⊢
      refine zAload_n 0 0 35 (by decide +kernel) rfl rfl ?_
      refine zIconst 0 0 36 (by decide +kernel) rfl (by decide) ?_
      refine zIconst 0 0 37 (by decide +kernel) rfl (by decide) ?_
      refine zCallV 12 zcls12 mX12_part 191 2 0 0 _ _ 40 [.int (0), .int (0)] [] okX12_part mlX12_191 imX12_part seX12_part (by decide +kernel) rfl rfl (Nat.le_of_ble_eq_true rfl) rfl rfl (Mod_0 S0_) (zC.mono F ?_)
      rintro _ _ ⟨x8, I9, rfl, rfl, F⟩
      change zV G (d + 1) mX12_condition kc ks 40 [(0, .ref (m)), (1, .int (l1)), (2, .int (l2)), (3, .int (l3))] [.int (x8)] (I9, J, R, K, n) Q
      refine zIstore 4 [(4, .int (x8)), (0, .ref (m)), (1, .int (l1)), (2, .int (l2)), (3, .int (l3))] 42 (by decide +kernel) rfl (by decide) rfl ?_
      refine zIload_n 3 4 43 (by decide +kernel) rfl rfl ?_
      suffices KK : zV G (d + 1) mX12_condition kc ks 56 [(4, .int (x8)), (0, .ref (m)), (1, .int (l1)), (2, .int (l2)), (3, .int (l3))] [.int ((if l3 = 0 then (if x8 = 0 then 0 else 1) else 1))] (I9, J, R, K, n) Q by
        refine zIf_ne 8 51 46 (by decide +kernel) rfl rfl ⟨fun q10 => ?_, fun q10 => ?_⟩
        · refine zIconst 1 1 52 (by decide +kernel) rfl (by decide) ?_
          refine zGoto 4 56 (by decide +kernel) rfl ?_
          exact zTop (by rw [if_neg q10]) KK
        · refine zIload 4 0 48 (by decide +kernel) rfl rfl ?_
          refine zIf_eq 7 55 51 (by decide +kernel) rfl rfl ⟨fun q11 => ?_, fun q11 => ?_⟩
          · refine zIconst 0 0 56 (by decide +kernel) rfl (by decide) ?_
            exact zTop (by rw [if_pos q10, if_pos q11]) KK
          · refine zIconst 1 1 52 (by decide +kernel) rfl (by decide) ?_
            refine zGoto 4 56 (by decide +kernel) rfl ?_
            exact zTop (by rw [if_pos q10, if_neg q11]) KK
      refine zIstore_n 3 [(3, .int ((if l3 = 0 then (if x8 = 0 then 0 else 1) else 1))), (4, .int (x8)), (0, .ref (m)), (1, .int (l1)), (2, .int (l2))] 57 (by decide +kernel) rfl (by decide) rfl ?_
      refine zGoto (-50) 7 (by decide +kernel) rfl ?_
      exact zLoc [2, 3, 4, 0] _ rfl F
set_option maxHeartbeats 2000000 in
theorem wX12_clause_0 {G : zG} {d kc ks : Nat} {I : Nat → Nat → Int32} {J : Nat → Nat → Int64} {R : Nat → Nat → Option Nat} {K : Nat → Nat × Nat} {n : Nat} {Q : Option Value → zH → Prop} (m t c : Nat) (S0_ : hMod G R K n m t c) (F : zC G d mX12_look 0 0 [.ref (m)] (I, J, R, K, n) (fun r h => ∃ (x1 : Int32) (I2 : Nat → Nat → Int32), r = some (.int x1) ∧ h = (I2, J, R, K, n) ∧ zC G d mX12_isAmong 0 0 [.ref (G.2.2.2.1 4), .int (x1)] (I2, J, R, K, n) (fun r h => ∃ (x3 : Int32) (I4 : Nat → Nat → Int32), r = some (.int x3) ∧ h = (I4, J, R, K, n) ∧ ((x3 = 0 → zC G d mX12_fails 0 0 [.ref (m)] (I4, J, R, K, n) (fun r h => ∃ (x73 : Int32) (I74 : Nat → Nat → Int32), r = some (.int x73) ∧ h = (I74, J, R, K, n) ∧ Q none (I74, J, R, K, n))) ∧ (¬ (x3 = 0) → (∀ I6 : Nat → Nat → Int32, I6 = zU I4 m 10 ((I4 m 10) + 1) → zC G d mX12_takes 0 0 [.ref (m), .int (58)] (I6, J, R, K, n) (fun r h => ∃ (x7 : Int32) (I8 : Nat → Nat → Int32), r = some (.int x7) ∧ h = (I8, J, R, K, n) ∧ ((x7 = 0 → Q none (I8, J, R, K, n)) ∧ (¬ (x7 = 0) → zC G d mX12_look 0 0 [.ref (m)] (I8, J, R, K, n) (fun r h => ∃ (x10 : Int32) (I11 : Nat → Nat → Int32), r = some (.int x10) ∧ h = (I11, J, R, K, n) ∧ ((x10 = 33 → zC G d mX12_condition 0 0 [.ref (m), .int (0), .int (0)] (I11, J, R, K, n) (fun r h => ∃ (x13 : Int32) (I14 : Nat → Nat → Int32), r = some (.int x13) ∧ h = (I14, J, R, K, n) ∧ zC G d mX12_takes 0 0 [.ref (m), .int (63)] (I14, J, R, K, n) (fun r h => ∃ (x15 : Int32) (I16 : Nat → Nat → Int32), r = some (.int x15) ∧ h = (I16, J, R, K, n) ∧ ((x15 = 0 → Q none (I16, J, R, K, n)) ∧ (¬ (x15 = 0) → zC G d mX12_sum 0 0 [.ref (m)] (I16, J, R, K, n) (fun r h => ∃ (x18 : Int32) (I19 : Nat → Nat → Int32), r = some (.int x18) ∧ h = (I19, J, R, K, n) ∧ (((I19 m 11 : Int32) = (-1) → (((I19 m 17 : Int32) = 0 → ((x1 = (I19 m 13 : Int32) → ((x13 = 0 → Q none (I19, J, R, K, n)) ∧ (¬ (x13 = 0) → (∀ I24 : Nat → Nat → Int32, I24 = zU I19 m 17 (1) → (∀ I25 : Nat → Nat → Int32, I25 = zU I24 m 14 (x18) → Q none (I25, J, R, K, n)))))) ∧ (¬ (x1 = (I19 m 13 : Int32)) → Q none (I19, J, R, K, n)))) ∧ (¬ ((I19 m 17 : Int32) = 0) → Q none (I19, J, R, K, n)))) ∧ (¬ ((I19 m 11 : Int32) = (-1)) → Q none (I19, J, R, K, n))))))))) ∧ (¬ (x10 = 33) → ((x10 = 40 → zC G d mX12_condition 0 0 [.ref (m), .int (0), .int (0)] (I11, J, R, K, n) (fun r h => ∃ (x60 : Int32) (I61 : Nat → Nat → Int32), r = some (.int x60) ∧ h = (I61, J, R, K, n) ∧ zC G d mX12_takes 0 0 [.ref (m), .int (63)] (I61, J, R, K, n) (fun r h => ∃ (x62 : Int32) (I63 : Nat → Nat → Int32), r = some (.int x62) ∧ h = (I63, J, R, K, n) ∧ ((x62 = 0 → Q none (I63, J, R, K, n)) ∧ (¬ (x62 = 0) → zC G d mX12_sum 0 0 [.ref (m)] (I63, J, R, K, n) (fun r h => ∃ (x65 : Int32) (I66 : Nat → Nat → Int32), r = some (.int x65) ∧ h = (I66, J, R, K, n) ∧ (((I66 m 11 : Int32) = (-1) → (((I66 m 17 : Int32) = 0 → ((x1 = (I66 m 13 : Int32) → ((x60 = 0 → Q none (I66, J, R, K, n)) ∧ (¬ (x60 = 0) → (∀ I71 : Nat → Nat → Int32, I71 = zU I66 m 17 (1) → (∀ I72 : Nat → Nat → Int32, I72 = zU I71 m 14 (x65) → Q none (I72, J, R, K, n)))))) ∧ (¬ (x1 = (I66 m 13 : Int32)) → Q none (I66, J, R, K, n)))) ∧ (¬ ((I66 m 17 : Int32) = 0) → Q none (I66, J, R, K, n)))) ∧ (¬ ((I66 m 11 : Int32) = (-1)) → Q none (I66, J, R, K, n))))))))) ∧ (¬ (x10 = 40) → zC G d mX12_sum 0 0 [.ref (m)] (I11, J, R, K, n) (fun r h => ∃ (x27 : Int32) (I28 : Nat → Nat → Int32), r = some (.int x27) ∧ h = (I28, J, R, K, n) ∧ (((I28 m 11 : Int32) = (-1) → zC G d mX12_look 0 0 [.ref (m)] (I28, J, R, K, n) (fun r h => ∃ (x36 : Int32) (I37 : Nat → Nat → Int32), r = some (.int x36) ∧ h = (I37, J, R, K, n) ∧ zC G d mX12_isSign 0 0 [.int (x36)] (I37, J, R, K, n) (fun r h => ∃ (x38 : Int32) (I39 : Nat → Nat → Int32), r = some (.int x38) ∧ h = (I39, J, R, K, n) ∧ ((x38 = 0 → (((I39 m 11 : Int32) = (-1) → (((I39 m 17 : Int32) = 0 → ((x1 = (I39 m 13 : Int32) → (((1 : Int32) = 0 → Q none (I39, J, R, K, n)) ∧ (¬ ((1 : Int32) = 0) → (∀ I45 : Nat → Nat → Int32, I45 = zU I39 m 17 (1) → (∀ I46 : Nat → Nat → Int32, I46 = zU I45 m 14 (x27) → Q none (I46, J, R, K, n)))))) ∧ (¬ (x1 = (I39 m 13 : Int32)) → Q none (I39, J, R, K, n)))) ∧ (¬ ((I39 m 17 : Int32) = 0) → Q none (I39, J, R, K, n)))) ∧ (¬ ((I39 m 11 : Int32) = (-1)) → Q none (I39, J, R, K, n)))) ∧ (¬ (x38 = 0) → zC G d mX12_condition 0 0 [.ref (m), .int (1), .int (x27)] (I39, J, R, K, n) (fun r h => ∃ (x47 : Int32) (I48 : Nat → Nat → Int32), r = some (.int x47) ∧ h = (I48, J, R, K, n) ∧ zC G d mX12_takes 0 0 [.ref (m), .int (63)] (I48, J, R, K, n) (fun r h => ∃ (x49 : Int32) (I50 : Nat → Nat → Int32), r = some (.int x49) ∧ h = (I50, J, R, K, n) ∧ ((x49 = 0 → Q none (I50, J, R, K, n)) ∧ (¬ (x49 = 0) → zC G d mX12_sum 0 0 [.ref (m)] (I50, J, R, K, n) (fun r h => ∃ (x52 : Int32) (I53 : Nat → Nat → Int32), r = some (.int x52) ∧ h = (I53, J, R, K, n) ∧ (((I53 m 11 : Int32) = (-1) → (((I53 m 17 : Int32) = 0 → ((x1 = (I53 m 13 : Int32) → ((x47 = 0 → Q none (I53, J, R, K, n)) ∧ (¬ (x47 = 0) → (∀ I58 : Nat → Nat → Int32, I58 = zU I53 m 17 (1) → (∀ I59 : Nat → Nat → Int32, I59 = zU I58 m 14 (x52) → Q none (I59, J, R, K, n)))))) ∧ (¬ (x1 = (I53 m 13 : Int32)) → Q none (I53, J, R, K, n)))) ∧ (¬ ((I53 m 17 : Int32) = 0) → Q none (I53, J, R, K, n)))) ∧ (¬ ((I53 m 11 : Int32) = (-1)) → Q none (I53, J, R, K, n))))))))))))) ∧ (¬ ((I28 m 11 : Int32) = (-1)) → (((I28 m 11 : Int32) = (-1) → (((I28 m 17 : Int32) = 0 → ((x1 = (I28 m 13 : Int32) → (((1 : Int32) = 0 → Q none (I28, J, R, K, n)) ∧ (¬ ((1 : Int32) = 0) → (∀ I34 : Nat → Nat → Int32, I34 = zU I28 m 17 (1) → (∀ I35 : Nat → Nat → Int32, I35 = zU I34 m 14 (x27) → Q none (I35, J, R, K, n)))))) ∧ (¬ (x1 = (I28 m 13 : Int32)) → Q none (I28, J, R, K, n)))) ∧ (¬ ((I28 m 17 : Int32) = 0) → Q none (I28, J, R, K, n)))) ∧ (¬ ((I28 m 11 : Int32) = (-1)) → Q none (I28, J, R, K, n)))))))))))))))))))) : zV G (d + 1) mX12_clause kc ks 0 [(0, .ref (m))] [] (I, J, R, K, n) Q := by
  refine zAload_n 0 0 1 (by decide +kernel) rfl rfl ?_
  refine zCallV 12 zcls12 mX12_look 135 0 0 0 _ _ 4 [] [] okX12_look mlX12_135 imX12_look seX12_look (by decide +kernel) rfl rfl (Nat.le_of_ble_eq_true rfl) rfl rfl (Mod_0 S0_) (zC.mono F ?_)
  rintro _ _ ⟨x1, I2, rfl, rfl, F⟩
  change zV G (d + 1) mX12_clause kc ks 4 [(0, .ref (m))] [.int (x1)] (I2, J, R, K, n) Q
  refine zIstore_n 1 [(1, .int (x1)), (0, .ref (m))] 5 (by decide +kernel) rfl (by decide) rfl ?_
  refine zLdcS 26 "y" 4 7 (by decide +kernel) rfl (by decide) ?_
  refine zIload_n 1 0 8 (by decide +kernel) rfl rfl ?_
  refine zCallS mX12_isAmong 151 2 0 0 _ _ 11 [.ref (G.2.2.2.1 4), .int (x1)] [] okX12_isAmong mlX12_151 smX12_isAmong (by decide +kernel) rfl rfl (Nat.le_of_ble_eq_true rfl) rfl rfl (zC.mono F ?_)
  rintro _ _ ⟨x3, I4, rfl, rfl, F⟩
  change zV G (d + 1) mX12_clause kc ks 11 [(1, .int (x1)), (0, .ref (m))] [.int (x3)] (I4, J, R, K, n) Q
  refine zIf_ne 9 20 14 (by decide +kernel) rfl rfl ⟨fun q5 => ?_, fun q5 => ?_⟩
  · replace F := F.2 q5
    refine zAload_n 0 1 21 (by decide +kernel) rfl rfl ?_
    refine zDup 22 (by decide +kernel) rfl rfl ?_
    refine gf12_10 116 25 (by decide +kernel) rfl flX12_116 (Mod_0 S0_) ?_
    refine zIconst 1 1 26 (by decide +kernel) rfl (by decide) ?_
    refine zIadd 27 (by decide +kernel) rfl ?_
    refine pf12_10 116 30 (by decide +kernel) rfl flX12_116 (Mod_0 S0_) ?_
    replace F := F _ rfl
    generalize zU I4 m 10 ((I4 m 10) + 1) = I6 at F ⊢
    refine zAload_n 0 1 31 (by decide +kernel) rfl rfl ?_
    refine zBipush 58 58 33 (by decide +kernel) rfl (by decide) ?_
    refine zCallV 12 zcls12 mX12_takes 161 1 0 0 _ _ 36 [.int (58)] [] okX12_takes mlX12_161 imX12_takes seX12_takes (by decide +kernel) rfl rfl (Nat.le_of_ble_eq_true rfl) rfl rfl (Mod_0 S0_) (zC.mono F ?_)
    rintro _ _ ⟨x7, I8, rfl, rfl, F⟩
    change zV G (d + 1) mX12_clause kc ks 36 [(1, .int (x1)), (0, .ref (m))] [.int (x7)] (I8, J, R, K, n) Q
    refine zIf_ne 4 40 39 (by decide +kernel) rfl rfl ⟨fun q9 => ?_, fun q9 => ?_⟩
    · replace F := F.2 q9
      refine zIconst 1 1 41 (by decide +kernel) rfl (by decide) ?_
      refine zIstore_n 2 [(2, .int (1)), (1, .int (x1)), (0, .ref (m))] 42 (by decide +kernel) rfl (by decide) rfl ?_
      refine zIconst 0 0 43 (by decide +kernel) rfl (by decide) ?_
      refine zIstore_n 3 [(3, .int (0)), (2, .int (1)), (1, .int (x1)), (0, .ref (m))] 44 (by decide +kernel) rfl (by decide) rfl ?_
      refine zAload_n 0 3 45 (by decide +kernel) rfl rfl ?_
      refine zCallV 12 zcls12 mX12_look 135 0 0 0 _ _ 48 [] [] okX12_look mlX12_135 imX12_look seX12_look (by decide +kernel) rfl rfl (Nat.le_of_ble_eq_true rfl) rfl rfl (Mod_0 S0_) (zC.mono F ?_)
      rintro _ _ ⟨x10, I11, rfl, rfl, F⟩
      change zV G (d + 1) mX12_clause kc ks 48 [(3, .int (0)), (2, .int (1)), (1, .int (x1)), (0, .ref (m))] [.int (x10)] (I11, J, R, K, n) Q
      refine zIstore 4 [(4, .int (x10)), (3, .int (0)), (2, .int (1)), (1, .int (x1)), (0, .ref (m))] 50 (by decide +kernel) rfl (by decide) rfl ?_
      refine zIload 4 0 52 (by decide +kernel) rfl rfl ?_
      refine zBipush 33 33 54 (by decide +kernel) rfl (by decide) ?_
      refine zIcmp_eq 10 64 57 (by decide +kernel) rfl rfl ⟨fun q12 => ?_, fun q12 => ?_⟩
      · replace F := F.1 q12
        refine zAload_n 0 4 65 (by decide +kernel) rfl rfl ?_
        refine zIconst 0 0 66 (by decide +kernel) rfl (by decide) ?_
        refine zIconst 0 0 67 (by decide +kernel) rfl (by decide) ?_
        refine zCallV 12 zcls12 mX12_condition 184 2 0 0 _ _ 70 [.int (0), .int (0)] [] okX12_condition mlX12_184 imX12_condition seX12_condition (by decide +kernel) rfl rfl (Nat.le_of_ble_eq_true rfl) rfl rfl (Mod_0 S0_) (zC.mono F ?_)
        rintro _ _ ⟨x13, I14, rfl, rfl, F⟩
        change zV G (d + 1) mX12_clause kc ks 70 [(4, .int (x10)), (3, .int (0)), (2, .int (1)), (1, .int (x1)), (0, .ref (m))] [.int (x13)] (I14, J, R, K, n) Q
        refine zIstore_n 2 [(2, .int (x13)), (4, .int (x10)), (3, .int (0)), (1, .int (x1)), (0, .ref (m))] 71 (by decide +kernel) rfl (by decide) rfl ?_
        refine zAload_n 0 4 72 (by decide +kernel) rfl rfl ?_
        refine zBipush 63 63 74 (by decide +kernel) rfl (by decide) ?_
        refine zCallV 12 zcls12 mX12_takes 161 1 0 0 _ _ 77 [.int (63)] [] okX12_takes mlX12_161 imX12_takes seX12_takes (by decide +kernel) rfl rfl (Nat.le_of_ble_eq_true rfl) rfl rfl (Mod_0 S0_) (zC.mono F ?_)
        rintro _ _ ⟨x15, I16, rfl, rfl, F⟩
        change zV G (d + 1) mX12_clause kc ks 77 [(2, .int (x13)), (4, .int (x10)), (3, .int (0)), (1, .int (x1)), (0, .ref (m))] [.int (x15)] (I16, J, R, K, n) Q
        refine zIf_ne 4 81 80 (by decide +kernel) rfl rfl ⟨fun q17 => ?_, fun q17 => ?_⟩
        · replace F := F.2 q17
          refine zAload_n 0 4 82 (by decide +kernel) rfl rfl ?_
          refine zCallV 12 zcls12 mX12_sum 158 0 0 0 _ _ 85 [] [] okX12_sum mlX12_158 imX12_sum seX12_sum (by decide +kernel) rfl rfl (Nat.le_of_ble_eq_true rfl) rfl rfl (Mod_0 S0_) (zC.mono F ?_)
          rintro _ _ ⟨x18, I19, rfl, rfl, F⟩
          change zV G (d + 1) mX12_clause kc ks 85 [(2, .int (x13)), (4, .int (x10)), (3, .int (0)), (1, .int (x1)), (0, .ref (m))] [.int (x18)] (I19, J, R, K, n) Q
          refine zIstore_n 3 [(3, .int (x18)), (2, .int (x13)), (4, .int (x10)), (1, .int (x1)), (0, .ref (m))] 86 (by decide +kernel) rfl (by decide) rfl ?_
          refine zGoto 48 134 (by decide +kernel) rfl ?_
          refine zAload_n 0 4 135 (by decide +kernel) rfl rfl ?_
          refine gf12_11 125 138 (by decide +kernel) rfl flX12_125 (Mod_0 S0_) ?_
          refine zIconst (-1) (-1) 139 (by decide +kernel) rfl (by decide) ?_
          refine zIcmp_ne 22 161 142 (by decide +kernel) rfl rfl ⟨fun q20 => ?_, fun q20 => ?_⟩
          · replace F := F.2 q20
            exact zVret rfl (by decide +kernel) F
          · replace F := F.1 q20
            refine zAload_n 0 4 143 (by decide +kernel) rfl rfl ?_
            refine gf12_17 194 146 (by decide +kernel) rfl flX12_194 (Mod_0 S0_) ?_
            refine zIf_ne 15 161 149 (by decide +kernel) rfl rfl ⟨fun q21 => ?_, fun q21 => ?_⟩
            · replace F := F.2 q21
              exact zVret rfl (by decide +kernel) F
            · replace F := F.1 q21
              refine zIload_n 1 3 150 (by decide +kernel) rfl rfl ?_
              refine zAload_n 0 4 151 (by decide +kernel) rfl rfl ?_
              refine gf12_13 198 154 (by decide +kernel) rfl flX12_198 (Mod_0 S0_) ?_
              refine zIcmp_ne 7 161 157 (by decide +kernel) rfl rfl ⟨fun q22 => ?_, fun q22 => ?_⟩
              · replace F := F.2 q22
                exact zVret rfl (by decide +kernel) F
              · replace F := F.1 q22
                refine zIload_n 2 1 158 (by decide +kernel) rfl rfl ?_
                refine zIf_ne 4 162 161 (by decide +kernel) rfl rfl ⟨fun q23 => ?_, fun q23 => ?_⟩
                · replace F := F.2 q23
                  refine zAload_n 0 4 163 (by decide +kernel) rfl rfl ?_
                  refine zIconst 1 1 164 (by decide +kernel) rfl (by decide) ?_
                  refine pf12_17 194 167 (by decide +kernel) rfl flX12_194 (Or.inr rfl) (Mod_0 S0_) ?_
                  replace F := F _ rfl
                  generalize zU I19 m 17 (1) = I24 at F ⊢
                  refine zAload_n 0 4 168 (by decide +kernel) rfl rfl ?_
                  refine zIload_n 3 0 169 (by decide +kernel) rfl rfl ?_
                  refine pf12_14 201 172 (by decide +kernel) rfl flX12_201 (Mod_0 S0_) ?_
                  replace F := F _ rfl
                  generalize zU I24 m 14 (x18) = I25 at F ⊢
                  exact zVret rfl (by decide +kernel) F
                · replace F := F.1 q23
                  exact zVret rfl (by decide +kernel) F
        · replace F := F.1 q17
          exact zVret rfl (by decide +kernel) F
      · replace F := F.2 q12
        refine zIload 4 0 59 (by decide +kernel) rfl rfl ?_
        refine zBipush 40 40 61 (by decide +kernel) rfl (by decide) ?_
        refine zIcmp_ne 28 89 64 (by decide +kernel) rfl rfl ⟨fun q26 => ?_, fun q26 => ?_⟩
        · replace F := F.2 q26
          refine zAload_n 0 4 90 (by decide +kernel) rfl rfl ?_
          refine zCallV 12 zcls12 mX12_sum 158 0 0 0 _ _ 93 [] [] okX12_sum mlX12_158 imX12_sum seX12_sum (by decide +kernel) rfl rfl (Nat.le_of_ble_eq_true rfl) rfl rfl (Mod_0 S0_) (zC.mono F ?_)
          rintro _ _ ⟨x27, I28, rfl, rfl, F⟩
          change zV G (d + 1) mX12_clause kc ks 93 [(4, .int (x10)), (3, .int (0)), (2, .int (1)), (1, .int (x1)), (0, .ref (m))] [.int (x27)] (I28, J, R, K, n) Q
          refine zIstore_n 3 [(3, .int (x27)), (4, .int (x10)), (2, .int (1)), (1, .int (x1)), (0, .ref (m))] 94 (by decide +kernel) rfl (by decide) rfl ?_
          refine zAload_n 0 4 95 (by decide +kernel) rfl rfl ?_
          refine gf12_11 125 98 (by decide +kernel) rfl flX12_125 (Mod_0 S0_) ?_
          refine zIconst (-1) (-1) 99 (by decide +kernel) rfl (by decide) ?_
          refine zIcmp_ne 35 134 102 (by decide +kernel) rfl rfl ⟨fun q29 => ?_, fun q29 => ?_⟩
          · replace F := F.2 q29
            refine zAload_n 0 4 135 (by decide +kernel) rfl rfl ?_
            refine gf12_11 125 138 (by decide +kernel) rfl flX12_125 (Mod_0 S0_) ?_
            refine zIconst (-1) (-1) 139 (by decide +kernel) rfl (by decide) ?_
            refine zIcmp_ne 22 161 142 (by decide +kernel) rfl rfl ⟨fun q30 => ?_, fun q30 => ?_⟩
            · replace F := F.2 q30
              exact zVret rfl (by decide +kernel) F
            · replace F := F.1 q30
              refine zAload_n 0 4 143 (by decide +kernel) rfl rfl ?_
              refine gf12_17 194 146 (by decide +kernel) rfl flX12_194 (Mod_0 S0_) ?_
              refine zIf_ne 15 161 149 (by decide +kernel) rfl rfl ⟨fun q31 => ?_, fun q31 => ?_⟩
              · replace F := F.2 q31
                exact zVret rfl (by decide +kernel) F
              · replace F := F.1 q31
                refine zIload_n 1 3 150 (by decide +kernel) rfl rfl ?_
                refine zAload_n 0 4 151 (by decide +kernel) rfl rfl ?_
                refine gf12_13 198 154 (by decide +kernel) rfl flX12_198 (Mod_0 S0_) ?_
                refine zIcmp_ne 7 161 157 (by decide +kernel) rfl rfl ⟨fun q32 => ?_, fun q32 => ?_⟩
                · replace F := F.2 q32
                  exact zVret rfl (by decide +kernel) F
                · replace F := F.1 q32
                  refine zIload_n 2 2 158 (by decide +kernel) rfl rfl ?_
                  refine zIf_ne 4 162 161 (by decide +kernel) rfl rfl ⟨fun q33 => ?_, fun q33 => ?_⟩
                  · replace F := F.2 q33
                    refine zAload_n 0 4 163 (by decide +kernel) rfl rfl ?_
                    refine zIconst 1 1 164 (by decide +kernel) rfl (by decide) ?_
                    refine pf12_17 194 167 (by decide +kernel) rfl flX12_194 (Or.inr rfl) (Mod_0 S0_) ?_
                    replace F := F _ rfl
                    generalize zU I28 m 17 (1) = I34 at F ⊢
                    refine zAload_n 0 4 168 (by decide +kernel) rfl rfl ?_
                    refine zIload_n 3 0 169 (by decide +kernel) rfl rfl ?_
                    refine pf12_14 201 172 (by decide +kernel) rfl flX12_201 (Mod_0 S0_) ?_
                    replace F := F _ rfl
                    generalize zU I34 m 14 (x27) = I35 at F ⊢
                    exact zVret rfl (by decide +kernel) F
                  · replace F := F.1 q33
                    exact zVret rfl (by decide +kernel) F
          · replace F := F.1 q29
            refine zAload_n 0 4 103 (by decide +kernel) rfl rfl ?_
            refine zCallV 12 zcls12 mX12_look 135 0 0 0 _ _ 106 [] [] okX12_look mlX12_135 imX12_look seX12_look (by decide +kernel) rfl rfl (Nat.le_of_ble_eq_true rfl) rfl rfl (Mod_0 S0_) (zC.mono F ?_)
            rintro _ _ ⟨x36, I37, rfl, rfl, F⟩
            change zV G (d + 1) mX12_clause kc ks 106 [(3, .int (x27)), (4, .int (x10)), (2, .int (1)), (1, .int (x1)), (0, .ref (m))] [.int (x36)] (I37, J, R, K, n) Q
            refine zCallS mX12_isSign 178 1 0 0 _ _ 109 [.int (x36)] [] okX12_isSign mlX12_178 smX12_isSign (by decide +kernel) rfl rfl (Nat.le_of_ble_eq_true rfl) rfl rfl (zC.mono F ?_)
            rintro _ _ ⟨x38, I39, rfl, rfl, F⟩
            change zV G (d + 1) mX12_clause kc ks 109 [(3, .int (x27)), (4, .int (x10)), (2, .int (1)), (1, .int (x1)), (0, .ref (m))] [.int (x38)] (I39, J, R, K, n) Q
            refine zIf_eq 25 134 112 (by decide +kernel) rfl rfl ⟨fun q40 => ?_, fun q40 => ?_⟩
            · replace F := F.1 q40
              refine zAload_n 0 4 135 (by decide +kernel) rfl rfl ?_
              refine gf12_11 125 138 (by decide +kernel) rfl flX12_125 (Mod_0 S0_) ?_
              refine zIconst (-1) (-1) 139 (by decide +kernel) rfl (by decide) ?_
              refine zIcmp_ne 22 161 142 (by decide +kernel) rfl rfl ⟨fun q41 => ?_, fun q41 => ?_⟩
              · replace F := F.2 q41
                exact zVret rfl (by decide +kernel) F
              · replace F := F.1 q41
                refine zAload_n 0 4 143 (by decide +kernel) rfl rfl ?_
                refine gf12_17 194 146 (by decide +kernel) rfl flX12_194 (Mod_0 S0_) ?_
                refine zIf_ne 15 161 149 (by decide +kernel) rfl rfl ⟨fun q42 => ?_, fun q42 => ?_⟩
                · replace F := F.2 q42
                  exact zVret rfl (by decide +kernel) F
                · replace F := F.1 q42
                  refine zIload_n 1 3 150 (by decide +kernel) rfl rfl ?_
                  refine zAload_n 0 4 151 (by decide +kernel) rfl rfl ?_
                  refine gf12_13 198 154 (by decide +kernel) rfl flX12_198 (Mod_0 S0_) ?_
                  refine zIcmp_ne 7 161 157 (by decide +kernel) rfl rfl ⟨fun q43 => ?_, fun q43 => ?_⟩
                  · replace F := F.2 q43
                    exact zVret rfl (by decide +kernel) F
                  · replace F := F.1 q43
                    refine zIload_n 2 2 158 (by decide +kernel) rfl rfl ?_
                    refine zIf_ne 4 162 161 (by decide +kernel) rfl rfl ⟨fun q44 => ?_, fun q44 => ?_⟩
                    · replace F := F.2 q44
                      refine zAload_n 0 4 163 (by decide +kernel) rfl rfl ?_
                      refine zIconst 1 1 164 (by decide +kernel) rfl (by decide) ?_
                      refine pf12_17 194 167 (by decide +kernel) rfl flX12_194 (Or.inr rfl) (Mod_0 S0_) ?_
                      replace F := F _ rfl
                      generalize zU I39 m 17 (1) = I45 at F ⊢
                      refine zAload_n 0 4 168 (by decide +kernel) rfl rfl ?_
                      refine zIload_n 3 0 169 (by decide +kernel) rfl rfl ?_
                      refine pf12_14 201 172 (by decide +kernel) rfl flX12_201 (Mod_0 S0_) ?_
                      replace F := F _ rfl
                      generalize zU I45 m 14 (x27) = I46 at F ⊢
                      exact zVret rfl (by decide +kernel) F
                    · replace F := F.1 q44
                      exact zVret rfl (by decide +kernel) F
            · replace F := F.2 q40
              refine zAload_n 0 4 113 (by decide +kernel) rfl rfl ?_
              refine zIconst 1 1 114 (by decide +kernel) rfl (by decide) ?_
              refine zIload_n 3 0 115 (by decide +kernel) rfl rfl ?_
              refine zCallV 12 zcls12 mX12_condition 184 2 0 0 _ _ 118 [.int (1), .int (x27)] [] okX12_condition mlX12_184 imX12_condition seX12_condition (by decide +kernel) rfl rfl (Nat.le_of_ble_eq_true rfl) rfl rfl (Mod_0 S0_) (zC.mono F ?_)
              rintro _ _ ⟨x47, I48, rfl, rfl, F⟩
              change zV G (d + 1) mX12_clause kc ks 118 [(3, .int (x27)), (4, .int (x10)), (2, .int (1)), (1, .int (x1)), (0, .ref (m))] [.int (x47)] (I48, J, R, K, n) Q
              refine zIstore_n 2 [(2, .int (x47)), (3, .int (x27)), (4, .int (x10)), (1, .int (x1)), (0, .ref (m))] 119 (by decide +kernel) rfl (by decide) rfl ?_
              refine zAload_n 0 4 120 (by decide +kernel) rfl rfl ?_
              refine zBipush 63 63 122 (by decide +kernel) rfl (by decide) ?_
              refine zCallV 12 zcls12 mX12_takes 161 1 0 0 _ _ 125 [.int (63)] [] okX12_takes mlX12_161 imX12_takes seX12_takes (by decide +kernel) rfl rfl (Nat.le_of_ble_eq_true rfl) rfl rfl (Mod_0 S0_) (zC.mono F ?_)
              rintro _ _ ⟨x49, I50, rfl, rfl, F⟩
              change zV G (d + 1) mX12_clause kc ks 125 [(2, .int (x47)), (3, .int (x27)), (4, .int (x10)), (1, .int (x1)), (0, .ref (m))] [.int (x49)] (I50, J, R, K, n) Q
              refine zIf_ne 4 129 128 (by decide +kernel) rfl rfl ⟨fun q51 => ?_, fun q51 => ?_⟩
              · replace F := F.2 q51
                refine zAload_n 0 4 130 (by decide +kernel) rfl rfl ?_
                refine zCallV 12 zcls12 mX12_sum 158 0 0 0 _ _ 133 [] [] okX12_sum mlX12_158 imX12_sum seX12_sum (by decide +kernel) rfl rfl (Nat.le_of_ble_eq_true rfl) rfl rfl (Mod_0 S0_) (zC.mono F ?_)
                rintro _ _ ⟨x52, I53, rfl, rfl, F⟩
                change zV G (d + 1) mX12_clause kc ks 133 [(2, .int (x47)), (3, .int (x27)), (4, .int (x10)), (1, .int (x1)), (0, .ref (m))] [.int (x52)] (I53, J, R, K, n) Q
                refine zIstore_n 3 [(3, .int (x52)), (2, .int (x47)), (4, .int (x10)), (1, .int (x1)), (0, .ref (m))] 134 (by decide +kernel) rfl (by decide) rfl ?_
                refine zAload_n 0 4 135 (by decide +kernel) rfl rfl ?_
                refine gf12_11 125 138 (by decide +kernel) rfl flX12_125 (Mod_0 S0_) ?_
                refine zIconst (-1) (-1) 139 (by decide +kernel) rfl (by decide) ?_
                refine zIcmp_ne 22 161 142 (by decide +kernel) rfl rfl ⟨fun q54 => ?_, fun q54 => ?_⟩
                · replace F := F.2 q54
                  exact zVret rfl (by decide +kernel) F
                · replace F := F.1 q54
                  refine zAload_n 0 4 143 (by decide +kernel) rfl rfl ?_
                  refine gf12_17 194 146 (by decide +kernel) rfl flX12_194 (Mod_0 S0_) ?_
                  refine zIf_ne 15 161 149 (by decide +kernel) rfl rfl ⟨fun q55 => ?_, fun q55 => ?_⟩
                  · replace F := F.2 q55
                    exact zVret rfl (by decide +kernel) F
                  · replace F := F.1 q55
                    refine zIload_n 1 3 150 (by decide +kernel) rfl rfl ?_
                    refine zAload_n 0 4 151 (by decide +kernel) rfl rfl ?_
                    refine gf12_13 198 154 (by decide +kernel) rfl flX12_198 (Mod_0 S0_) ?_
                    refine zIcmp_ne 7 161 157 (by decide +kernel) rfl rfl ⟨fun q56 => ?_, fun q56 => ?_⟩
                    · replace F := F.2 q56
                      exact zVret rfl (by decide +kernel) F
                    · replace F := F.1 q56
                      refine zIload_n 2 1 158 (by decide +kernel) rfl rfl ?_
                      refine zIf_ne 4 162 161 (by decide +kernel) rfl rfl ⟨fun q57 => ?_, fun q57 => ?_⟩
                      · replace F := F.2 q57
                        refine zAload_n 0 4 163 (by decide +kernel) rfl rfl ?_
                        refine zIconst 1 1 164 (by decide +kernel) rfl (by decide) ?_
                        refine pf12_17 194 167 (by decide +kernel) rfl flX12_194 (Or.inr rfl) (Mod_0 S0_) ?_
                        replace F := F _ rfl
                        generalize zU I53 m 17 (1) = I58 at F ⊢
                        refine zAload_n 0 4 168 (by decide +kernel) rfl rfl ?_
                        refine zIload_n 3 0 169 (by decide +kernel) rfl rfl ?_
                        refine pf12_14 201 172 (by decide +kernel) rfl flX12_201 (Mod_0 S0_) ?_
                        replace F := F _ rfl
                        generalize zU I58 m 14 (x52) = I59 at F ⊢
                        exact zVret rfl (by decide +kernel) F
                      · replace F := F.1 q57
                        exact zVret rfl (by decide +kernel) F
              · replace F := F.1 q51
                exact zVret rfl (by decide +kernel) F
        · replace F := F.1 q26
          refine zAload_n 0 4 65 (by decide +kernel) rfl rfl ?_
          refine zIconst 0 0 66 (by decide +kernel) rfl (by decide) ?_
          refine zIconst 0 0 67 (by decide +kernel) rfl (by decide) ?_
          refine zCallV 12 zcls12 mX12_condition 184 2 0 0 _ _ 70 [.int (0), .int (0)] [] okX12_condition mlX12_184 imX12_condition seX12_condition (by decide +kernel) rfl rfl (Nat.le_of_ble_eq_true rfl) rfl rfl (Mod_0 S0_) (zC.mono F ?_)
          rintro _ _ ⟨x60, I61, rfl, rfl, F⟩
          change zV G (d + 1) mX12_clause kc ks 70 [(4, .int (x10)), (3, .int (0)), (2, .int (1)), (1, .int (x1)), (0, .ref (m))] [.int (x60)] (I61, J, R, K, n) Q
          refine zIstore_n 2 [(2, .int (x60)), (4, .int (x10)), (3, .int (0)), (1, .int (x1)), (0, .ref (m))] 71 (by decide +kernel) rfl (by decide) rfl ?_
          refine zAload_n 0 4 72 (by decide +kernel) rfl rfl ?_
          refine zBipush 63 63 74 (by decide +kernel) rfl (by decide) ?_
          refine zCallV 12 zcls12 mX12_takes 161 1 0 0 _ _ 77 [.int (63)] [] okX12_takes mlX12_161 imX12_takes seX12_takes (by decide +kernel) rfl rfl (Nat.le_of_ble_eq_true rfl) rfl rfl (Mod_0 S0_) (zC.mono F ?_)
          rintro _ _ ⟨x62, I63, rfl, rfl, F⟩
          change zV G (d + 1) mX12_clause kc ks 77 [(2, .int (x60)), (4, .int (x10)), (3, .int (0)), (1, .int (x1)), (0, .ref (m))] [.int (x62)] (I63, J, R, K, n) Q
          refine zIf_ne 4 81 80 (by decide +kernel) rfl rfl ⟨fun q64 => ?_, fun q64 => ?_⟩
          · replace F := F.2 q64
            refine zAload_n 0 4 82 (by decide +kernel) rfl rfl ?_
            refine zCallV 12 zcls12 mX12_sum 158 0 0 0 _ _ 85 [] [] okX12_sum mlX12_158 imX12_sum seX12_sum (by decide +kernel) rfl rfl (Nat.le_of_ble_eq_true rfl) rfl rfl (Mod_0 S0_) (zC.mono F ?_)
            rintro _ _ ⟨x65, I66, rfl, rfl, F⟩
            change zV G (d + 1) mX12_clause kc ks 85 [(2, .int (x60)), (4, .int (x10)), (3, .int (0)), (1, .int (x1)), (0, .ref (m))] [.int (x65)] (I66, J, R, K, n) Q
            refine zIstore_n 3 [(3, .int (x65)), (2, .int (x60)), (4, .int (x10)), (1, .int (x1)), (0, .ref (m))] 86 (by decide +kernel) rfl (by decide) rfl ?_
            refine zGoto 48 134 (by decide +kernel) rfl ?_
            refine zAload_n 0 4 135 (by decide +kernel) rfl rfl ?_
            refine gf12_11 125 138 (by decide +kernel) rfl flX12_125 (Mod_0 S0_) ?_
            refine zIconst (-1) (-1) 139 (by decide +kernel) rfl (by decide) ?_
            refine zIcmp_ne 22 161 142 (by decide +kernel) rfl rfl ⟨fun q67 => ?_, fun q67 => ?_⟩
            · replace F := F.2 q67
              exact zVret rfl (by decide +kernel) F
            · replace F := F.1 q67
              refine zAload_n 0 4 143 (by decide +kernel) rfl rfl ?_
              refine gf12_17 194 146 (by decide +kernel) rfl flX12_194 (Mod_0 S0_) ?_
              refine zIf_ne 15 161 149 (by decide +kernel) rfl rfl ⟨fun q68 => ?_, fun q68 => ?_⟩
              · replace F := F.2 q68
                exact zVret rfl (by decide +kernel) F
              · replace F := F.1 q68
                refine zIload_n 1 3 150 (by decide +kernel) rfl rfl ?_
                refine zAload_n 0 4 151 (by decide +kernel) rfl rfl ?_
                refine gf12_13 198 154 (by decide +kernel) rfl flX12_198 (Mod_0 S0_) ?_
                refine zIcmp_ne 7 161 157 (by decide +kernel) rfl rfl ⟨fun q69 => ?_, fun q69 => ?_⟩
                · replace F := F.2 q69
                  exact zVret rfl (by decide +kernel) F
                · replace F := F.1 q69
                  refine zIload_n 2 1 158 (by decide +kernel) rfl rfl ?_
                  refine zIf_ne 4 162 161 (by decide +kernel) rfl rfl ⟨fun q70 => ?_, fun q70 => ?_⟩
                  · replace F := F.2 q70
                    refine zAload_n 0 4 163 (by decide +kernel) rfl rfl ?_
                    refine zIconst 1 1 164 (by decide +kernel) rfl (by decide) ?_
                    refine pf12_17 194 167 (by decide +kernel) rfl flX12_194 (Or.inr rfl) (Mod_0 S0_) ?_
                    replace F := F _ rfl
                    generalize zU I66 m 17 (1) = I71 at F ⊢
                    refine zAload_n 0 4 168 (by decide +kernel) rfl rfl ?_
                    refine zIload_n 3 0 169 (by decide +kernel) rfl rfl ?_
                    refine pf12_14 201 172 (by decide +kernel) rfl flX12_201 (Mod_0 S0_) ?_
                    replace F := F _ rfl
                    generalize zU I71 m 14 (x65) = I72 at F ⊢
                    exact zVret rfl (by decide +kernel) F
                  · replace F := F.1 q70
                    exact zVret rfl (by decide +kernel) F
          · replace F := F.1 q64
            exact zVret rfl (by decide +kernel) F
    · replace F := F.1 q9
      exact zVret rfl (by decide +kernel) F
  · replace F := F.1 q5
    refine zAload_n 0 1 15 (by decide +kernel) rfl rfl ?_
    refine zCallV 12 zcls12 mX12_fails 131 0 0 0 _ _ 18 [] [] okX12_fails mlX12_131 imX12_fails seX12_fails (by decide +kernel) rfl rfl (Nat.le_of_ble_eq_true rfl) rfl rfl (Mod_0 S0_) (zC.mono F ?_)
    rintro _ _ ⟨x73, I74, rfl, rfl, F⟩
    change zV G (d + 1) mX12_clause kc ks 18 [(1, .int (x1)), (0, .ref (m))] [.int (x73)] (I74, J, R, K, n) Q
    refine zPop 19 (by decide +kernel) rfl rfl ?_
    exact zVret rfl (by decide +kernel) F
set_option maxHeartbeats 2000000 in
theorem wX12_starts_0 {G : zG} {d kc ks : Nat} {I : Nat → Nat → Int32} {J : Nat → Nat → Int64} {R : Nat → Nat → Option Nat} {K : Nat → Nat × Nat} {n : Nat} {Q : Option Value → zH → Prop} (m t c : Nat) (b e : Nat) (hb : sA G K n b 33 e) (S0_ : hMod G R K n m t c) (p2 p3 : Int32) (F : (∀ R1 : Nat → Nat → Option Nat, R1 = zU R m 5 (some (b)) → ∃ u2 u3 : Nat, hMod G R1 K n m u2 u3 ∧ (∀ I5 : Nat → Nat → Int32, I5 = zU I m 8 (p2) → (∀ I6 : Nat → Nat → Int32, I6 = zU I5 m 9 (p3) → (∀ I7 : Nat → Nat → Int32, I7 = zU I6 m 10 (0) → (∀ I8 : Nat → Nat → Int32, I8 = zU I7 m 11 ((-1)) → Q none (I8, J, R1, K, n))))))) : zV G (d + 1) mX12_starts kc ks 0 [(0, .ref (m)), (1, .ref (b)), (2, .int (p2)), (3, .int (p3))] [] (I, J, R, K, n) Q := by
  refine zAload_n 0 0 1 (by decide +kernel) rfl rfl ?_
  refine zAload_n 1 1 2 (by decide +kernel) rfl rfl ?_
  refine pf12_5 (v := some (b)) 23 5 (by decide +kernel) rfl flX12_23 (Mod_0 S0_) ?_
  replace F := F _ rfl
  generalize zU R m 5 (some (b)) = R1 at F ⊢
  obtain ⟨u2, u3, S4, F⟩ := F
  refine zAload_n 0 0 6 (by decide +kernel) rfl rfl ?_
  refine zIload_n 2 2 7 (by decide +kernel) rfl rfl ?_
  refine pf12_8 122 10 (by decide +kernel) rfl flX12_122 (Mod_0 S4) ?_
  replace F := F _ rfl
  generalize zU I m 8 (p2) = I5 at F ⊢
  refine zAload_n 0 0 11 (by decide +kernel) rfl rfl ?_
  refine zIload_n 3 3 12 (by decide +kernel) rfl rfl ?_
  refine pf12_9 119 15 (by decide +kernel) rfl flX12_119 (Mod_0 S4) ?_
  replace F := F _ rfl
  generalize zU I5 m 9 (p3) = I6 at F ⊢
  refine zAload_n 0 0 16 (by decide +kernel) rfl rfl ?_
  refine zIconst 0 0 17 (by decide +kernel) rfl (by decide) ?_
  refine pf12_10 116 20 (by decide +kernel) rfl flX12_116 (Mod_0 S4) ?_
  replace F := F _ rfl
  generalize zU I6 m 10 (0) = I7 at F ⊢
  refine zAload_n 0 0 21 (by decide +kernel) rfl rfl ?_
  refine zIconst (-1) (-1) 22 (by decide +kernel) rfl (by decide) ?_
  refine pf12_11 125 25 (by decide +kernel) rfl flX12_125 (Mod_0 S4) ?_
  replace F := F _ rfl
  generalize zU I7 m 11 ((-1)) = I8 at F ⊢
  exact zVret rfl (by decide +kernel) F
set_option maxHeartbeats 2000000 in
theorem wX12_goThrough_0 {G : zG} {d kc ks : Nat} {I : Nat → Nat → Int32} {J : Nat → Nat → Int64} {R : Nat → Nat → Option Nat} {K : Nat → Nat × Nat} {n : Nat} {Q : Option Value → zH → Prop} (m t c : Nat) (b e : Nat) (hb : sA G K n b 33 e) (S0_ : hMod G R K n m t c) (p2 p3 : Int32) (F : zC G d mX12_starts 0 0 [.ref (m), .ref (b), .int (p2), .int (p3)] (I, J, R, K, n) (fun r h => ∃ (I1 : Nat → Nat → Int32) (J2 : Nat → Nat → Int64) (R3 : Nat → Nat → Option Nat), r = none ∧ h = (I1, J2, R3, K, n) ∧ ∃ u4 u5 : Nat, hMod G R3 K n m u4 u5 ∧ (∀ I7 : Nat → Nat → Int32, I7 = zU I1 m 13 (121) → (∀ I8 : Nat → Nat → Int32, I8 = zU I7 m 12 (0) → (∀ I9 : Nat → Nat → Int32, I9 = zU I8 m 17 (0) → (∀ I10 : Nat → Nat → Int32, I10 = zU I9 m 14 (0) → zC G d mX12_clause 0 0 [.ref (m)] (I10, J2, R3, K, n) (fun r h => ∃ (I11 : Nat → Nat → Int32), r = none ∧ h = (I11, J2, R3, K, n) ∧ zV G (d + 1) mX12_goThrough kc ks 32 [(0, .ref (m)), (1, .ref (b)), (2, .int (p2)), (3, .int (p3))] [] (I11, J2, R3, K, n) Q))))))) : zV G (d + 1) mX12_goThrough kc ks 0 [(0, .ref (m)), (1, .ref (b)), (2, .int (p2)), (3, .int (p3))] [] (I, J, R, K, n) Q := by
  refine zAload_n 0 0 1 (by decide +kernel) rfl rfl ?_
  refine zAload_n 1 1 2 (by decide +kernel) rfl rfl ?_
  refine zIload_n 2 2 3 (by decide +kernel) rfl rfl ?_
  refine zIload_n 3 3 4 (by decide +kernel) rfl rfl ?_
  refine zCallV 12 zcls12 mX12_starts 204 3 0 0 _ _ 7 [.ref (b), .int (p2), .int (p3)] [] okX12_starts mlX12_204 imX12_starts seX12_starts (by decide +kernel) rfl rfl (Nat.le_of_ble_eq_true rfl) rfl rfl (Mod_0 S0_) (zC.mono F ?_)
  rintro _ _ ⟨I1, J2, R3, rfl, rfl, F⟩
  change zV G (d + 1) mX12_goThrough kc ks 7 [(0, .ref (m)), (1, .ref (b)), (2, .int (p2)), (3, .int (p3))] [] (I1, J2, R3, K, n) Q
  obtain ⟨u4, u5, S6, F⟩ := F
  refine zAload_n 0 0 8 (by decide +kernel) rfl rfl ?_
  refine zBipush 121 121 10 (by decide +kernel) rfl (by decide) ?_
  refine pf12_13 198 13 (by decide +kernel) rfl flX12_198 (Mod_0 S6) ?_
  replace F := F _ rfl
  generalize zU I1 m 13 (121) = I7 at F ⊢
  refine zAload_n 0 0 14 (by decide +kernel) rfl rfl ?_
  refine zIconst 0 0 15 (by decide +kernel) rfl (by decide) ?_
  refine pf12_12 128 18 (by decide +kernel) rfl flX12_128 (Mod_0 S6) ?_
  replace F := F _ rfl
  generalize zU I7 m 12 (0) = I8 at F ⊢
  refine zAload_n 0 0 19 (by decide +kernel) rfl rfl ?_
  refine zIconst 0 0 20 (by decide +kernel) rfl (by decide) ?_
  refine pf12_17 194 23 (by decide +kernel) rfl flX12_194 (Or.inl rfl) (Mod_0 S6) ?_
  replace F := F _ rfl
  generalize zU I8 m 17 (0) = I9 at F ⊢
  refine zAload_n 0 0 24 (by decide +kernel) rfl rfl ?_
  refine zIconst 0 0 25 (by decide +kernel) rfl (by decide) ?_
  refine pf12_14 201 28 (by decide +kernel) rfl flX12_201 (Mod_0 S6) ?_
  replace F := F _ rfl
  generalize zU I9 m 14 (0) = I10 at F ⊢
  refine zAload_n 0 0 29 (by decide +kernel) rfl rfl ?_
  refine zCallV 12 zcls12 mX12_clause 208 0 0 0 _ _ 32 [] [] okX12_clause mlX12_208 imX12_clause seX12_clause (by decide +kernel) rfl rfl (Nat.le_of_ble_eq_true rfl) rfl rfl (Mod_0 S6) (zC.mono F ?_)
  rintro _ _ ⟨I11, rfl, rfl, F⟩
  change zV G (d + 1) mX12_goThrough kc ks 32 [(0, .ref (m)), (1, .ref (b)), (2, .int (p2)), (3, .int (p3))] [] (I11, J2, R3, K, n) Q
  exact zLoc [0, 1, 2, 3] _ rfl F
set_option maxHeartbeats 2000000 in
theorem wX12_goThrough_32 {G : zG} {d kc ks : Nat} {I : Nat → Nat → Int32} {J : Nat → Nat → Int64} {R : Nat → Nat → Option Nat} {K : Nat → Nat × Nat} {n : Nat} {Q : Option Value → zH → Prop} (m u4 u5 : Nat) (b e : Nat) (hb : sA G K n b 33 e) (S6 : hMod G R K n m u4 u5) (l2 l3 : Int32) (F : (((I m 11 : Int32) = (-1) → zC G d mX12_look 0 0 [.ref (m)] (I, J, R, K, n) (fun r h => ∃ (x19 : Int32) (I20 : Nat → Nat → Int32), r = some (.int x19) ∧ h = (I20, J, R, K, n) ∧ ((x19 = 59 → (∀ I28 : Nat → Nat → Int32, I28 = zU I20 m 10 ((I20 m 10) + 1) → zC G d mX12_clause 0 0 [.ref (m)] (I28, J, R, K, n) (fun r h => ∃ (I29 : Nat → Nat → Int32), r = none ∧ h = (I29, J, R, K, n) ∧ zV G (d + 1) mX12_goThrough kc ks 32 [(0, .ref (m)), (1, .ref (b)), (2, .int (l2)), (3, .int (l3))] [] (I29, J, R, K, n) Q))) ∧ (¬ (x19 = 59) → (((I20 m 11 : Int32) = (-1) → zC G d mX12_look 0 0 [.ref (m)] (I20, J, R, K, n) (fun r h => ∃ (x23 : Int32) (I24 : Nat → Nat → Int32), r = some (.int x23) ∧ h = (I24, J, R, K, n) ∧ ((x23 = (-1) → Q none (I24, J, R, K, n)) ∧ (¬ (x23 = (-1)) → zC G d mX12_fails 0 0 [.ref (m)] (I24, J, R, K, n) (fun r h => ∃ (x26 : Int32) (I27 : Nat → Nat → Int32), r = some (.int x26) ∧ h = (I27, J, R, K, n) ∧ Q none (I27, J, R, K, n)))))) ∧ (¬ ((I20 m 11 : Int32) = (-1)) → Q none (I20, J, R, K, n))))))) ∧ (¬ ((I m 11 : Int32) = (-1)) → (((I m 11 : Int32) = (-1) → zC G d mX12_look 0 0 [.ref (m)] (I, J, R, K, n) (fun r h => ∃ (x14 : Int32) (I15 : Nat → Nat → Int32), r = some (.int x14) ∧ h = (I15, J, R, K, n) ∧ ((x14 = (-1) → Q none (I15, J, R, K, n)) ∧ (¬ (x14 = (-1)) → zC G d mX12_fails 0 0 [.ref (m)] (I15, J, R, K, n) (fun r h => ∃ (x17 : Int32) (I18 : Nat → Nat → Int32), r = some (.int x17) ∧ h = (I18, J, R, K, n) ∧ Q none (I18, J, R, K, n)))))) ∧ (¬ ((I m 11 : Int32) = (-1)) → Q none (I, J, R, K, n)))))) : zV G (d + 1) mX12_goThrough kc ks 32 [(0, .ref (m)), (1, .ref (b)), (2, .int (l2)), (3, .int (l3))] [] (I, J, R, K, n) Q := by
  refine zAload_n 0 0 33 (by decide +kernel) rfl rfl ?_
  refine gf12_11 125 36 (by decide +kernel) rfl flX12_125 (Mod_0 S6) ?_
  refine zIconst (-1) (-1) 37 (by decide +kernel) rfl (by decide) ?_
  refine zIcmp_ne 29 66 40 (by decide +kernel) rfl rfl ⟨fun q12 => ?_, fun q12 => ?_⟩
  · replace F := F.2 q12
    refine zAload_n 0 0 67 (by decide +kernel) rfl rfl ?_
    refine gf12_11 125 70 (by decide +kernel) rfl flX12_125 (Mod_0 S6) ?_
    refine zIconst (-1) (-1) 71 (by decide +kernel) rfl (by decide) ?_
    refine zIcmp_ne 16 87 74 (by decide +kernel) rfl rfl ⟨fun q13 => ?_, fun q13 => ?_⟩
    · replace F := F.2 q13
      exact zVret rfl (by decide +kernel) F
    · replace F := F.1 q13
      refine zAload_n 0 0 75 (by decide +kernel) rfl rfl ?_
      refine zCallV 12 zcls12 mX12_look 135 0 0 0 _ _ 78 [] [] okX12_look mlX12_135 imX12_look seX12_look (by decide +kernel) rfl rfl (Nat.le_of_ble_eq_true rfl) rfl rfl (Mod_0 S6) (zC.mono F ?_)
      rintro _ _ ⟨x14, I15, rfl, rfl, F⟩
      change zV G (d + 1) mX12_goThrough kc ks 78 [(0, .ref (m)), (1, .ref (b)), (2, .int (l2)), (3, .int (l3))] [.int (x14)] (I15, J, R, K, n) Q
      refine zIconst (-1) (-1) 79 (by decide +kernel) rfl (by decide) ?_
      refine zIcmp_eq 8 87 82 (by decide +kernel) rfl rfl ⟨fun q16 => ?_, fun q16 => ?_⟩
      · replace F := F.1 q16
        exact zVret rfl (by decide +kernel) F
      · replace F := F.2 q16
        refine zAload_n 0 0 83 (by decide +kernel) rfl rfl ?_
        refine zCallV 12 zcls12 mX12_fails 131 0 0 0 _ _ 86 [] [] okX12_fails mlX12_131 imX12_fails seX12_fails (by decide +kernel) rfl rfl (Nat.le_of_ble_eq_true rfl) rfl rfl (Mod_0 S6) (zC.mono F ?_)
        rintro _ _ ⟨x17, I18, rfl, rfl, F⟩
        change zV G (d + 1) mX12_goThrough kc ks 86 [(0, .ref (m)), (1, .ref (b)), (2, .int (l2)), (3, .int (l3))] [.int (x17)] (I18, J, R, K, n) Q
        refine zPop 87 (by decide +kernel) rfl rfl ?_
        exact zVret rfl (by decide +kernel) F
  · replace F := F.1 q12
    refine zAload_n 0 0 41 (by decide +kernel) rfl rfl ?_
    refine zCallV 12 zcls12 mX12_look 135 0 0 0 _ _ 44 [] [] okX12_look mlX12_135 imX12_look seX12_look (by decide +kernel) rfl rfl (Nat.le_of_ble_eq_true rfl) rfl rfl (Mod_0 S6) (zC.mono F ?_)
    rintro _ _ ⟨x19, I20, rfl, rfl, F⟩
    change zV G (d + 1) mX12_goThrough kc ks 44 [(0, .ref (m)), (1, .ref (b)), (2, .int (l2)), (3, .int (l3))] [.int (x19)] (I20, J, R, K, n) Q
    refine zBipush 59 59 46 (by decide +kernel) rfl (by decide) ?_
    refine zIcmp_ne 20 66 49 (by decide +kernel) rfl rfl ⟨fun q21 => ?_, fun q21 => ?_⟩
    · replace F := F.2 q21
      refine zAload_n 0 0 67 (by decide +kernel) rfl rfl ?_
      refine gf12_11 125 70 (by decide +kernel) rfl flX12_125 (Mod_0 S6) ?_
      refine zIconst (-1) (-1) 71 (by decide +kernel) rfl (by decide) ?_
      refine zIcmp_ne 16 87 74 (by decide +kernel) rfl rfl ⟨fun q22 => ?_, fun q22 => ?_⟩
      · replace F := F.2 q22
        exact zVret rfl (by decide +kernel) F
      · replace F := F.1 q22
        refine zAload_n 0 0 75 (by decide +kernel) rfl rfl ?_
        refine zCallV 12 zcls12 mX12_look 135 0 0 0 _ _ 78 [] [] okX12_look mlX12_135 imX12_look seX12_look (by decide +kernel) rfl rfl (Nat.le_of_ble_eq_true rfl) rfl rfl (Mod_0 S6) (zC.mono F ?_)
        rintro _ _ ⟨x23, I24, rfl, rfl, F⟩
        change zV G (d + 1) mX12_goThrough kc ks 78 [(0, .ref (m)), (1, .ref (b)), (2, .int (l2)), (3, .int (l3))] [.int (x23)] (I24, J, R, K, n) Q
        refine zIconst (-1) (-1) 79 (by decide +kernel) rfl (by decide) ?_
        refine zIcmp_eq 8 87 82 (by decide +kernel) rfl rfl ⟨fun q25 => ?_, fun q25 => ?_⟩
        · replace F := F.1 q25
          exact zVret rfl (by decide +kernel) F
        · replace F := F.2 q25
          refine zAload_n 0 0 83 (by decide +kernel) rfl rfl ?_
          refine zCallV 12 zcls12 mX12_fails 131 0 0 0 _ _ 86 [] [] okX12_fails mlX12_131 imX12_fails seX12_fails (by decide +kernel) rfl rfl (Nat.le_of_ble_eq_true rfl) rfl rfl (Mod_0 S6) (zC.mono F ?_)
          rintro _ _ ⟨x26, I27, rfl, rfl, F⟩
          change zV G (d + 1) mX12_goThrough kc ks 86 [(0, .ref (m)), (1, .ref (b)), (2, .int (l2)), (3, .int (l3))] [.int (x26)] (I27, J, R, K, n) Q
          refine zPop 87 (by decide +kernel) rfl rfl ?_
          exact zVret rfl (by decide +kernel) F
    · replace F := F.1 q21
      refine zAload_n 0 0 50 (by decide +kernel) rfl rfl ?_
      refine zDup 51 (by decide +kernel) rfl rfl ?_
      refine gf12_10 116 54 (by decide +kernel) rfl flX12_116 (Mod_0 S6) ?_
      refine zIconst 1 1 55 (by decide +kernel) rfl (by decide) ?_
      refine zIadd 56 (by decide +kernel) rfl ?_
      refine pf12_10 116 59 (by decide +kernel) rfl flX12_116 (Mod_0 S6) ?_
      replace F := F _ rfl
      generalize zU I20 m 10 ((I20 m 10) + 1) = I28 at F ⊢
      refine zAload_n 0 0 60 (by decide +kernel) rfl rfl ?_
      refine zCallV 12 zcls12 mX12_clause 208 0 0 0 _ _ 63 [] [] okX12_clause mlX12_208 imX12_clause seX12_clause (by decide +kernel) rfl rfl (Nat.le_of_ble_eq_true rfl) rfl rfl (Mod_0 S6) (zC.mono F ?_)
      rintro _ _ ⟨I29, rfl, rfl, F⟩
      change zV G (d + 1) mX12_goThrough kc ks 63 [(0, .ref (m)), (1, .ref (b)), (2, .int (l2)), (3, .int (l3))] [] (I29, J, R, K, n) Q
      refine zGoto (-31) 32 (by decide +kernel) rfl ?_
      exact zLoc [0, 1, 2, 3] _ rfl F
set_option maxHeartbeats 2000000 in
theorem wX12_here_0 {G : zG} {d kc ks : Nat} {I : Nat → Nat → Int32} {J : Nat → Nat → Int64} {R : Nat → Nat → Option Nat} {K : Nat → Nat × Nat} {n : Nat} {Q : Option Value → zH → Prop} (m t c : Nat) (S0_ : hMod G R K n m t c) (F : (((¬ ((I m 9 : Int32) ≤ (I m 10 : Int32))) → vp_in ((I m 8) + (I m 10)) c) ∧ Q (some (.int ((if (I m 9 : Int32) ≤ (I m 10 : Int32) then (-1) else (I t ((I m 8) + (I m 10) : Int32).toNatClampNeg) &&& 255)))) (I, J, R, K, n))) : zV G (d + 1) mX12_here kc ks 0 [(0, .ref (m))] [] (I, J, R, K, n) Q := by
  refine zAload_n 0 0 1 (by decide +kernel) rfl rfl ?_
  refine gf12_10 116 4 (by decide +kernel) rfl flX12_116 (Mod_0 S0_) ?_
  refine zAload_n 0 0 5 (by decide +kernel) rfl rfl ?_
  refine gf12_9 119 8 (by decide +kernel) rfl flX12_119 (Mod_0 S0_) ?_
  obtain ⟨w2, F⟩ := F
  suffices KK : zV G (d + 1) mX12_here kc ks 33 [(0, .ref (m))] [.int ((if (I m 9 : Int32) ≤ (I m 10 : Int32) then (-1) else (I t ((I m 8) + (I m 10) : Int32).toNatClampNeg) &&& 255))] (I, J, R, K, n) Q by
    refine zIcmp_ge 24 32 11 (by decide +kernel) rfl rfl ⟨fun q1 => ?_, fun q1 => ?_⟩
    · refine zIconst (-1) (-1) 33 (by decide +kernel) rfl (by decide) ?_
      exact zTop (by rw [if_pos q1]) KK
    · refine zAload_n 0 0 12 (by decide +kernel) rfl rfl ?_
      refine gf12_5 23 15 (by decide +kernel) rfl flX12_23 (Mod_0 S0_) (Mod_43 S0_) ?_
      refine zAload_n 0 0 16 (by decide +kernel) rfl rfl ?_
      refine gf12_8 122 19 (by decide +kernel) rfl flX12_122 (Mod_0 S0_) ?_
      refine zAload_n 0 0 20 (by decide +kernel) rfl rfl ?_
      refine gf12_10 116 23 (by decide +kernel) rfl flX12_116 (Mod_0 S0_) ?_
      refine zIadd 24 (by decide +kernel) rfl ?_
      refine yBaload c 25 (by decide +kernel) rfl (Mod_44 S0_) (w2 q1) ?_
      refine zSipush 255 255 28 (by decide +kernel) rfl (by decide) ?_
      refine zIand 29 (by decide +kernel) rfl ?_
      refine zGoto 4 33 (by decide +kernel) rfl ?_
      exact zTop (by rw [if_neg q1]) KK
  exact zIret rfl (by decide +kernel) F
set_option maxHeartbeats 2000000 in
theorem wX12_spotOf_0 {G : zG} {d kc ks : Nat} {I : Nat → Nat → Int32} {J : Nat → Nat → Int64} {R : Nat → Nat → Option Nat} {K : Nat → Nat × Nat} {n : Nat} {Q : Option Value → zH → Prop} (i : Nat) (hi : i < 6)  (p1 : Int32) (F : zV G (d + 1) mX12_spotOf kc ks 2 [(0, .ref (G.2.2.2.1 i)), (1, .int (p1)), (2, .int (0))] [] (I, J, R, K, n) Q) : zV G (d + 1) mX12_spotOf kc ks 0 [(0, .ref (G.2.2.2.1 i)), (1, .int (p1))] [] (I, J, R, K, n) Q := by
  refine zIconst 0 0 1 (by decide +kernel) rfl (by decide) ?_
  refine zIstore_n 2 [(2, .int (0)), (0, .ref (G.2.2.2.1 i)), (1, .int (p1))] 2 (by decide +kernel) rfl (by decide) rfl ?_
  exact zLoc [1, 2, 0] _ rfl F
set_option maxHeartbeats 2000000 in
theorem wX12_spotOf_2 {G : zG} {d kc ks : Nat} {I : Nat → Nat → Int32} {J : Nat → Nat → Int64} {R : Nat → Nat → Option Nat} {K : Nat → Nat × Nat} {n : Nat} {Q : Option Value → zH → Prop} (i : Nat) (hi : i < 6)  (l1 l2 : Int32) (F : zC G d mJ0_length_8abf5 0 0 [.ref (G.2.2.2.1 i)] (I, J, R, K, n) (fun r h => ∃ (x1 : Int32), r = some (.int x1) ∧ h = (I, J, R, K, n) ∧ ((x1 ≤ l2 → Q (some (.int ((-1)))) (I, J, R, K, n)) ∧ (¬ (x1 ≤ l2) → zC G d mJ0_charAt_5068e 0 0 [.ref (G.2.2.2.1 i), .int (l2)] (I, J, R, K, n) (fun r h => ∃ (x3 : Int32), r = some (.int x3) ∧ h = (I, J, R, K, n) ∧ ((x3 = l1 → Q (some (.int (l2))) (I, J, R, K, n)) ∧ (¬ (x3 = l1) → zV G (d + 1) mX12_spotOf kc ks 2 [(0, .ref (G.2.2.2.1 i)), (1, .int (l1)), (2, .int (l2 + 1))] [] (I, J, R, K, n) Q))))))) : zV G (d + 1) mX12_spotOf kc ks 2 [(0, .ref (G.2.2.2.1 i)), (1, .int (l1)), (2, .int (l2))] [] (I, J, R, K, n) Q := by
  refine zIload_n 2 2 3 (by decide +kernel) rfl rfl ?_
  refine zAload_n 0 0 4 (by decide +kernel) rfl rfl ?_
  refine zCallStr i hi mJ0_length_8abf5 96 0 0 0 _ _ 7 [] [.int (l2)] okJ0_length_8abf5 mlX12_96 imJ0_length_8abf5 seJ0_length_8abf5 (by decide +kernel) rfl rfl (Nat.le_of_ble_eq_true rfl) rfl rfl (zC.mono F ?_)
  rintro _ _ ⟨x1, rfl, rfl, F⟩
  change zV G (d + 1) mX12_spotOf kc ks 7 [(0, .ref (G.2.2.2.1 i)), (1, .int (l1)), (2, .int (l2))] [.int (x1), .int (l2)] (I, J, R, K, n) Q
  refine zIcmp_ge 20 27 10 (by decide +kernel) rfl rfl ⟨fun q2 => ?_, fun q2 => ?_⟩
  · replace F := F.1 q2
    refine zIconst (-1) (-1) 28 (by decide +kernel) rfl (by decide) ?_
    exact zIret rfl (by decide +kernel) F
  · replace F := F.2 q2
    refine zAload_n 0 0 11 (by decide +kernel) rfl rfl ?_
    refine zIload_n 2 2 12 (by decide +kernel) rfl rfl ?_
    refine zCallStr i hi mJ0_charAt_5068e 102 1 0 0 _ _ 15 [.int (l2)] [] okJ0_charAt_5068e mlX12_102 imJ0_charAt_5068e seJ0_charAt_5068e (by decide +kernel) rfl rfl (Nat.le_of_ble_eq_true rfl) rfl rfl (zC.mono F ?_)
    rintro _ _ ⟨x3, rfl, rfl, F⟩
    change zV G (d + 1) mX12_spotOf kc ks 15 [(0, .ref (G.2.2.2.1 i)), (1, .int (l1)), (2, .int (l2))] [.int (x3)] (I, J, R, K, n) Q
    refine zIload_n 1 1 16 (by decide +kernel) rfl rfl ?_
    refine zIcmp_ne 5 21 19 (by decide +kernel) rfl rfl ⟨fun q4 => ?_, fun q4 => ?_⟩
    · replace F := F.2 q4
      refine zIinc 2 1 2 (l2 + 1) [(2, .int (l2 + 1)), (0, .ref (G.2.2.2.1 i)), (1, .int (l1))] 24 (by decide +kernel) rfl rfl (by rfl) (by decide) rfl ?_
      refine zGoto (-22) 2 (by decide +kernel) rfl ?_
      exact zLoc [1, 2, 0] _ rfl F
    · replace F := F.1 q4
      refine zIload_n 2 2 20 (by decide +kernel) rfl rfl ?_
      exact zIret rfl (by decide +kernel) F
set_option maxHeartbeats 2000000 in
theorem wX12_number_0 {G : zG} {d kc ks : Nat} {I : Nat → Nat → Int32} {J : Nat → Nat → Int64} {R : Nat → Nat → Option Nat} {K : Nat → Nat × Nat} {n : Nat} {Q : Option Value → zH → Prop} (m t c : Nat) (S0_ : hMod G R K n m t c) (p1 p2 : Int32) (F : zC G d mX12_look 0 0 [.ref (m)] (I, J, R, K, n) (fun r h => ∃ (x1 : Int32) (I2 : Nat → Nat → Int32), r = some (.int x1) ∧ h = (I2, J, R, K, n) ∧ zC G d mX12_isDigit 0 0 [.ref (m)] (I2, J, R, K, n) (fun r h => ∃ (x3 : Int32) (I4 : Nat → Nat → Int32), r = some (.int x3) ∧ h = (I4, J, R, K, n) ∧ ((x3 = 0 → zC G d mX12_fails 0 0 [.ref (m)] (I4, J, R, K, n) (fun r h => ∃ (x35 : Int32) (I36 : Nat → Nat → Int32), r = some (.int x35) ∧ h = (I36, J, R, K, n) ∧ Q (some (.int (0))) (I36, J, R, K, n))) ∧ (¬ (x3 = 0) → (∀ I6 : Nat → Nat → Int32, I6 = zU I4 m 10 ((I4 m 10) + 1) → zC G d mX12_isDigit 0 0 [.ref (m)] (I6, J, R, K, n) (fun r h => ∃ (x7 : Int32) (I8 : Nat → Nat → Int32), r = some (.int x7) ∧ h = (I8, J, R, K, n) ∧ ((x7 = 0 → zC G d mX12_isDigit 0 0 [.ref (m)] (I8, J, R, K, n) (fun r h => ∃ (x10 : Int32) (I11 : Nat → Nat → Int32), r = some (.int x10) ∧ h = (I11, J, R, K, n) ∧ ((x10 = 0 → zC G d mX12_isIn 0 0 [.long ((x1 - 48 : Int32).toInt64), .long (p1.toInt64), .long (p2.toInt64)] (I11, J, R, K, n) (fun r h => ∃ (x13 : Int32) (I14 : Nat → Nat → Int32), r = some (.int x13) ∧ h = (I14, J, R, K, n) ∧ ((x13 = 0 → (∀ I16 : Nat → Nat → Int32, I16 = zU I14 m 10 ((I14 m 10) - 1) → zC G d mX12_fails 0 0 [.ref (m)] (I16, J, R, K, n) (fun r h => ∃ (x17 : Int32) (I18 : Nat → Nat → Int32), r = some (.int x17) ∧ h = (I18, J, R, K, n) ∧ Q (some (.int (x1 - 48))) (I18, J, R, K, n)))) ∧ (¬ (x13 = 0) → Q (some (.int (x1 - 48))) (I14, J, R, K, n))))) ∧ (¬ (x10 = 0) → zC G d mX12_fails 0 0 [.ref (m)] (I11, J, R, K, n) (fun r h => ∃ (x19 : Int32) (I20 : Nat → Nat → Int32), r = some (.int x19) ∧ h = (I20, J, R, K, n) ∧ Q (some (.int (0))) (I20, J, R, K, n)))))) ∧ (¬ (x7 = 0) → zC G d mX12_here 0 0 [.ref (m)] (I8, J, R, K, n) (fun r h => ∃ (x21 : Int32) (I22 : Nat → Nat → Int32), r = some (.int x21) ∧ h = (I22, J, R, K, n) ∧ (∀ I23 : Nat → Nat → Int32, I23 = zU I22 m 10 ((I22 m 10) + 1) → zC G d mX12_isDigit 0 0 [.ref (m)] (I23, J, R, K, n) (fun r h => ∃ (x24 : Int32) (I25 : Nat → Nat → Int32), r = some (.int x24) ∧ h = (I25, J, R, K, n) ∧ ((x24 = 0 → zC G d mX12_isIn 0 0 [.long ((((10 * (x1 - 48)) + x21) - 48 : Int32).toInt64), .long (p1.toInt64), .long (p2.toInt64)] (I25, J, R, K, n) (fun r h => ∃ (x27 : Int32) (I28 : Nat → Nat → Int32), r = some (.int x27) ∧ h = (I28, J, R, K, n) ∧ ((x27 = 0 → (∀ I30 : Nat → Nat → Int32, I30 = zU I28 m 10 ((I28 m 10) - 1) → zC G d mX12_fails 0 0 [.ref (m)] (I30, J, R, K, n) (fun r h => ∃ (x31 : Int32) (I32 : Nat → Nat → Int32), r = some (.int x31) ∧ h = (I32, J, R, K, n) ∧ Q (some (.int (((10 * (x1 - 48)) + x21) - 48))) (I32, J, R, K, n)))) ∧ (¬ (x27 = 0) → Q (some (.int (((10 * (x1 - 48)) + x21) - 48))) (I28, J, R, K, n))))) ∧ (¬ (x24 = 0) → zC G d mX12_fails 0 0 [.ref (m)] (I25, J, R, K, n) (fun r h => ∃ (x33 : Int32) (I34 : Nat → Nat → Int32), r = some (.int x33) ∧ h = (I34, J, R, K, n) ∧ Q (some (.int (0))) (I34, J, R, K, n)))))))))))))))) : zV G (d + 1) mX12_number kc ks 0 [(0, .ref (m)), (1, .int (p1)), (2, .int (p2))] [] (I, J, R, K, n) Q := by
  refine zAload_n 0 0 1 (by decide +kernel) rfl rfl ?_
  refine zCallV 12 zcls12 mX12_look 135 0 0 0 _ _ 4 [] [] okX12_look mlX12_135 imX12_look seX12_look (by decide +kernel) rfl rfl (Nat.le_of_ble_eq_true rfl) rfl rfl (Mod_0 S0_) (zC.mono F ?_)
  rintro _ _ ⟨x1, I2, rfl, rfl, F⟩
  change zV G (d + 1) mX12_number kc ks 4 [(0, .ref (m)), (1, .int (p1)), (2, .int (p2))] [.int (x1)] (I2, J, R, K, n) Q
  refine zIstore_n 3 [(3, .int (x1)), (0, .ref (m)), (1, .int (p1)), (2, .int (p2))] 5 (by decide +kernel) rfl (by decide) rfl ?_
  refine zAload_n 0 1 6 (by decide +kernel) rfl rfl ?_
  refine zCallV 12 zcls12 mX12_isDigit 165 0 0 0 _ _ 9 [] [] okX12_isDigit mlX12_165 imX12_isDigit seX12_isDigit (by decide +kernel) rfl rfl (Nat.le_of_ble_eq_true rfl) rfl rfl (Mod_0 S0_) (zC.mono F ?_)
  rintro _ _ ⟨x3, I4, rfl, rfl, F⟩
  change zV G (d + 1) mX12_number kc ks 9 [(3, .int (x1)), (0, .ref (m)), (1, .int (p1)), (2, .int (p2))] [.int (x3)] (I4, J, R, K, n) Q
  refine zIf_ne 10 19 12 (by decide +kernel) rfl rfl ⟨fun q5 => ?_, fun q5 => ?_⟩
  · replace F := F.2 q5
    refine zIload_n 3 0 20 (by decide +kernel) rfl rfl ?_
    refine zBipush 48 48 22 (by decide +kernel) rfl (by decide) ?_
    refine zIsub 23 (by decide +kernel) rfl ?_
    refine zIstore 4 [(4, .int (x1 - 48)), (3, .int (x1)), (0, .ref (m)), (1, .int (p1)), (2, .int (p2))] 25 (by decide +kernel) rfl (by decide) rfl ?_
    refine zAload_n 0 2 26 (by decide +kernel) rfl rfl ?_
    refine zDup 27 (by decide +kernel) rfl rfl ?_
    refine gf12_10 116 30 (by decide +kernel) rfl flX12_116 (Mod_0 S0_) ?_
    refine zIconst 1 1 31 (by decide +kernel) rfl (by decide) ?_
    refine zIadd 32 (by decide +kernel) rfl ?_
    refine pf12_10 116 35 (by decide +kernel) rfl flX12_116 (Mod_0 S0_) ?_
    replace F := F _ rfl
    generalize zU I4 m 10 ((I4 m 10) + 1) = I6 at F ⊢
    refine zAload_n 0 2 36 (by decide +kernel) rfl rfl ?_
    refine zCallV 12 zcls12 mX12_isDigit 165 0 0 0 _ _ 39 [] [] okX12_isDigit mlX12_165 imX12_isDigit seX12_isDigit (by decide +kernel) rfl rfl (Nat.le_of_ble_eq_true rfl) rfl rfl (Mod_0 S0_) (zC.mono F ?_)
    rintro _ _ ⟨x7, I8, rfl, rfl, F⟩
    change zV G (d + 1) mX12_number kc ks 39 [(4, .int (x1 - 48)), (3, .int (x1)), (0, .ref (m)), (1, .int (p1)), (2, .int (p2))] [.int (x7)] (I8, J, R, K, n) Q
    refine zIf_eq 28 67 42 (by decide +kernel) rfl rfl ⟨fun q9 => ?_, fun q9 => ?_⟩
    · replace F := F.1 q9
      refine zAload_n 0 2 68 (by decide +kernel) rfl rfl ?_
      refine zCallV 12 zcls12 mX12_isDigit 165 0 0 0 _ _ 71 [] [] okX12_isDigit mlX12_165 imX12_isDigit seX12_isDigit (by decide +kernel) rfl rfl (Nat.le_of_ble_eq_true rfl) rfl rfl (Mod_0 S0_) (zC.mono F ?_)
      rintro _ _ ⟨x10, I11, rfl, rfl, F⟩
      change zV G (d + 1) mX12_number kc ks 71 [(4, .int (x1 - 48)), (3, .int (x1)), (0, .ref (m)), (1, .int (p1)), (2, .int (p2))] [.int (x10)] (I11, J, R, K, n) Q
      refine zIf_eq 10 81 74 (by decide +kernel) rfl rfl ⟨fun q12 => ?_, fun q12 => ?_⟩
      · replace F := F.1 q12
        refine zIload 4 0 83 (by decide +kernel) rfl rfl ?_
        refine zI2l 84 (by decide +kernel) rfl ?_
        refine zIload_n 1 3 85 (by decide +kernel) rfl rfl ?_
        refine zI2l 86 (by decide +kernel) rfl ?_
        refine zIload_n 2 4 87 (by decide +kernel) rfl rfl ?_
        refine zI2l 88 (by decide +kernel) rfl ?_
        refine zCallS mX12_isIn 214 3 0 0 _ _ 91 [.long ((x1 - 48 : Int32).toInt64), .long (p1.toInt64), .long (p2.toInt64)] [] okX12_isIn mlX12_214 smX12_isIn (by decide +kernel) rfl rfl (Nat.le_of_ble_eq_true rfl) rfl rfl (zC.mono F ?_)
        rintro _ _ ⟨x13, I14, rfl, rfl, F⟩
        change zV G (d + 1) mX12_number kc ks 91 [(4, .int (x1 - 48)), (3, .int (x1)), (0, .ref (m)), (1, .int (p1)), (2, .int (p2))] [.int (x13)] (I14, J, R, K, n) Q
        refine zIf_ne 18 109 94 (by decide +kernel) rfl rfl ⟨fun q15 => ?_, fun q15 => ?_⟩
        · replace F := F.2 q15
          refine zIload 4 0 111 (by decide +kernel) rfl rfl ?_
          exact zIret rfl (by decide +kernel) F
        · replace F := F.1 q15
          refine zAload_n 0 2 95 (by decide +kernel) rfl rfl ?_
          refine zDup 96 (by decide +kernel) rfl rfl ?_
          refine gf12_10 116 99 (by decide +kernel) rfl flX12_116 (Mod_0 S0_) ?_
          refine zIconst 1 1 100 (by decide +kernel) rfl (by decide) ?_
          refine zIsub 101 (by decide +kernel) rfl ?_
          refine pf12_10 116 104 (by decide +kernel) rfl flX12_116 (Mod_0 S0_) ?_
          replace F := F _ rfl
          generalize zU I14 m 10 ((I14 m 10) - 1) = I16 at F ⊢
          refine zAload_n 0 2 105 (by decide +kernel) rfl rfl ?_
          refine zCallV 12 zcls12 mX12_fails 131 0 0 0 _ _ 108 [] [] okX12_fails mlX12_131 imX12_fails seX12_fails (by decide +kernel) rfl rfl (Nat.le_of_ble_eq_true rfl) rfl rfl (Mod_0 S0_) (zC.mono F ?_)
          rintro _ _ ⟨x17, I18, rfl, rfl, F⟩
          change zV G (d + 1) mX12_number kc ks 108 [(4, .int (x1 - 48)), (3, .int (x1)), (0, .ref (m)), (1, .int (p1)), (2, .int (p2))] [.int (x17)] (I18, J, R, K, n) Q
          refine zPop 109 (by decide +kernel) rfl rfl ?_
          refine zIload 4 0 111 (by decide +kernel) rfl rfl ?_
          exact zIret rfl (by decide +kernel) F
      · replace F := F.2 q12
        refine zAload_n 0 2 75 (by decide +kernel) rfl rfl ?_
        refine zCallV 12 zcls12 mX12_fails 131 0 0 0 _ _ 78 [] [] okX12_fails mlX12_131 imX12_fails seX12_fails (by decide +kernel) rfl rfl (Nat.le_of_ble_eq_true rfl) rfl rfl (Mod_0 S0_) (zC.mono F ?_)
        rintro _ _ ⟨x19, I20, rfl, rfl, F⟩
        change zV G (d + 1) mX12_number kc ks 78 [(4, .int (x1 - 48)), (3, .int (x1)), (0, .ref (m)), (1, .int (p1)), (2, .int (p2))] [.int (x19)] (I20, J, R, K, n) Q
        refine zPop 79 (by decide +kernel) rfl rfl ?_
        refine zIconst 0 0 80 (by decide +kernel) rfl (by decide) ?_
        exact zIret rfl (by decide +kernel) F
    · replace F := F.2 q9
      refine zBipush 10 10 44 (by decide +kernel) rfl (by decide) ?_
      refine zIload 4 0 46 (by decide +kernel) rfl rfl ?_
      refine zImul 47 (by decide +kernel) rfl ?_
      refine zAload_n 0 2 48 (by decide +kernel) rfl rfl ?_
      refine zCallV 12 zcls12 mX12_here 211 0 0 0 _ _ 51 [] [.int (10 * (x1 - 48))] okX12_here mlX12_211 imX12_here seX12_here (by decide +kernel) rfl rfl (Nat.le_of_ble_eq_true rfl) rfl rfl (Mod_0 S0_) (zC.mono F ?_)
      rintro _ _ ⟨x21, I22, rfl, rfl, F⟩
      change zV G (d + 1) mX12_number kc ks 51 [(4, .int (x1 - 48)), (3, .int (x1)), (0, .ref (m)), (1, .int (p1)), (2, .int (p2))] [.int (x21), .int (10 * (x1 - 48))] (I22, J, R, K, n) Q
      refine zIadd 52 (by decide +kernel) rfl ?_
      refine zBipush 48 48 54 (by decide +kernel) rfl (by decide) ?_
      refine zIsub 55 (by decide +kernel) rfl ?_
      refine zIstore 4 [(4, .int (((10 * (x1 - 48)) + x21) - 48)), (3, .int (x1)), (0, .ref (m)), (1, .int (p1)), (2, .int (p2))] 57 (by decide +kernel) rfl (by decide) rfl ?_
      refine zAload_n 0 2 58 (by decide +kernel) rfl rfl ?_
      refine zDup 59 (by decide +kernel) rfl rfl ?_
      refine gf12_10 116 62 (by decide +kernel) rfl flX12_116 (Mod_0 S0_) ?_
      refine zIconst 1 1 63 (by decide +kernel) rfl (by decide) ?_
      refine zIadd 64 (by decide +kernel) rfl ?_
      refine pf12_10 116 67 (by decide +kernel) rfl flX12_116 (Mod_0 S0_) ?_
      replace F := F _ rfl
      generalize zU I22 m 10 ((I22 m 10) + 1) = I23 at F ⊢
      refine zAload_n 0 2 68 (by decide +kernel) rfl rfl ?_
      refine zCallV 12 zcls12 mX12_isDigit 165 0 0 0 _ _ 71 [] [] okX12_isDigit mlX12_165 imX12_isDigit seX12_isDigit (by decide +kernel) rfl rfl (Nat.le_of_ble_eq_true rfl) rfl rfl (Mod_0 S0_) (zC.mono F ?_)
      rintro _ _ ⟨x24, I25, rfl, rfl, F⟩
      change zV G (d + 1) mX12_number kc ks 71 [(4, .int (((10 * (x1 - 48)) + x21) - 48)), (3, .int (x1)), (0, .ref (m)), (1, .int (p1)), (2, .int (p2))] [.int (x24)] (I25, J, R, K, n) Q
      refine zIf_eq 10 81 74 (by decide +kernel) rfl rfl ⟨fun q26 => ?_, fun q26 => ?_⟩
      · replace F := F.1 q26
        refine zIload 4 0 83 (by decide +kernel) rfl rfl ?_
        refine zI2l 84 (by decide +kernel) rfl ?_
        refine zIload_n 1 3 85 (by decide +kernel) rfl rfl ?_
        refine zI2l 86 (by decide +kernel) rfl ?_
        refine zIload_n 2 4 87 (by decide +kernel) rfl rfl ?_
        refine zI2l 88 (by decide +kernel) rfl ?_
        refine zCallS mX12_isIn 214 3 0 0 _ _ 91 [.long ((((10 * (x1 - 48)) + x21) - 48 : Int32).toInt64), .long (p1.toInt64), .long (p2.toInt64)] [] okX12_isIn mlX12_214 smX12_isIn (by decide +kernel) rfl rfl (Nat.le_of_ble_eq_true rfl) rfl rfl (zC.mono F ?_)
        rintro _ _ ⟨x27, I28, rfl, rfl, F⟩
        change zV G (d + 1) mX12_number kc ks 91 [(4, .int (((10 * (x1 - 48)) + x21) - 48)), (3, .int (x1)), (0, .ref (m)), (1, .int (p1)), (2, .int (p2))] [.int (x27)] (I28, J, R, K, n) Q
        refine zIf_ne 18 109 94 (by decide +kernel) rfl rfl ⟨fun q29 => ?_, fun q29 => ?_⟩
        · replace F := F.2 q29
          refine zIload 4 0 111 (by decide +kernel) rfl rfl ?_
          exact zIret rfl (by decide +kernel) F
        · replace F := F.1 q29
          refine zAload_n 0 2 95 (by decide +kernel) rfl rfl ?_
          refine zDup 96 (by decide +kernel) rfl rfl ?_
          refine gf12_10 116 99 (by decide +kernel) rfl flX12_116 (Mod_0 S0_) ?_
          refine zIconst 1 1 100 (by decide +kernel) rfl (by decide) ?_
          refine zIsub 101 (by decide +kernel) rfl ?_
          refine pf12_10 116 104 (by decide +kernel) rfl flX12_116 (Mod_0 S0_) ?_
          replace F := F _ rfl
          generalize zU I28 m 10 ((I28 m 10) - 1) = I30 at F ⊢
          refine zAload_n 0 2 105 (by decide +kernel) rfl rfl ?_
          refine zCallV 12 zcls12 mX12_fails 131 0 0 0 _ _ 108 [] [] okX12_fails mlX12_131 imX12_fails seX12_fails (by decide +kernel) rfl rfl (Nat.le_of_ble_eq_true rfl) rfl rfl (Mod_0 S0_) (zC.mono F ?_)
          rintro _ _ ⟨x31, I32, rfl, rfl, F⟩
          change zV G (d + 1) mX12_number kc ks 108 [(4, .int (((10 * (x1 - 48)) + x21) - 48)), (3, .int (x1)), (0, .ref (m)), (1, .int (p1)), (2, .int (p2))] [.int (x31)] (I32, J, R, K, n) Q
          refine zPop 109 (by decide +kernel) rfl rfl ?_
          refine zIload 4 0 111 (by decide +kernel) rfl rfl ?_
          exact zIret rfl (by decide +kernel) F
      · replace F := F.2 q26
        refine zAload_n 0 2 75 (by decide +kernel) rfl rfl ?_
        refine zCallV 12 zcls12 mX12_fails 131 0 0 0 _ _ 78 [] [] okX12_fails mlX12_131 imX12_fails seX12_fails (by decide +kernel) rfl rfl (Nat.le_of_ble_eq_true rfl) rfl rfl (Mod_0 S0_) (zC.mono F ?_)
        rintro _ _ ⟨x33, I34, rfl, rfl, F⟩
        change zV G (d + 1) mX12_number kc ks 78 [(4, .int (((10 * (x1 - 48)) + x21) - 48)), (3, .int (x1)), (0, .ref (m)), (1, .int (p1)), (2, .int (p2))] [.int (x33)] (I34, J, R, K, n) Q
        refine zPop 79 (by decide +kernel) rfl rfl ?_
        refine zIconst 0 0 80 (by decide +kernel) rfl (by decide) ?_
        exact zIret rfl (by decide +kernel) F
  · replace F := F.1 q5
    refine zAload_n 0 1 13 (by decide +kernel) rfl rfl ?_
    refine zCallV 12 zcls12 mX12_fails 131 0 0 0 _ _ 16 [] [] okX12_fails mlX12_131 imX12_fails seX12_fails (by decide +kernel) rfl rfl (Nat.le_of_ble_eq_true rfl) rfl rfl (Mod_0 S0_) (zC.mono F ?_)
    rintro _ _ ⟨x35, I36, rfl, rfl, F⟩
    change zV G (d + 1) mX12_number kc ks 16 [(3, .int (x1)), (0, .ref (m)), (1, .int (p1)), (2, .int (p2))] [.int (x35)] (I36, J, R, K, n) Q
    refine zPop 17 (by decide +kernel) rfl rfl ?_
    refine zIconst 0 0 18 (by decide +kernel) rfl (by decide) ?_
    exact zIret rfl (by decide +kernel) F
set_option maxHeartbeats 2000000 in
theorem wX12_mostOf_0 {G : zG} {d kc ks : Nat} {I : Nat → Nat → Int32} {J : Nat → Nat → Int64} {R : Nat → Nat → Option Nat} {K : Nat → Nat × Nat} {n : Nat} {Q : Option Value → zH → Prop}  (p0 p1 : Int32) (F : ((p0 = 115 → Q (some (.int (99))) (I, J, R, K, n)) ∧ (¬ (p0 = 115) → ((p0 = 102 → Q (some (.int ((if p1 = 0 then 40 else 9)))) (I, J, R, K, n)) ∧ (¬ (p0 = 102) → Q (some (.int ((if 2 ≤ p1 then 9 else 5)))) (I, J, R, K, n)))))) : zV G (d + 1) mX12_mostOf kc ks 0 [(0, .int (p0)), (1, .int (p1))] [] (I, J, R, K, n) Q := by
  refine zIload_n 0 0 1 (by decide +kernel) rfl rfl ?_
  refine zBipush 115 115 3 (by decide +kernel) rfl (by decide) ?_
  refine zIcmp_ne 6 9 6 (by decide +kernel) rfl rfl ⟨fun q1 => ?_, fun q1 => ?_⟩
  · replace F := F.2 q1
    refine zIload_n 0 0 10 (by decide +kernel) rfl rfl ?_
    refine zBipush 102 102 12 (by decide +kernel) rfl (by decide) ?_
    refine zIcmp_ne 15 27 15 (by decide +kernel) rfl rfl ⟨fun q2 => ?_, fun q2 => ?_⟩
    · replace F := F.2 q2
      refine zIload_n 1 1 28 (by decide +kernel) rfl rfl ?_
      refine zIconst 2 2 29 (by decide +kernel) rfl (by decide) ?_
      suffices KK : zV G (d + 1) mX12_mostOf kc ks 38 [(0, .int (p0)), (1, .int (p1))] [.int ((if 2 ≤ p1 then 9 else 5))] (I, J, R, K, n) Q by
        refine zIcmp_ge 7 36 32 (by decide +kernel) rfl rfl ⟨fun q3 => ?_, fun q3 => ?_⟩
        · refine zBipush 9 9 38 (by decide +kernel) rfl (by decide) ?_
          exact zTop (by rw [if_pos q3]) KK
        · refine zIconst 5 5 33 (by decide +kernel) rfl (by decide) ?_
          refine zGoto 5 38 (by decide +kernel) rfl ?_
          exact zTop (by rw [if_neg q3]) KK
      exact zIret rfl (by decide +kernel) F
    · replace F := F.1 q2
      refine zIload_n 1 1 16 (by decide +kernel) rfl rfl ?_
      suffices KK : zV G (d + 1) mX12_mostOf kc ks 26 [(0, .int (p0)), (1, .int (p1))] [.int ((if p1 = 0 then 40 else 9))] (I, J, R, K, n) Q by
        refine zIf_ne 8 24 19 (by decide +kernel) rfl rfl ⟨fun q4 => ?_, fun q4 => ?_⟩
        · refine zBipush 9 9 26 (by decide +kernel) rfl (by decide) ?_
          exact zTop (by rw [if_neg q4]) KK
        · refine zBipush 40 40 21 (by decide +kernel) rfl (by decide) ?_
          refine zGoto 5 26 (by decide +kernel) rfl ?_
          exact zTop (by rw [if_pos q4]) KK
      exact zIret rfl (by decide +kernel) F
  · replace F := F.1 q1
    refine zBipush 99 99 8 (by decide +kernel) rfl (by decide) ?_
    exact zIret rfl (by decide +kernel) F
set_option maxHeartbeats 2000000 in
theorem wX12_leastOf_0 {G : zG} {d kc ks : Nat} {I : Nat → Nat → Int32} {J : Nat → Nat → Int64} {R : Nat → Nat → Option Nat} {K : Nat → Nat × Nat} {n : Nat} {Q : Option Value → zH → Prop}  (p0 p1 : Int32) (F : Q (some (.int ((if p0 = 102 then (if p1 = 0 then 1 else (if p0 = 119 then (if p1 = 2 then 1 else 0) else 0)) else (if p0 = 119 then (if p1 = 2 then 1 else 0) else 0))))) (I, J, R, K, n)) : zV G (d + 1) mX12_leastOf kc ks 0 [(0, .int (p0)), (1, .int (p1))] [] (I, J, R, K, n) Q := by
  refine zIload_n 0 0 1 (by decide +kernel) rfl rfl ?_
  refine zBipush 102 102 3 (by decide +kernel) rfl (by decide) ?_
  suffices KK : zV G (d + 1) mX12_leastOf kc ks 26 [(0, .int (p0)), (1, .int (p1))] [.int ((if p0 = 102 then (if p1 = 0 then 1 else (if p0 = 119 then (if p1 = 2 then 1 else 0) else 0)) else (if p0 = 119 then (if p1 = 2 then 1 else 0) else 0)))] (I, J, R, K, n) Q by
    refine zIcmp_ne 7 10 6 (by decide +kernel) rfl rfl ⟨fun q1 => ?_, fun q1 => ?_⟩
    · refine zIload_n 0 0 11 (by decide +kernel) rfl rfl ?_
      refine zBipush 119 119 13 (by decide +kernel) rfl (by decide) ?_
      refine zIcmp_ne 12 25 16 (by decide +kernel) rfl rfl ⟨fun q2 => ?_, fun q2 => ?_⟩
      · refine zIconst 0 0 26 (by decide +kernel) rfl (by decide) ?_
        exact zTop (by rw [if_neg q1, if_neg q2]) KK
      · refine zIload_n 1 1 17 (by decide +kernel) rfl rfl ?_
        refine zIconst 2 2 18 (by decide +kernel) rfl (by decide) ?_
        refine zIcmp_ne 7 25 21 (by decide +kernel) rfl rfl ⟨fun q3 => ?_, fun q3 => ?_⟩
        · refine zIconst 0 0 26 (by decide +kernel) rfl (by decide) ?_
          exact zTop (by rw [if_neg q1, if_pos q2, if_neg q3]) KK
        · refine zIconst 1 1 22 (by decide +kernel) rfl (by decide) ?_
          refine zGoto 4 26 (by decide +kernel) rfl ?_
          exact zTop (by rw [if_neg q1, if_pos q2, if_pos q3]) KK
    · refine zIload_n 1 1 7 (by decide +kernel) rfl rfl ?_
      refine zIf_eq 14 21 10 (by decide +kernel) rfl rfl ⟨fun q4 => ?_, fun q4 => ?_⟩
      · refine zIconst 1 1 22 (by decide +kernel) rfl (by decide) ?_
        refine zGoto 4 26 (by decide +kernel) rfl ?_
        exact zTop (by rw [if_pos q1, if_pos q4]) KK
      · refine zIload_n 0 0 11 (by decide +kernel) rfl rfl ?_
        refine zBipush 119 119 13 (by decide +kernel) rfl (by decide) ?_
        refine zIcmp_ne 12 25 16 (by decide +kernel) rfl rfl ⟨fun q5 => ?_, fun q5 => ?_⟩
        · refine zIconst 0 0 26 (by decide +kernel) rfl (by decide) ?_
          exact zTop (by rw [if_pos q1, if_neg q4, if_neg q5]) KK
        · refine zIload_n 1 1 17 (by decide +kernel) rfl rfl ?_
          refine zIconst 2 2 18 (by decide +kernel) rfl (by decide) ?_
          refine zIcmp_ne 7 25 21 (by decide +kernel) rfl rfl ⟨fun q6 => ?_, fun q6 => ?_⟩
          · refine zIconst 0 0 26 (by decide +kernel) rfl (by decide) ?_
            exact zTop (by rw [if_pos q1, if_neg q4, if_pos q5, if_neg q6]) KK
          · refine zIconst 1 1 22 (by decide +kernel) rfl (by decide) ?_
            refine zGoto 4 26 (by decide +kernel) rfl ?_
            exact zTop (by rw [if_pos q1, if_neg q4, if_pos q5, if_pos q6]) KK
  exact zIret rfl (by decide +kernel) F
set_option maxHeartbeats 2000000 in
theorem wX12_usual_0 {G : zG} {d kc ks : Nat} {I : Nat → Nat → Int32} {J : Nat → Nat → Int64} {R : Nat → Nat → Option Nat} {K : Nat → Nat × Nat} {n : Nat} {Q : Option Value → zH → Prop}  (p0 p1 : Int32) (F : ((p0 = 115 → Q (some (.int ((if p1 = 0 then 40 else 20)))) (I, J, R, K, n)) ∧ (¬ (p0 = 115) → ((p0 = 102 → Q (some (.int ((if p1 = 0 then 10 else 3)))) (I, J, R, K, n)) ∧ (¬ (p0 = 102) → Q (some (.int ((if p1 = 0 then 0 else (if p1 = 1 then 1 else 3))))) (I, J, R, K, n)))))) : zV G (d + 1) mX12_usual kc ks 0 [(0, .int (p0)), (1, .int (p1))] [] (I, J, R, K, n) Q := by
  refine zIload_n 0 0 1 (by decide +kernel) rfl rfl ?_
  refine zBipush 115 115 3 (by decide +kernel) rfl (by decide) ?_
  refine zIcmp_ne 15 18 6 (by decide +kernel) rfl rfl ⟨fun q1 => ?_, fun q1 => ?_⟩
  · replace F := F.2 q1
    refine zIload_n 0 0 19 (by decide +kernel) rfl rfl ?_
    refine zBipush 102 102 21 (by decide +kernel) rfl (by decide) ?_
    refine zIcmp_ne 14 35 24 (by decide +kernel) rfl rfl ⟨fun q2 => ?_, fun q2 => ?_⟩
    · replace F := F.2 q2
      refine zIload_n 1 1 36 (by decide +kernel) rfl rfl ?_
      suffices KK : zV G (d + 1) mX12_usual kc ks 53 [(0, .int (p0)), (1, .int (p1))] [.int ((if p1 = 0 then 0 else (if p1 = 1 then 1 else 3)))] (I, J, R, K, n) Q by
        refine zIf_ne 7 43 39 (by decide +kernel) rfl rfl ⟨fun q3 => ?_, fun q3 => ?_⟩
        · refine zIload_n 1 1 44 (by decide +kernel) rfl rfl ?_
          refine zIconst 1 1 45 (by decide +kernel) rfl (by decide) ?_
          refine zIcmp_ne 7 52 48 (by decide +kernel) rfl rfl ⟨fun q4 => ?_, fun q4 => ?_⟩
          · refine zIconst 3 3 53 (by decide +kernel) rfl (by decide) ?_
            exact zTop (by rw [if_neg q3, if_neg q4]) KK
          · refine zIconst 1 1 49 (by decide +kernel) rfl (by decide) ?_
            refine zGoto 4 53 (by decide +kernel) rfl ?_
            exact zTop (by rw [if_neg q3, if_pos q4]) KK
        · refine zIconst 0 0 40 (by decide +kernel) rfl (by decide) ?_
          refine zGoto 13 53 (by decide +kernel) rfl ?_
          exact zTop (by rw [if_pos q3]) KK
      exact zIret rfl (by decide +kernel) F
    · replace F := F.1 q2
      refine zIload_n 1 1 25 (by decide +kernel) rfl rfl ?_
      suffices KK : zV G (d + 1) mX12_usual kc ks 34 [(0, .int (p0)), (1, .int (p1))] [.int ((if p1 = 0 then 10 else 3))] (I, J, R, K, n) Q by
        refine zIf_ne 8 33 28 (by decide +kernel) rfl rfl ⟨fun q5 => ?_, fun q5 => ?_⟩
        · refine zIconst 3 3 34 (by decide +kernel) rfl (by decide) ?_
          exact zTop (by rw [if_neg q5]) KK
        · refine zBipush 10 10 30 (by decide +kernel) rfl (by decide) ?_
          refine zGoto 4 34 (by decide +kernel) rfl ?_
          exact zTop (by rw [if_pos q5]) KK
      exact zIret rfl (by decide +kernel) F
  · replace F := F.1 q1
    refine zIload_n 1 1 7 (by decide +kernel) rfl rfl ?_
    suffices KK : zV G (d + 1) mX12_usual kc ks 17 [(0, .int (p0)), (1, .int (p1))] [.int ((if p1 = 0 then 40 else 20))] (I, J, R, K, n) Q by
      refine zIf_ne 8 15 10 (by decide +kernel) rfl rfl ⟨fun q6 => ?_, fun q6 => ?_⟩
      · refine zBipush 20 20 17 (by decide +kernel) rfl (by decide) ?_
        exact zTop (by rw [if_neg q6]) KK
      · refine zBipush 40 40 12 (by decide +kernel) rfl (by decide) ?_
        refine zGoto 5 17 (by decide +kernel) rfl ?_
        exact zTop (by rw [if_pos q6]) KK
    exact zIret rfl (by decide +kernel) F
set_option maxHeartbeats 2000000 in
theorem wX12_readItems_0 {G : zG} {d kc ks : Nat} {I : Nat → Nat → Int32} {J : Nat → Nat → Int64} {R : Nat → Nat → Option Nat} {K : Nat → Nat × Nat} {n : Nat} {Q : Option Value → zH → Prop} (m t c : Nat) (b e : Nat) (hb : sA G K n b 32 e) (i : Nat) (hi : i < 6) (S0_ : hMod G R K n m t c) (p1 p3 : Int32) (F : zV G (d + 1) mX12_readItems kc ks 3 [(0, .ref (m)), (1, .int (p1)), (2, .ref (b)), (3, .int (p3)), (4, .ref (G.2.2.2.1 i)), (5, .int (0))] [] (I, J, R, K, n) Q) : zV G (d + 1) mX12_readItems kc ks 0 [(0, .ref (m)), (1, .int (p1)), (2, .ref (b)), (3, .int (p3)), (4, .ref (G.2.2.2.1 i))] [] (I, J, R, K, n) Q := by
  refine zIconst 0 0 1 (by decide +kernel) rfl (by decide) ?_
  refine zIstore 5 [(5, .int (0)), (0, .ref (m)), (1, .int (p1)), (2, .ref (b)), (3, .int (p3)), (4, .ref (G.2.2.2.1 i))] 3 (by decide +kernel) rfl (by decide) rfl ?_
  exact zLoc [1, 2, 3, 4, 5, 0] _ rfl F
set_option maxHeartbeats 2000000 in
theorem wX12_readItems_3 {G : zG} {d kc ks : Nat} {I : Nat → Nat → Int32} {J : Nat → Nat → Int64} {R : Nat → Nat → Option Nat} {K : Nat → Nat × Nat} {n : Nat} {Q : Option Value → zH → Prop} (m t c : Nat) (b e : Nat) (hb : sA G K n b 32 e) (i : Nat) (hi : i < 6) (S0_ : hMod G R K n m t c) (l1 l3 l5 : Int32) (F : zC G d mJ0_length_8abf5 0 0 [.ref (G.2.2.2.1 i)] (I, J, R, K, n) (fun r h => ∃ (x1 : Int32), r = some (.int x1) ∧ h = (I, J, R, K, n) ∧ ((x1 ≤ l5 → zC G d mX12_look 0 0 [.ref (m)] (I, J, R, K, n) (fun r h => ∃ (x3 : Int32) (I4 : Nat → Nat → Int32), r = some (.int x3) ∧ h = (I4, J, R, K, n) ∧ zC G d mX12_spotOf 0 0 [.ref (G.2.2.2.1 i), .int (x3)] (I4, J, R, K, n) (fun r h => ∃ (x5 : Int32) (I6 : Nat → Nat → Int32), r = some (.int x5) ∧ h = (I6, J, R, K, n) ∧ zV G (d + 1) mX12_readItems kc ks 45 [(0, .ref (m)), (1, .int (l1)), (2, .ref (b)), (3, .int (l3)), (4, .ref (G.2.2.2.1 i)), (5, .int (0)), (6, .int (x5))] [] (I6, J, R, K, n) Q))) ∧ (¬ (x1 ≤ l5) → zC G d mX12_usual 0 0 [.int (l1), .int (l5)] (I, J, R, K, n) (fun r h => ∃ (x7 : Int32) (I8 : Nat → Nat → Int32), r = some (.int x7) ∧ h = (I8, J, R, K, n) ∧ (vp_in (l3 + l5) e ∧ ∀ I9 : Nat → Nat → Int32, I9 = zU I8 b (l3 + l5 : Int32).toNatClampNeg (x7) → zV G (d + 1) mX12_readItems kc ks 3 [(0, .ref (m)), (1, .int (l1)), (2, .ref (b)), (3, .int (l3)), (4, .ref (G.2.2.2.1 i)), (5, .int (l5 + 1))] [] (I9, J, R, K, n) Q)))))) : zV G (d + 1) mX12_readItems kc ks 3 [(0, .ref (m)), (1, .int (l1)), (2, .ref (b)), (3, .int (l3)), (4, .ref (G.2.2.2.1 i)), (5, .int (l5))] [] (I, J, R, K, n) Q := by
  refine zIload 5 5 5 (by decide +kernel) rfl rfl ?_
  refine zAload 4 4 7 (by decide +kernel) rfl rfl ?_
  refine zCallStr i hi mJ0_length_8abf5 96 0 0 0 _ _ 10 [] [.int (l5)] okJ0_length_8abf5 mlX12_96 imJ0_length_8abf5 seJ0_length_8abf5 (by decide +kernel) rfl rfl (Nat.le_of_ble_eq_true rfl) rfl rfl (zC.mono F ?_)
  rintro _ _ ⟨x1, rfl, rfl, F⟩
  change zV G (d + 1) mX12_readItems kc ks 10 [(0, .ref (m)), (1, .int (l1)), (2, .ref (b)), (3, .int (l3)), (4, .ref (G.2.2.2.1 i)), (5, .int (l5))] [.int (x1), .int (l5)] (I, J, R, K, n) Q
  refine zIcmp_ge 21 31 13 (by decide +kernel) rfl rfl ⟨fun q2 => ?_, fun q2 => ?_⟩
  · replace F := F.1 q2
    refine zIconst 0 0 32 (by decide +kernel) rfl (by decide) ?_
    refine zIstore 5 [(5, .int (0)), (0, .ref (m)), (1, .int (l1)), (2, .ref (b)), (3, .int (l3)), (4, .ref (G.2.2.2.1 i))] 34 (by decide +kernel) rfl (by decide) rfl ?_
    refine zAload 4 5 36 (by decide +kernel) rfl rfl ?_
    refine zAload_n 0 1 37 (by decide +kernel) rfl rfl ?_
    refine zCallV 12 zcls12 mX12_look 135 0 0 0 _ _ 40 [] [.ref (G.2.2.2.1 i)] okX12_look mlX12_135 imX12_look seX12_look (by decide +kernel) rfl rfl (Nat.le_of_ble_eq_true rfl) rfl rfl (Mod_0 S0_) (zC.mono F ?_)
    rintro _ _ ⟨x3, I4, rfl, rfl, F⟩
    change zV G (d + 1) mX12_readItems kc ks 40 [(5, .int (0)), (0, .ref (m)), (1, .int (l1)), (2, .ref (b)), (3, .int (l3)), (4, .ref (G.2.2.2.1 i))] [.int (x3), .ref (G.2.2.2.1 i)] (I4, J, R, K, n) Q
    refine zCallS mX12_spotOf 222 2 0 0 _ _ 43 [.ref (G.2.2.2.1 i), .int (x3)] [] okX12_spotOf mlX12_222 smX12_spotOf (by decide +kernel) rfl rfl (Nat.le_of_ble_eq_true rfl) rfl rfl (zC.mono F ?_)
    rintro _ _ ⟨x5, I6, rfl, rfl, F⟩
    change zV G (d + 1) mX12_readItems kc ks 43 [(5, .int (0)), (0, .ref (m)), (1, .int (l1)), (2, .ref (b)), (3, .int (l3)), (4, .ref (G.2.2.2.1 i))] [.int (x5)] (I6, J, R, K, n) Q
    refine zIstore 6 [(6, .int (x5)), (5, .int (0)), (0, .ref (m)), (1, .int (l1)), (2, .ref (b)), (3, .int (l3)), (4, .ref (G.2.2.2.1 i))] 45 (by decide +kernel) rfl (by decide) rfl ?_
    exact zLoc [2, 3, 4, 5, 6, 1, 0] _ rfl F
  · replace F := F.2 q2
    refine zAload_n 2 2 14 (by decide +kernel) rfl rfl ?_
    refine zIload_n 3 3 15 (by decide +kernel) rfl rfl ?_
    refine zIload 5 5 17 (by decide +kernel) rfl rfl ?_
    refine zIadd 18 (by decide +kernel) rfl ?_
    refine zIload_n 1 1 19 (by decide +kernel) rfl rfl ?_
    refine zIload 5 5 21 (by decide +kernel) rfl rfl ?_
    refine zCallS mX12_usual 218 2 0 0 _ _ 24 [.int (l1), .int (l5)] [.int (l3 + l5), .ref (b)] okX12_usual mlX12_218 smX12_usual (by decide +kernel) rfl rfl (Nat.le_of_ble_eq_true rfl) rfl rfl (zC.mono F ?_)
    rintro _ _ ⟨x7, I8, rfl, rfl, F⟩
    change zV G (d + 1) mX12_readItems kc ks 24 [(0, .ref (m)), (1, .int (l1)), (2, .ref (b)), (3, .int (l3)), (4, .ref (G.2.2.2.1 i)), (5, .int (l5))] [.int (x7), .int (l3 + l5), .ref (b)] (I8, J, R, K, n) Q
    refine yIastore e 25 (by decide +kernel) rfl hb F.1 ?_
    replace F := F.2 _ rfl
    generalize zU I8 b (l3 + l5 : Int32).toNatClampNeg (x7) = I9 at F ⊢
    refine zIinc 5 1 5 (l5 + 1) [(5, .int (l5 + 1)), (0, .ref (m)), (1, .int (l1)), (2, .ref (b)), (3, .int (l3)), (4, .ref (G.2.2.2.1 i))] 28 (by decide +kernel) rfl rfl (by rfl) (by decide) rfl ?_
    refine zGoto (-25) 3 (by decide +kernel) rfl ?_
    exact zLoc [1, 2, 3, 4, 5, 0] _ rfl F
set_option maxHeartbeats 2000000 in
theorem wX12_readItems_45 {G : zG} {d kc ks : Nat} {I : Nat → Nat → Int32} {J : Nat → Nat → Int64} {R : Nat → Nat → Option Nat} {K : Nat → Nat × Nat} {n : Nat} {Q : Option Value → zH → Prop} (m t c : Nat) (b e : Nat) (hb : sA G K n b 32 e) (i : Nat) (hi : i < 6) (S0_ : hMod G R K n m t c) (l1 l3 l5 l6 : Int32) (F : ((l6 = (-1) → Q none (I, J, R, K, n)) ∧ (¬ (l6 = (-1)) → (((I m 11 : Int32) = (-1) → zC G d mX12_has 0 0 [.int (l5), .int (l6)] (I, J, R, K, n) (fun r h => ∃ (x12 : Int32) (I13 : Nat → Nat → Int32), r = some (.int x12) ∧ h = (I13, J, R, K, n) ∧ ((x12 = 0 → (∀ I15 : Nat → Nat → Int32, I15 = zU I13 m 10 ((I13 m 10) + 1) → zC G d mX12_leastOf 0 0 [.int (l1), .int (l6)] (I15, J, R, K, n) (fun r h => ∃ (x16 : Int32) (I17 : Nat → Nat → Int32), r = some (.int x16) ∧ h = (I17, J, R, K, n) ∧ zC G d mX12_mostOf 0 0 [.int (l1), .int (l6)] (I17, J, R, K, n) (fun r h => ∃ (x18 : Int32) (I19 : Nat → Nat → Int32), r = some (.int x18) ∧ h = (I19, J, R, K, n) ∧ zC G d mX12_number 0 0 [.ref (m), .int (x16), .int (x18)] (I19, J, R, K, n) (fun r h => ∃ (x20 : Int32) (I21 : Nat → Nat → Int32), r = some (.int x20) ∧ h = (I21, J, R, K, n) ∧ (vp_in (l3 + l6) e ∧ ∀ I22 : Nat → Nat → Int32, I22 = zU I21 b (l3 + l6 : Int32).toNatClampNeg (x20) → (((I22 m 11 : Int32) = (-1) → zC G d mX12_look 0 0 [.ref (m)] (I22, J, R, K, n) (fun r h => ∃ (x24 : Int32) (I25 : Nat → Nat → Int32), r = some (.int x24) ∧ h = (I25, J, R, K, n) ∧ zC G d mX12_spotOf 0 0 [.ref (G.2.2.2.1 i), .int (x24)] (I25, J, R, K, n) (fun r h => ∃ (x26 : Int32) (I27 : Nat → Nat → Int32), r = some (.int x26) ∧ h = (I27, J, R, K, n) ∧ zV G (d + 1) mX12_readItems kc ks 45 [(0, .ref (m)), (1, .int (l1)), (2, .ref (b)), (3, .int (l3)), (4, .ref (G.2.2.2.1 i)), (5, .int (l5 ||| ((1 : Int32) <<< (l6 &&& 31)))), (6, .int (x26))] [] (I27, J, R, K, n) Q))) ∧ (¬ ((I22 m 11 : Int32) = (-1)) → zV G (d + 1) mX12_readItems kc ks 45 [(0, .ref (m)), (1, .int (l1)), (2, .ref (b)), (3, .int (l3)), (4, .ref (G.2.2.2.1 i)), (5, .int (l5 ||| ((1 : Int32) <<< (l6 &&& 31)))), (6, .int (l6))] [] (I22, J, R, K, n) Q)))))))) ∧ (¬ (x12 = 0) → zC G d mX12_fails 0 0 [.ref (m)] (I13, J, R, K, n) (fun r h => ∃ (x28 : Int32) (I29 : Nat → Nat → Int32), r = some (.int x28) ∧ h = (I29, J, R, K, n) ∧ Q none (I29, J, R, K, n)))))) ∧ (¬ ((I m 11 : Int32) = (-1)) → Q none (I, J, R, K, n)))))) : zV G (d + 1) mX12_readItems kc ks 45 [(0, .ref (m)), (1, .int (l1)), (2, .ref (b)), (3, .int (l3)), (4, .ref (G.2.2.2.1 i)), (5, .int (l5)), (6, .int (l6))] [] (I, J, R, K, n) Q := by
  refine zIload 6 6 47 (by decide +kernel) rfl rfl ?_
  refine zIconst (-1) (-1) 48 (by decide +kernel) rfl (by decide) ?_
  refine zIcmp_eq 90 138 51 (by decide +kernel) rfl rfl ⟨fun q10 => ?_, fun q10 => ?_⟩
  · replace F := F.1 q10
    exact zVret rfl (by decide +kernel) F
  · replace F := F.2 q10
    refine zAload_n 0 0 52 (by decide +kernel) rfl rfl ?_
    refine gf12_11 125 55 (by decide +kernel) rfl flX12_125 (Mod_0 S0_) ?_
    refine zIconst (-1) (-1) 56 (by decide +kernel) rfl (by decide) ?_
    refine zIcmp_ne 82 138 59 (by decide +kernel) rfl rfl ⟨fun q11 => ?_, fun q11 => ?_⟩
    · replace F := F.2 q11
      exact zVret rfl (by decide +kernel) F
    · replace F := F.1 q11
      refine zIload 5 5 61 (by decide +kernel) rfl rfl ?_
      refine zIload 6 6 63 (by decide +kernel) rfl rfl ?_
      refine zCallS mX12_has 226 2 0 0 _ _ 66 [.int (l5), .int (l6)] [] okX12_has mlX12_226 smX12_has (by decide +kernel) rfl rfl (Nat.le_of_ble_eq_true rfl) rfl rfl (zC.mono F ?_)
      rintro _ _ ⟨x12, I13, rfl, rfl, F⟩
      change zV G (d + 1) mX12_readItems kc ks 66 [(0, .ref (m)), (1, .int (l1)), (2, .ref (b)), (3, .int (l3)), (4, .ref (G.2.2.2.1 i)), (5, .int (l5)), (6, .int (l6))] [.int (x12)] (I13, J, R, K, n) Q
      refine zIf_eq 9 75 69 (by decide +kernel) rfl rfl ⟨fun q14 => ?_, fun q14 => ?_⟩
      · replace F := F.1 q14
        refine zIload 5 5 77 (by decide +kernel) rfl rfl ?_
        refine zIconst 1 1 78 (by decide +kernel) rfl (by decide) ?_
        refine zIload 6 6 80 (by decide +kernel) rfl rfl ?_
        refine zIshl 81 (by decide +kernel) rfl ?_
        refine zIor 82 (by decide +kernel) rfl ?_
        refine zIstore 5 [(5, .int (l5 ||| ((1 : Int32) <<< (l6 &&& 31)))), (0, .ref (m)), (1, .int (l1)), (2, .ref (b)), (3, .int (l3)), (4, .ref (G.2.2.2.1 i)), (6, .int (l6))] 84 (by decide +kernel) rfl (by decide) rfl ?_
        refine zAload_n 0 1 85 (by decide +kernel) rfl rfl ?_
        refine zDup 86 (by decide +kernel) rfl rfl ?_
        refine gf12_10 116 89 (by decide +kernel) rfl flX12_116 (Mod_0 S0_) ?_
        refine zIconst 1 1 90 (by decide +kernel) rfl (by decide) ?_
        refine zIadd 91 (by decide +kernel) rfl ?_
        refine pf12_10 116 94 (by decide +kernel) rfl flX12_116 (Mod_0 S0_) ?_
        replace F := F _ rfl
        generalize zU I13 m 10 ((I13 m 10) + 1) = I15 at F ⊢
        refine zAload_n 2 3 95 (by decide +kernel) rfl rfl ?_
        refine zIload_n 3 4 96 (by decide +kernel) rfl rfl ?_
        refine zIload 6 6 98 (by decide +kernel) rfl rfl ?_
        refine zIadd 99 (by decide +kernel) rfl ?_
        refine zAload_n 0 1 100 (by decide +kernel) rfl rfl ?_
        refine zIload_n 1 2 101 (by decide +kernel) rfl rfl ?_
        refine zIload 6 6 103 (by decide +kernel) rfl rfl ?_
        refine zCallS mX12_leastOf 230 2 0 0 _ _ 106 [.int (l1), .int (l6)] [.ref (m), .int (l3 + l6), .ref (b)] okX12_leastOf mlX12_230 smX12_leastOf (by decide +kernel) rfl rfl (Nat.le_of_ble_eq_true rfl) rfl rfl (zC.mono F ?_)
        rintro _ _ ⟨x16, I17, rfl, rfl, F⟩
        change zV G (d + 1) mX12_readItems kc ks 106 [(5, .int (l5 ||| ((1 : Int32) <<< (l6 &&& 31)))), (0, .ref (m)), (1, .int (l1)), (2, .ref (b)), (3, .int (l3)), (4, .ref (G.2.2.2.1 i)), (6, .int (l6))] [.int (x16), .ref (m), .int (l3 + l6), .ref (b)] (I17, J, R, K, n) Q
        refine zIload_n 1 2 107 (by decide +kernel) rfl rfl ?_
        refine zIload 6 6 109 (by decide +kernel) rfl rfl ?_
        refine zCallS mX12_mostOf 233 2 0 0 _ _ 112 [.int (l1), .int (l6)] [.int (x16), .ref (m), .int (l3 + l6), .ref (b)] okX12_mostOf mlX12_233 smX12_mostOf (by decide +kernel) rfl rfl (Nat.le_of_ble_eq_true rfl) rfl rfl (zC.mono F ?_)
        rintro _ _ ⟨x18, I19, rfl, rfl, F⟩
        change zV G (d + 1) mX12_readItems kc ks 112 [(5, .int (l5 ||| ((1 : Int32) <<< (l6 &&& 31)))), (0, .ref (m)), (1, .int (l1)), (2, .ref (b)), (3, .int (l3)), (4, .ref (G.2.2.2.1 i)), (6, .int (l6))] [.int (x18), .int (x16), .ref (m), .int (l3 + l6), .ref (b)] (I19, J, R, K, n) Q
        refine zCallV 12 zcls12 mX12_number 236 2 0 0 _ _ 115 [.int (x16), .int (x18)] [.int (l3 + l6), .ref (b)] okX12_number mlX12_236 imX12_number seX12_number (by decide +kernel) rfl rfl (Nat.le_of_ble_eq_true rfl) rfl rfl (Mod_0 S0_) (zC.mono F ?_)
        rintro _ _ ⟨x20, I21, rfl, rfl, F⟩
        change zV G (d + 1) mX12_readItems kc ks 115 [(5, .int (l5 ||| ((1 : Int32) <<< (l6 &&& 31)))), (0, .ref (m)), (1, .int (l1)), (2, .ref (b)), (3, .int (l3)), (4, .ref (G.2.2.2.1 i)), (6, .int (l6))] [.int (x20), .int (l3 + l6), .ref (b)] (I21, J, R, K, n) Q
        refine yIastore e 116 (by decide +kernel) rfl hb F.1 ?_
        replace F := F.2 _ rfl
        generalize zU I21 b (l3 + l6 : Int32).toNatClampNeg (x20) = I22 at F ⊢
        refine zAload_n 0 1 117 (by decide +kernel) rfl rfl ?_
        refine gf12_11 125 120 (by decide +kernel) rfl flX12_125 (Mod_0 S0_) ?_
        refine zIconst (-1) (-1) 121 (by decide +kernel) rfl (by decide) ?_
        refine zIcmp_ne (-76) 45 124 (by decide +kernel) rfl rfl ⟨fun q23 => ?_, fun q23 => ?_⟩
        · replace F := F.2 q23
          exact zLoc [1, 2, 3, 4, 5, 0, 6] _ rfl F
        · replace F := F.1 q23
          refine zAload 4 5 126 (by decide +kernel) rfl rfl ?_
          refine zAload_n 0 1 127 (by decide +kernel) rfl rfl ?_
          refine zCallV 12 zcls12 mX12_look 135 0 0 0 _ _ 130 [] [.ref (G.2.2.2.1 i)] okX12_look mlX12_135 imX12_look seX12_look (by decide +kernel) rfl rfl (Nat.le_of_ble_eq_true rfl) rfl rfl (Mod_0 S0_) (zC.mono F ?_)
          rintro _ _ ⟨x24, I25, rfl, rfl, F⟩
          change zV G (d + 1) mX12_readItems kc ks 130 [(5, .int (l5 ||| ((1 : Int32) <<< (l6 &&& 31)))), (0, .ref (m)), (1, .int (l1)), (2, .ref (b)), (3, .int (l3)), (4, .ref (G.2.2.2.1 i)), (6, .int (l6))] [.int (x24), .ref (G.2.2.2.1 i)] (I25, J, R, K, n) Q
          refine zCallS mX12_spotOf 222 2 0 0 _ _ 133 [.ref (G.2.2.2.1 i), .int (x24)] [] okX12_spotOf mlX12_222 smX12_spotOf (by decide +kernel) rfl rfl (Nat.le_of_ble_eq_true rfl) rfl rfl (zC.mono F ?_)
          rintro _ _ ⟨x26, I27, rfl, rfl, F⟩
          change zV G (d + 1) mX12_readItems kc ks 133 [(5, .int (l5 ||| ((1 : Int32) <<< (l6 &&& 31)))), (0, .ref (m)), (1, .int (l1)), (2, .ref (b)), (3, .int (l3)), (4, .ref (G.2.2.2.1 i)), (6, .int (l6))] [.int (x26)] (I27, J, R, K, n) Q
          refine zIstore 6 [(6, .int (x26)), (5, .int (l5 ||| ((1 : Int32) <<< (l6 &&& 31)))), (0, .ref (m)), (1, .int (l1)), (2, .ref (b)), (3, .int (l3)), (4, .ref (G.2.2.2.1 i))] 135 (by decide +kernel) rfl (by decide) rfl ?_
          refine zGoto (-90) 45 (by decide +kernel) rfl ?_
          exact zLoc [2, 3, 4, 5, 6, 1, 0] _ rfl F
      · replace F := F.2 q14
        refine zAload_n 0 0 70 (by decide +kernel) rfl rfl ?_
        refine zCallV 12 zcls12 mX12_fails 131 0 0 0 _ _ 73 [] [] okX12_fails mlX12_131 imX12_fails seX12_fails (by decide +kernel) rfl rfl (Nat.le_of_ble_eq_true rfl) rfl rfl (Mod_0 S0_) (zC.mono F ?_)
        rintro _ _ ⟨x28, I29, rfl, rfl, F⟩
        change zV G (d + 1) mX12_readItems kc ks 73 [(0, .ref (m)), (1, .int (l1)), (2, .ref (b)), (3, .int (l3)), (4, .ref (G.2.2.2.1 i)), (5, .int (l5)), (6, .int (l6))] [.int (x28)] (I29, J, R, K, n) Q
        refine zPop 74 (by decide +kernel) rfl rfl ?_
        exact zVret rfl (by decide +kernel) F
set_option maxHeartbeats 2000000 in
theorem wX12_readClause_0 {G : zG} {d kc ks : Nat} {I : Nat → Nat → Int32} {J : Nat → Nat → Int64} {R : Nat → Nat → Option Nat} {K : Nat → Nat × Nat} {n : Nat} {Q : Option Value → zH → Prop} (m t c : Nat) (S0_ : hMod G R K n m t c) (F : zC G d mX12_look 0 0 [.ref (m)] (I, J, R, K, n) (fun r h => ∃ (x1 : Int32) (I2 : Nat → Nat → Int32), r = some (.int x1) ∧ h = (I2, J, R, K, n) ∧ ((((if x1 = 115 then (if (I2 m 31 : Int32) = 0 then 1 else (if x1 = 102 then (if (I2 m 28 : Int32) < 6 then 1 else (if x1 = 119 then (if 9 ≤ (I2 m 29 : Int32) then 0 else 1) else 0)) else (if x1 = 119 then (if 9 ≤ (I2 m 29 : Int32) then 0 else 1) else 0))) else (if x1 = 102 then (if (I2 m 28 : Int32) < 6 then 1 else (if x1 = 119 then (if 9 ≤ (I2 m 29 : Int32) then 0 else 1) else 0)) else (if x1 = 119 then (if 9 ≤ (I2 m 29 : Int32) then 0 else 1) else 0))) : Int32) = 0 → zC G d mX12_fails 0 0 [.ref (m)] (I2, J, R, K, n) (fun r h => ∃ (x27 : Int32) (I28 : Nat → Nat → Int32), r = some (.int x27) ∧ h = (I28, J, R, K, n) ∧ Q none (I28, J, R, K, n))) ∧ (¬ (((if x1 = 115 then (if (I2 m 31 : Int32) = 0 then 1 else (if x1 = 102 then (if (I2 m 28 : Int32) < 6 then 1 else (if x1 = 119 then (if 9 ≤ (I2 m 29 : Int32) then 0 else 1) else 0)) else (if x1 = 119 then (if 9 ≤ (I2 m 29 : Int32) then 0 else 1) else 0))) else (if x1 = 102 then (if (I2 m 28 : Int32) < 6 then 1 else (if x1 = 119 then (if 9 ≤ (I2 m 29 : Int32) then 0 else 1) else 0)) else (if x1 = 119 then (if 9 ≤ (I2 m 29 : Int32) then 0 else 1) else 0))) : Int32) = 0) → (∀ I18 : Nat → Nat → Int32, I18 = zU I2 m 10 ((I2 m 10) + 1) → ((x1 = 115 → (∀ I25 : Nat → Nat → Int32, I25 = zU I18 m 31 (1) → zC G d mX12_readItems 0 0 [.ref (m), .int (x1), .ref (m + 6), .int (0), .ref (G.2.2.2.1 0)] (I25, J, R, K, n) (fun r h => ∃ (I26 : Nat → Nat → Int32), r = none ∧ h = (I26, J, R, K, n) ∧ Q none (I26, J, R, K, n)))) ∧ (¬ (x1 = 115) → ((x1 = 102 → (∀ I23 : Nat → Nat → Int32, I23 = zU I18 m 28 ((I18 m 28) + 1) → zC G d mX12_readItems 0 0 [.ref (m), .int (x1), .ref (m + 8), .int (2 * ((I23 m 28) - 1)), .ref (G.2.2.2.1 1)] (I23, J, R, K, n) (fun r h => ∃ (I24 : Nat → Nat → Int32), r = none ∧ h = (I24, J, R, K, n) ∧ Q none (I24, J, R, K, n)))) ∧ (¬ (x1 = 102) → (∀ I21 : Nat → Nat → Int32, I21 = zU I18 m 29 ((I18 m 29) + 1) → zC G d mX12_readItems 0 0 [.ref (m), .int (x1), .ref (m + 10), .int (3 * ((I21 m 29) - 1)), .ref (G.2.2.2.1 2)] (I21, J, R, K, n) (fun r h => ∃ (I22 : Nat → Nat → Int32), r = none ∧ h = (I22, J, R, K, n) ∧ Q none (I22, J, R, K, n)))))))))))) : zV G (d + 1) mX12_readClause kc ks 0 [(0, .ref (m))] [] (I, J, R, K, n) Q := by
  refine zAload_n 0 0 1 (by decide +kernel) rfl rfl ?_
  refine zCallV 12 zcls12 mX12_look 135 0 0 0 _ _ 4 [] [] okX12_look mlX12_135 imX12_look seX12_look (by decide +kernel) rfl rfl (Nat.le_of_ble_eq_true rfl) rfl rfl (Mod_0 S0_) (zC.mono F ?_)
  rintro _ _ ⟨x1, I2, rfl, rfl, F⟩
  change zV G (d + 1) mX12_readClause kc ks 4 [(0, .ref (m))] [.int (x1)] (I2, J, R, K, n) Q
  refine zIstore_n 1 [(1, .int (x1)), (0, .ref (m))] 5 (by decide +kernel) rfl (by decide) rfl ?_
  refine zIload_n 1 0 6 (by decide +kernel) rfl rfl ?_
  refine zBipush 115 115 8 (by decide +kernel) rfl (by decide) ?_
  suffices KK : zV G (d + 1) mX12_readClause kc ks 53 [(1, .int (x1)), (0, .ref (m))] [.int ((if x1 = 115 then (if (I2 m 31 : Int32) = 0 then 1 else (if x1 = 102 then (if (I2 m 28 : Int32) < 6 then 1 else (if x1 = 119 then (if 9 ≤ (I2 m 29 : Int32) then 0 else 1) else 0)) else (if x1 = 119 then (if 9 ≤ (I2 m 29 : Int32) then 0 else 1) else 0))) else (if x1 = 102 then (if (I2 m 28 : Int32) < 6 then 1 else (if x1 = 119 then (if 9 ≤ (I2 m 29 : Int32) then 0 else 1) else 0)) else (if x1 = 119 then (if 9 ≤ (I2 m 29 : Int32) then 0 else 1) else 0))))] (I2, J, R, K, n) Q by
    refine zIcmp_ne 10 18 11 (by decide +kernel) rfl rfl ⟨fun q3 => ?_, fun q3 => ?_⟩
    · refine zIload_n 1 0 19 (by decide +kernel) rfl rfl ?_
      refine zBipush 102 102 21 (by decide +kernel) rfl (by decide) ?_
      refine zIcmp_ne 12 33 24 (by decide +kernel) rfl rfl ⟨fun q4 => ?_, fun q4 => ?_⟩
      · refine zIload_n 1 0 34 (by decide +kernel) rfl rfl ?_
        refine zBipush 119 119 36 (by decide +kernel) rfl (by decide) ?_
        refine zIcmp_ne 16 52 39 (by decide +kernel) rfl rfl ⟨fun q5 => ?_, fun q5 => ?_⟩
        · refine zIconst 0 0 53 (by decide +kernel) rfl (by decide) ?_
          exact zTop (by rw [if_neg q3, if_neg q4, if_neg q5]) KK
        · refine zAload_n 0 1 40 (by decide +kernel) rfl rfl ?_
          refine gf12_29 245 43 (by decide +kernel) rfl flX12_245 (Mod_0 S0_) ?_
          refine zBipush 9 9 45 (by decide +kernel) rfl (by decide) ?_
          refine zIcmp_ge 7 52 48 (by decide +kernel) rfl rfl ⟨fun q6 => ?_, fun q6 => ?_⟩
          · refine zIconst 0 0 53 (by decide +kernel) rfl (by decide) ?_
            exact zTop (by rw [if_neg q3, if_neg q4, if_pos q5, if_pos q6]) KK
          · refine zIconst 1 1 49 (by decide +kernel) rfl (by decide) ?_
            refine zGoto 4 53 (by decide +kernel) rfl ?_
            exact zTop (by rw [if_neg q3, if_neg q4, if_pos q5, if_neg q6]) KK
      · refine zAload_n 0 1 25 (by decide +kernel) rfl rfl ?_
        refine gf12_28 242 28 (by decide +kernel) rfl flX12_242 (Mod_0 S0_) ?_
        refine zBipush 6 6 30 (by decide +kernel) rfl (by decide) ?_
        refine zIcmp_lt 18 48 33 (by decide +kernel) rfl rfl ⟨fun q7 => ?_, fun q7 => ?_⟩
        · refine zIconst 1 1 49 (by decide +kernel) rfl (by decide) ?_
          refine zGoto 4 53 (by decide +kernel) rfl ?_
          exact zTop (by rw [if_neg q3, if_pos q4, if_pos q7]) KK
        · refine zIload_n 1 0 34 (by decide +kernel) rfl rfl ?_
          refine zBipush 119 119 36 (by decide +kernel) rfl (by decide) ?_
          refine zIcmp_ne 16 52 39 (by decide +kernel) rfl rfl ⟨fun q8 => ?_, fun q8 => ?_⟩
          · refine zIconst 0 0 53 (by decide +kernel) rfl (by decide) ?_
            exact zTop (by rw [if_neg q3, if_pos q4, if_neg q7, if_neg q8]) KK
          · refine zAload_n 0 1 40 (by decide +kernel) rfl rfl ?_
            refine gf12_29 245 43 (by decide +kernel) rfl flX12_245 (Mod_0 S0_) ?_
            refine zBipush 9 9 45 (by decide +kernel) rfl (by decide) ?_
            refine zIcmp_ge 7 52 48 (by decide +kernel) rfl rfl ⟨fun q9 => ?_, fun q9 => ?_⟩
            · refine zIconst 0 0 53 (by decide +kernel) rfl (by decide) ?_
              exact zTop (by rw [if_neg q3, if_pos q4, if_neg q7, if_pos q8, if_pos q9]) KK
            · refine zIconst 1 1 49 (by decide +kernel) rfl (by decide) ?_
              refine zGoto 4 53 (by decide +kernel) rfl ?_
              exact zTop (by rw [if_neg q3, if_pos q4, if_neg q7, if_pos q8, if_neg q9]) KK
    · refine zAload_n 0 1 12 (by decide +kernel) rfl rfl ?_
      refine gf12_31 239 15 (by decide +kernel) rfl flX12_239 (Mod_0 S0_) ?_
      refine zIf_eq 33 48 18 (by decide +kernel) rfl rfl ⟨fun q10 => ?_, fun q10 => ?_⟩
      · refine zIconst 1 1 49 (by decide +kernel) rfl (by decide) ?_
        refine zGoto 4 53 (by decide +kernel) rfl ?_
        exact zTop (by rw [if_pos q3, if_pos q10]) KK
      · refine zIload_n 1 0 19 (by decide +kernel) rfl rfl ?_
        refine zBipush 102 102 21 (by decide +kernel) rfl (by decide) ?_
        refine zIcmp_ne 12 33 24 (by decide +kernel) rfl rfl ⟨fun q11 => ?_, fun q11 => ?_⟩
        · refine zIload_n 1 0 34 (by decide +kernel) rfl rfl ?_
          refine zBipush 119 119 36 (by decide +kernel) rfl (by decide) ?_
          refine zIcmp_ne 16 52 39 (by decide +kernel) rfl rfl ⟨fun q12 => ?_, fun q12 => ?_⟩
          · refine zIconst 0 0 53 (by decide +kernel) rfl (by decide) ?_
            exact zTop (by rw [if_pos q3, if_neg q10, if_neg q11, if_neg q12]) KK
          · refine zAload_n 0 1 40 (by decide +kernel) rfl rfl ?_
            refine gf12_29 245 43 (by decide +kernel) rfl flX12_245 (Mod_0 S0_) ?_
            refine zBipush 9 9 45 (by decide +kernel) rfl (by decide) ?_
            refine zIcmp_ge 7 52 48 (by decide +kernel) rfl rfl ⟨fun q13 => ?_, fun q13 => ?_⟩
            · refine zIconst 0 0 53 (by decide +kernel) rfl (by decide) ?_
              exact zTop (by rw [if_pos q3, if_neg q10, if_neg q11, if_pos q12, if_pos q13]) KK
            · refine zIconst 1 1 49 (by decide +kernel) rfl (by decide) ?_
              refine zGoto 4 53 (by decide +kernel) rfl ?_
              exact zTop (by rw [if_pos q3, if_neg q10, if_neg q11, if_pos q12, if_neg q13]) KK
        · refine zAload_n 0 1 25 (by decide +kernel) rfl rfl ?_
          refine gf12_28 242 28 (by decide +kernel) rfl flX12_242 (Mod_0 S0_) ?_
          refine zBipush 6 6 30 (by decide +kernel) rfl (by decide) ?_
          refine zIcmp_lt 18 48 33 (by decide +kernel) rfl rfl ⟨fun q14 => ?_, fun q14 => ?_⟩
          · refine zIconst 1 1 49 (by decide +kernel) rfl (by decide) ?_
            refine zGoto 4 53 (by decide +kernel) rfl ?_
            exact zTop (by rw [if_pos q3, if_neg q10, if_pos q11, if_pos q14]) KK
          · refine zIload_n 1 0 34 (by decide +kernel) rfl rfl ?_
            refine zBipush 119 119 36 (by decide +kernel) rfl (by decide) ?_
            refine zIcmp_ne 16 52 39 (by decide +kernel) rfl rfl ⟨fun q15 => ?_, fun q15 => ?_⟩
            · refine zIconst 0 0 53 (by decide +kernel) rfl (by decide) ?_
              exact zTop (by rw [if_pos q3, if_neg q10, if_pos q11, if_neg q14, if_neg q15]) KK
            · refine zAload_n 0 1 40 (by decide +kernel) rfl rfl ?_
              refine gf12_29 245 43 (by decide +kernel) rfl flX12_245 (Mod_0 S0_) ?_
              refine zBipush 9 9 45 (by decide +kernel) rfl (by decide) ?_
              refine zIcmp_ge 7 52 48 (by decide +kernel) rfl rfl ⟨fun q16 => ?_, fun q16 => ?_⟩
              · refine zIconst 0 0 53 (by decide +kernel) rfl (by decide) ?_
                exact zTop (by rw [if_pos q3, if_neg q10, if_pos q11, if_neg q14, if_pos q15, if_pos q16]) KK
              · refine zIconst 1 1 49 (by decide +kernel) rfl (by decide) ?_
                refine zGoto 4 53 (by decide +kernel) rfl ?_
                exact zTop (by rw [if_pos q3, if_neg q10, if_pos q11, if_neg q14, if_pos q15, if_neg q16]) KK
  refine zIstore_n 2 [(2, .int ((if x1 = 115 then (if (I2 m 31 : Int32) = 0 then 1 else (if x1 = 102 then (if (I2 m 28 : Int32) < 6 then 1 else (if x1 = 119 then (if 9 ≤ (I2 m 29 : Int32) then 0 else 1) else 0)) else (if x1 = 119 then (if 9 ≤ (I2 m 29 : Int32) then 0 else 1) else 0))) else (if x1 = 102 then (if (I2 m 28 : Int32) < 6 then 1 else (if x1 = 119 then (if 9 ≤ (I2 m 29 : Int32) then 0 else 1) else 0)) else (if x1 = 119 then (if 9 ≤ (I2 m 29 : Int32) then 0 else 1) else 0))))), (1, .int (x1)), (0, .ref (m))] 54 (by decide +kernel) rfl (by decide) rfl ?_
  refine zIload_n 2 0 55 (by decide +kernel) rfl rfl ?_
  refine zIf_ne 9 64 58 (by decide +kernel) rfl rfl ⟨fun q17 => ?_, fun q17 => ?_⟩
  · replace F := F.2 q17
    refine zAload_n 0 2 65 (by decide +kernel) rfl rfl ?_
    refine zDup 66 (by decide +kernel) rfl rfl ?_
    refine gf12_10 116 69 (by decide +kernel) rfl flX12_116 (Mod_0 S0_) ?_
    refine zIconst 1 1 70 (by decide +kernel) rfl (by decide) ?_
    refine zIadd 71 (by decide +kernel) rfl ?_
    refine pf12_10 116 74 (by decide +kernel) rfl flX12_116 (Mod_0 S0_) ?_
    replace F := F _ rfl
    generalize zU I2 m 10 ((I2 m 10) + 1) = I18 at F ⊢
    refine zIload_n 1 1 75 (by decide +kernel) rfl rfl ?_
    refine zBipush 115 115 77 (by decide +kernel) rfl (by decide) ?_
    refine zIcmp_ne 23 100 80 (by decide +kernel) rfl rfl ⟨fun q19 => ?_, fun q19 => ?_⟩
    · replace F := F.2 q19
      refine zIload_n 1 1 101 (by decide +kernel) rfl rfl ?_
      refine zBipush 102 102 103 (by decide +kernel) rfl (by decide) ?_
      refine zIcmp_ne 35 138 106 (by decide +kernel) rfl rfl ⟨fun q20 => ?_, fun q20 => ?_⟩
      · replace F := F.2 q20
        refine zAload_n 0 2 139 (by decide +kernel) rfl rfl ?_
        refine zDup 140 (by decide +kernel) rfl rfl ?_
        refine gf12_29 245 143 (by decide +kernel) rfl flX12_245 (Mod_0 S0_) ?_
        refine zIconst 1 1 144 (by decide +kernel) rfl (by decide) ?_
        refine zIadd 145 (by decide +kernel) rfl ?_
        refine pf12_29 245 148 (by decide +kernel) rfl flX12_245 (Mod_0 S0_) ?_
        replace F := F _ rfl
        generalize zU I18 m 29 ((I18 m 29) + 1) = I21 at F ⊢
        refine zAload_n 0 2 149 (by decide +kernel) rfl rfl ?_
        refine zIload_n 1 1 150 (by decide +kernel) rfl rfl ?_
        refine zAload_n 0 2 151 (by decide +kernel) rfl rfl ?_
        refine gf12_23 52 154 (by decide +kernel) rfl flX12_52 (Mod_0 S0_) (Mod_19 S0_) ?_
        refine zIconst 3 3 155 (by decide +kernel) rfl (by decide) ?_
        refine zAload_n 0 2 156 (by decide +kernel) rfl rfl ?_
        refine gf12_29 245 159 (by decide +kernel) rfl flX12_245 (Mod_0 S0_) ?_
        refine zIconst 1 1 160 (by decide +kernel) rfl (by decide) ?_
        refine zIsub 161 (by decide +kernel) rfl ?_
        refine zImul 162 (by decide +kernel) rfl ?_
        refine zLdcwS 256 "avk" 2 165 (by decide +kernel) rfl (by decide) ?_
        refine zCallV 12 zcls12 mX12_readItems 250 4 0 0 _ _ 168 [.int (x1), .ref (m + 10), .int (3 * ((I21 m 29) - 1)), .ref (G.2.2.2.1 2)] [] okX12_readItems mlX12_250 imX12_readItems seX12_readItems (by decide +kernel) rfl rfl (Nat.le_of_ble_eq_true rfl) rfl rfl (Mod_0 S0_) (zC.mono F ?_)
        rintro _ _ ⟨I22, rfl, rfl, F⟩
        change zV G (d + 1) mX12_readClause kc ks 168 [(2, .int ((if x1 = 115 then (if (I2 m 31 : Int32) = 0 then 1 else (if x1 = 102 then (if (I2 m 28 : Int32) < 6 then 1 else (if x1 = 119 then (if 9 ≤ (I2 m 29 : Int32) then 0 else 1) else 0)) else (if x1 = 119 then (if 9 ≤ (I2 m 29 : Int32) then 0 else 1) else 0))) else (if x1 = 102 then (if (I2 m 28 : Int32) < 6 then 1 else (if x1 = 119 then (if 9 ≤ (I2 m 29 : Int32) then 0 else 1) else 0)) else (if x1 = 119 then (if 9 ≤ (I2 m 29 : Int32) then 0 else 1) else 0))))), (1, .int (x1)), (0, .ref (m))] [] (I22, J, R, K, n) Q
        exact zVret rfl (by decide +kernel) F
      · replace F := F.1 q20
        refine zAload_n 0 2 107 (by decide +kernel) rfl rfl ?_
        refine zDup 108 (by decide +kernel) rfl rfl ?_
        refine gf12_28 242 111 (by decide +kernel) rfl flX12_242 (Mod_0 S0_) ?_
        refine zIconst 1 1 112 (by decide +kernel) rfl (by decide) ?_
        refine zIadd 113 (by decide +kernel) rfl ?_
        refine pf12_28 242 116 (by decide +kernel) rfl flX12_242 (Mod_0 S0_) ?_
        replace F := F _ rfl
        generalize zU I18 m 28 ((I18 m 28) + 1) = I23 at F ⊢
        refine zAload_n 0 2 117 (by decide +kernel) rfl rfl ?_
        refine zIload_n 1 1 118 (by decide +kernel) rfl rfl ?_
        refine zAload_n 0 2 119 (by decide +kernel) rfl rfl ?_
        refine gf12_21 46 122 (by decide +kernel) rfl flX12_46 (Mod_0 S0_) (Mod_15 S0_) ?_
        refine zIconst 2 2 123 (by decide +kernel) rfl (by decide) ?_
        refine zAload_n 0 2 124 (by decide +kernel) rfl rfl ?_
        refine gf12_28 242 127 (by decide +kernel) rfl flX12_242 (Mod_0 S0_) ?_
        refine zIconst 1 1 128 (by decide +kernel) rfl (by decide) ?_
        refine zIsub 129 (by decide +kernel) rfl ?_
        refine zImul 130 (by decide +kernel) rfl ?_
        refine zLdcS 254 "yg" 1 132 (by decide +kernel) rfl (by decide) ?_
        refine zCallV 12 zcls12 mX12_readItems 250 4 0 0 _ _ 135 [.int (x1), .ref (m + 8), .int (2 * ((I23 m 28) - 1)), .ref (G.2.2.2.1 1)] [] okX12_readItems mlX12_250 imX12_readItems seX12_readItems (by decide +kernel) rfl rfl (Nat.le_of_ble_eq_true rfl) rfl rfl (Mod_0 S0_) (zC.mono F ?_)
        rintro _ _ ⟨I24, rfl, rfl, F⟩
        change zV G (d + 1) mX12_readClause kc ks 135 [(2, .int ((if x1 = 115 then (if (I2 m 31 : Int32) = 0 then 1 else (if x1 = 102 then (if (I2 m 28 : Int32) < 6 then 1 else (if x1 = 119 then (if 9 ≤ (I2 m 29 : Int32) then 0 else 1) else 0)) else (if x1 = 119 then (if 9 ≤ (I2 m 29 : Int32) then 0 else 1) else 0))) else (if x1 = 102 then (if (I2 m 28 : Int32) < 6 then 1 else (if x1 = 119 then (if 9 ≤ (I2 m 29 : Int32) then 0 else 1) else 0)) else (if x1 = 119 then (if 9 ≤ (I2 m 29 : Int32) then 0 else 1) else 0))))), (1, .int (x1)), (0, .ref (m))] [] (I24, J, R, K, n) Q
        refine zGoto 33 168 (by decide +kernel) rfl ?_
        exact zVret rfl (by decide +kernel) F
    · replace F := F.1 q19
      refine zAload_n 0 2 81 (by decide +kernel) rfl rfl ?_
      refine zIconst 1 1 82 (by decide +kernel) rfl (by decide) ?_
      refine pf12_31 239 85 (by decide +kernel) rfl flX12_239 (Or.inr rfl) (Mod_0 S0_) ?_
      replace F := F _ rfl
      generalize zU I18 m 31 (1) = I25 at F ⊢
      refine zAload_n 0 2 86 (by decide +kernel) rfl rfl ?_
      refine zIload_n 1 1 87 (by decide +kernel) rfl rfl ?_
      refine zAload_n 0 2 88 (by decide +kernel) rfl rfl ?_
      refine gf12_19 40 91 (by decide +kernel) rfl flX12_40 (Mod_0 S0_) (Mod_11 S0_) ?_
      refine zIconst 0 0 92 (by decide +kernel) rfl (by decide) ?_
      refine zLdcS 248 "lc" 0 94 (by decide +kernel) rfl (by decide) ?_
      refine zCallV 12 zcls12 mX12_readItems 250 4 0 0 _ _ 97 [.int (x1), .ref (m + 6), .int (0), .ref (G.2.2.2.1 0)] [] okX12_readItems mlX12_250 imX12_readItems seX12_readItems (by decide +kernel) rfl rfl (Nat.le_of_ble_eq_true rfl) rfl rfl (Mod_0 S0_) (zC.mono F ?_)
      rintro _ _ ⟨I26, rfl, rfl, F⟩
      change zV G (d + 1) mX12_readClause kc ks 97 [(2, .int ((if x1 = 115 then (if (I2 m 31 : Int32) = 0 then 1 else (if x1 = 102 then (if (I2 m 28 : Int32) < 6 then 1 else (if x1 = 119 then (if 9 ≤ (I2 m 29 : Int32) then 0 else 1) else 0)) else (if x1 = 119 then (if 9 ≤ (I2 m 29 : Int32) then 0 else 1) else 0))) else (if x1 = 102 then (if (I2 m 28 : Int32) < 6 then 1 else (if x1 = 119 then (if 9 ≤ (I2 m 29 : Int32) then 0 else 1) else 0)) else (if x1 = 119 then (if 9 ≤ (I2 m 29 : Int32) then 0 else 1) else 0))))), (1, .int (x1)), (0, .ref (m))] [] (I26, J, R, K, n) Q
      refine zGoto 71 168 (by decide +kernel) rfl ?_
      exact zVret rfl (by decide +kernel) F
  · replace F := F.1 q17
    refine zAload_n 0 2 59 (by decide +kernel) rfl rfl ?_
    refine zCallV 12 zcls12 mX12_fails 131 0 0 0 _ _ 62 [] [] okX12_fails mlX12_131 imX12_fails seX12_fails (by decide +kernel) rfl rfl (Nat.le_of_ble_eq_true rfl) rfl rfl (Mod_0 S0_) (zC.mono F ?_)
    rintro _ _ ⟨x27, I28, rfl, rfl, F⟩
    change zV G (d + 1) mX12_readClause kc ks 62 [(2, .int ((if x1 = 115 then (if (I2 m 31 : Int32) = 0 then 1 else (if x1 = 102 then (if (I2 m 28 : Int32) < 6 then 1 else (if x1 = 119 then (if 9 ≤ (I2 m 29 : Int32) then 0 else 1) else 0)) else (if x1 = 119 then (if 9 ≤ (I2 m 29 : Int32) then 0 else 1) else 0))) else (if x1 = 102 then (if (I2 m 28 : Int32) < 6 then 1 else (if x1 = 119 then (if 9 ≤ (I2 m 29 : Int32) then 0 else 1) else 0)) else (if x1 = 119 then (if 9 ≤ (I2 m 29 : Int32) then 0 else 1) else 0))))), (1, .int (x1)), (0, .ref (m))] [.int (x27)] (I28, J, R, K, n) Q
    refine zPop 63 (by decide +kernel) rfl rfl ?_
    exact zVret rfl (by decide +kernel) F
set_option maxHeartbeats 2000000 in
theorem wX12_isWhole_0 {G : zG} {d kc ks : Nat} {I : Nat → Nat → Int32} {J : Nat → Nat → Int64} {R : Nat → Nat → Option Nat} {K : Nat → Nat × Nat} {n : Nat} {Q : Option Value → zH → Prop} (m t c : Nat) (S0_ : hMod G R K n m t c) (F : zV G (d + 1) mX12_isWhole kc ks 2 [(0, .ref (m)), (1, .int (0))] [] (I, J, R, K, n) Q) : zV G (d + 1) mX12_isWhole kc ks 0 [(0, .ref (m))] [] (I, J, R, K, n) Q := by
  refine zIconst 0 0 1 (by decide +kernel) rfl (by decide) ?_
  refine zIstore_n 1 [(1, .int (0)), (0, .ref (m))] 2 (by decide +kernel) rfl (by decide) rfl ?_
  exact zLoc [1, 0] _ rfl F
set_option maxHeartbeats 2000000 in
theorem wX12_isWhole_2 {G : zG} {d kc ks : Nat} {I : Nat → Nat → Int32} {J : Nat → Nat → Int64} {R : Nat → Nat → Option Nat} {K : Nat → Nat × Nat} {n : Nat} {Q : Option Value → zH → Prop} (m t c : Nat) (S0_ : hMod G R K n m t c) (l1 : Int32) (F : (((I m 29 : Int32) ≤ l1 → Q (some (.int ((if (I m 28 : Int32) ≤ 0 then 0 else 1)))) (I, J, R, K, n)) ∧ (¬ ((I m 29 : Int32) ≤ l1) → ((vp_in (3 * l1) 27) ∧ ((vp_in ((3 * l1) + 1) 27) ∧ (((I m 28 : Int32) ≤ (I (m + 10) (3 * l1 : Int32).toNatClampNeg : Int32) → Q (some (.int (0))) (I, J, R, K, n)) ∧ (¬ ((I m 28 : Int32) ≤ (I (m + 10) (3 * l1 : Int32).toNatClampNeg : Int32)) → (((I m 28 : Int32) ≤ (I (m + 10) ((3 * l1) + 1 : Int32).toNatClampNeg : Int32) → Q (some (.int (0))) (I, J, R, K, n)) ∧ (¬ ((I m 28 : Int32) ≤ (I (m + 10) ((3 * l1) + 1 : Int32).toNatClampNeg : Int32)) → (((I (m + 10) (3 * l1 : Int32).toNatClampNeg : Int32) = (I (m + 10) ((3 * l1) + 1 : Int32).toNatClampNeg : Int32) → Q (some (.int (0))) (I, J, R, K, n)) ∧ (¬ ((I (m + 10) (3 * l1 : Int32).toNatClampNeg : Int32) = (I (m + 10) ((3 * l1) + 1 : Int32).toNatClampNeg : Int32)) → zV G (d + 1) mX12_isWhole kc ks 2 [(0, .ref (m)), (1, .int (l1 + 1))] [] (I, J, R, K, n) Q))))))))))) : zV G (d + 1) mX12_isWhole kc ks 2 [(0, .ref (m)), (1, .int (l1))] [] (I, J, R, K, n) Q := by
  refine zIload_n 1 1 3 (by decide +kernel) rfl rfl ?_
  refine zAload_n 0 0 4 (by decide +kernel) rfl rfl ?_
  refine gf12_29 245 7 (by decide +kernel) rfl flX12_245 (Mod_0 S0_) ?_
  refine zIcmp_ge 52 59 10 (by decide +kernel) rfl rfl ⟨fun q1 => ?_, fun q1 => ?_⟩
  · replace F := F.1 q1
    refine zAload_n 0 0 60 (by decide +kernel) rfl rfl ?_
    refine gf12_28 242 63 (by decide +kernel) rfl flX12_242 (Mod_0 S0_) ?_
    suffices KK : zV G (d + 1) mX12_isWhole kc ks 71 [(0, .ref (m)), (1, .int (l1))] [.int ((if (I m 28 : Int32) ≤ 0 then 0 else 1))] (I, J, R, K, n) Q by
      refine zIf_le 7 70 66 (by decide +kernel) rfl rfl ⟨fun q2 => ?_, fun q2 => ?_⟩
      · refine zIconst 0 0 71 (by decide +kernel) rfl (by decide) ?_
        exact zTop (by rw [if_pos q2]) KK
      · refine zIconst 1 1 67 (by decide +kernel) rfl (by decide) ?_
        refine zGoto 4 71 (by decide +kernel) rfl ?_
        exact zTop (by rw [if_neg q2]) KK
    exact zZret .boolean rfl (zNarZ (zOrIte (Or.inl rfl) (Or.inr rfl))) (by decide +kernel) F
  · replace F := F.2 q1
    refine zAload_n 0 0 11 (by decide +kernel) rfl rfl ?_
    refine gf12_23 52 14 (by decide +kernel) rfl flX12_52 (Mod_0 S0_) (Mod_19 S0_) ?_
    refine zIconst 3 3 15 (by decide +kernel) rfl (by decide) ?_
    refine zIload_n 1 1 16 (by decide +kernel) rfl rfl ?_
    refine zImul 17 (by decide +kernel) rfl ?_
    obtain ⟨w3, F⟩ := F
    refine yIaload 27 18 (by decide +kernel) rfl (Mod_20 S0_) (w3) ?_
    refine zIstore_n 2 [(2, .int (I (m + 10) (3 * l1 : Int32).toNatClampNeg)), (0, .ref (m)), (1, .int (l1))] 19 (by decide +kernel) rfl (by decide) rfl ?_
    refine zAload_n 0 1 20 (by decide +kernel) rfl rfl ?_
    refine gf12_23 52 23 (by decide +kernel) rfl flX12_52 (Mod_0 S0_) (Mod_19 S0_) ?_
    refine zIconst 3 3 24 (by decide +kernel) rfl (by decide) ?_
    refine zIload_n 1 2 25 (by decide +kernel) rfl rfl ?_
    refine zImul 26 (by decide +kernel) rfl ?_
    refine zIconst 1 1 27 (by decide +kernel) rfl (by decide) ?_
    refine zIadd 28 (by decide +kernel) rfl ?_
    obtain ⟨w4, F⟩ := F
    refine yIaload 27 29 (by decide +kernel) rfl (Mod_20 S0_) (w4) ?_
    refine zIstore_n 3 [(3, .int (I (m + 10) ((3 * l1) + 1 : Int32).toNatClampNeg)), (2, .int (I (m + 10) (3 * l1 : Int32).toNatClampNeg)), (0, .ref (m)), (1, .int (l1))] 30 (by decide +kernel) rfl (by decide) rfl ?_
    refine zIload_n 2 1 31 (by decide +kernel) rfl rfl ?_
    refine zAload_n 0 2 32 (by decide +kernel) rfl rfl ?_
    refine gf12_28 242 35 (by decide +kernel) rfl flX12_242 (Mod_0 S0_) ?_
    refine zIcmp_ge 16 51 38 (by decide +kernel) rfl rfl ⟨fun q5 => ?_, fun q5 => ?_⟩
    · replace F := F.1 q5
      refine zIconst 0 0 52 (by decide +kernel) rfl (by decide) ?_
      exact zZret .boolean rfl (zNarZ (Or.inl rfl)) (by decide +kernel) F
    · replace F := F.2 q5
      refine zIload_n 3 0 39 (by decide +kernel) rfl rfl ?_
      refine zAload_n 0 2 40 (by decide +kernel) rfl rfl ?_
      refine gf12_28 242 43 (by decide +kernel) rfl flX12_242 (Mod_0 S0_) ?_
      refine zIcmp_ge 8 51 46 (by decide +kernel) rfl rfl ⟨fun q6 => ?_, fun q6 => ?_⟩
      · replace F := F.1 q6
        refine zIconst 0 0 52 (by decide +kernel) rfl (by decide) ?_
        exact zZret .boolean rfl (zNarZ (Or.inl rfl)) (by decide +kernel) F
      · replace F := F.2 q6
        refine zIload_n 2 1 47 (by decide +kernel) rfl rfl ?_
        refine zIload_n 3 0 48 (by decide +kernel) rfl rfl ?_
        refine zIcmp_ne 5 53 51 (by decide +kernel) rfl rfl ⟨fun q7 => ?_, fun q7 => ?_⟩
        · replace F := F.2 q7
          refine zIinc 1 1 3 (l1 + 1) [(1, .int (l1 + 1)), (3, .int (I (m + 10) ((3 * l1) + 1 : Int32).toNatClampNeg)), (2, .int (I (m + 10) (3 * l1 : Int32).toNatClampNeg)), (0, .ref (m))] 56 (by decide +kernel) rfl rfl (by rfl) (by decide) rfl ?_
          refine zGoto (-54) 2 (by decide +kernel) rfl ?_
          exact zLoc [3, 0] _ rfl F
        · replace F := F.1 q7
          refine zIconst 0 0 52 (by decide +kernel) rfl (by decide) ?_
          exact zZret .boolean rfl (zNarZ (Or.inl rfl)) (by decide +kernel) F
set_option maxHeartbeats 2000000 in
theorem wX12_readVillage_0 {G : zG} {d kc ks : Nat} {I : Nat → Nat → Int32} {J : Nat → Nat → Int64} {R : Nat → Nat → Option Nat} {K : Nat → Nat × Nat} {n : Nat} {Q : Option Value → zH → Prop} (m t c : Nat) (S0_ : hMod G R K n m t c) (F : zC G d mX12_starts 0 0 [.ref (m), .ref (m + 1), .int (0), .int (I m 6)] (I, J, R, K, n) (fun r h => ∃ (I1 : Nat → Nat → Int32) (J2 : Nat → Nat → Int64) (R3 : Nat → Nat → Option Nat), r = none ∧ h = (I1, J2, R3, K, n) ∧ ∃ u4 u5 : Nat, hMod G R3 K n m u4 u5 ∧ (∀ I7 : Nat → Nat → Int32, I7 = zU I1 m 28 (0) → (∀ I8 : Nat → Nat → Int32, I8 = zU I7 m 29 (0) → (∀ I9 : Nat → Nat → Int32, I9 = zU I8 m 31 (0) → zV G (d + 1) mX12_readVillage kc ks 30 [(0, .ref (m)), (1, .int (0))] [] (I9, J2, R3, K, n) Q))))) : zV G (d + 1) mX12_readVillage kc ks 0 [(0, .ref (m))] [] (I, J, R, K, n) Q := by
  refine zAload_n 0 0 1 (by decide +kernel) rfl rfl ?_
  refine zAload_n 0 0 2 (by decide +kernel) rfl rfl ?_
  refine gf12_1 9 5 (by decide +kernel) rfl flX12_9 (Mod_0 S0_) (Mod_1 S0_) ?_
  refine zIconst 0 0 6 (by decide +kernel) rfl (by decide) ?_
  refine zAload_n 0 0 7 (by decide +kernel) rfl rfl ?_
  refine gf12_6 106 10 (by decide +kernel) rfl flX12_106 (Mod_0 S0_) ?_
  refine zCallV 12 zcls12 mX12_starts 204 3 0 0 _ _ 13 [.ref (m + 1), .int (0), .int (I m 6)] [] okX12_starts mlX12_204 imX12_starts seX12_starts (by decide +kernel) rfl rfl (Nat.le_of_ble_eq_true rfl) rfl rfl (Mod_0 S0_) (zC.mono F ?_)
  rintro _ _ ⟨I1, J2, R3, rfl, rfl, F⟩
  change zV G (d + 1) mX12_readVillage kc ks 13 [(0, .ref (m))] [] (I1, J2, R3, K, n) Q
  obtain ⟨u4, u5, S6, F⟩ := F
  refine zAload_n 0 0 14 (by decide +kernel) rfl rfl ?_
  refine zIconst 0 0 15 (by decide +kernel) rfl (by decide) ?_
  refine pf12_28 242 18 (by decide +kernel) rfl flX12_242 (Mod_0 S6) ?_
  replace F := F _ rfl
  generalize zU I1 m 28 (0) = I7 at F ⊢
  refine zAload_n 0 0 19 (by decide +kernel) rfl rfl ?_
  refine zIconst 0 0 20 (by decide +kernel) rfl (by decide) ?_
  refine pf12_29 245 23 (by decide +kernel) rfl flX12_245 (Mod_0 S6) ?_
  replace F := F _ rfl
  generalize zU I7 m 29 (0) = I8 at F ⊢
  refine zAload_n 0 0 24 (by decide +kernel) rfl rfl ?_
  refine zIconst 0 0 25 (by decide +kernel) rfl (by decide) ?_
  refine pf12_31 239 28 (by decide +kernel) rfl flX12_239 (Or.inl rfl) (Mod_0 S6) ?_
  replace F := F _ rfl
  generalize zU I8 m 31 (0) = I9 at F ⊢
  refine zIconst 0 0 29 (by decide +kernel) rfl (by decide) ?_
  refine zIstore_n 1 [(1, .int (0)), (0, .ref (m))] 30 (by decide +kernel) rfl (by decide) rfl ?_
  exact zLoc [1, 0] _ rfl F
set_option maxHeartbeats 2000000 in
theorem wX12_readVillage_30 {G : zG} {d kc ks : Nat} {I : Nat → Nat → Int32} {J : Nat → Nat → Int64} {R : Nat → Nat → Option Nat} {K : Nat → Nat × Nat} {n : Nat} {Q : Option Value → zH → Prop} (m u4 u5 : Nat) (S6 : hMod G R K n m u4 u5) (l1 : Int32) (F : ((2 ≤ l1 → zV G (d + 1) mX12_readVillage kc ks 55 [(0, .ref (m)), (1, .int (1))] [] (I, J, R, K, n) Q) ∧ (¬ (2 ≤ l1) → zC G d mX12_usual 0 0 [.int (115), .int (l1)] (I, J, R, K, n) (fun r h => ∃ (x11 : Int32) (I12 : Nat → Nat → Int32), r = some (.int x11) ∧ h = (I12, J, R, K, n) ∧ (vp_in l1 2 ∧ ∀ I13 : Nat → Nat → Int32, I13 = zU I12 (m + 6) l1.toNatClampNeg (x11) → zV G (d + 1) mX12_readVillage kc ks 30 [(0, .ref (m)), (1, .int (l1 + 1))] [] (I13, J, R, K, n) Q))))) : zV G (d + 1) mX12_readVillage kc ks 30 [(0, .ref (m)), (1, .int (l1))] [] (I, J, R, K, n) Q := by
  refine zIload_n 1 1 31 (by decide +kernel) rfl rfl ?_
  refine zIconst 2 2 32 (by decide +kernel) rfl (by decide) ?_
  refine zIcmp_ge 21 53 35 (by decide +kernel) rfl rfl ⟨fun q10 => ?_, fun q10 => ?_⟩
  · replace F := F.1 q10
    refine zIconst 1 1 54 (by decide +kernel) rfl (by decide) ?_
    refine zIstore_n 1 [(1, .int (1)), (0, .ref (m))] 55 (by decide +kernel) rfl (by decide) rfl ?_
    exact zLoc [1, 0] _ rfl F
  · replace F := F.2 q10
    refine zAload_n 0 0 36 (by decide +kernel) rfl rfl ?_
    refine gf12_19 40 39 (by decide +kernel) rfl flX12_40 (Mod_0 S6) (Mod_11 S6) ?_
    refine zIload_n 1 1 40 (by decide +kernel) rfl rfl ?_
    refine zBipush 115 115 42 (by decide +kernel) rfl (by decide) ?_
    refine zIload_n 1 1 43 (by decide +kernel) rfl rfl ?_
    refine zCallS mX12_usual 218 2 0 0 _ _ 46 [.int (115), .int (l1)] [.int (l1), .ref (m + 6)] okX12_usual mlX12_218 smX12_usual (by decide +kernel) rfl rfl (Nat.le_of_ble_eq_true rfl) rfl rfl (zC.mono F ?_)
    rintro _ _ ⟨x11, I12, rfl, rfl, F⟩
    change zV G (d + 1) mX12_readVillage kc ks 46 [(0, .ref (m)), (1, .int (l1))] [.int (x11), .int (l1), .ref (m + 6)] (I12, J, R, K, n) Q
    refine yIastore 2 47 (by decide +kernel) rfl (Mod_12 S6) F.1 ?_
    replace F := F.2 _ rfl
    generalize zU I12 (m + 6) l1.toNatClampNeg (x11) = I13 at F ⊢
    refine zIinc 1 1 1 (l1 + 1) [(1, .int (l1 + 1)), (0, .ref (m))] 50 (by decide +kernel) rfl rfl (by rfl) (by decide) rfl ?_
    refine zGoto (-20) 30 (by decide +kernel) rfl ?_
    exact zLoc [1, 0] _ rfl F
set_option maxHeartbeats 2000000 in
theorem wX12_readVillage_55 {G : zG} {d kc ks : Nat} {I : Nat → Nat → Int32} {J : Nat → Nat → Int64} {R : Nat → Nat → Option Nat} {K : Nat → Nat × Nat} {n : Nat} {Q : Option Value → zH → Prop} (m u4 u5 : Nat) (S6 : hMod G R K n m u4 u5) (l1 : Int32) (F : ((l1 = 0 → (((I m 11 : Int32) = (-1) → zC G d mX12_look 0 0 [.ref (m)] (I, J, R, K, n) (fun r h => ∃ (x16 : Int32) (I17 : Nat → Nat → Int32), r = some (.int x16) ∧ h = (I17, J, R, K, n) ∧ ((x16 = (-1) → zC G d mX12_isWhole 0 0 [.ref (m)] (I17, J, R, K, n) (fun r h => ∃ (x21 : Int32) (I22 : Nat → Nat → Int32), r = some (.int x21) ∧ h = (I22, J, R, K, n) ∧ ((x21 = 0 → zC G d mX12_fails 0 0 [.ref (m)] (I22, J, R, K, n) (fun r h => ∃ (x24 : Int32) (I25 : Nat → Nat → Int32), r = some (.int x24) ∧ h = (I25, J, R, K, n) ∧ Q none (I25, J, R, K, n))) ∧ (¬ (x21 = 0) → Q none (I22, J, R, K, n))))) ∧ (¬ (x16 = (-1)) → zC G d mX12_fails 0 0 [.ref (m)] (I17, J, R, K, n) (fun r h => ∃ (x19 : Int32) (I20 : Nat → Nat → Int32), r = some (.int x19) ∧ h = (I20, J, R, K, n) ∧ Q none (I20, J, R, K, n)))))) ∧ (¬ ((I m 11 : Int32) = (-1)) → Q none (I, J, R, K, n)))) ∧ (¬ (l1 = 0) → (((I m 11 : Int32) = (-1) → zC G d mX12_readClause 0 0 [.ref (m)] (I, J, R, K, n) (fun r h => ∃ (I38 : Nat → Nat → Int32), r = none ∧ h = (I38, J, R, K, n) ∧ (((I38 m 11 : Int32) = (-1) → zC G d mX12_look 0 0 [.ref (m)] (I38, J, R, K, n) (fun r h => ∃ (x42 : Int32) (I43 : Nat → Nat → Int32), r = some (.int x42) ∧ h = (I43, J, R, K, n) ∧ ((((if x42 = 59 then 1 else 0) : Int32) = 0 → zV G (d + 1) mX12_readVillage kc ks 55 [(0, .ref (m)), (1, .int ((if x42 = 59 then 1 else 0)))] [] (I43, J, R, K, n) Q) ∧ (¬ (((if x42 = 59 then 1 else 0) : Int32) = 0) → (∀ I46 : Nat → Nat → Int32, I46 = zU I43 m 10 ((I43 m 10) + 1) → zV G (d + 1) mX12_readVillage kc ks 55 [(0, .ref (m)), (1, .int ((if x42 = 59 then 1 else 0)))] [] (I46, J, R, K, n) Q))))) ∧ (¬ ((I38 m 11 : Int32) = (-1)) → (((0 : Int32) = 0 → zV G (d + 1) mX12_readVillage kc ks 55 [(0, .ref (m)), (1, .int (0))] [] (I38, J, R, K, n) Q) ∧ (¬ ((0 : Int32) = 0) → (∀ I41 : Nat → Nat → Int32, I41 = zU I38 m 10 ((I38 m 10) + 1) → zV G (d + 1) mX12_readVillage kc ks 55 [(0, .ref (m)), (1, .int (0))] [] (I41, J, R, K, n) Q))))))) ∧ (¬ ((I m 11 : Int32) = (-1)) → (((I m 11 : Int32) = (-1) → zC G d mX12_look 0 0 [.ref (m)] (I, J, R, K, n) (fun r h => ∃ (x28 : Int32) (I29 : Nat → Nat → Int32), r = some (.int x28) ∧ h = (I29, J, R, K, n) ∧ ((x28 = (-1) → zC G d mX12_isWhole 0 0 [.ref (m)] (I29, J, R, K, n) (fun r h => ∃ (x33 : Int32) (I34 : Nat → Nat → Int32), r = some (.int x33) ∧ h = (I34, J, R, K, n) ∧ ((x33 = 0 → zC G d mX12_fails 0 0 [.ref (m)] (I34, J, R, K, n) (fun r h => ∃ (x36 : Int32) (I37 : Nat → Nat → Int32), r = some (.int x36) ∧ h = (I37, J, R, K, n) ∧ Q none (I37, J, R, K, n))) ∧ (¬ (x33 = 0) → Q none (I34, J, R, K, n))))) ∧ (¬ (x28 = (-1)) → zC G d mX12_fails 0 0 [.ref (m)] (I29, J, R, K, n) (fun r h => ∃ (x31 : Int32) (I32 : Nat → Nat → Int32), r = some (.int x31) ∧ h = (I32, J, R, K, n) ∧ Q none (I32, J, R, K, n)))))) ∧ (¬ ((I m 11 : Int32) = (-1)) → Q none (I, J, R, K, n)))))))) : zV G (d + 1) mX12_readVillage kc ks 55 [(0, .ref (m)), (1, .int (l1))] [] (I, J, R, K, n) Q := by
  refine zIload_n 1 1 56 (by decide +kernel) rfl rfl ?_
  refine zIf_eq 55 111 59 (by decide +kernel) rfl rfl ⟨fun q14 => ?_, fun q14 => ?_⟩
  · replace F := F.1 q14
    refine zAload_n 0 0 112 (by decide +kernel) rfl rfl ?_
    refine gf12_11 125 115 (by decide +kernel) rfl flX12_125 (Mod_0 S6) ?_
    refine zIconst (-1) (-1) 116 (by decide +kernel) rfl (by decide) ?_
    refine zIcmp_ne 23 139 119 (by decide +kernel) rfl rfl ⟨fun q15 => ?_, fun q15 => ?_⟩
    · replace F := F.2 q15
      exact zVret rfl (by decide +kernel) F
    · replace F := F.1 q15
      refine zAload_n 0 0 120 (by decide +kernel) rfl rfl ?_
      refine zCallV 12 zcls12 mX12_look 135 0 0 0 _ _ 123 [] [] okX12_look mlX12_135 imX12_look seX12_look (by decide +kernel) rfl rfl (Nat.le_of_ble_eq_true rfl) rfl rfl (Mod_0 S6) (zC.mono F ?_)
      rintro _ _ ⟨x16, I17, rfl, rfl, F⟩
      change zV G (d + 1) mX12_readVillage kc ks 123 [(0, .ref (m)), (1, .int (l1))] [.int (x16)] (I17, J, R, K, n) Q
      refine zIconst (-1) (-1) 124 (by decide +kernel) rfl (by decide) ?_
      refine zIcmp_ne 10 134 127 (by decide +kernel) rfl rfl ⟨fun q18 => ?_, fun q18 => ?_⟩
      · replace F := F.2 q18
        refine zAload_n 0 0 135 (by decide +kernel) rfl rfl ?_
        refine zCallV 12 zcls12 mX12_fails 131 0 0 0 _ _ 138 [] [] okX12_fails mlX12_131 imX12_fails seX12_fails (by decide +kernel) rfl rfl (Nat.le_of_ble_eq_true rfl) rfl rfl (Mod_0 S6) (zC.mono F ?_)
        rintro _ _ ⟨x19, I20, rfl, rfl, F⟩
        change zV G (d + 1) mX12_readVillage kc ks 138 [(0, .ref (m)), (1, .int (l1))] [.int (x19)] (I20, J, R, K, n) Q
        refine zPop 139 (by decide +kernel) rfl rfl ?_
        exact zVret rfl (by decide +kernel) F
      · replace F := F.1 q18
        refine zAload_n 0 0 128 (by decide +kernel) rfl rfl ?_
        refine zCallV 12 zcls12 mX12_isWhole 261 0 0 0 _ _ 131 [] [] okX12_isWhole mlX12_261 imX12_isWhole seX12_isWhole (by decide +kernel) rfl rfl (Nat.le_of_ble_eq_true rfl) rfl rfl (Mod_0 S6) (zC.mono F ?_)
        rintro _ _ ⟨x21, I22, rfl, rfl, F⟩
        change zV G (d + 1) mX12_readVillage kc ks 131 [(0, .ref (m)), (1, .int (l1))] [.int (x21)] (I22, J, R, K, n) Q
        refine zIf_ne 8 139 134 (by decide +kernel) rfl rfl ⟨fun q23 => ?_, fun q23 => ?_⟩
        · replace F := F.2 q23
          exact zVret rfl (by decide +kernel) F
        · replace F := F.1 q23
          refine zAload_n 0 0 135 (by decide +kernel) rfl rfl ?_
          refine zCallV 12 zcls12 mX12_fails 131 0 0 0 _ _ 138 [] [] okX12_fails mlX12_131 imX12_fails seX12_fails (by decide +kernel) rfl rfl (Nat.le_of_ble_eq_true rfl) rfl rfl (Mod_0 S6) (zC.mono F ?_)
          rintro _ _ ⟨x24, I25, rfl, rfl, F⟩
          change zV G (d + 1) mX12_readVillage kc ks 138 [(0, .ref (m)), (1, .int (l1))] [.int (x24)] (I25, J, R, K, n) Q
          refine zPop 139 (by decide +kernel) rfl rfl ?_
          exact zVret rfl (by decide +kernel) F
  · replace F := F.2 q14
    refine zAload_n 0 0 60 (by decide +kernel) rfl rfl ?_
    refine gf12_11 125 63 (by decide +kernel) rfl flX12_125 (Mod_0 S6) ?_
    refine zIconst (-1) (-1) 64 (by decide +kernel) rfl (by decide) ?_
    refine zIcmp_ne 47 111 67 (by decide +kernel) rfl rfl ⟨fun q26 => ?_, fun q26 => ?_⟩
    · replace F := F.2 q26
      refine zAload_n 0 0 112 (by decide +kernel) rfl rfl ?_
      refine gf12_11 125 115 (by decide +kernel) rfl flX12_125 (Mod_0 S6) ?_
      refine zIconst (-1) (-1) 116 (by decide +kernel) rfl (by decide) ?_
      refine zIcmp_ne 23 139 119 (by decide +kernel) rfl rfl ⟨fun q27 => ?_, fun q27 => ?_⟩
      · replace F := F.2 q27
        exact zVret rfl (by decide +kernel) F
      · replace F := F.1 q27
        refine zAload_n 0 0 120 (by decide +kernel) rfl rfl ?_
        refine zCallV 12 zcls12 mX12_look 135 0 0 0 _ _ 123 [] [] okX12_look mlX12_135 imX12_look seX12_look (by decide +kernel) rfl rfl (Nat.le_of_ble_eq_true rfl) rfl rfl (Mod_0 S6) (zC.mono F ?_)
        rintro _ _ ⟨x28, I29, rfl, rfl, F⟩
        change zV G (d + 1) mX12_readVillage kc ks 123 [(0, .ref (m)), (1, .int (l1))] [.int (x28)] (I29, J, R, K, n) Q
        refine zIconst (-1) (-1) 124 (by decide +kernel) rfl (by decide) ?_
        refine zIcmp_ne 10 134 127 (by decide +kernel) rfl rfl ⟨fun q30 => ?_, fun q30 => ?_⟩
        · replace F := F.2 q30
          refine zAload_n 0 0 135 (by decide +kernel) rfl rfl ?_
          refine zCallV 12 zcls12 mX12_fails 131 0 0 0 _ _ 138 [] [] okX12_fails mlX12_131 imX12_fails seX12_fails (by decide +kernel) rfl rfl (Nat.le_of_ble_eq_true rfl) rfl rfl (Mod_0 S6) (zC.mono F ?_)
          rintro _ _ ⟨x31, I32, rfl, rfl, F⟩
          change zV G (d + 1) mX12_readVillage kc ks 138 [(0, .ref (m)), (1, .int (l1))] [.int (x31)] (I32, J, R, K, n) Q
          refine zPop 139 (by decide +kernel) rfl rfl ?_
          exact zVret rfl (by decide +kernel) F
        · replace F := F.1 q30
          refine zAload_n 0 0 128 (by decide +kernel) rfl rfl ?_
          refine zCallV 12 zcls12 mX12_isWhole 261 0 0 0 _ _ 131 [] [] okX12_isWhole mlX12_261 imX12_isWhole seX12_isWhole (by decide +kernel) rfl rfl (Nat.le_of_ble_eq_true rfl) rfl rfl (Mod_0 S6) (zC.mono F ?_)
          rintro _ _ ⟨x33, I34, rfl, rfl, F⟩
          change zV G (d + 1) mX12_readVillage kc ks 131 [(0, .ref (m)), (1, .int (l1))] [.int (x33)] (I34, J, R, K, n) Q
          refine zIf_ne 8 139 134 (by decide +kernel) rfl rfl ⟨fun q35 => ?_, fun q35 => ?_⟩
          · replace F := F.2 q35
            exact zVret rfl (by decide +kernel) F
          · replace F := F.1 q35
            refine zAload_n 0 0 135 (by decide +kernel) rfl rfl ?_
            refine zCallV 12 zcls12 mX12_fails 131 0 0 0 _ _ 138 [] [] okX12_fails mlX12_131 imX12_fails seX12_fails (by decide +kernel) rfl rfl (Nat.le_of_ble_eq_true rfl) rfl rfl (Mod_0 S6) (zC.mono F ?_)
            rintro _ _ ⟨x36, I37, rfl, rfl, F⟩
            change zV G (d + 1) mX12_readVillage kc ks 138 [(0, .ref (m)), (1, .int (l1))] [.int (x36)] (I37, J, R, K, n) Q
            refine zPop 139 (by decide +kernel) rfl rfl ?_
            exact zVret rfl (by decide +kernel) F
    · replace F := F.1 q26
      refine zAload_n 0 0 68 (by decide +kernel) rfl rfl ?_
      refine zCallV 12 zcls12 mX12_readClause 258 0 0 0 _ _ 71 [] [] okX12_readClause mlX12_258 imX12_readClause seX12_readClause (by decide +kernel) rfl rfl (Nat.le_of_ble_eq_true rfl) rfl rfl (Mod_0 S6) (zC.mono F ?_)
      rintro _ _ ⟨I38, rfl, rfl, F⟩
      change zV G (d + 1) mX12_readVillage kc ks 71 [(0, .ref (m)), (1, .int (l1))] [] (I38, J, R, K, n) Q
      refine zAload_n 0 0 72 (by decide +kernel) rfl rfl ?_
      refine gf12_11 125 75 (by decide +kernel) rfl flX12_125 (Mod_0 S6) ?_
      refine zIconst (-1) (-1) 76 (by decide +kernel) rfl (by decide) ?_
      refine zIcmp_ne 16 92 79 (by decide +kernel) rfl rfl ⟨fun q39 => ?_, fun q39 => ?_⟩
      · replace F := F.2 q39
        refine zIconst 0 0 93 (by decide +kernel) rfl (by decide) ?_
        refine zIstore_n 1 [(1, .int (0)), (0, .ref (m))] 94 (by decide +kernel) rfl (by decide) rfl ?_
        refine zIload_n 1 0 95 (by decide +kernel) rfl rfl ?_
        refine zIf_eq (-40) 55 98 (by decide +kernel) rfl rfl ⟨fun q40 => ?_, fun q40 => ?_⟩
        · replace F := F.1 q40
          exact zLoc [1, 0] _ rfl F
        · replace F := F.2 q40
          refine zAload_n 0 1 99 (by decide +kernel) rfl rfl ?_
          refine zDup 100 (by decide +kernel) rfl rfl ?_
          refine gf12_10 116 103 (by decide +kernel) rfl flX12_116 (Mod_0 S6) ?_
          refine zIconst 1 1 104 (by decide +kernel) rfl (by decide) ?_
          refine zIadd 105 (by decide +kernel) rfl ?_
          refine pf12_10 116 108 (by decide +kernel) rfl flX12_116 (Mod_0 S6) ?_
          replace F := F _ rfl
          generalize zU I38 m 10 ((I38 m 10) + 1) = I41 at F ⊢
          refine zGoto (-53) 55 (by decide +kernel) rfl ?_
          exact zLoc [1, 0] _ rfl F
      · replace F := F.1 q39
        refine zAload_n 0 0 80 (by decide +kernel) rfl rfl ?_
        refine zCallV 12 zcls12 mX12_look 135 0 0 0 _ _ 83 [] [] okX12_look mlX12_135 imX12_look seX12_look (by decide +kernel) rfl rfl (Nat.le_of_ble_eq_true rfl) rfl rfl (Mod_0 S6) (zC.mono F ?_)
        rintro _ _ ⟨x42, I43, rfl, rfl, F⟩
        change zV G (d + 1) mX12_readVillage kc ks 83 [(0, .ref (m)), (1, .int (l1))] [.int (x42)] (I43, J, R, K, n) Q
        refine zBipush 59 59 85 (by decide +kernel) rfl (by decide) ?_
        suffices KK : zV G (d + 1) mX12_readVillage kc ks 93 [(0, .ref (m)), (1, .int (l1))] [.int ((if x42 = 59 then 1 else 0))] (I43, J, R, K, n) Q by
          refine zIcmp_ne 7 92 88 (by decide +kernel) rfl rfl ⟨fun q44 => ?_, fun q44 => ?_⟩
          · refine zIconst 0 0 93 (by decide +kernel) rfl (by decide) ?_
            exact zTop (by rw [if_neg q44]) KK
          · refine zIconst 1 1 89 (by decide +kernel) rfl (by decide) ?_
            refine zGoto 4 93 (by decide +kernel) rfl ?_
            exact zTop (by rw [if_pos q44]) KK
        refine zIstore_n 1 [(1, .int ((if x42 = 59 then 1 else 0))), (0, .ref (m))] 94 (by decide +kernel) rfl (by decide) rfl ?_
        refine zIload_n 1 0 95 (by decide +kernel) rfl rfl ?_
        refine zIf_eq (-40) 55 98 (by decide +kernel) rfl rfl ⟨fun q45 => ?_, fun q45 => ?_⟩
        · replace F := F.1 q45
          exact zLoc [1, 0] _ rfl F
        · replace F := F.2 q45
          refine zAload_n 0 1 99 (by decide +kernel) rfl rfl ?_
          refine zDup 100 (by decide +kernel) rfl rfl ?_
          refine gf12_10 116 103 (by decide +kernel) rfl flX12_116 (Mod_0 S6) ?_
          refine zIconst 1 1 104 (by decide +kernel) rfl (by decide) ?_
          refine zIadd 105 (by decide +kernel) rfl ?_
          refine pf12_10 116 108 (by decide +kernel) rfl flX12_116 (Mod_0 S6) ?_
          replace F := F _ rfl
          generalize zU I43 m 10 ((I43 m 10) + 1) = I46 at F ⊢
          refine zGoto (-53) 55 (by decide +kernel) rfl ?_
          exact zLoc [1, 0] _ rfl F
set_option maxHeartbeats 2000000 in
theorem wX12_digit_0 {G : zG} {d kc ks : Nat} {I : Nat → Nat → Int32} {J : Nat → Nat → Int64} {R : Nat → Nat → Option Nat} {K : Nat → Nat × Nat} {n : Nat} {Q : Option Value → zH → Prop} (m t c : Nat) (S0_ : hMod G R K n m t c) (F : zC G d mX12_look 0 0 [.ref (m)] (I, J, R, K, n) (fun r h => ∃ (x1 : Int32) (I2 : Nat → Nat → Int32), r = some (.int x1) ∧ h = (I2, J, R, K, n) ∧ zC G d mX12_isDigit 0 0 [.ref (m)] (I2, J, R, K, n) (fun r h => ∃ (x3 : Int32) (I4 : Nat → Nat → Int32), r = some (.int x3) ∧ h = (I4, J, R, K, n) ∧ ((x3 = 0 → zC G d mX12_fails 0 0 [.ref (m)] (I4, J, R, K, n) (fun r h => ∃ (x7 : Int32) (I8 : Nat → Nat → Int32), r = some (.int x7) ∧ h = (I8, J, R, K, n) ∧ Q (some (.int (0))) (I8, J, R, K, n))) ∧ (¬ (x3 = 0) → (∀ I6 : Nat → Nat → Int32, I6 = zU I4 m 10 ((I4 m 10) + 1) → Q (some (.int (x1 - 48))) (I6, J, R, K, n))))))) : zV G (d + 1) mX12_digit kc ks 0 [(0, .ref (m))] [] (I, J, R, K, n) Q := by
  refine zAload_n 0 0 1 (by decide +kernel) rfl rfl ?_
  refine zCallV 12 zcls12 mX12_look 135 0 0 0 _ _ 4 [] [] okX12_look mlX12_135 imX12_look seX12_look (by decide +kernel) rfl rfl (Nat.le_of_ble_eq_true rfl) rfl rfl (Mod_0 S0_) (zC.mono F ?_)
  rintro _ _ ⟨x1, I2, rfl, rfl, F⟩
  change zV G (d + 1) mX12_digit kc ks 4 [(0, .ref (m))] [.int (x1)] (I2, J, R, K, n) Q
  refine zIstore_n 1 [(1, .int (x1)), (0, .ref (m))] 5 (by decide +kernel) rfl (by decide) rfl ?_
  refine zAload_n 0 1 6 (by decide +kernel) rfl rfl ?_
  refine zCallV 12 zcls12 mX12_isDigit 165 0 0 0 _ _ 9 [] [] okX12_isDigit mlX12_165 imX12_isDigit seX12_isDigit (by decide +kernel) rfl rfl (Nat.le_of_ble_eq_true rfl) rfl rfl (Mod_0 S0_) (zC.mono F ?_)
  rintro _ _ ⟨x3, I4, rfl, rfl, F⟩
  change zV G (d + 1) mX12_digit kc ks 9 [(1, .int (x1)), (0, .ref (m))] [.int (x3)] (I4, J, R, K, n) Q
  refine zIf_ne 10 19 12 (by decide +kernel) rfl rfl ⟨fun q5 => ?_, fun q5 => ?_⟩
  · replace F := F.2 q5
    refine zAload_n 0 1 20 (by decide +kernel) rfl rfl ?_
    refine zDup 21 (by decide +kernel) rfl rfl ?_
    refine gf12_10 116 24 (by decide +kernel) rfl flX12_116 (Mod_0 S0_) ?_
    refine zIconst 1 1 25 (by decide +kernel) rfl (by decide) ?_
    refine zIadd 26 (by decide +kernel) rfl ?_
    refine pf12_10 116 29 (by decide +kernel) rfl flX12_116 (Mod_0 S0_) ?_
    replace F := F _ rfl
    generalize zU I4 m 10 ((I4 m 10) + 1) = I6 at F ⊢
    refine zIload_n 1 0 30 (by decide +kernel) rfl rfl ?_
    refine zBipush 48 48 32 (by decide +kernel) rfl (by decide) ?_
    refine zIsub 33 (by decide +kernel) rfl ?_
    exact zIret rfl (by decide +kernel) F
  · replace F := F.1 q5
    refine zAload_n 0 1 13 (by decide +kernel) rfl rfl ?_
    refine zCallV 12 zcls12 mX12_fails 131 0 0 0 _ _ 16 [] [] okX12_fails mlX12_131 imX12_fails seX12_fails (by decide +kernel) rfl rfl (Nat.le_of_ble_eq_true rfl) rfl rfl (Mod_0 S0_) (zC.mono F ?_)
    rintro _ _ ⟨x7, I8, rfl, rfl, F⟩
    change zV G (d + 1) mX12_digit kc ks 16 [(1, .int (x1)), (0, .ref (m))] [.int (x7)] (I8, J, R, K, n) Q
    refine zPop 17 (by decide +kernel) rfl rfl ?_
    refine zIconst 0 0 18 (by decide +kernel) rfl (by decide) ?_
    exact zIret rfl (by decide +kernel) F
set_option maxHeartbeats 2000000 in
theorem wX12_readStep_0 {G : zG} {d kc ks : Nat} {I : Nat → Nat → Int32} {J : Nat → Nat → Int64} {R : Nat → Nat → Option Nat} {K : Nat → Nat × Nat} {n : Nat} {Q : Option Value → zH → Prop} (m t c : Nat) (S0_ : hMod G R K n m t c) (p1 : Int32) (F : zC G d mX12_look 0 0 [.ref (m)] (I, J, R, K, n) (fun r h => ∃ (x1 : Int32) (I2 : Nat → Nat → Int32), r = some (.int x1) ∧ h = (I2, J, R, K, n) ∧ zC G d mX12_spotOf 0 0 [.ref (G.2.2.2.1 5), .int (x1)] (I2, J, R, K, n) (fun r h => ∃ (x3 : Int32) (I4 : Nat → Nat → Int32), r = some (.int x3) ∧ h = (I4, J, R, K, n) ∧ ((x3 = (-1) → zC G d mX12_fails 0 0 [.ref (m)] (I4, J, R, K, n) (fun r h => ∃ (x19 : Int32) (I20 : Nat → Nat → Int32), r = some (.int x19) ∧ h = (I20, J, R, K, n) ∧ Q none (I20, J, R, K, n))) ∧ (¬ (x3 = (-1)) → (∀ I6 : Nat → Nat → Int32, I6 = zU I4 m 10 ((I4 m 10) + 1) → (vp_in p1 240 ∧ ∀ I7 : Nat → Nat → Int32, I7 = zU I6 (m + 11) p1.toNatClampNeg (x3) → (vp_in (p1 + 1) 240 ∧ ∀ I8 : Nat → Nat → Int32, I8 = zU I7 (m + 11) (p1 + 1 : Int32).toNatClampNeg ((-1)) → (vp_in (p1 + 2) 240 ∧ ∀ I9 : Nat → Nat → Int32, I9 = zU I8 (m + 11) (p1 + 2 : Int32).toNatClampNeg ((-1)) → ((x3 = 3 → Q none (I9, J, R, K, n)) ∧ (¬ (x3 = 3) → zC G d mX12_digit 0 0 [.ref (m)] (I9, J, R, K, n) (fun r h => ∃ (x11 : Int32) (I12 : Nat → Nat → Int32), r = some (.int x11) ∧ h = (I12, J, R, K, n) ∧ (vp_in (p1 + 1) 240 ∧ ∀ I13 : Nat → Nat → Int32, I13 = zU I12 (m + 11) (p1 + 1 : Int32).toNatClampNeg (x11) → (((I13 m 11 : Int32) = (-1) → ((x3 = 1 → zC G d mX12_digit 0 0 [.ref (m)] (I13, J, R, K, n) (fun r h => ∃ (x16 : Int32) (I17 : Nat → Nat → Int32), r = some (.int x16) ∧ h = (I17, J, R, K, n) ∧ (vp_in (p1 + 2) 240 ∧ ∀ I18 : Nat → Nat → Int32, I18 = zU I17 (m + 11) (p1 + 2 : Int32).toNatClampNeg (x16) → Q none (I18, J, R, K, n)))) ∧ (¬ (x3 = 1) → Q none (I13, J, R, K, n)))) ∧ (¬ ((I13 m 11 : Int32) = (-1)) → Q none (I13, J, R, K, n)))))))))))))))) : zV G (d + 1) mX12_readStep kc ks 0 [(0, .ref (m)), (1, .int (p1))] [] (I, J, R, K, n) Q := by
  refine zLdcwS 264 "fpin" 5 3 (by decide +kernel) rfl (by decide) ?_
  refine zAload_n 0 0 4 (by decide +kernel) rfl rfl ?_
  refine zCallV 12 zcls12 mX12_look 135 0 0 0 _ _ 7 [] [.ref (G.2.2.2.1 5)] okX12_look mlX12_135 imX12_look seX12_look (by decide +kernel) rfl rfl (Nat.le_of_ble_eq_true rfl) rfl rfl (Mod_0 S0_) (zC.mono F ?_)
  rintro _ _ ⟨x1, I2, rfl, rfl, F⟩
  change zV G (d + 1) mX12_readStep kc ks 7 [(0, .ref (m)), (1, .int (p1))] [.int (x1), .ref (G.2.2.2.1 5)] (I2, J, R, K, n) Q
  refine zCallS mX12_spotOf 222 2 0 0 _ _ 10 [.ref (G.2.2.2.1 5), .int (x1)] [] okX12_spotOf mlX12_222 smX12_spotOf (by decide +kernel) rfl rfl (Nat.le_of_ble_eq_true rfl) rfl rfl (zC.mono F ?_)
  rintro _ _ ⟨x3, I4, rfl, rfl, F⟩
  change zV G (d + 1) mX12_readStep kc ks 10 [(0, .ref (m)), (1, .int (p1))] [.int (x3)] (I4, J, R, K, n) Q
  refine zIstore_n 2 [(2, .int (x3)), (0, .ref (m)), (1, .int (p1))] 11 (by decide +kernel) rfl (by decide) rfl ?_
  refine zIload_n 2 0 12 (by decide +kernel) rfl rfl ?_
  refine zIconst (-1) (-1) 13 (by decide +kernel) rfl (by decide) ?_
  refine zIcmp_ne 9 22 16 (by decide +kernel) rfl rfl ⟨fun q5 => ?_, fun q5 => ?_⟩
  · replace F := F.2 q5
    refine zAload_n 0 1 23 (by decide +kernel) rfl rfl ?_
    refine zDup 24 (by decide +kernel) rfl rfl ?_
    refine gf12_10 116 27 (by decide +kernel) rfl flX12_116 (Mod_0 S0_) ?_
    refine zIconst 1 1 28 (by decide +kernel) rfl (by decide) ?_
    refine zIadd 29 (by decide +kernel) rfl ?_
    refine pf12_10 116 32 (by decide +kernel) rfl flX12_116 (Mod_0 S0_) ?_
    replace F := F _ rfl
    generalize zU I4 m 10 ((I4 m 10) + 1) = I6 at F ⊢
    refine zAload_n 0 1 33 (by decide +kernel) rfl rfl ?_
    refine gf12_24 55 36 (by decide +kernel) rfl flX12_55 (Mod_0 S0_) (Mod_21 S0_) ?_
    refine zIload_n 1 2 37 (by decide +kernel) rfl rfl ?_
    refine zIload_n 2 0 38 (by decide +kernel) rfl rfl ?_
    refine yIastore 240 39 (by decide +kernel) rfl (Mod_22 S0_) F.1 ?_
    replace F := F.2 _ rfl
    generalize zU I6 (m + 11) p1.toNatClampNeg (x3) = I7 at F ⊢
    refine zAload_n 0 1 40 (by decide +kernel) rfl rfl ?_
    refine gf12_24 55 43 (by decide +kernel) rfl flX12_55 (Mod_0 S0_) (Mod_21 S0_) ?_
    refine zIload_n 1 2 44 (by decide +kernel) rfl rfl ?_
    refine zIconst 1 1 45 (by decide +kernel) rfl (by decide) ?_
    refine zIadd 46 (by decide +kernel) rfl ?_
    refine zIconst (-1) (-1) 47 (by decide +kernel) rfl (by decide) ?_
    refine yIastore 240 48 (by decide +kernel) rfl (Mod_22 S0_) F.1 ?_
    replace F := F.2 _ rfl
    generalize zU I7 (m + 11) (p1 + 1 : Int32).toNatClampNeg ((-1)) = I8 at F ⊢
    refine zAload_n 0 1 49 (by decide +kernel) rfl rfl ?_
    refine gf12_24 55 52 (by decide +kernel) rfl flX12_55 (Mod_0 S0_) (Mod_21 S0_) ?_
    refine zIload_n 1 2 53 (by decide +kernel) rfl rfl ?_
    refine zIconst 2 2 54 (by decide +kernel) rfl (by decide) ?_
    refine zIadd 55 (by decide +kernel) rfl ?_
    refine zIconst (-1) (-1) 56 (by decide +kernel) rfl (by decide) ?_
    refine yIastore 240 57 (by decide +kernel) rfl (Mod_22 S0_) F.1 ?_
    replace F := F.2 _ rfl
    generalize zU I8 (m + 11) (p1 + 2 : Int32).toNatClampNeg ((-1)) = I9 at F ⊢
    refine zIload_n 2 0 58 (by decide +kernel) rfl rfl ?_
    refine zIconst 3 3 59 (by decide +kernel) rfl (by decide) ?_
    refine zIcmp_ne 4 63 62 (by decide +kernel) rfl rfl ⟨fun q10 => ?_, fun q10 => ?_⟩
    · replace F := F.2 q10
      refine zAload_n 0 1 64 (by decide +kernel) rfl rfl ?_
      refine gf12_24 55 67 (by decide +kernel) rfl flX12_55 (Mod_0 S0_) (Mod_21 S0_) ?_
      refine zIload_n 1 2 68 (by decide +kernel) rfl rfl ?_
      refine zIconst 1 1 69 (by decide +kernel) rfl (by decide) ?_
      refine zIadd 70 (by decide +kernel) rfl ?_
      refine zAload_n 0 1 71 (by decide +kernel) rfl rfl ?_
      refine zCallV 12 zcls12 mX12_digit 266 0 0 0 _ _ 74 [] [.int (p1 + 1), .ref (m + 11)] okX12_digit mlX12_266 imX12_digit seX12_digit (by decide +kernel) rfl rfl (Nat.le_of_ble_eq_true rfl) rfl rfl (Mod_0 S0_) (zC.mono F ?_)
      rintro _ _ ⟨x11, I12, rfl, rfl, F⟩
      change zV G (d + 1) mX12_readStep kc ks 74 [(2, .int (x3)), (0, .ref (m)), (1, .int (p1))] [.int (x11), .int (p1 + 1), .ref (m + 11)] (I12, J, R, K, n) Q
      refine yIastore 240 75 (by decide +kernel) rfl (Mod_22 S0_) F.1 ?_
      replace F := F.2 _ rfl
      generalize zU I12 (m + 11) (p1 + 1 : Int32).toNatClampNeg (x11) = I13 at F ⊢
      refine zAload_n 0 1 76 (by decide +kernel) rfl rfl ?_
      refine gf12_11 125 79 (by decide +kernel) rfl flX12_125 (Mod_0 S0_) ?_
      refine zIconst (-1) (-1) 80 (by decide +kernel) rfl (by decide) ?_
      refine zIcmp_ne 20 100 83 (by decide +kernel) rfl rfl ⟨fun q14 => ?_, fun q14 => ?_⟩
      · replace F := F.2 q14
        exact zVret rfl (by decide +kernel) F
      · replace F := F.1 q14
        refine zIload_n 2 0 84 (by decide +kernel) rfl rfl ?_
        refine zIconst 1 1 85 (by decide +kernel) rfl (by decide) ?_
        refine zIcmp_ne 15 100 88 (by decide +kernel) rfl rfl ⟨fun q15 => ?_, fun q15 => ?_⟩
        · replace F := F.2 q15
          exact zVret rfl (by decide +kernel) F
        · replace F := F.1 q15
          refine zAload_n 0 1 89 (by decide +kernel) rfl rfl ?_
          refine gf12_24 55 92 (by decide +kernel) rfl flX12_55 (Mod_0 S0_) (Mod_21 S0_) ?_
          refine zIload_n 1 2 93 (by decide +kernel) rfl rfl ?_
          refine zIconst 2 2 94 (by decide +kernel) rfl (by decide) ?_
          refine zIadd 95 (by decide +kernel) rfl ?_
          refine zAload_n 0 1 96 (by decide +kernel) rfl rfl ?_
          refine zCallV 12 zcls12 mX12_digit 266 0 0 0 _ _ 99 [] [.int (p1 + 2), .ref (m + 11)] okX12_digit mlX12_266 imX12_digit seX12_digit (by decide +kernel) rfl rfl (Nat.le_of_ble_eq_true rfl) rfl rfl (Mod_0 S0_) (zC.mono F ?_)
          rintro _ _ ⟨x16, I17, rfl, rfl, F⟩
          change zV G (d + 1) mX12_readStep kc ks 99 [(2, .int (x3)), (0, .ref (m)), (1, .int (p1))] [.int (x16), .int (p1 + 2), .ref (m + 11)] (I17, J, R, K, n) Q
          refine yIastore 240 100 (by decide +kernel) rfl (Mod_22 S0_) F.1 ?_
          replace F := F.2 _ rfl
          generalize zU I17 (m + 11) (p1 + 2 : Int32).toNatClampNeg (x16) = I18 at F ⊢
          exact zVret rfl (by decide +kernel) F
    · replace F := F.1 q10
      exact zVret rfl (by decide +kernel) F
  · replace F := F.1 q5
    refine zAload_n 0 1 17 (by decide +kernel) rfl rfl ?_
    refine zCallV 12 zcls12 mX12_fails 131 0 0 0 _ _ 20 [] [] okX12_fails mlX12_131 imX12_fails seX12_fails (by decide +kernel) rfl rfl (Nat.le_of_ble_eq_true rfl) rfl rfl (Mod_0 S0_) (zC.mono F ?_)
    rintro _ _ ⟨x19, I20, rfl, rfl, F⟩
    change zV G (d + 1) mX12_readStep kc ks 20 [(2, .int (x3)), (0, .ref (m)), (1, .int (p1))] [.int (x19)] (I20, J, R, K, n) Q
    refine zPop 21 (by decide +kernel) rfl rfl ?_
    exact zVret rfl (by decide +kernel) F
set_option maxHeartbeats 2000000 in
theorem wX12_readPlan_0 {G : zG} {d kc ks : Nat} {I : Nat → Nat → Int32} {J : Nat → Nat → Int64} {R : Nat → Nat → Option Nat} {K : Nat → Nat × Nat} {n : Nat} {Q : Option Value → zH → Prop} (m t c : Nat) (S0_ : hMod G R K n m t c) (F : zC G d mX12_starts 0 0 [.ref (m), .ref (m + 1), .int (0), .int (I m 6)] (I, J, R, K, n) (fun r h => ∃ (I1 : Nat → Nat → Int32) (J2 : Nat → Nat → Int64) (R3 : Nat → Nat → Option Nat), r = none ∧ h = (I1, J2, R3, K, n) ∧ ∃ u4 u5 : Nat, hMod G R3 K n m u4 u5 ∧ zV G (d + 1) mX12_readPlan kc ks 17 [(0, .ref (m)), (1, .int (0)), (2, .int (1))] [] (I1, J2, R3, K, n) Q)) : zV G (d + 1) mX12_readPlan kc ks 0 [(0, .ref (m))] [] (I, J, R, K, n) Q := by
  refine zAload_n 0 0 1 (by decide +kernel) rfl rfl ?_
  refine zAload_n 0 0 2 (by decide +kernel) rfl rfl ?_
  refine gf12_1 9 5 (by decide +kernel) rfl flX12_9 (Mod_0 S0_) (Mod_1 S0_) ?_
  refine zIconst 0 0 6 (by decide +kernel) rfl (by decide) ?_
  refine zAload_n 0 0 7 (by decide +kernel) rfl rfl ?_
  refine gf12_6 106 10 (by decide +kernel) rfl flX12_106 (Mod_0 S0_) ?_
  refine zCallV 12 zcls12 mX12_starts 204 3 0 0 _ _ 13 [.ref (m + 1), .int (0), .int (I m 6)] [] okX12_starts mlX12_204 imX12_starts seX12_starts (by decide +kernel) rfl rfl (Nat.le_of_ble_eq_true rfl) rfl rfl (Mod_0 S0_) (zC.mono F ?_)
  rintro _ _ ⟨I1, J2, R3, rfl, rfl, F⟩
  change zV G (d + 1) mX12_readPlan kc ks 13 [(0, .ref (m))] [] (I1, J2, R3, K, n) Q
  obtain ⟨u4, u5, S6, F⟩ := F
  refine zIconst 0 0 14 (by decide +kernel) rfl (by decide) ?_
  refine zIstore_n 1 [(1, .int (0)), (0, .ref (m))] 15 (by decide +kernel) rfl (by decide) rfl ?_
  refine zIconst 1 1 16 (by decide +kernel) rfl (by decide) ?_
  refine zIstore_n 2 [(2, .int (1)), (1, .int (0)), (0, .ref (m))] 17 (by decide +kernel) rfl (by decide) rfl ?_
  exact zLoc [2, 1, 0] _ rfl F
set_option maxHeartbeats 2000000 in
theorem wX12_readPlan_17 {G : zG} {d kc ks : Nat} {I : Nat → Nat → Int32} {J : Nat → Nat → Int64} {R : Nat → Nat → Option Nat} {K : Nat → Nat × Nat} {n : Nat} {Q : Option Value → zH → Prop} (m u4 u5 : Nat) (S6 : hMod G R K n m u4 u5) (l1 l2 : Int32) (F : ((l2 = 0 → (vp_in 4 5 ∧ ∀ I8 : Nat → Nat → Int32, I8 = zU I (m + 12) (4 : Int32).toNatClampNeg (l1) → zC G d mX12_look 0 0 [.ref (m)] (I8, J, R, K, n) (fun r h => ∃ (x9 : Int32) (I10 : Nat → Nat → Int32), r = some (.int x9) ∧ h = (I10, J, R, K, n) ∧ ((x9 = (-1) → Q none (I10, J, R, K, n)) ∧ (¬ (x9 = (-1)) → zC G d mX12_fails 0 0 [.ref (m)] (I10, J, R, K, n) (fun r h => ∃ (x12 : Int32) (I13 : Nat → Nat → Int32), r = some (.int x12) ∧ h = (I13, J, R, K, n) ∧ Q none (I13, J, R, K, n))))))) ∧ (¬ (l2 = 0) → zC G d mX12_readStep 0 0 [.ref (m), .int (3 * (64 + l1))] (I, J, R, K, n) (fun r h => ∃ (I14 : Nat → Nat → Int32), r = none ∧ h = (I14, J, R, K, n) ∧ (((I14 m 11 : Int32) = (-1) → zC G d mX12_look 0 0 [.ref (m)] (I14, J, R, K, n) (fun r h => ∃ (x16 : Int32) (I17 : Nat → Nat → Int32), r = some (.int x16) ∧ h = (I17, J, R, K, n) ∧ ((((if x16 = 59 then 1 else 0) : Int32) = 0 → ((((if x16 = 59 then 1 else 0) : Int32) = 0 → zV G (d + 1) mX12_readPlan kc ks 17 [(0, .ref (m)), (1, .int (l1 + 1)), (2, .int ((if x16 = 59 then 1 else 0)))] [] (I17, J, R, K, n) Q) ∧ (¬ (((if x16 = 59 then 1 else 0) : Int32) = 0) → (∀ I21 : Nat → Nat → Int32, I21 = zU I17 m 10 ((I17 m 10) + 1) → zV G (d + 1) mX12_readPlan kc ks 17 [(0, .ref (m)), (1, .int (l1 + 1)), (2, .int ((if x16 = 59 then 1 else 0)))] [] (I21, J, R, K, n) Q)))) ∧ (¬ (((if x16 = 59 then 1 else 0) : Int32) = 0) → (((l1 + 1 : Int32) = 16 → zC G d mX12_fails 0 0 [.ref (m)] (I17, J, R, K, n) (fun r h => ∃ (x25 : Int32) (I26 : Nat → Nat → Int32), r = some (.int x25) ∧ h = (I26, J, R, K, n) ∧ Q none (I26, J, R, K, n))) ∧ (¬ ((l1 + 1 : Int32) = 16) → ((((if x16 = 59 then 1 else 0) : Int32) = 0 → zV G (d + 1) mX12_readPlan kc ks 17 [(0, .ref (m)), (1, .int (l1 + 1)), (2, .int ((if x16 = 59 then 1 else 0)))] [] (I17, J, R, K, n) Q) ∧ (¬ (((if x16 = 59 then 1 else 0) : Int32) = 0) → (∀ I24 : Nat → Nat → Int32, I24 = zU I17 m 10 ((I17 m 10) + 1) → zV G (d + 1) mX12_readPlan kc ks 17 [(0, .ref (m)), (1, .int (l1 + 1)), (2, .int ((if x16 = 59 then 1 else 0)))] [] (I24, J, R, K, n) Q))))))))) ∧ (¬ ((I14 m 11 : Int32) = (-1)) → Q none (I14, J, R, K, n))))))) : zV G (d + 1) mX12_readPlan kc ks 17 [(0, .ref (m)), (1, .int (l1)), (2, .int (l2))] [] (I, J, R, K, n) Q := by
  refine zIload_n 2 2 18 (by decide +kernel) rfl rfl ?_
  refine zIf_eq 73 91 21 (by decide +kernel) rfl rfl ⟨fun q7 => ?_, fun q7 => ?_⟩
  · replace F := F.1 q7
    refine zAload_n 0 0 92 (by decide +kernel) rfl rfl ?_
    refine gf12_25 58 95 (by decide +kernel) rfl flX12_58 (Mod_0 S6) (Mod_23 S6) ?_
    refine zIconst 4 4 96 (by decide +kernel) rfl (by decide) ?_
    refine zIload_n 1 1 97 (by decide +kernel) rfl rfl ?_
    refine yIastore 5 98 (by decide +kernel) rfl (Mod_24 S6) F.1 ?_
    replace F := F.2 _ rfl
    generalize zU I (m + 12) (4 : Int32).toNatClampNeg (l1) = I8 at F ⊢
    refine zAload_n 0 0 99 (by decide +kernel) rfl rfl ?_
    refine zCallV 12 zcls12 mX12_look 135 0 0 0 _ _ 102 [] [] okX12_look mlX12_135 imX12_look seX12_look (by decide +kernel) rfl rfl (Nat.le_of_ble_eq_true rfl) rfl rfl (Mod_0 S6) (zC.mono F ?_)
    rintro _ _ ⟨x9, I10, rfl, rfl, F⟩
    change zV G (d + 1) mX12_readPlan kc ks 102 [(0, .ref (m)), (1, .int (l1)), (2, .int (l2))] [.int (x9)] (I10, J, R, K, n) Q
    refine zIconst (-1) (-1) 103 (by decide +kernel) rfl (by decide) ?_
    refine zIcmp_eq 8 111 106 (by decide +kernel) rfl rfl ⟨fun q11 => ?_, fun q11 => ?_⟩
    · replace F := F.1 q11
      exact zVret rfl (by decide +kernel) F
    · replace F := F.2 q11
      refine zAload_n 0 0 107 (by decide +kernel) rfl rfl ?_
      refine zCallV 12 zcls12 mX12_fails 131 0 0 0 _ _ 110 [] [] okX12_fails mlX12_131 imX12_fails seX12_fails (by decide +kernel) rfl rfl (Nat.le_of_ble_eq_true rfl) rfl rfl (Mod_0 S6) (zC.mono F ?_)
      rintro _ _ ⟨x12, I13, rfl, rfl, F⟩
      change zV G (d + 1) mX12_readPlan kc ks 110 [(0, .ref (m)), (1, .int (l1)), (2, .int (l2))] [.int (x12)] (I13, J, R, K, n) Q
      refine zPop 111 (by decide +kernel) rfl rfl ?_
      exact zVret rfl (by decide +kernel) F
  · replace F := F.2 q7
    refine zAload_n 0 0 22 (by decide +kernel) rfl rfl ?_
    refine zIconst 3 3 23 (by decide +kernel) rfl (by decide) ?_
    refine zBipush 64 64 25 (by decide +kernel) rfl (by decide) ?_
    refine zIload_n 1 1 26 (by decide +kernel) rfl rfl ?_
    refine zIadd 27 (by decide +kernel) rfl ?_
    refine zImul 28 (by decide +kernel) rfl ?_
    refine zCallV 12 zcls12 mX12_readStep 269 1 0 0 _ _ 31 [.int (3 * (64 + l1))] [] okX12_readStep mlX12_269 imX12_readStep seX12_readStep (by decide +kernel) rfl rfl (Nat.le_of_ble_eq_true rfl) rfl rfl (Mod_0 S6) (zC.mono F ?_)
    rintro _ _ ⟨I14, rfl, rfl, F⟩
    change zV G (d + 1) mX12_readPlan kc ks 31 [(0, .ref (m)), (1, .int (l1)), (2, .int (l2))] [] (I14, J, R, K, n) Q
    refine zAload_n 0 0 32 (by decide +kernel) rfl rfl ?_
    refine gf12_11 125 35 (by decide +kernel) rfl flX12_125 (Mod_0 S6) ?_
    refine zIconst (-1) (-1) 36 (by decide +kernel) rfl (by decide) ?_
    refine zIcmp_eq 4 40 39 (by decide +kernel) rfl rfl ⟨fun q15 => ?_, fun q15 => ?_⟩
    · replace F := F.1 q15
      refine zIinc 1 1 1 (l1 + 1) [(1, .int (l1 + 1)), (0, .ref (m)), (2, .int (l2))] 43 (by decide +kernel) rfl rfl (by rfl) (by decide) rfl ?_
      refine zAload_n 0 1 44 (by decide +kernel) rfl rfl ?_
      refine zCallV 12 zcls12 mX12_look 135 0 0 0 _ _ 47 [] [] okX12_look mlX12_135 imX12_look seX12_look (by decide +kernel) rfl rfl (Nat.le_of_ble_eq_true rfl) rfl rfl (Mod_0 S6) (zC.mono F ?_)
      rintro _ _ ⟨x16, I17, rfl, rfl, F⟩
      change zV G (d + 1) mX12_readPlan kc ks 47 [(1, .int (l1 + 1)), (0, .ref (m)), (2, .int (l2))] [.int (x16)] (I17, J, R, K, n) Q
      refine zBipush 59 59 49 (by decide +kernel) rfl (by decide) ?_
      suffices KK : zV G (d + 1) mX12_readPlan kc ks 57 [(1, .int (l1 + 1)), (0, .ref (m)), (2, .int (l2))] [.int ((if x16 = 59 then 1 else 0))] (I17, J, R, K, n) Q by
        refine zIcmp_ne 7 56 52 (by decide +kernel) rfl rfl ⟨fun q18 => ?_, fun q18 => ?_⟩
        · refine zIconst 0 0 57 (by decide +kernel) rfl (by decide) ?_
          exact zTop (by rw [if_neg q18]) KK
        · refine zIconst 1 1 53 (by decide +kernel) rfl (by decide) ?_
          refine zGoto 4 57 (by decide +kernel) rfl ?_
          exact zTop (by rw [if_pos q18]) KK
      refine zIstore_n 2 [(2, .int ((if x16 = 59 then 1 else 0))), (1, .int (l1 + 1)), (0, .ref (m))] 58 (by decide +kernel) rfl (by decide) rfl ?_
      refine zIload_n 2 0 59 (by decide +kernel) rfl rfl ?_
      refine zIf_eq 15 74 62 (by decide +kernel) rfl rfl ⟨fun q19 => ?_, fun q19 => ?_⟩
      · replace F := F.1 q19
        refine zIload_n 2 0 75 (by decide +kernel) rfl rfl ?_
        refine zIf_eq (-58) 17 78 (by decide +kernel) rfl rfl ⟨fun q20 => ?_, fun q20 => ?_⟩
        · replace F := F.1 q20
          exact zLoc [2, 1, 0] _ rfl F
        · replace F := F.2 q20
          refine zAload_n 0 2 79 (by decide +kernel) rfl rfl ?_
          refine zDup 80 (by decide +kernel) rfl rfl ?_
          refine gf12_10 116 83 (by decide +kernel) rfl flX12_116 (Mod_0 S6) ?_
          refine zIconst 1 1 84 (by decide +kernel) rfl (by decide) ?_
          refine zIadd 85 (by decide +kernel) rfl ?_
          refine pf12_10 116 88 (by decide +kernel) rfl flX12_116 (Mod_0 S6) ?_
          replace F := F _ rfl
          generalize zU I17 m 10 ((I17 m 10) + 1) = I21 at F ⊢
          refine zGoto (-71) 17 (by decide +kernel) rfl ?_
          exact zLoc [2, 1, 0] _ rfl F
      · replace F := F.2 q19
        refine zIload_n 1 1 63 (by decide +kernel) rfl rfl ?_
        refine zBipush 16 16 65 (by decide +kernel) rfl (by decide) ?_
        refine zIcmp_ne 9 74 68 (by decide +kernel) rfl rfl ⟨fun q22 => ?_, fun q22 => ?_⟩
        · replace F := F.2 q22
          refine zIload_n 2 0 75 (by decide +kernel) rfl rfl ?_
          refine zIf_eq (-58) 17 78 (by decide +kernel) rfl rfl ⟨fun q23 => ?_, fun q23 => ?_⟩
          · replace F := F.1 q23
            exact zLoc [2, 1, 0] _ rfl F
          · replace F := F.2 q23
            refine zAload_n 0 2 79 (by decide +kernel) rfl rfl ?_
            refine zDup 80 (by decide +kernel) rfl rfl ?_
            refine gf12_10 116 83 (by decide +kernel) rfl flX12_116 (Mod_0 S6) ?_
            refine zIconst 1 1 84 (by decide +kernel) rfl (by decide) ?_
            refine zIadd 85 (by decide +kernel) rfl ?_
            refine pf12_10 116 88 (by decide +kernel) rfl flX12_116 (Mod_0 S6) ?_
            replace F := F _ rfl
            generalize zU I17 m 10 ((I17 m 10) + 1) = I24 at F ⊢
            refine zGoto (-71) 17 (by decide +kernel) rfl ?_
            exact zLoc [2, 1, 0] _ rfl F
        · replace F := F.1 q22
          refine zAload_n 0 2 69 (by decide +kernel) rfl rfl ?_
          refine zCallV 12 zcls12 mX12_fails 131 0 0 0 _ _ 72 [] [] okX12_fails mlX12_131 imX12_fails seX12_fails (by decide +kernel) rfl rfl (Nat.le_of_ble_eq_true rfl) rfl rfl (Mod_0 S6) (zC.mono F ?_)
          rintro _ _ ⟨x25, I26, rfl, rfl, F⟩
          change zV G (d + 1) mX12_readPlan kc ks 72 [(2, .int ((if x16 = 59 then 1 else 0))), (1, .int (l1 + 1)), (0, .ref (m))] [.int (x25)] (I26, J, R, K, n) Q
          refine zPop 73 (by decide +kernel) rfl rfl ?_
          exact zVret rfl (by decide +kernel) F
    · replace F := F.2 q15
      exact zVret rfl (by decide +kernel) F
set_option maxHeartbeats 2000000 in
theorem wX12_fault_0 {G : zG} {d kc ks : Nat} {I : Nat → Nat → Int32} {J : Nat → Nat → Int64} {R : Nat → Nat → Option Nat} {K : Nat → Nat × Nat} {n : Nat} {Q : Option Value → zH → Prop} (m t c : Nat) (S0_ : hMod G R K n m t c) (p1 : Int32) (F : (∀ I1 : Nat → Nat → Int32, I1 = zU I m 0 (0) → zC G d mX12_isIn 0 0 [.long (p1.toInt64), .long (0), .long (2)] (I1, J, R, K, n) (fun r h => ∃ (x2 : Int32) (I3 : Nat → Nat → Int32), r = some (.int x2) ∧ h = (I3, J, R, K, n) ∧ ((x2 = 0 → Q (some (.int ((-2)))) (I3, J, R, K, n)) ∧ (¬ (x2 = 0) → ((p1 = 0 → zC G d mX12_readVillage 0 0 [.ref (m)] (I3, J, R, K, n) (fun r h => ∃ (I27 : Nat → Nat → Int32) (J28 : Nat → Nat → Int64) (R29 : Nat → Nat → Option Nat), r = none ∧ h = (I27, J28, R29, K, n) ∧ ∃ u30 u31 : Nat, hMod G R29 K n m u30 u31 ∧ ((p1 = 1 → zC G d mX12_goThrough 0 0 [.ref (m), .ref (m + 1), .int (0), .int (I27 m 6)] (I27, J28, R29, K, n) (fun r h => ∃ (I41 : Nat → Nat → Int32) (J42 : Nat → Nat → Int64) (R43 : Nat → Nat → Option Nat), r = none ∧ h = (I41, J42, R43, K, n) ∧ ∃ u44 u45 : Nat, hMod G R43 K n m u44 u45 ∧ ((p1 = 2 → zC G d mX12_readPlan 0 0 [.ref (m)] (I41, J42, R43, K, n) (fun r h => ∃ (I48 : Nat → Nat → Int32) (J49 : Nat → Nat → Int64) (R50 : Nat → Nat → Option Nat), r = none ∧ h = (I48, J49, R50, K, n) ∧ ∃ u51 u52 : Nat, hMod G R50 K n m u51 u52 ∧ Q (some (.int (I48 m 11))) (I48, J49, R50, K, n))) ∧ (¬ (p1 = 2) → Q (some (.int (I41 m 11))) (I41, J42, R43, K, n))))) ∧ (¬ (p1 = 1) → ((p1 = 2 → zC G d mX12_readPlan 0 0 [.ref (m)] (I27, J28, R29, K, n) (fun r h => ∃ (I35 : Nat → Nat → Int32) (J36 : Nat → Nat → Int64) (R37 : Nat → Nat → Option Nat), r = none ∧ h = (I35, J36, R37, K, n) ∧ ∃ u38 u39 : Nat, hMod G R37 K n m u38 u39 ∧ Q (some (.int (I35 m 11))) (I35, J36, R37, K, n))) ∧ (¬ (p1 = 2) → Q (some (.int (I27 m 11))) (I27, J28, R29, K, n))))))) ∧ (¬ (p1 = 0) → ((p1 = 1 → zC G d mX12_goThrough 0 0 [.ref (m), .ref (m + 1), .int (0), .int (I3 m 6)] (I3, J, R, K, n) (fun r h => ∃ (I14 : Nat → Nat → Int32) (J15 : Nat → Nat → Int64) (R16 : Nat → Nat → Option Nat), r = none ∧ h = (I14, J15, R16, K, n) ∧ ∃ u17 u18 : Nat, hMod G R16 K n m u17 u18 ∧ ((p1 = 2 → zC G d mX12_readPlan 0 0 [.ref (m)] (I14, J15, R16, K, n) (fun r h => ∃ (I21 : Nat → Nat → Int32) (J22 : Nat → Nat → Int64) (R23 : Nat → Nat → Option Nat), r = none ∧ h = (I21, J22, R23, K, n) ∧ ∃ u24 u25 : Nat, hMod G R23 K n m u24 u25 ∧ Q (some (.int (I21 m 11))) (I21, J22, R23, K, n))) ∧ (¬ (p1 = 2) → Q (some (.int (I14 m 11))) (I14, J15, R16, K, n))))) ∧ (¬ (p1 = 1) → ((p1 = 2 → zC G d mX12_readPlan 0 0 [.ref (m)] (I3, J, R, K, n) (fun r h => ∃ (I8 : Nat → Nat → Int32) (J9 : Nat → Nat → Int64) (R10 : Nat → Nat → Option Nat), r = none ∧ h = (I8, J9, R10, K, n) ∧ ∃ u11 u12 : Nat, hMod G R10 K n m u11 u12 ∧ Q (some (.int (I8 m 11))) (I8, J9, R10, K, n))) ∧ (¬ (p1 = 2) → Q (some (.int (I3 m 11))) (I3, J, R, K, n)))))))))))) : zV G (d + 1) mX12_fault kc ks 0 [(0, .ref (m)), (1, .int (p1))] [] (I, J, R, K, n) Q := by
  refine zAload_n 0 0 1 (by decide +kernel) rfl rfl ?_
  refine zIconst 0 0 2 (by decide +kernel) rfl (by decide) ?_
  refine pf12_0 93 5 (by decide +kernel) rfl flX12_93 (Mod_0 S0_) ?_
  replace F := F _ rfl
  generalize zU I m 0 (0) = I1 at F ⊢
  refine zIload_n 1 1 6 (by decide +kernel) rfl rfl ?_
  refine zI2l 7 (by decide +kernel) rfl ?_
  refine zLconst 0 0 8 (by decide +kernel) rfl (by decide) ?_
  refine zLdc2 272 2 11 (by decide +kernel) rfl klX12_272 ?_
  refine zCallS mX12_isIn 214 3 0 0 _ _ 14 [.long (p1.toInt64), .long (0), .long (2)] [] okX12_isIn mlX12_214 smX12_isIn (by decide +kernel) rfl rfl (Nat.le_of_ble_eq_true rfl) rfl rfl (zC.mono F ?_)
  rintro _ _ ⟨x2, I3, rfl, rfl, F⟩
  change zV G (d + 1) mX12_fault kc ks 14 [(0, .ref (m)), (1, .int (p1))] [.int (x2)] (I3, J, R, K, n) Q
  refine zIf_ne 6 20 17 (by decide +kernel) rfl rfl ⟨fun q4 => ?_, fun q4 => ?_⟩
  · replace F := F.2 q4
    refine zIload_n 1 1 21 (by decide +kernel) rfl rfl ?_
    refine zIf_ne 7 28 24 (by decide +kernel) rfl rfl ⟨fun q5 => ?_, fun q5 => ?_⟩
    · replace F := F.2 q5
      refine zIload_n 1 1 29 (by decide +kernel) rfl rfl ?_
      refine zIconst 1 1 30 (by decide +kernel) rfl (by decide) ?_
      refine zIcmp_ne 16 46 33 (by decide +kernel) rfl rfl ⟨fun q6 => ?_, fun q6 => ?_⟩
      · replace F := F.2 q6
        refine zIload_n 1 1 47 (by decide +kernel) rfl rfl ?_
        refine zIconst 2 2 48 (by decide +kernel) rfl (by decide) ?_
        refine zIcmp_ne 7 55 51 (by decide +kernel) rfl rfl ⟨fun q7 => ?_, fun q7 => ?_⟩
        · replace F := F.2 q7
          refine zAload_n 0 0 56 (by decide +kernel) rfl rfl ?_
          refine gf12_11 125 59 (by decide +kernel) rfl flX12_125 (Mod_0 S0_) ?_
          exact zIret rfl (by decide +kernel) F
        · replace F := F.1 q7
          refine zAload_n 0 0 52 (by decide +kernel) rfl rfl ?_
          refine zCallV 12 zcls12 mX12_readPlan 280 0 0 0 _ _ 55 [] [] okX12_readPlan mlX12_280 imX12_readPlan seX12_readPlan (by decide +kernel) rfl rfl (Nat.le_of_ble_eq_true rfl) rfl rfl (Mod_0 S0_) (zC.mono F ?_)
          rintro _ _ ⟨I8, J9, R10, rfl, rfl, F⟩
          change zV G (d + 1) mX12_fault kc ks 55 [(0, .ref (m)), (1, .int (p1))] [] (I8, J9, R10, K, n) Q
          obtain ⟨u11, u12, S13, F⟩ := F
          refine zAload_n 0 0 56 (by decide +kernel) rfl rfl ?_
          refine gf12_11 125 59 (by decide +kernel) rfl flX12_125 (Mod_0 S13) ?_
          exact zIret rfl (by decide +kernel) F
      · replace F := F.1 q6
        refine zAload_n 0 0 34 (by decide +kernel) rfl rfl ?_
        refine zAload_n 0 0 35 (by decide +kernel) rfl rfl ?_
        refine gf12_1 9 38 (by decide +kernel) rfl flX12_9 (Mod_0 S0_) (Mod_1 S0_) ?_
        refine zIconst 0 0 39 (by decide +kernel) rfl (by decide) ?_
        refine zAload_n 0 0 40 (by decide +kernel) rfl rfl ?_
        refine gf12_6 106 43 (by decide +kernel) rfl flX12_106 (Mod_0 S0_) ?_
        refine zCallV 12 zcls12 mX12_goThrough 277 3 0 0 _ _ 46 [.ref (m + 1), .int (0), .int (I3 m 6)] [] okX12_goThrough mlX12_277 imX12_goThrough seX12_goThrough (by decide +kernel) rfl rfl (Nat.le_of_ble_eq_true rfl) rfl rfl (Mod_0 S0_) (zC.mono F ?_)
        rintro _ _ ⟨I14, J15, R16, rfl, rfl, F⟩
        change zV G (d + 1) mX12_fault kc ks 46 [(0, .ref (m)), (1, .int (p1))] [] (I14, J15, R16, K, n) Q
        obtain ⟨u17, u18, S19, F⟩ := F
        refine zIload_n 1 1 47 (by decide +kernel) rfl rfl ?_
        refine zIconst 2 2 48 (by decide +kernel) rfl (by decide) ?_
        refine zIcmp_ne 7 55 51 (by decide +kernel) rfl rfl ⟨fun q20 => ?_, fun q20 => ?_⟩
        · replace F := F.2 q20
          refine zAload_n 0 0 56 (by decide +kernel) rfl rfl ?_
          refine gf12_11 125 59 (by decide +kernel) rfl flX12_125 (Mod_0 S19) ?_
          exact zIret rfl (by decide +kernel) F
        · replace F := F.1 q20
          refine zAload_n 0 0 52 (by decide +kernel) rfl rfl ?_
          refine zCallV 12 zcls12 mX12_readPlan 280 0 0 0 _ _ 55 [] [] okX12_readPlan mlX12_280 imX12_readPlan seX12_readPlan (by decide +kernel) rfl rfl (Nat.le_of_ble_eq_true rfl) rfl rfl (Mod_0 S19) (zC.mono F ?_)
          rintro _ _ ⟨I21, J22, R23, rfl, rfl, F⟩
          change zV G (d + 1) mX12_fault kc ks 55 [(0, .ref (m)), (1, .int (p1))] [] (I21, J22, R23, K, n) Q
          obtain ⟨u24, u25, S26, F⟩ := F
          refine zAload_n 0 0 56 (by decide +kernel) rfl rfl ?_
          refine gf12_11 125 59 (by decide +kernel) rfl flX12_125 (Mod_0 S26) ?_
          exact zIret rfl (by decide +kernel) F
    · replace F := F.1 q5
      refine zAload_n 0 0 25 (by decide +kernel) rfl rfl ?_
      refine zCallV 12 zcls12 mX12_readVillage 274 0 0 0 _ _ 28 [] [] okX12_readVillage mlX12_274 imX12_readVillage seX12_readVillage (by decide +kernel) rfl rfl (Nat.le_of_ble_eq_true rfl) rfl rfl (Mod_0 S0_) (zC.mono F ?_)
      rintro _ _ ⟨I27, J28, R29, rfl, rfl, F⟩
      change zV G (d + 1) mX12_fault kc ks 28 [(0, .ref (m)), (1, .int (p1))] [] (I27, J28, R29, K, n) Q
      obtain ⟨u30, u31, S32, F⟩ := F
      refine zIload_n 1 1 29 (by decide +kernel) rfl rfl ?_
      refine zIconst 1 1 30 (by decide +kernel) rfl (by decide) ?_
      refine zIcmp_ne 16 46 33 (by decide +kernel) rfl rfl ⟨fun q33 => ?_, fun q33 => ?_⟩
      · replace F := F.2 q33
        refine zIload_n 1 1 47 (by decide +kernel) rfl rfl ?_
        refine zIconst 2 2 48 (by decide +kernel) rfl (by decide) ?_
        refine zIcmp_ne 7 55 51 (by decide +kernel) rfl rfl ⟨fun q34 => ?_, fun q34 => ?_⟩
        · replace F := F.2 q34
          refine zAload_n 0 0 56 (by decide +kernel) rfl rfl ?_
          refine gf12_11 125 59 (by decide +kernel) rfl flX12_125 (Mod_0 S32) ?_
          exact zIret rfl (by decide +kernel) F
        · replace F := F.1 q34
          refine zAload_n 0 0 52 (by decide +kernel) rfl rfl ?_
          refine zCallV 12 zcls12 mX12_readPlan 280 0 0 0 _ _ 55 [] [] okX12_readPlan mlX12_280 imX12_readPlan seX12_readPlan (by decide +kernel) rfl rfl (Nat.le_of_ble_eq_true rfl) rfl rfl (Mod_0 S32) (zC.mono F ?_)
          rintro _ _ ⟨I35, J36, R37, rfl, rfl, F⟩
          change zV G (d + 1) mX12_fault kc ks 55 [(0, .ref (m)), (1, .int (p1))] [] (I35, J36, R37, K, n) Q
          obtain ⟨u38, u39, S40, F⟩ := F
          refine zAload_n 0 0 56 (by decide +kernel) rfl rfl ?_
          refine gf12_11 125 59 (by decide +kernel) rfl flX12_125 (Mod_0 S40) ?_
          exact zIret rfl (by decide +kernel) F
      · replace F := F.1 q33
        refine zAload_n 0 0 34 (by decide +kernel) rfl rfl ?_
        refine zAload_n 0 0 35 (by decide +kernel) rfl rfl ?_
        refine gf12_1 9 38 (by decide +kernel) rfl flX12_9 (Mod_0 S32) (Mod_1 S32) ?_
        refine zIconst 0 0 39 (by decide +kernel) rfl (by decide) ?_
        refine zAload_n 0 0 40 (by decide +kernel) rfl rfl ?_
        refine gf12_6 106 43 (by decide +kernel) rfl flX12_106 (Mod_0 S32) ?_
        refine zCallV 12 zcls12 mX12_goThrough 277 3 0 0 _ _ 46 [.ref (m + 1), .int (0), .int (I27 m 6)] [] okX12_goThrough mlX12_277 imX12_goThrough seX12_goThrough (by decide +kernel) rfl rfl (Nat.le_of_ble_eq_true rfl) rfl rfl (Mod_0 S32) (zC.mono F ?_)
        rintro _ _ ⟨I41, J42, R43, rfl, rfl, F⟩
        change zV G (d + 1) mX12_fault kc ks 46 [(0, .ref (m)), (1, .int (p1))] [] (I41, J42, R43, K, n) Q
        obtain ⟨u44, u45, S46, F⟩ := F
        refine zIload_n 1 1 47 (by decide +kernel) rfl rfl ?_
        refine zIconst 2 2 48 (by decide +kernel) rfl (by decide) ?_
        refine zIcmp_ne 7 55 51 (by decide +kernel) rfl rfl ⟨fun q47 => ?_, fun q47 => ?_⟩
        · replace F := F.2 q47
          refine zAload_n 0 0 56 (by decide +kernel) rfl rfl ?_
          refine gf12_11 125 59 (by decide +kernel) rfl flX12_125 (Mod_0 S46) ?_
          exact zIret rfl (by decide +kernel) F
        · replace F := F.1 q47
          refine zAload_n 0 0 52 (by decide +kernel) rfl rfl ?_
          refine zCallV 12 zcls12 mX12_readPlan 280 0 0 0 _ _ 55 [] [] okX12_readPlan mlX12_280 imX12_readPlan seX12_readPlan (by decide +kernel) rfl rfl (Nat.le_of_ble_eq_true rfl) rfl rfl (Mod_0 S46) (zC.mono F ?_)
          rintro _ _ ⟨I48, J49, R50, rfl, rfl, F⟩
          change zV G (d + 1) mX12_fault kc ks 55 [(0, .ref (m)), (1, .int (p1))] [] (I48, J49, R50, K, n) Q
          obtain ⟨u51, u52, S53, F⟩ := F
          refine zAload_n 0 0 56 (by decide +kernel) rfl rfl ?_
          refine gf12_11 125 59 (by decide +kernel) rfl flX12_125 (Mod_0 S53) ?_
          exact zIret rfl (by decide +kernel) F
  · replace F := F.1 q4
    refine zBipush (-2) (-2) 19 (by decide +kernel) rfl (by decide) ?_
    exact zIret rfl (by decide +kernel) F
set_option maxHeartbeats 2000000 in
theorem wX12_text_0 {G : zG} {d kc ks : Nat} {I : Nat → Nat → Int32} {J : Nat → Nat → Int64} {R : Nat → Nat → Option Nat} {K : Nat → Nat × Nat} {n : Nat} {Q : Option Value → zH → Prop} (m t c : Nat) (S0_ : hMod G R K n m t c) (p1 : Int32) (F : (∀ I1 : Nat → Nat → Int32, I1 = zU I m 0 (0) → zC G d mX12_isIn 0 0 [.long (p1.toInt64), .long (0), .long (2)] (I1, J, R, K, n) (fun r h => ∃ (x2 : Int32) (I3 : Nat → Nat → Int32), r = some (.int x2) ∧ h = (I3, J, R, K, n) ∧ ((x2 = 0 → Q (some (.int ((-1)))) (I3, J, R, K, n)) ∧ (¬ (x2 = 0) → ((p1 = 1 → (((I3 m 7 : Int32) = 4 → Q (some (.int ((-1)))) (I3, J, R, K, n)) ∧ (¬ ((I3 m 7 : Int32) = 4) → ((p1 = 2 → (((I3 m 30 : Int32) = 4 → Q (some (.int ((-1)))) (I3, J, R, K, n)) ∧ (¬ ((I3 m 30 : Int32) = 4) → zC G d mX12_fault 0 0 [.ref (m), .int (p1)] (I3, J, R, K, n) (fun r h => ∃ (x50 : Int32) (I51 : Nat → Nat → Int32) (J52 : Nat → Nat → Int64) (R53 : Nat → Nat → Option Nat), r = some (.int x50) ∧ h = (I51, J52, R53, K, n) ∧ ∃ u54 u55 : Nat, hMod G R53 K n m u54 u55 ∧ ((x50 = (-1) → (∀ I58 : Nat → Nat → Int32, I58 = zU I51 m 6 (0) → ((p1 = 1 → zV G (d + 1) mX12_text kc ks 71 [(0, .ref (m)), (1, .int (p1)), (2, .int (I51 m 6)), (3, .int (0))] [] (I58, J52, R53, K, n) Q) ∧ (¬ (p1 = 1) → ((p1 = 2 → zV G (d + 1) mX12_text kc ks 137 [(0, .ref (m)), (1, .int (p1)), (2, .int (I51 m 6)), (3, .int (0))] [] (I58, J52, R53, K, n) Q) ∧ (¬ (p1 = 2) → (∀ I61 : Nat → Nat → Int32, I61 = zU I58 m 26 (I58 m 28) → (∀ I62 : Nat → Nat → Int32, I62 = zU I61 m 27 (I61 m 29) → zV G (d + 1) mX12_text kc ks 223 [(0, .ref (m)), (1, .int (p1)), (2, .int (I51 m 6)), (3, .int (0))] [] (I62, J52, R53, K, n) Q)))))))) ∧ (¬ (x50 = (-1)) → Q (some (.int ((-1)))) (I51, J52, R53, K, n))))))) ∧ (¬ (p1 = 2) → zC G d mX12_fault 0 0 [.ref (m), .int (p1)] (I3, J, R, K, n) (fun r h => ∃ (x36 : Int32) (I37 : Nat → Nat → Int32) (J38 : Nat → Nat → Int64) (R39 : Nat → Nat → Option Nat), r = some (.int x36) ∧ h = (I37, J38, R39, K, n) ∧ ∃ u40 u41 : Nat, hMod G R39 K n m u40 u41 ∧ ((x36 = (-1) → (∀ I44 : Nat → Nat → Int32, I44 = zU I37 m 6 (0) → ((p1 = 1 → zV G (d + 1) mX12_text kc ks 71 [(0, .ref (m)), (1, .int (p1)), (2, .int (I37 m 6)), (3, .int (0))] [] (I44, J38, R39, K, n) Q) ∧ (¬ (p1 = 1) → ((p1 = 2 → zV G (d + 1) mX12_text kc ks 137 [(0, .ref (m)), (1, .int (p1)), (2, .int (I37 m 6)), (3, .int (0))] [] (I44, J38, R39, K, n) Q) ∧ (¬ (p1 = 2) → (∀ I47 : Nat → Nat → Int32, I47 = zU I44 m 26 (I44 m 28) → (∀ I48 : Nat → Nat → Int32, I48 = zU I47 m 27 (I47 m 29) → zV G (d + 1) mX12_text kc ks 223 [(0, .ref (m)), (1, .int (p1)), (2, .int (I37 m 6)), (3, .int (0))] [] (I48, J38, R39, K, n) Q)))))))) ∧ (¬ (x36 = (-1)) → Q (some (.int ((-1)))) (I37, J38, R39, K, n))))))))) ∧ (¬ (p1 = 1) → ((p1 = 2 → (((I3 m 30 : Int32) = 4 → Q (some (.int ((-1)))) (I3, J, R, K, n)) ∧ (¬ ((I3 m 30 : Int32) = 4) → zC G d mX12_fault 0 0 [.ref (m), .int (p1)] (I3, J, R, K, n) (fun r h => ∃ (x21 : Int32) (I22 : Nat → Nat → Int32) (J23 : Nat → Nat → Int64) (R24 : Nat → Nat → Option Nat), r = some (.int x21) ∧ h = (I22, J23, R24, K, n) ∧ ∃ u25 u26 : Nat, hMod G R24 K n m u25 u26 ∧ ((x21 = (-1) → (∀ I29 : Nat → Nat → Int32, I29 = zU I22 m 6 (0) → ((p1 = 1 → zV G (d + 1) mX12_text kc ks 71 [(0, .ref (m)), (1, .int (p1)), (2, .int (I22 m 6)), (3, .int (0))] [] (I29, J23, R24, K, n) Q) ∧ (¬ (p1 = 1) → ((p1 = 2 → zV G (d + 1) mX12_text kc ks 137 [(0, .ref (m)), (1, .int (p1)), (2, .int (I22 m 6)), (3, .int (0))] [] (I29, J23, R24, K, n) Q) ∧ (¬ (p1 = 2) → (∀ I32 : Nat → Nat → Int32, I32 = zU I29 m 26 (I29 m 28) → (∀ I33 : Nat → Nat → Int32, I33 = zU I32 m 27 (I32 m 29) → zV G (d + 1) mX12_text kc ks 223 [(0, .ref (m)), (1, .int (p1)), (2, .int (I22 m 6)), (3, .int (0))] [] (I33, J23, R24, K, n) Q)))))))) ∧ (¬ (x21 = (-1)) → Q (some (.int ((-1)))) (I22, J23, R24, K, n))))))) ∧ (¬ (p1 = 2) → zC G d mX12_fault 0 0 [.ref (m), .int (p1)] (I3, J, R, K, n) (fun r h => ∃ (x7 : Int32) (I8 : Nat → Nat → Int32) (J9 : Nat → Nat → Int64) (R10 : Nat → Nat → Option Nat), r = some (.int x7) ∧ h = (I8, J9, R10, K, n) ∧ ∃ u11 u12 : Nat, hMod G R10 K n m u11 u12 ∧ ((x7 = (-1) → (∀ I15 : Nat → Nat → Int32, I15 = zU I8 m 6 (0) → ((p1 = 1 → zV G (d + 1) mX12_text kc ks 71 [(0, .ref (m)), (1, .int (p1)), (2, .int (I8 m 6)), (3, .int (0))] [] (I15, J9, R10, K, n) Q) ∧ (¬ (p1 = 1) → ((p1 = 2 → zV G (d + 1) mX12_text kc ks 137 [(0, .ref (m)), (1, .int (p1)), (2, .int (I8 m 6)), (3, .int (0))] [] (I15, J9, R10, K, n) Q) ∧ (¬ (p1 = 2) → (∀ I18 : Nat → Nat → Int32, I18 = zU I15 m 26 (I15 m 28) → (∀ I19 : Nat → Nat → Int32, I19 = zU I18 m 27 (I18 m 29) → zV G (d + 1) mX12_text kc ks 223 [(0, .ref (m)), (1, .int (p1)), (2, .int (I8 m 6)), (3, .int (0))] [] (I19, J9, R10, K, n) Q)))))))) ∧ (¬ (x7 = (-1)) → Q (some (.int ((-1)))) (I8, J9, R10, K, n))))))))))))) : zV G (d + 1) mX12_text kc ks 0 [(0, .ref (m)), (1, .int (p1))] [] (I, J, R, K, n) Q := by
  refine zAload_n 0 0 1 (by decide +kernel) rfl rfl ?_
  refine zIconst 0 0 2 (by decide +kernel) rfl (by decide) ?_
  refine pf12_0 93 5 (by decide +kernel) rfl flX12_93 (Mod_0 S0_) ?_
  replace F := F _ rfl
  generalize zU I m 0 (0) = I1 at F ⊢
  refine zIload_n 1 1 6 (by decide +kernel) rfl rfl ?_
  refine zI2l 7 (by decide +kernel) rfl ?_
  refine zLconst 0 0 8 (by decide +kernel) rfl (by decide) ?_
  refine zLdc2 272 2 11 (by decide +kernel) rfl klX12_272 ?_
  refine zCallS mX12_isIn 214 3 0 0 _ _ 14 [.long (p1.toInt64), .long (0), .long (2)] [] okX12_isIn mlX12_214 smX12_isIn (by decide +kernel) rfl rfl (Nat.le_of_ble_eq_true rfl) rfl rfl (zC.mono F ?_)
  rintro _ _ ⟨x2, I3, rfl, rfl, F⟩
  change zV G (d + 1) mX12_text kc ks 14 [(0, .ref (m)), (1, .int (p1))] [.int (x2)] (I3, J, R, K, n) Q
  refine zIf_eq 38 52 17 (by decide +kernel) rfl rfl ⟨fun q4 => ?_, fun q4 => ?_⟩
  · replace F := F.1 q4
    refine zIconst (-1) (-1) 53 (by decide +kernel) rfl (by decide) ?_
    exact zIret rfl (by decide +kernel) F
  · replace F := F.2 q4
    refine zIload_n 1 1 18 (by decide +kernel) rfl rfl ?_
    refine zIconst 1 1 19 (by decide +kernel) rfl (by decide) ?_
    refine zIcmp_ne 11 30 22 (by decide +kernel) rfl rfl ⟨fun q5 => ?_, fun q5 => ?_⟩
    · replace F := F.2 q5
      refine zIload_n 1 1 31 (by decide +kernel) rfl rfl ?_
      refine zIconst 2 2 32 (by decide +kernel) rfl (by decide) ?_
      refine zIcmp_ne 11 43 35 (by decide +kernel) rfl rfl ⟨fun q6 => ?_, fun q6 => ?_⟩
      · replace F := F.2 q6
        refine zAload_n 0 0 44 (by decide +kernel) rfl rfl ?_
        refine zIload_n 1 1 45 (by decide +kernel) rfl rfl ?_
        refine zCallV 12 zcls12 mX12_fault 289 1 0 0 _ _ 48 [.int (p1)] [] okX12_fault mlX12_289 imX12_fault seX12_fault (by decide +kernel) rfl rfl (Nat.le_of_ble_eq_true rfl) rfl rfl (Mod_0 S0_) (zC.mono F ?_)
        rintro _ _ ⟨x7, I8, J9, R10, rfl, rfl, F⟩
        change zV G (d + 1) mX12_text kc ks 48 [(0, .ref (m)), (1, .int (p1))] [.int (x7)] (I8, J9, R10, K, n) Q
        obtain ⟨u11, u12, S13, F⟩ := F
        refine zIconst (-1) (-1) 49 (by decide +kernel) rfl (by decide) ?_
        refine zIcmp_eq 5 54 52 (by decide +kernel) rfl rfl ⟨fun q14 => ?_, fun q14 => ?_⟩
        · replace F := F.1 q14
          refine zAload_n 0 0 55 (by decide +kernel) rfl rfl ?_
          refine gf12_6 106 58 (by decide +kernel) rfl flX12_106 (Mod_0 S13) ?_
          refine zIstore_n 2 [(2, .int (I8 m 6)), (0, .ref (m)), (1, .int (p1))] 59 (by decide +kernel) rfl (by decide) rfl ?_
          refine zAload_n 0 1 60 (by decide +kernel) rfl rfl ?_
          refine zIconst 0 0 61 (by decide +kernel) rfl (by decide) ?_
          refine pf12_6 106 64 (by decide +kernel) rfl flX12_106 (Mod_0 S13) ?_
          replace F := F _ rfl
          generalize zU I8 m 6 (0) = I15 at F ⊢
          refine zIload_n 1 2 65 (by decide +kernel) rfl rfl ?_
          refine zIconst 1 1 66 (by decide +kernel) rfl (by decide) ?_
          refine zIcmp_ne 64 130 69 (by decide +kernel) rfl rfl ⟨fun q16 => ?_, fun q16 => ?_⟩
          · replace F := F.2 q16
            refine zIload_n 1 2 131 (by decide +kernel) rfl rfl ?_
            refine zIconst 2 2 132 (by decide +kernel) rfl (by decide) ?_
            refine zIcmp_ne 73 205 135 (by decide +kernel) rfl rfl ⟨fun q17 => ?_, fun q17 => ?_⟩
            · replace F := F.2 q17
              refine zAload_n 0 1 206 (by decide +kernel) rfl rfl ?_
              refine zAload_n 0 1 207 (by decide +kernel) rfl rfl ?_
              refine gf12_28 242 210 (by decide +kernel) rfl flX12_242 (Mod_0 S13) ?_
              refine pf12_26 291 213 (by decide +kernel) rfl flX12_291 (Mod_0 S13) ?_
              replace F := F _ rfl
              generalize zU I15 m 26 (I15 m 28) = I18 at F ⊢
              refine zAload_n 0 1 214 (by decide +kernel) rfl rfl ?_
              refine zAload_n 0 1 215 (by decide +kernel) rfl rfl ?_
              refine gf12_29 245 218 (by decide +kernel) rfl flX12_245 (Mod_0 S13) ?_
              refine pf12_27 294 221 (by decide +kernel) rfl flX12_294 (Mod_0 S13) ?_
              replace F := F _ rfl
              generalize zU I18 m 27 (I18 m 29) = I19 at F ⊢
              refine zIconst 0 0 222 (by decide +kernel) rfl (by decide) ?_
              refine zIstore_n 3 [(3, .int (0)), (2, .int (I8 m 6)), (0, .ref (m)), (1, .int (p1))] 223 (by decide +kernel) rfl (by decide) rfl ?_
              exact zLoc [2, 3, 1, 0] _ rfl F
            · replace F := F.1 q17
              refine zIconst 0 0 136 (by decide +kernel) rfl (by decide) ?_
              refine zIstore_n 3 [(3, .int (0)), (2, .int (I8 m 6)), (0, .ref (m)), (1, .int (p1))] 137 (by decide +kernel) rfl (by decide) rfl ?_
              exact zLoc [2, 3, 1, 0] _ rfl F
          · replace F := F.1 q16
            refine zIconst 0 0 70 (by decide +kernel) rfl (by decide) ?_
            refine zIstore_n 3 [(3, .int (0)), (2, .int (I8 m 6)), (0, .ref (m)), (1, .int (p1))] 71 (by decide +kernel) rfl (by decide) rfl ?_
            exact zLoc [2, 3, 1, 0] _ rfl F
        · replace F := F.2 q14
          refine zIconst (-1) (-1) 53 (by decide +kernel) rfl (by decide) ?_
          exact zIret rfl (by decide +kernel) F
      · replace F := F.1 q6
        refine zAload_n 0 0 36 (by decide +kernel) rfl rfl ?_
        refine gf12_30 286 39 (by decide +kernel) rfl flX12_286 (Mod_0 S0_) ?_
        refine zIconst 4 4 40 (by decide +kernel) rfl (by decide) ?_
        refine zIcmp_eq 12 52 43 (by decide +kernel) rfl rfl ⟨fun q20 => ?_, fun q20 => ?_⟩
        · replace F := F.1 q20
          refine zIconst (-1) (-1) 53 (by decide +kernel) rfl (by decide) ?_
          exact zIret rfl (by decide +kernel) F
        · replace F := F.2 q20
          refine zAload_n 0 0 44 (by decide +kernel) rfl rfl ?_
          refine zIload_n 1 1 45 (by decide +kernel) rfl rfl ?_
          refine zCallV 12 zcls12 mX12_fault 289 1 0 0 _ _ 48 [.int (p1)] [] okX12_fault mlX12_289 imX12_fault seX12_fault (by decide +kernel) rfl rfl (Nat.le_of_ble_eq_true rfl) rfl rfl (Mod_0 S0_) (zC.mono F ?_)
          rintro _ _ ⟨x21, I22, J23, R24, rfl, rfl, F⟩
          change zV G (d + 1) mX12_text kc ks 48 [(0, .ref (m)), (1, .int (p1))] [.int (x21)] (I22, J23, R24, K, n) Q
          obtain ⟨u25, u26, S27, F⟩ := F
          refine zIconst (-1) (-1) 49 (by decide +kernel) rfl (by decide) ?_
          refine zIcmp_eq 5 54 52 (by decide +kernel) rfl rfl ⟨fun q28 => ?_, fun q28 => ?_⟩
          · replace F := F.1 q28
            refine zAload_n 0 0 55 (by decide +kernel) rfl rfl ?_
            refine gf12_6 106 58 (by decide +kernel) rfl flX12_106 (Mod_0 S27) ?_
            refine zIstore_n 2 [(2, .int (I22 m 6)), (0, .ref (m)), (1, .int (p1))] 59 (by decide +kernel) rfl (by decide) rfl ?_
            refine zAload_n 0 1 60 (by decide +kernel) rfl rfl ?_
            refine zIconst 0 0 61 (by decide +kernel) rfl (by decide) ?_
            refine pf12_6 106 64 (by decide +kernel) rfl flX12_106 (Mod_0 S27) ?_
            replace F := F _ rfl
            generalize zU I22 m 6 (0) = I29 at F ⊢
            refine zIload_n 1 2 65 (by decide +kernel) rfl rfl ?_
            refine zIconst 1 1 66 (by decide +kernel) rfl (by decide) ?_
            refine zIcmp_ne 64 130 69 (by decide +kernel) rfl rfl ⟨fun q30 => ?_, fun q30 => ?_⟩
            · replace F := F.2 q30
              refine zIload_n 1 2 131 (by decide +kernel) rfl rfl ?_
              refine zIconst 2 2 132 (by decide +kernel) rfl (by decide) ?_
              refine zIcmp_ne 73 205 135 (by decide +kernel) rfl rfl ⟨fun q31 => ?_, fun q31 => ?_⟩
              · replace F := F.2 q31
                refine zAload_n 0 1 206 (by decide +kernel) rfl rfl ?_
                refine zAload_n 0 1 207 (by decide +kernel) rfl rfl ?_
                refine gf12_28 242 210 (by decide +kernel) rfl flX12_242 (Mod_0 S27) ?_
                refine pf12_26 291 213 (by decide +kernel) rfl flX12_291 (Mod_0 S27) ?_
                replace F := F _ rfl
                generalize zU I29 m 26 (I29 m 28) = I32 at F ⊢
                refine zAload_n 0 1 214 (by decide +kernel) rfl rfl ?_
                refine zAload_n 0 1 215 (by decide +kernel) rfl rfl ?_
                refine gf12_29 245 218 (by decide +kernel) rfl flX12_245 (Mod_0 S27) ?_
                refine pf12_27 294 221 (by decide +kernel) rfl flX12_294 (Mod_0 S27) ?_
                replace F := F _ rfl
                generalize zU I32 m 27 (I32 m 29) = I33 at F ⊢
                refine zIconst 0 0 222 (by decide +kernel) rfl (by decide) ?_
                refine zIstore_n 3 [(3, .int (0)), (2, .int (I22 m 6)), (0, .ref (m)), (1, .int (p1))] 223 (by decide +kernel) rfl (by decide) rfl ?_
                exact zLoc [2, 3, 1, 0] _ rfl F
              · replace F := F.1 q31
                refine zIconst 0 0 136 (by decide +kernel) rfl (by decide) ?_
                refine zIstore_n 3 [(3, .int (0)), (2, .int (I22 m 6)), (0, .ref (m)), (1, .int (p1))] 137 (by decide +kernel) rfl (by decide) rfl ?_
                exact zLoc [2, 3, 1, 0] _ rfl F
            · replace F := F.1 q30
              refine zIconst 0 0 70 (by decide +kernel) rfl (by decide) ?_
              refine zIstore_n 3 [(3, .int (0)), (2, .int (I22 m 6)), (0, .ref (m)), (1, .int (p1))] 71 (by decide +kernel) rfl (by decide) rfl ?_
              exact zLoc [2, 3, 1, 0] _ rfl F
          · replace F := F.2 q28
            refine zIconst (-1) (-1) 53 (by decide +kernel) rfl (by decide) ?_
            exact zIret rfl (by decide +kernel) F
    · replace F := F.1 q5
      refine zAload_n 0 0 23 (by decide +kernel) rfl rfl ?_
      refine gf12_7 283 26 (by decide +kernel) rfl flX12_283 (Mod_0 S0_) ?_
      refine zIconst 4 4 27 (by decide +kernel) rfl (by decide) ?_
      refine zIcmp_eq 25 52 30 (by decide +kernel) rfl rfl ⟨fun q34 => ?_, fun q34 => ?_⟩
      · replace F := F.1 q34
        refine zIconst (-1) (-1) 53 (by decide +kernel) rfl (by decide) ?_
        exact zIret rfl (by decide +kernel) F
      · replace F := F.2 q34
        refine zIload_n 1 1 31 (by decide +kernel) rfl rfl ?_
        refine zIconst 2 2 32 (by decide +kernel) rfl (by decide) ?_
        refine zIcmp_ne 11 43 35 (by decide +kernel) rfl rfl ⟨fun q35 => ?_, fun q35 => ?_⟩
        · replace F := F.2 q35
          refine zAload_n 0 0 44 (by decide +kernel) rfl rfl ?_
          refine zIload_n 1 1 45 (by decide +kernel) rfl rfl ?_
          refine zCallV 12 zcls12 mX12_fault 289 1 0 0 _ _ 48 [.int (p1)] [] okX12_fault mlX12_289 imX12_fault seX12_fault (by decide +kernel) rfl rfl (Nat.le_of_ble_eq_true rfl) rfl rfl (Mod_0 S0_) (zC.mono F ?_)
          rintro _ _ ⟨x36, I37, J38, R39, rfl, rfl, F⟩
          change zV G (d + 1) mX12_text kc ks 48 [(0, .ref (m)), (1, .int (p1))] [.int (x36)] (I37, J38, R39, K, n) Q
          obtain ⟨u40, u41, S42, F⟩ := F
          refine zIconst (-1) (-1) 49 (by decide +kernel) rfl (by decide) ?_
          refine zIcmp_eq 5 54 52 (by decide +kernel) rfl rfl ⟨fun q43 => ?_, fun q43 => ?_⟩
          · replace F := F.1 q43
            refine zAload_n 0 0 55 (by decide +kernel) rfl rfl ?_
            refine gf12_6 106 58 (by decide +kernel) rfl flX12_106 (Mod_0 S42) ?_
            refine zIstore_n 2 [(2, .int (I37 m 6)), (0, .ref (m)), (1, .int (p1))] 59 (by decide +kernel) rfl (by decide) rfl ?_
            refine zAload_n 0 1 60 (by decide +kernel) rfl rfl ?_
            refine zIconst 0 0 61 (by decide +kernel) rfl (by decide) ?_
            refine pf12_6 106 64 (by decide +kernel) rfl flX12_106 (Mod_0 S42) ?_
            replace F := F _ rfl
            generalize zU I37 m 6 (0) = I44 at F ⊢
            refine zIload_n 1 2 65 (by decide +kernel) rfl rfl ?_
            refine zIconst 1 1 66 (by decide +kernel) rfl (by decide) ?_
            refine zIcmp_ne 64 130 69 (by decide +kernel) rfl rfl ⟨fun q45 => ?_, fun q45 => ?_⟩
            · replace F := F.2 q45
              refine zIload_n 1 2 131 (by decide +kernel) rfl rfl ?_
              refine zIconst 2 2 132 (by decide +kernel) rfl (by decide) ?_
              refine zIcmp_ne 73 205 135 (by decide +kernel) rfl rfl ⟨fun q46 => ?_, fun q46 => ?_⟩
              · replace F := F.2 q46
                refine zAload_n 0 1 206 (by decide +kernel) rfl rfl ?_
                refine zAload_n 0 1 207 (by decide +kernel) rfl rfl ?_
                refine gf12_28 242 210 (by decide +kernel) rfl flX12_242 (Mod_0 S42) ?_
                refine pf12_26 291 213 (by decide +kernel) rfl flX12_291 (Mod_0 S42) ?_
                replace F := F _ rfl
                generalize zU I44 m 26 (I44 m 28) = I47 at F ⊢
                refine zAload_n 0 1 214 (by decide +kernel) rfl rfl ?_
                refine zAload_n 0 1 215 (by decide +kernel) rfl rfl ?_
                refine gf12_29 245 218 (by decide +kernel) rfl flX12_245 (Mod_0 S42) ?_
                refine pf12_27 294 221 (by decide +kernel) rfl flX12_294 (Mod_0 S42) ?_
                replace F := F _ rfl
                generalize zU I47 m 27 (I47 m 29) = I48 at F ⊢
                refine zIconst 0 0 222 (by decide +kernel) rfl (by decide) ?_
                refine zIstore_n 3 [(3, .int (0)), (2, .int (I37 m 6)), (0, .ref (m)), (1, .int (p1))] 223 (by decide +kernel) rfl (by decide) rfl ?_
                exact zLoc [2, 3, 1, 0] _ rfl F
              · replace F := F.1 q46
                refine zIconst 0 0 136 (by decide +kernel) rfl (by decide) ?_
                refine zIstore_n 3 [(3, .int (0)), (2, .int (I37 m 6)), (0, .ref (m)), (1, .int (p1))] 137 (by decide +kernel) rfl (by decide) rfl ?_
                exact zLoc [2, 3, 1, 0] _ rfl F
            · replace F := F.1 q45
              refine zIconst 0 0 70 (by decide +kernel) rfl (by decide) ?_
              refine zIstore_n 3 [(3, .int (0)), (2, .int (I37 m 6)), (0, .ref (m)), (1, .int (p1))] 71 (by decide +kernel) rfl (by decide) rfl ?_
              exact zLoc [2, 3, 1, 0] _ rfl F
          · replace F := F.2 q43
            refine zIconst (-1) (-1) 53 (by decide +kernel) rfl (by decide) ?_
            exact zIret rfl (by decide +kernel) F
        · replace F := F.1 q35
          refine zAload_n 0 0 36 (by decide +kernel) rfl rfl ?_
          refine gf12_30 286 39 (by decide +kernel) rfl flX12_286 (Mod_0 S0_) ?_
          refine zIconst 4 4 40 (by decide +kernel) rfl (by decide) ?_
          refine zIcmp_eq 12 52 43 (by decide +kernel) rfl rfl ⟨fun q49 => ?_, fun q49 => ?_⟩
          · replace F := F.1 q49
            refine zIconst (-1) (-1) 53 (by decide +kernel) rfl (by decide) ?_
            exact zIret rfl (by decide +kernel) F
          · replace F := F.2 q49
            refine zAload_n 0 0 44 (by decide +kernel) rfl rfl ?_
            refine zIload_n 1 1 45 (by decide +kernel) rfl rfl ?_
            refine zCallV 12 zcls12 mX12_fault 289 1 0 0 _ _ 48 [.int (p1)] [] okX12_fault mlX12_289 imX12_fault seX12_fault (by decide +kernel) rfl rfl (Nat.le_of_ble_eq_true rfl) rfl rfl (Mod_0 S0_) (zC.mono F ?_)
            rintro _ _ ⟨x50, I51, J52, R53, rfl, rfl, F⟩
            change zV G (d + 1) mX12_text kc ks 48 [(0, .ref (m)), (1, .int (p1))] [.int (x50)] (I51, J52, R53, K, n) Q
            obtain ⟨u54, u55, S56, F⟩ := F
            refine zIconst (-1) (-1) 49 (by decide +kernel) rfl (by decide) ?_
            refine zIcmp_eq 5 54 52 (by decide +kernel) rfl rfl ⟨fun q57 => ?_, fun q57 => ?_⟩
            · replace F := F.1 q57
              refine zAload_n 0 0 55 (by decide +kernel) rfl rfl ?_
              refine gf12_6 106 58 (by decide +kernel) rfl flX12_106 (Mod_0 S56) ?_
              refine zIstore_n 2 [(2, .int (I51 m 6)), (0, .ref (m)), (1, .int (p1))] 59 (by decide +kernel) rfl (by decide) rfl ?_
              refine zAload_n 0 1 60 (by decide +kernel) rfl rfl ?_
              refine zIconst 0 0 61 (by decide +kernel) rfl (by decide) ?_
              refine pf12_6 106 64 (by decide +kernel) rfl flX12_106 (Mod_0 S56) ?_
              replace F := F _ rfl
              generalize zU I51 m 6 (0) = I58 at F ⊢
              refine zIload_n 1 2 65 (by decide +kernel) rfl rfl ?_
              refine zIconst 1 1 66 (by decide +kernel) rfl (by decide) ?_
              refine zIcmp_ne 64 130 69 (by decide +kernel) rfl rfl ⟨fun q59 => ?_, fun q59 => ?_⟩
              · replace F := F.2 q59
                refine zIload_n 1 2 131 (by decide +kernel) rfl rfl ?_
                refine zIconst 2 2 132 (by decide +kernel) rfl (by decide) ?_
                refine zIcmp_ne 73 205 135 (by decide +kernel) rfl rfl ⟨fun q60 => ?_, fun q60 => ?_⟩
                · replace F := F.2 q60
                  refine zAload_n 0 1 206 (by decide +kernel) rfl rfl ?_
                  refine zAload_n 0 1 207 (by decide +kernel) rfl rfl ?_
                  refine gf12_28 242 210 (by decide +kernel) rfl flX12_242 (Mod_0 S56) ?_
                  refine pf12_26 291 213 (by decide +kernel) rfl flX12_291 (Mod_0 S56) ?_
                  replace F := F _ rfl
                  generalize zU I58 m 26 (I58 m 28) = I61 at F ⊢
                  refine zAload_n 0 1 214 (by decide +kernel) rfl rfl ?_
                  refine zAload_n 0 1 215 (by decide +kernel) rfl rfl ?_
                  refine gf12_29 245 218 (by decide +kernel) rfl flX12_245 (Mod_0 S56) ?_
                  refine pf12_27 294 221 (by decide +kernel) rfl flX12_294 (Mod_0 S56) ?_
                  replace F := F _ rfl
                  generalize zU I61 m 27 (I61 m 29) = I62 at F ⊢
                  refine zIconst 0 0 222 (by decide +kernel) rfl (by decide) ?_
                  refine zIstore_n 3 [(3, .int (0)), (2, .int (I51 m 6)), (0, .ref (m)), (1, .int (p1))] 223 (by decide +kernel) rfl (by decide) rfl ?_
                  exact zLoc [2, 3, 1, 0] _ rfl F
                · replace F := F.1 q60
                  refine zIconst 0 0 136 (by decide +kernel) rfl (by decide) ?_
                  refine zIstore_n 3 [(3, .int (0)), (2, .int (I51 m 6)), (0, .ref (m)), (1, .int (p1))] 137 (by decide +kernel) rfl (by decide) rfl ?_
                  exact zLoc [2, 3, 1, 0] _ rfl F
              · replace F := F.1 q59
                refine zIconst 0 0 70 (by decide +kernel) rfl (by decide) ?_
                refine zIstore_n 3 [(3, .int (0)), (2, .int (I51 m 6)), (0, .ref (m)), (1, .int (p1))] 71 (by decide +kernel) rfl (by decide) rfl ?_
                exact zLoc [2, 3, 1, 0] _ rfl F
            · replace F := F.2 q57
              refine zIconst (-1) (-1) 53 (by decide +kernel) rfl (by decide) ?_
              exact zIret rfl (by decide +kernel) F
set_option maxHeartbeats 2000000 in
theorem wX12_text_223 {G : zG} {d kc ks : Nat} {I : Nat → Nat → Int32} {J : Nat → Nat → Int64} {R : Nat → Nat → Option Nat} {K : Nat → Nat × Nat} {n : Nat} {Q : Option Value → zH → Prop} (m u11 u12 : Nat) (S13 : hMod G R K n m u11 u12) (l1 l2 l3 : Int32) (F : ((2 ≤ l3 → zV G (d + 1) mX12_text kc ks 248 [(0, .ref (m)), (1, .int (l1)), (2, .int (l2)), (3, .int (0))] [] (I, J, R, K, n) Q) ∧ (¬ (2 ≤ l3) → ((vp_in l3 2) ∧ (vp_in l3 2 ∧ ∀ I65 : Nat → Nat → Int32, I65 = zU I (m + 5) l3.toNatClampNeg (I (m + 6) l3.toNatClampNeg) → zV G (d + 1) mX12_text kc ks 223 [(0, .ref (m)), (1, .int (l1)), (2, .int (l2)), (3, .int (l3 + 1))] [] (I65, J, R, K, n) Q))))) : zV G (d + 1) mX12_text kc ks 223 [(0, .ref (m)), (1, .int (l1)), (2, .int (l2)), (3, .int (l3))] [] (I, J, R, K, n) Q := by
  refine zIload_n 3 3 224 (by decide +kernel) rfl rfl ?_
  refine zIconst 2 2 225 (by decide +kernel) rfl (by decide) ?_
  refine zIcmp_ge 21 246 228 (by decide +kernel) rfl rfl ⟨fun q63 => ?_, fun q63 => ?_⟩
  · replace F := F.1 q63
    refine zIconst 0 0 247 (by decide +kernel) rfl (by decide) ?_
    refine zIstore_n 3 [(3, .int (0)), (0, .ref (m)), (1, .int (l1)), (2, .int (l2))] 248 (by decide +kernel) rfl (by decide) rfl ?_
    exact zLoc [1, 2, 3, 0] _ rfl F
  · replace F := F.2 q63
    refine zAload_n 0 0 229 (by decide +kernel) rfl rfl ?_
    refine gf12_18 37 232 (by decide +kernel) rfl flX12_37 (Mod_0 S13) (Mod_9 S13) ?_
    refine zIload_n 3 3 233 (by decide +kernel) rfl rfl ?_
    refine zAload_n 0 0 234 (by decide +kernel) rfl rfl ?_
    refine gf12_19 40 237 (by decide +kernel) rfl flX12_40 (Mod_0 S13) (Mod_11 S13) ?_
    refine zIload_n 3 3 238 (by decide +kernel) rfl rfl ?_
    obtain ⟨w64, F⟩ := F
    refine yIaload 2 239 (by decide +kernel) rfl (Mod_12 S13) (w64) ?_
    refine yIastore 2 240 (by decide +kernel) rfl (Mod_10 S13) F.1 ?_
    replace F := F.2 _ rfl
    generalize zU I (m + 5) l3.toNatClampNeg (I (m + 6) l3.toNatClampNeg) = I65 at F ⊢
    refine zIinc 3 1 3 (l3 + 1) [(3, .int (l3 + 1)), (0, .ref (m)), (1, .int (l1)), (2, .int (l2))] 243 (by decide +kernel) rfl rfl (by rfl) (by decide) rfl ?_
    refine zGoto (-20) 223 (by decide +kernel) rfl ?_
    exact zLoc [1, 2, 3, 0] _ rfl F
set_option maxHeartbeats 2000000 in
theorem wX12_text_137 {G : zG} {d kc ks : Nat} {I : Nat → Nat → Int32} {J : Nat → Nat → Int64} {R : Nat → Nat → Option Nat} {K : Nat → Nat × Nat} {n : Nat} {Q : Option Value → zH → Prop} (m u11 u12 : Nat) (S13 : hMod G R K n m u11 u12) (l1 l2 l3 : Int32) (F : ((48 ≤ l3 → ((vp_in 4 5) ∧ (vp_in (I m 30) 5 ∧ ∀ I68 : Nat → Nat → Int32, I68 = zU I (m + 12) (I m 30 : Int32).toNatClampNeg (I (m + 12) (4 : Int32).toNatClampNeg) → (∀ I69 : Nat → Nat → Int32, I69 = zU I68 m 30 ((I68 m 30) + 1) → Q (some (.int ((I69 m 30) - 1))) (I69, J, R, K, n))))) ∧ (¬ (48 ≤ l3) → ((vp_in (192 + l3) 240) ∧ (vp_in ((48 * (I m 30)) + l3) 240 ∧ ∀ I71 : Nat → Nat → Int32, I71 = zU I (m + 11) ((48 * (I m 30)) + l3 : Int32).toNatClampNeg (I (m + 11) (192 + l3 : Int32).toNatClampNeg) → zV G (d + 1) mX12_text kc ks 137 [(0, .ref (m)), (1, .int (l1)), (2, .int (l2)), (3, .int (l3 + 1))] [] (I71, J, R, K, n) Q))))) : zV G (d + 1) mX12_text kc ks 137 [(0, .ref (m)), (1, .int (l1)), (2, .int (l2)), (3, .int (l3))] [] (I, J, R, K, n) Q := by
  refine zIload_n 3 3 138 (by decide +kernel) rfl rfl ?_
  refine zBipush 48 48 140 (by decide +kernel) rfl (by decide) ?_
  refine zIcmp_ge 33 173 143 (by decide +kernel) rfl rfl ⟨fun q66 => ?_, fun q66 => ?_⟩
  · replace F := F.1 q66
    refine zAload_n 0 0 174 (by decide +kernel) rfl rfl ?_
    refine gf12_25 58 177 (by decide +kernel) rfl flX12_58 (Mod_0 S13) (Mod_23 S13) ?_
    refine zAload_n 0 0 178 (by decide +kernel) rfl rfl ?_
    refine gf12_30 286 181 (by decide +kernel) rfl flX12_286 (Mod_0 S13) ?_
    refine zAload_n 0 0 182 (by decide +kernel) rfl rfl ?_
    refine gf12_25 58 185 (by decide +kernel) rfl flX12_58 (Mod_0 S13) (Mod_23 S13) ?_
    refine zIconst 4 4 186 (by decide +kernel) rfl (by decide) ?_
    obtain ⟨w67, F⟩ := F
    refine yIaload 5 187 (by decide +kernel) rfl (Mod_24 S13) (w67) ?_
    refine yIastore 5 188 (by decide +kernel) rfl (Mod_24 S13) F.1 ?_
    replace F := F.2 _ rfl
    generalize zU I (m + 12) (I m 30 : Int32).toNatClampNeg (I (m + 12) (4 : Int32).toNatClampNeg) = I68 at F ⊢
    refine zAload_n 0 0 189 (by decide +kernel) rfl rfl ?_
    refine zDup 190 (by decide +kernel) rfl rfl ?_
    refine gf12_30 286 193 (by decide +kernel) rfl flX12_286 (Mod_0 S13) ?_
    refine zIconst 1 1 194 (by decide +kernel) rfl (by decide) ?_
    refine zIadd 195 (by decide +kernel) rfl ?_
    refine pf12_30 286 198 (by decide +kernel) rfl flX12_286 (Mod_0 S13) ?_
    replace F := F _ rfl
    generalize zU I68 m 30 ((I68 m 30) + 1) = I69 at F ⊢
    refine zAload_n 0 0 199 (by decide +kernel) rfl rfl ?_
    refine gf12_30 286 202 (by decide +kernel) rfl flX12_286 (Mod_0 S13) ?_
    refine zIconst 1 1 203 (by decide +kernel) rfl (by decide) ?_
    refine zIsub 204 (by decide +kernel) rfl ?_
    exact zIret rfl (by decide +kernel) F
  · replace F := F.2 q66
    refine zAload_n 0 0 144 (by decide +kernel) rfl rfl ?_
    refine gf12_24 55 147 (by decide +kernel) rfl flX12_55 (Mod_0 S13) (Mod_21 S13) ?_
    refine zBipush 48 48 149 (by decide +kernel) rfl (by decide) ?_
    refine zAload_n 0 0 150 (by decide +kernel) rfl rfl ?_
    refine gf12_30 286 153 (by decide +kernel) rfl flX12_286 (Mod_0 S13) ?_
    refine zImul 154 (by decide +kernel) rfl ?_
    refine zIload_n 3 3 155 (by decide +kernel) rfl rfl ?_
    refine zIadd 156 (by decide +kernel) rfl ?_
    refine zAload_n 0 0 157 (by decide +kernel) rfl rfl ?_
    refine gf12_24 55 160 (by decide +kernel) rfl flX12_55 (Mod_0 S13) (Mod_21 S13) ?_
    refine zSipush 192 192 163 (by decide +kernel) rfl (by decide) ?_
    refine zIload_n 3 3 164 (by decide +kernel) rfl rfl ?_
    refine zIadd 165 (by decide +kernel) rfl ?_
    obtain ⟨w70, F⟩ := F
    refine yIaload 240 166 (by decide +kernel) rfl (Mod_22 S13) (w70) ?_
    refine yIastore 240 167 (by decide +kernel) rfl (Mod_22 S13) F.1 ?_
    replace F := F.2 _ rfl
    generalize zU I (m + 11) ((48 * (I m 30)) + l3 : Int32).toNatClampNeg (I (m + 11) (192 + l3 : Int32).toNatClampNeg) = I71 at F ⊢
    refine zIinc 3 1 3 (l3 + 1) [(3, .int (l3 + 1)), (0, .ref (m)), (1, .int (l1)), (2, .int (l2))] 170 (by decide +kernel) rfl rfl (by rfl) (by decide) rfl ?_
    refine zGoto (-33) 137 (by decide +kernel) rfl ?_
    exact zLoc [1, 2, 3, 0] _ rfl F
set_option maxHeartbeats 2000000 in
theorem wX12_text_71 {G : zG} {d kc ks : Nat} {I : Nat → Nat → Int32} {J : Nat → Nat → Int64} {R : Nat → Nat → Option Nat} {K : Nat → Nat × Nat} {n : Nat} {Q : Option Value → zH → Prop} (m u11 u12 : Nat) (S13 : hMod G R K n m u11 u12) (l1 l2 l3 : Int32) (F : ((l2 ≤ l3 → (vp_in (I m 7) 4 ∧ ∀ I73 : Nat → Nat → Int32, I73 = zU I (m + 3) (I m 7 : Int32).toNatClampNeg (l2) → (∀ I74 : Nat → Nat → Int32, I74 = zU I73 m 7 ((I73 m 7) + 1) → Q (some (.int ((I74 m 7) - 1))) (I74, J, R, K, n)))) ∧ (¬ (l2 ≤ l3) → ((vp_in l3 240) ∧ (vp_in ((240 * (I m 7)) + l3) 960 ∧ ∀ I76 : Nat → Nat → Int32, I76 = zU I (m + 2) ((240 * (I m 7)) + l3 : Int32).toNatClampNeg (vp_nar .byte (I (m + 1) l3.toNatClampNeg)) → zV G (d + 1) mX12_text kc ks 71 [(0, .ref (m)), (1, .int (l1)), (2, .int (l2)), (3, .int (l3 + 1))] [] (I76, J, R, K, n) Q))))) : zV G (d + 1) mX12_text kc ks 71 [(0, .ref (m)), (1, .int (l1)), (2, .int (l2)), (3, .int (l3))] [] (I, J, R, K, n) Q := by
  refine zIload_n 3 3 72 (by decide +kernel) rfl rfl ?_
  refine zIload_n 2 2 73 (by decide +kernel) rfl rfl ?_
  refine zIcmp_ge 30 103 76 (by decide +kernel) rfl rfl ⟨fun q72 => ?_, fun q72 => ?_⟩
  · replace F := F.1 q72
    refine zAload_n 0 0 104 (by decide +kernel) rfl rfl ?_
    refine gf12_3 16 107 (by decide +kernel) rfl flX12_16 (Mod_0 S13) (Mod_5 S13) ?_
    refine zAload_n 0 0 108 (by decide +kernel) rfl rfl ?_
    refine gf12_7 283 111 (by decide +kernel) rfl flX12_283 (Mod_0 S13) ?_
    refine zIload_n 2 2 112 (by decide +kernel) rfl rfl ?_
    refine yIastore 4 113 (by decide +kernel) rfl (Mod_6 S13) F.1 ?_
    replace F := F.2 _ rfl
    generalize zU I (m + 3) (I m 7 : Int32).toNatClampNeg (l2) = I73 at F ⊢
    refine zAload_n 0 0 114 (by decide +kernel) rfl rfl ?_
    refine zDup 115 (by decide +kernel) rfl rfl ?_
    refine gf12_7 283 118 (by decide +kernel) rfl flX12_283 (Mod_0 S13) ?_
    refine zIconst 1 1 119 (by decide +kernel) rfl (by decide) ?_
    refine zIadd 120 (by decide +kernel) rfl ?_
    refine pf12_7 283 123 (by decide +kernel) rfl flX12_283 (Mod_0 S13) ?_
    replace F := F _ rfl
    generalize zU I73 m 7 ((I73 m 7) + 1) = I74 at F ⊢
    refine zAload_n 0 0 124 (by decide +kernel) rfl rfl ?_
    refine gf12_7 283 127 (by decide +kernel) rfl flX12_283 (Mod_0 S13) ?_
    refine zIconst 1 1 128 (by decide +kernel) rfl (by decide) ?_
    refine zIsub 129 (by decide +kernel) rfl ?_
    exact zIret rfl (by decide +kernel) F
  · replace F := F.2 q72
    refine zAload_n 0 0 77 (by decide +kernel) rfl rfl ?_
    refine gf12_2 13 80 (by decide +kernel) rfl flX12_13 (Mod_0 S13) (Mod_3 S13) ?_
    refine zSipush 240 240 83 (by decide +kernel) rfl (by decide) ?_
    refine zAload_n 0 0 84 (by decide +kernel) rfl rfl ?_
    refine gf12_7 283 87 (by decide +kernel) rfl flX12_283 (Mod_0 S13) ?_
    refine zImul 88 (by decide +kernel) rfl ?_
    refine zIload_n 3 3 89 (by decide +kernel) rfl rfl ?_
    refine zIadd 90 (by decide +kernel) rfl ?_
    refine zAload_n 0 0 91 (by decide +kernel) rfl rfl ?_
    refine gf12_1 9 94 (by decide +kernel) rfl flX12_9 (Mod_0 S13) (Mod_1 S13) ?_
    refine zIload_n 3 3 95 (by decide +kernel) rfl rfl ?_
    obtain ⟨w75, F⟩ := F
    refine yBaload 240 96 (by decide +kernel) rfl (Mod_2 S13) (w75) ?_
    refine yBastore 960 97 (by decide +kernel) rfl (Mod_4 S13) F.1 ?_
    replace F := F.2 _ rfl
    generalize zU I (m + 2) ((240 * (I m 7)) + l3 : Int32).toNatClampNeg (vp_nar .byte (I (m + 1) l3.toNatClampNeg)) = I76 at F ⊢
    refine zIinc 3 1 3 (l3 + 1) [(3, .int (l3 + 1)), (0, .ref (m)), (1, .int (l1)), (2, .int (l2))] 100 (by decide +kernel) rfl rfl (by rfl) (by decide) rfl ?_
    refine zGoto (-29) 71 (by decide +kernel) rfl ?_
    exact zLoc [1, 2, 3, 0] _ rfl F
set_option maxHeartbeats 2000000 in
theorem wX12_text_248 {G : zG} {d kc ks : Nat} {I : Nat → Nat → Int32} {J : Nat → Nat → Int64} {R : Nat → Nat → Option Nat} {K : Nat → Nat × Nat} {n : Nat} {Q : Option Value → zH → Prop} (m u11 u12 : Nat) (S13 : hMod G R K n m u11 u12) (l1 l2 l3 : Int32) (F : ((12 ≤ l3 → zV G (d + 1) mX12_text kc ks 274 [(0, .ref (m)), (1, .int (l1)), (2, .int (l2)), (3, .int (0))] [] (I, J, R, K, n) Q) ∧ (¬ (12 ≤ l3) → ((vp_in l3 12) ∧ (vp_in l3 12 ∧ ∀ I79 : Nat → Nat → Int32, I79 = zU I (m + 7) l3.toNatClampNeg (I (m + 8) l3.toNatClampNeg) → zV G (d + 1) mX12_text kc ks 248 [(0, .ref (m)), (1, .int (l1)), (2, .int (l2)), (3, .int (l3 + 1))] [] (I79, J, R, K, n) Q))))) : zV G (d + 1) mX12_text kc ks 248 [(0, .ref (m)), (1, .int (l1)), (2, .int (l2)), (3, .int (l3))] [] (I, J, R, K, n) Q := by
  refine zIload_n 3 3 249 (by decide +kernel) rfl rfl ?_
  refine zBipush 12 12 251 (by decide +kernel) rfl (by decide) ?_
  refine zIcmp_ge 21 272 254 (by decide +kernel) rfl rfl ⟨fun q77 => ?_, fun q77 => ?_⟩
  · replace F := F.1 q77
    refine zIconst 0 0 273 (by decide +kernel) rfl (by decide) ?_
    refine zIstore_n 3 [(3, .int (0)), (0, .ref (m)), (1, .int (l1)), (2, .int (l2))] 274 (by decide +kernel) rfl (by decide) rfl ?_
    exact zLoc [1, 2, 3, 0] _ rfl F
  · replace F := F.2 q77
    refine zAload_n 0 0 255 (by decide +kernel) rfl rfl ?_
    refine gf12_20 43 258 (by decide +kernel) rfl flX12_43 (Mod_0 S13) (Mod_13 S13) ?_
    refine zIload_n 3 3 259 (by decide +kernel) rfl rfl ?_
    refine zAload_n 0 0 260 (by decide +kernel) rfl rfl ?_
    refine gf12_21 46 263 (by decide +kernel) rfl flX12_46 (Mod_0 S13) (Mod_15 S13) ?_
    refine zIload_n 3 3 264 (by decide +kernel) rfl rfl ?_
    obtain ⟨w78, F⟩ := F
    refine yIaload 12 265 (by decide +kernel) rfl (Mod_16 S13) (w78) ?_
    refine yIastore 12 266 (by decide +kernel) rfl (Mod_14 S13) F.1 ?_
    replace F := F.2 _ rfl
    generalize zU I (m + 7) l3.toNatClampNeg (I (m + 8) l3.toNatClampNeg) = I79 at F ⊢
    refine zIinc 3 1 3 (l3 + 1) [(3, .int (l3 + 1)), (0, .ref (m)), (1, .int (l1)), (2, .int (l2))] 269 (by decide +kernel) rfl rfl (by rfl) (by decide) rfl ?_
    refine zGoto (-21) 248 (by decide +kernel) rfl ?_
    exact zLoc [1, 2, 3, 0] _ rfl F
set_option maxHeartbeats 2000000 in
theorem wX12_text_274 {G : zG} {d kc ks : Nat} {I : Nat → Nat → Int32} {J : Nat → Nat → Int64} {R : Nat → Nat → Option Nat} {K : Nat → Nat × Nat} {n : Nat} {Q : Option Value → zH → Prop} (m u11 u12 : Nat) (S13 : hMod G R K n m u11 u12) (l1 l2 l3 : Int32) (F : ((27 ≤ l3 → zV G (d + 1) mX12_text kc ks 300 [(0, .ref (m)), (1, .int (l1)), (2, .int (l2)), (3, .int (0))] [] (I, J, R, K, n) Q) ∧ (¬ (27 ≤ l3) → ((vp_in l3 27) ∧ (vp_in l3 27 ∧ ∀ I82 : Nat → Nat → Int32, I82 = zU I (m + 9) l3.toNatClampNeg (I (m + 10) l3.toNatClampNeg) → zV G (d + 1) mX12_text kc ks 274 [(0, .ref (m)), (1, .int (l1)), (2, .int (l2)), (3, .int (l3 + 1))] [] (I82, J, R, K, n) Q))))) : zV G (d + 1) mX12_text kc ks 274 [(0, .ref (m)), (1, .int (l1)), (2, .int (l2)), (3, .int (l3))] [] (I, J, R, K, n) Q := by
  refine zIload_n 3 3 275 (by decide +kernel) rfl rfl ?_
  refine zBipush 27 27 277 (by decide +kernel) rfl (by decide) ?_
  refine zIcmp_ge 21 298 280 (by decide +kernel) rfl rfl ⟨fun q80 => ?_, fun q80 => ?_⟩
  · replace F := F.1 q80
    refine zIconst 0 0 299 (by decide +kernel) rfl (by decide) ?_
    refine zIstore_n 3 [(3, .int (0)), (0, .ref (m)), (1, .int (l1)), (2, .int (l2))] 300 (by decide +kernel) rfl (by decide) rfl ?_
    exact zLoc [1, 2, 3, 0] _ rfl F
  · replace F := F.2 q80
    refine zAload_n 0 0 281 (by decide +kernel) rfl rfl ?_
    refine gf12_22 49 284 (by decide +kernel) rfl flX12_49 (Mod_0 S13) (Mod_17 S13) ?_
    refine zIload_n 3 3 285 (by decide +kernel) rfl rfl ?_
    refine zAload_n 0 0 286 (by decide +kernel) rfl rfl ?_
    refine gf12_23 52 289 (by decide +kernel) rfl flX12_52 (Mod_0 S13) (Mod_19 S13) ?_
    refine zIload_n 3 3 290 (by decide +kernel) rfl rfl ?_
    obtain ⟨w81, F⟩ := F
    refine yIaload 27 291 (by decide +kernel) rfl (Mod_20 S13) (w81) ?_
    refine yIastore 27 292 (by decide +kernel) rfl (Mod_18 S13) F.1 ?_
    replace F := F.2 _ rfl
    generalize zU I (m + 9) l3.toNatClampNeg (I (m + 10) l3.toNatClampNeg) = I82 at F ⊢
    refine zIinc 3 1 3 (l3 + 1) [(3, .int (l3 + 1)), (0, .ref (m)), (1, .int (l1)), (2, .int (l2))] 295 (by decide +kernel) rfl rfl (by rfl) (by decide) rfl ?_
    refine zGoto (-21) 274 (by decide +kernel) rfl ?_
    exact zLoc [1, 2, 3, 0] _ rfl F
set_option maxHeartbeats 2000000 in
theorem wX12_text_300 {G : zG} {d kc ks : Nat} {I : Nat → Nat → Int32} {J : Nat → Nat → Int64} {R : Nat → Nat → Option Nat} {K : Nat → Nat × Nat} {n : Nat} {Q : Option Value → zH → Prop} (m u11 u12 : Nat) (S13 : hMod G R K n m u11 u12) (l1 l2 l3 : Int32) (F : ((231 ≤ l3 → zV G (d + 1) mX12_text kc ks 322 [(0, .ref (m)), (1, .int (l1)), (2, .int (l2)), (3, .int (0))] [] (I, J, R, K, n) Q) ∧ (¬ (231 ≤ l3) → (vp_in l3 231 ∧ ∀ I84 : Nat → Nat → Int32, I84 = zU I (m + 13) l3.toNatClampNeg (0) → zV G (d + 1) mX12_text kc ks 300 [(0, .ref (m)), (1, .int (l1)), (2, .int (l2)), (3, .int (l3 + 1))] [] (I84, J, R, K, n) Q)))) : zV G (d + 1) mX12_text kc ks 300 [(0, .ref (m)), (1, .int (l1)), (2, .int (l2)), (3, .int (l3))] [] (I, J, R, K, n) Q := by
  refine zIload_n 3 3 301 (by decide +kernel) rfl rfl ?_
  refine zSipush 231 231 304 (by decide +kernel) rfl (by decide) ?_
  refine zIcmp_ge 16 320 307 (by decide +kernel) rfl rfl ⟨fun q83 => ?_, fun q83 => ?_⟩
  · replace F := F.1 q83
    refine zIconst 0 0 321 (by decide +kernel) rfl (by decide) ?_
    refine zIstore_n 3 [(3, .int (0)), (0, .ref (m)), (1, .int (l1)), (2, .int (l2))] 322 (by decide +kernel) rfl (by decide) rfl ?_
    exact zLoc [1, 2, 3, 0] _ rfl F
  · replace F := F.2 q83
    refine zAload_n 0 0 308 (by decide +kernel) rfl rfl ?_
    refine gf12_32 61 311 (by decide +kernel) rfl flX12_61 (Mod_0 S13) (Mod_25 S13) ?_
    refine zIload_n 3 3 312 (by decide +kernel) rfl rfl ?_
    refine zIconst 0 0 313 (by decide +kernel) rfl (by decide) ?_
    refine yIastore 231 314 (by decide +kernel) rfl (Mod_26 S13) F.1 ?_
    replace F := F.2 _ rfl
    generalize zU I (m + 13) l3.toNatClampNeg (0) = I84 at F ⊢
    refine zIinc 3 1 3 (l3 + 1) [(3, .int (l3 + 1)), (0, .ref (m)), (1, .int (l1)), (2, .int (l2))] 317 (by decide +kernel) rfl rfl (by rfl) (by decide) rfl ?_
    refine zGoto (-17) 300 (by decide +kernel) rfl ?_
    exact zLoc [1, 2, 3, 0] _ rfl F
set_option maxHeartbeats 2000000 in
theorem wX12_text_322 {G : zG} {d kc ks : Nat} {I : Nat → Nat → Int32} {J : Nat → Nat → Int64} {R : Nat → Nat → Option Nat} {K : Nat → Nat × Nat} {n : Nat} {Q : Option Value → zH → Prop} (m u11 u12 : Nat) (S13 : hMod G R K n m u11 u12) (l1 l2 l3 : Int32) (F : (((3 * (I m 27) : Int32) ≤ l3 → ((vp_in 0 2) ∧ (vp_in 47 231 ∧ ∀ I87 : Nat → Nat → Int32, I87 = zU I (m + 13) (47 : Int32).toNatClampNeg (I (m + 5) (0 : Int32).toNatClampNeg) → ((vp_in 1 2) ∧ (vp_in 48 231 ∧ ∀ I89 : Nat → Nat → Int32, I89 = zU I87 (m + 13) (48 : Int32).toNatClampNeg (I87 (m + 5) (1 : Int32).toNatClampNeg) → (∀ I90 : Nat → Nat → Int32, I90 = zU I89 m 44 (0) → (∀ I91 : Nat → Nat → Int32, I91 = zU I90 m 39 (0) → (∀ I92 : Nat → Nat → Int32, I92 = zU I91 m 47 (0) → Q (some (.int (I92 m 26))) (I92, J, R, K, n))))))))) ∧ (¬ ((3 * (I m 27) : Int32) ≤ l3) → ((vp_in l3 27) ∧ (vp_in l3 231 ∧ ∀ I94 : Nat → Nat → Int32, I94 = zU I (m + 13) l3.toNatClampNeg (I (m + 9) l3.toNatClampNeg) → zV G (d + 1) mX12_text kc ks 322 [(0, .ref (m)), (1, .int (l1)), (2, .int (l2)), (3, .int (l3 + 1))] [] (I94, J, R, K, n) Q))))) : zV G (d + 1) mX12_text kc ks 322 [(0, .ref (m)), (1, .int (l1)), (2, .int (l2)), (3, .int (l3))] [] (I, J, R, K, n) Q := by
  refine zIload_n 3 3 323 (by decide +kernel) rfl rfl ?_
  refine zIconst 3 3 324 (by decide +kernel) rfl (by decide) ?_
  refine zAload_n 0 0 325 (by decide +kernel) rfl rfl ?_
  refine gf12_27 294 328 (by decide +kernel) rfl flX12_294 (Mod_0 S13) ?_
  refine zImul 329 (by decide +kernel) rfl ?_
  refine zIcmp_ge 21 350 332 (by decide +kernel) rfl rfl ⟨fun q85 => ?_, fun q85 => ?_⟩
  · replace F := F.1 q85
    refine zAload_n 0 0 351 (by decide +kernel) rfl rfl ?_
    refine gf12_32 61 354 (by decide +kernel) rfl flX12_61 (Mod_0 S13) (Mod_25 S13) ?_
    refine zBipush 47 47 356 (by decide +kernel) rfl (by decide) ?_
    refine zAload_n 0 0 357 (by decide +kernel) rfl rfl ?_
    refine gf12_18 37 360 (by decide +kernel) rfl flX12_37 (Mod_0 S13) (Mod_9 S13) ?_
    refine zIconst 0 0 361 (by decide +kernel) rfl (by decide) ?_
    obtain ⟨w86, F⟩ := F
    refine yIaload 2 362 (by decide +kernel) rfl (Mod_10 S13) (w86) ?_
    refine yIastore 231 363 (by decide +kernel) rfl (Mod_26 S13) F.1 ?_
    replace F := F.2 _ rfl
    generalize zU I (m + 13) (47 : Int32).toNatClampNeg (I (m + 5) (0 : Int32).toNatClampNeg) = I87 at F ⊢
    refine zAload_n 0 0 364 (by decide +kernel) rfl rfl ?_
    refine gf12_32 61 367 (by decide +kernel) rfl flX12_61 (Mod_0 S13) (Mod_25 S13) ?_
    refine zBipush 48 48 369 (by decide +kernel) rfl (by decide) ?_
    refine zAload_n 0 0 370 (by decide +kernel) rfl rfl ?_
    refine gf12_18 37 373 (by decide +kernel) rfl flX12_37 (Mod_0 S13) (Mod_9 S13) ?_
    refine zIconst 1 1 374 (by decide +kernel) rfl (by decide) ?_
    obtain ⟨w88, F⟩ := F
    refine yIaload 2 375 (by decide +kernel) rfl (Mod_10 S13) (w88) ?_
    refine yIastore 231 376 (by decide +kernel) rfl (Mod_26 S13) F.1 ?_
    replace F := F.2 _ rfl
    generalize zU I87 (m + 13) (48 : Int32).toNatClampNeg (I87 (m + 5) (1 : Int32).toNatClampNeg) = I89 at F ⊢
    refine zAload_n 0 0 377 (by decide +kernel) rfl rfl ?_
    refine zIconst 0 0 378 (by decide +kernel) rfl (by decide) ?_
    refine pf12_44 297 381 (by decide +kernel) rfl flX12_297 (Mod_0 S13) ?_
    replace F := F _ rfl
    generalize zU I89 m 44 (0) = I90 at F ⊢
    refine zAload_n 0 0 382 (by decide +kernel) rfl rfl ?_
    refine zIconst 0 0 383 (by decide +kernel) rfl (by decide) ?_
    refine pf12_39 300 386 (by decide +kernel) rfl flX12_300 (Mod_0 S13) ?_
    replace F := F _ rfl
    generalize zU I90 m 39 (0) = I91 at F ⊢
    refine zAload_n 0 0 387 (by decide +kernel) rfl rfl ?_
    refine zIconst 0 0 388 (by decide +kernel) rfl (by decide) ?_
    refine pf12_47 303 391 (by decide +kernel) rfl flX12_303 (Or.inl rfl) (Mod_0 S13) ?_
    replace F := F _ rfl
    generalize zU I91 m 47 (0) = I92 at F ⊢
    refine zAload_n 0 0 392 (by decide +kernel) rfl rfl ?_
    refine gf12_26 291 395 (by decide +kernel) rfl flX12_291 (Mod_0 S13) ?_
    exact zIret rfl (by decide +kernel) F
  · replace F := F.2 q85
    refine zAload_n 0 0 333 (by decide +kernel) rfl rfl ?_
    refine gf12_32 61 336 (by decide +kernel) rfl flX12_61 (Mod_0 S13) (Mod_25 S13) ?_
    refine zIload_n 3 3 337 (by decide +kernel) rfl rfl ?_
    refine zAload_n 0 0 338 (by decide +kernel) rfl rfl ?_
    refine gf12_22 49 341 (by decide +kernel) rfl flX12_49 (Mod_0 S13) (Mod_17 S13) ?_
    refine zIload_n 3 3 342 (by decide +kernel) rfl rfl ?_
    obtain ⟨w93, F⟩ := F
    refine yIaload 27 343 (by decide +kernel) rfl (Mod_18 S13) (w93) ?_
    refine yIastore 231 344 (by decide +kernel) rfl (Mod_26 S13) F.1 ?_
    replace F := F.2 _ rfl
    generalize zU I (m + 13) l3.toNatClampNeg (I (m + 9) l3.toNatClampNeg) = I94 at F ⊢
    refine zIinc 3 1 3 (l3 + 1) [(3, .int (l3 + 1)), (0, .ref (m)), (1, .int (l1)), (2, .int (l2))] 347 (by decide +kernel) rfl rfl (by rfl) (by decide) rfl ?_
    refine zGoto (-25) 322 (by decide +kernel) rfl ?_
    exact zLoc [1, 2, 3, 0] _ rfl F
set_option maxHeartbeats 2000000 in
theorem wX12_copy_0 {G : zG} {d kc ks : Nat} {I : Nat → Nat → Int32} {J : Nat → Nat → Int64} {R : Nat → Nat → Option Nat} {K : Nat → Nat × Nat} {n : Nat} {Q : Option Value → zH → Prop} (b : Nat) (hb : sA G K n b 32 231) (e : Nat) (he : sA G K n e 32 231)  (F : zV G (d + 1) mX12_copy kc ks 2 [(0, .ref (b)), (1, .ref (e)), (2, .int (0))] [] (I, J, R, K, n) Q) : zV G (d + 1) mX12_copy kc ks 0 [(0, .ref (b)), (1, .ref (e))] [] (I, J, R, K, n) Q := by
  refine zIconst 0 0 1 (by decide +kernel) rfl (by decide) ?_
  refine zIstore_n 2 [(2, .int (0)), (0, .ref (b)), (1, .ref (e))] 2 (by decide +kernel) rfl (by decide) rfl ?_
  exact zLoc [1, 2, 0] _ rfl F
set_option maxHeartbeats 2000000 in
theorem wX12_copy_2 {G : zG} {d kc ks : Nat} {I : Nat → Nat → Int32} {J : Nat → Nat → Int64} {R : Nat → Nat → Option Nat} {K : Nat → Nat × Nat} {n : Nat} {Q : Option Value → zH → Prop} (b : Nat) (hb : sA G K n b 32 231) (e : Nat) (he : sA G K n e 32 231)  (l2 : Int32) (F : ((50 ≤ l2 → (vp_in 50 231 ∧ ∀ I2 : Nat → Nat → Int32, I2 = zU I e (50 : Int32).toNatClampNeg (0) → Q none (I2, J, R, K, n))) ∧ (¬ (50 ≤ l2) → ((vp_in l2 231) ∧ (vp_in l2 231 ∧ ∀ I4 : Nat → Nat → Int32, I4 = zU I e l2.toNatClampNeg (I b l2.toNatClampNeg) → zV G (d + 1) mX12_copy kc ks 2 [(0, .ref (b)), (1, .ref (e)), (2, .int (l2 + 1))] [] (I4, J, R, K, n) Q))))) : zV G (d + 1) mX12_copy kc ks 2 [(0, .ref (b)), (1, .ref (e)), (2, .int (l2))] [] (I, J, R, K, n) Q := by
  refine zIload_n 2 2 3 (by decide +kernel) rfl rfl ?_
  refine zBipush 50 50 5 (by decide +kernel) rfl (by decide) ?_
  refine zIcmp_ge 15 20 8 (by decide +kernel) rfl rfl ⟨fun q1 => ?_, fun q1 => ?_⟩
  · replace F := F.1 q1
    refine zAload_n 1 1 21 (by decide +kernel) rfl rfl ?_
    refine zBipush 50 50 23 (by decide +kernel) rfl (by decide) ?_
    refine zIconst 0 0 24 (by decide +kernel) rfl (by decide) ?_
    refine yIastore 231 25 (by decide +kernel) rfl he F.1 ?_
    replace F := F.2 _ rfl
    generalize zU I e (50 : Int32).toNatClampNeg (0) = I2 at F ⊢
    exact zVret rfl (by decide +kernel) F
  · replace F := F.2 q1
    refine zAload_n 1 1 9 (by decide +kernel) rfl rfl ?_
    refine zIload_n 2 2 10 (by decide +kernel) rfl rfl ?_
    refine zAload_n 0 0 11 (by decide +kernel) rfl rfl ?_
    refine zIload_n 2 2 12 (by decide +kernel) rfl rfl ?_
    obtain ⟨w3, F⟩ := F
    refine yIaload 231 13 (by decide +kernel) rfl hb (w3) ?_
    refine yIastore 231 14 (by decide +kernel) rfl he F.1 ?_
    replace F := F.2 _ rfl
    generalize zU I e l2.toNatClampNeg (I b l2.toNatClampNeg) = I4 at F ⊢
    refine zIinc 2 1 2 (l2 + 1) [(2, .int (l2 + 1)), (0, .ref (b)), (1, .ref (e))] 17 (by decide +kernel) rfl rfl (by rfl) (by decide) rfl ?_
    refine zGoto (-15) 2 (by decide +kernel) rfl ?_
    exact zLoc [1, 2, 0] _ rfl F
set_option maxHeartbeats 2000000 in
theorem wX12_isFarm_0 {G : zG} {d kc ks : Nat} {I : Nat → Nat → Int32} {J : Nat → Nat → Int64} {R : Nat → Nat → Option Nat} {K : Nat → Nat × Nat} {n : Nat} {Q : Option Value → zH → Prop} (m t c : Nat) (S0_ : hMod G R K n m t c) (p1 : Int32) (F : Q (some (.int ((if p1 < 0 then 0 else (if (I m 26 : Int32) ≤ p1 then 0 else 1))))) (I, J, R, K, n)) : zV G (d + 1) mX12_isFarm kc ks 0 [(0, .ref (m)), (1, .int (p1))] [] (I, J, R, K, n) Q := by
  refine zIload_n 1 1 1 (by decide +kernel) rfl rfl ?_
  suffices KK : zV G (d + 1) mX12_isFarm kc ks 17 [(0, .ref (m)), (1, .int (p1))] [.int ((if p1 < 0 then 0 else (if (I m 26 : Int32) ≤ p1 then 0 else 1)))] (I, J, R, K, n) Q by
    refine zIf_lt 15 16 4 (by decide +kernel) rfl rfl ⟨fun q1 => ?_, fun q1 => ?_⟩
    · refine zIconst 0 0 17 (by decide +kernel) rfl (by decide) ?_
      exact zTop (by rw [if_pos q1]) KK
    · refine zIload_n 1 1 5 (by decide +kernel) rfl rfl ?_
      refine zAload_n 0 0 6 (by decide +kernel) rfl rfl ?_
      refine gf12_26 291 9 (by decide +kernel) rfl flX12_291 (Mod_0 S0_) ?_
      refine zIcmp_ge 7 16 12 (by decide +kernel) rfl rfl ⟨fun q2 => ?_, fun q2 => ?_⟩
      · refine zIconst 0 0 17 (by decide +kernel) rfl (by decide) ?_
        exact zTop (by rw [if_neg q1, if_pos q2]) KK
      · refine zIconst 1 1 13 (by decide +kernel) rfl (by decide) ?_
        refine zGoto 4 17 (by decide +kernel) rfl ?_
        exact zTop (by rw [if_neg q1, if_neg q2]) KK
  exact zZret .boolean rfl (zNarZ (zOrIte (Or.inl rfl) (zOrIte (Or.inl rfl) (Or.inr rfl)))) (by decide +kernel) F
set_option maxHeartbeats 2000000 in
theorem wX12_areTwo_0 {G : zG} {d kc ks : Nat} {I : Nat → Nat → Int32} {J : Nat → Nat → Int64} {R : Nat → Nat → Option Nat} {K : Nat → Nat × Nat} {n : Nat} {Q : Option Value → zH → Prop} (m t c : Nat) (S0_ : hMod G R K n m t c) (p1 p2 : Int32) (F : zC G d mX12_isFarm 0 0 [.ref (m), .int (p1)] (I, J, R, K, n) (fun r h => ∃ (x1 : Int32) (I2 : Nat → Nat → Int32), r = some (.int x1) ∧ h = (I2, J, R, K, n) ∧ ((x1 = 0 → Q (some (.int (0))) (I2, J, R, K, n)) ∧ (¬ (x1 = 0) → zC G d mX12_isFarm 0 0 [.ref (m), .int (p2)] (I2, J, R, K, n) (fun r h => ∃ (x4 : Int32) (I5 : Nat → Nat → Int32), r = some (.int x4) ∧ h = (I5, J, R, K, n) ∧ Q (some (.int ((if x4 = 0 then 0 else (if p1 = p2 then 0 else 1))))) (I5, J, R, K, n)))))) : zV G (d + 1) mX12_areTwo kc ks 0 [(0, .ref (m)), (1, .int (p1)), (2, .int (p2))] [] (I, J, R, K, n) Q := by
  refine zAload_n 0 0 1 (by decide +kernel) rfl rfl ?_
  refine zIload_n 1 1 2 (by decide +kernel) rfl rfl ?_
  refine zCallV 12 zcls12 mX12_isFarm 306 1 0 0 _ _ 5 [.int (p1)] [] okX12_isFarm mlX12_306 imX12_isFarm seX12_isFarm (by decide +kernel) rfl rfl (Nat.le_of_ble_eq_true rfl) rfl rfl (Mod_0 S0_) (zC.mono F ?_)
  rintro _ _ ⟨x1, I2, rfl, rfl, F⟩
  change zV G (d + 1) mX12_areTwo kc ks 5 [(0, .ref (m)), (1, .int (p1)), (2, .int (p2))] [.int (x1)] (I2, J, R, K, n) Q
  refine zIf_eq 20 25 8 (by decide +kernel) rfl rfl ⟨fun q3 => ?_, fun q3 => ?_⟩
  · replace F := F.1 q3
    refine zIconst 0 0 26 (by decide +kernel) rfl (by decide) ?_
    exact zZret .boolean rfl (zNarZ (Or.inl rfl)) (by decide +kernel) F
  · replace F := F.2 q3
    refine zAload_n 0 0 9 (by decide +kernel) rfl rfl ?_
    refine zIload_n 2 2 10 (by decide +kernel) rfl rfl ?_
    refine zCallV 12 zcls12 mX12_isFarm 306 1 0 0 _ _ 13 [.int (p2)] [] okX12_isFarm mlX12_306 imX12_isFarm seX12_isFarm (by decide +kernel) rfl rfl (Nat.le_of_ble_eq_true rfl) rfl rfl (Mod_0 S0_) (zC.mono F ?_)
    rintro _ _ ⟨x4, I5, rfl, rfl, F⟩
    change zV G (d + 1) mX12_areTwo kc ks 13 [(0, .ref (m)), (1, .int (p1)), (2, .int (p2))] [.int (x4)] (I5, J, R, K, n) Q
    suffices KK : zV G (d + 1) mX12_areTwo kc ks 26 [(0, .ref (m)), (1, .int (p1)), (2, .int (p2))] [.int ((if x4 = 0 then 0 else (if p1 = p2 then 0 else 1)))] (I5, J, R, K, n) Q by
      refine zIf_eq 12 25 16 (by decide +kernel) rfl rfl ⟨fun q6 => ?_, fun q6 => ?_⟩
      · refine zIconst 0 0 26 (by decide +kernel) rfl (by decide) ?_
        exact zTop (by rw [if_pos q6]) KK
      · refine zIload_n 1 1 17 (by decide +kernel) rfl rfl ?_
        refine zIload_n 2 2 18 (by decide +kernel) rfl rfl ?_
        refine zIcmp_eq 7 25 21 (by decide +kernel) rfl rfl ⟨fun q7 => ?_, fun q7 => ?_⟩
        · refine zIconst 0 0 26 (by decide +kernel) rfl (by decide) ?_
          exact zTop (by rw [if_neg q6, if_pos q7]) KK
        · refine zIconst 1 1 22 (by decide +kernel) rfl (by decide) ?_
          refine zGoto 4 26 (by decide +kernel) rfl ?_
          exact zTop (by rw [if_neg q6, if_neg q7]) KK
    exact zZret .boolean rfl (zNarZ (zOrIte (Or.inl rfl) (zOrIte (Or.inl rfl) (Or.inr rfl)))) (by decide +kernel) F
set_option maxHeartbeats 2000000 in
theorem wX12_isOpen_0 {G : zG} {d kc ks : Nat} {I : Nat → Nat → Int32} {J : Nat → Nat → Int64} {R : Nat → Nat → Option Nat} {K : Nat → Nat × Nat} {n : Nat} {Q : Option Value → zH → Prop} (b : Nat) (hb : sA G K n b 32 231)  (p1 : Int32) (F : (((¬ (p1 < 0)) → (¬ (9 ≤ p1)) → vp_in ((3 * p1) + 2) 231) ∧ Q (some (.int ((if p1 < 0 then 0 else (if 9 ≤ p1 then 0 else (if (I b ((3 * p1) + 2 : Int32).toNatClampNeg : Int32) ≤ 0 then 0 else 1)))))) (I, J, R, K, n))) : zV G (d + 1) mX12_isOpen kc ks 0 [(0, .ref (b)), (1, .int (p1))] [] (I, J, R, K, n) Q := by
  refine zIload_n 1 1 1 (by decide +kernel) rfl rfl ?_
  obtain ⟨w3, F⟩ := F
  suffices KK : zV G (d + 1) mX12_isOpen kc ks 25 [(0, .ref (b)), (1, .int (p1))] [.int ((if p1 < 0 then 0 else (if 9 ≤ p1 then 0 else (if (I b ((3 * p1) + 2 : Int32).toNatClampNeg : Int32) ≤ 0 then 0 else 1))))] (I, J, R, K, n) Q by
    refine zIf_lt 23 24 4 (by decide +kernel) rfl rfl ⟨fun q1 => ?_, fun q1 => ?_⟩
    · refine zIconst 0 0 25 (by decide +kernel) rfl (by decide) ?_
      exact zTop (by rw [if_pos q1]) KK
    · refine zIload_n 1 1 5 (by decide +kernel) rfl rfl ?_
      refine zBipush 9 9 7 (by decide +kernel) rfl (by decide) ?_
      refine zIcmp_ge 17 24 10 (by decide +kernel) rfl rfl ⟨fun q2 => ?_, fun q2 => ?_⟩
      · refine zIconst 0 0 25 (by decide +kernel) rfl (by decide) ?_
        exact zTop (by rw [if_neg q1, if_pos q2]) KK
      · refine zAload_n 0 0 11 (by decide +kernel) rfl rfl ?_
        refine zIconst 3 3 12 (by decide +kernel) rfl (by decide) ?_
        refine zIload_n 1 1 13 (by decide +kernel) rfl rfl ?_
        refine zImul 14 (by decide +kernel) rfl ?_
        refine zIconst 2 2 15 (by decide +kernel) rfl (by decide) ?_
        refine zIadd 16 (by decide +kernel) rfl ?_
        refine yIaload 231 17 (by decide +kernel) rfl hb (w3 q1 q2) ?_
        refine zIf_le 7 24 20 (by decide +kernel) rfl rfl ⟨fun q4 => ?_, fun q4 => ?_⟩
        · refine zIconst 0 0 25 (by decide +kernel) rfl (by decide) ?_
          exact zTop (by rw [if_neg q1, if_neg q2, if_pos q4]) KK
        · refine zIconst 1 1 21 (by decide +kernel) rfl (by decide) ?_
          refine zGoto 4 25 (by decide +kernel) rfl ?_
          exact zTop (by rw [if_neg q1, if_neg q2, if_neg q4]) KK
  exact zZret .boolean rfl (zNarZ (zOrIte (Or.inl rfl) (zOrIte (Or.inl rfl) (zOrIte (Or.inl rfl) (Or.inr rfl))))) (by decide +kernel) F
set_option maxHeartbeats 2000000 in
theorem wX12_white_0 {G : zG} {d kc ks : Nat} {I : Nat → Nat → Int32} {J : Nat → Nat → Int64} {R : Nat → Nat → Option Nat} {K : Nat → Nat × Nat} {n : Nat} {Q : Option Value → zH → Prop} (b : Nat) (hb : sA G K n b 32 231)  (p1 : Int32) (F : ((vp_in ((27 + (3 * p1)) + 0) 231) ∧ ((vp_in ((27 + (3 * p1)) + 1) 231) ∧ Q (some (.int ((I b ((27 + (3 * p1)) + 0 : Int32).toNatClampNeg) + (I b ((27 + (3 * p1)) + 1 : Int32).toNatClampNeg)))) (I, J, R, K, n)))) : zV G (d + 1) mX12_white kc ks 0 [(0, .ref (b)), (1, .int (p1))] [] (I, J, R, K, n) Q := by
  refine zAload_n 0 0 1 (by decide +kernel) rfl rfl ?_
  refine zBipush 27 27 3 (by decide +kernel) rfl (by decide) ?_
  refine zIconst 3 3 4 (by decide +kernel) rfl (by decide) ?_
  refine zIload_n 1 1 5 (by decide +kernel) rfl rfl ?_
  refine zImul 6 (by decide +kernel) rfl ?_
  refine zIadd 7 (by decide +kernel) rfl ?_
  refine zIconst 0 0 8 (by decide +kernel) rfl (by decide) ?_
  refine zIadd 9 (by decide +kernel) rfl ?_
  obtain ⟨w1, F⟩ := F
  refine yIaload 231 10 (by decide +kernel) rfl hb (w1) ?_
  refine zAload_n 0 0 11 (by decide +kernel) rfl rfl ?_
  refine zBipush 27 27 13 (by decide +kernel) rfl (by decide) ?_
  refine zIconst 3 3 14 (by decide +kernel) rfl (by decide) ?_
  refine zIload_n 1 1 15 (by decide +kernel) rfl rfl ?_
  refine zImul 16 (by decide +kernel) rfl ?_
  refine zIadd 17 (by decide +kernel) rfl ?_
  refine zIconst 1 1 18 (by decide +kernel) rfl (by decide) ?_
  refine zIadd 19 (by decide +kernel) rfl ?_
  obtain ⟨w2, F⟩ := F
  refine yIaload 231 20 (by decide +kernel) rfl hb (w2) ?_
  refine zIadd 21 (by decide +kernel) rfl ?_
  exact zIret rfl (by decide +kernel) F
set_option maxHeartbeats 2000000 in
theorem wX12_bare_0 {G : zG} {d kc ks : Nat} {I : Nat → Nat → Int32} {J : Nat → Nat → Int64} {R : Nat → Nat → Option Nat} {K : Nat → Nat × Nat} {n : Nat} {Q : Option Value → zH → Prop} (m t c : Nat) (b : Nat) (hb : sA G K n b 32 231) (S0_ : hMod G R K n m t c) (p2 : Int32) (F : ((vp_in (2 * p2) 12) ∧ zC G d mX12_white 0 0 [.ref (b), .int (p2)] (I, J, R, K, n) (fun r h => ∃ (x2 : Int32) (I3 : Nat → Nat → Int32), r = some (.int x2) ∧ h = (I3, J, R, K, n) ∧ Q (some (.int ((I (m + 7) (2 * p2 : Int32).toNatClampNeg) - x2))) (I3, J, R, K, n)))) : zV G (d + 1) mX12_bare kc ks 0 [(0, .ref (m)), (1, .ref (b)), (2, .int (p2))] [] (I, J, R, K, n) Q := by
  refine zAload_n 0 0 1 (by decide +kernel) rfl rfl ?_
  refine gf12_20 43 4 (by decide +kernel) rfl flX12_43 (Mod_0 S0_) (Mod_13 S0_) ?_
  refine zIconst 2 2 5 (by decide +kernel) rfl (by decide) ?_
  refine zIload_n 2 2 6 (by decide +kernel) rfl rfl ?_
  refine zImul 7 (by decide +kernel) rfl ?_
  obtain ⟨w1, F⟩ := F
  refine yIaload 12 8 (by decide +kernel) rfl (Mod_14 S0_) (w1) ?_
  refine zAload_n 1 1 9 (by decide +kernel) rfl rfl ?_
  refine zIload_n 2 2 10 (by decide +kernel) rfl rfl ?_
  refine zCallS mX12_white 309 2 0 0 _ _ 13 [.ref (b), .int (p2)] [.int (I (m + 7) (2 * p2 : Int32).toNatClampNeg)] okX12_white mlX12_309 smX12_white (by decide +kernel) rfl rfl (Nat.le_of_ble_eq_true rfl) rfl rfl (zC.mono F ?_)
  rintro _ _ ⟨x2, I3, rfl, rfl, F⟩
  change zV G (d + 1) mX12_bare kc ks 13 [(0, .ref (m)), (1, .ref (b)), (2, .int (p2))] [.int (x2), .int (I (m + 7) (2 * p2 : Int32).toNatClampNeg)] (I3, J, R, K, n) Q
  refine zIsub 14 (by decide +kernel) rfl ?_
  exact zIret rfl (by decide +kernel) F
set_option maxHeartbeats 2000000 in
theorem wX12_worthOf_0 {G : zG} {d kc ks : Nat} {I : Nat → Nat → Int32} {J : Nat → Nat → Int64} {R : Nat → Nat → Option Nat} {K : Nat → Nat × Nat} {n : Nat} {Q : Option Value → zH → Prop} (m t c : Nat) (S0_ : hMod G R K n m t c) (p1 p2 p3 p4 p5 p6 : Int32) (F : ((vp_in ((((100000 * ((2000 * ((1000 * ((41 * ((10 * ((10 * (1 + ((I m 34 : Int32).toInt64))) + p1.toInt64)) + p2.toInt64)) + p4.toInt64)) + p5.toInt64)) + p6.toInt64)) + p3.toInt64) - ((100000 * ((2000 * ((1000 * ((41 * ((10 * ((10 * (1 + ((I m 34 : Int32).toInt64))) + p1.toInt64)) + p2.toInt64)) + p4.toInt64)) + p5.toInt64)) + p6.toInt64)) + p3.toInt64) / 8191 * 8191 : Int64).toInt32) 8191) ∧ (((lg_cmp (J (m + 15) ((((100000 * ((2000 * ((1000 * ((41 * ((10 * ((10 * (1 + ((I m 34 : Int32).toInt64))) + p1.toInt64)) + p2.toInt64)) + p4.toInt64)) + p5.toInt64)) + p6.toInt64)) + p3.toInt64) - ((100000 * ((2000 * ((1000 * ((41 * ((10 * ((10 * (1 + ((I m 34 : Int32).toInt64))) + p1.toInt64)) + p2.toInt64)) + p4.toInt64)) + p5.toInt64)) + p6.toInt64)) + p3.toInt64) / 8191 * 8191 : Int64).toInt32 : Int32).toNatClampNeg) ((100000 * ((2000 * ((1000 * ((41 * ((10 * ((10 * (1 + ((I m 34 : Int32).toInt64))) + p1.toInt64)) + p2.toInt64)) + p4.toInt64)) + p5.toInt64)) + p6.toInt64)) + p3.toInt64) : Int32) = 0 → ((vp_in ((((100000 * ((2000 * ((1000 * ((41 * ((10 * ((10 * (1 + ((I m 34 : Int32).toInt64))) + p1.toInt64)) + p2.toInt64)) + p4.toInt64)) + p5.toInt64)) + p6.toInt64)) + p3.toInt64) - ((100000 * ((2000 * ((1000 * ((41 * ((10 * ((10 * (1 + ((I m 34 : Int32).toInt64))) + p1.toInt64)) + p2.toInt64)) + p4.toInt64)) + p5.toInt64)) + p6.toInt64)) + p3.toInt64) / 8191 * 8191 : Int64).toInt32) 8191) ∧ Q (some (.int (I (m + 16) ((((100000 * ((2000 * ((1000 * ((41 * ((10 * ((10 * (1 + ((I m 34 : Int32).toInt64))) + p1.toInt64)) + p2.toInt64)) + p4.toInt64)) + p5.toInt64)) + p6.toInt64)) + p3.toInt64) - ((100000 * ((2000 * ((1000 * ((41 * ((10 * ((10 * (1 + ((I m 34 : Int32).toInt64))) + p1.toInt64)) + p2.toInt64)) + p4.toInt64)) + p5.toInt64)) + p6.toInt64)) + p3.toInt64) / 8191 * 8191 : Int64).toInt32 : Int32).toNatClampNeg))) (I, J, R, K, n))) ∧ (¬ ((lg_cmp (J (m + 15) ((((100000 * ((2000 * ((1000 * ((41 * ((10 * ((10 * (1 + ((I m 34 : Int32).toInt64))) + p1.toInt64)) + p2.toInt64)) + p4.toInt64)) + p5.toInt64)) + p6.toInt64)) + p3.toInt64) - ((100000 * ((2000 * ((1000 * ((41 * ((10 * ((10 * (1 + ((I m 34 : Int32).toInt64))) + p1.toInt64)) + p2.toInt64)) + p4.toInt64)) + p5.toInt64)) + p6.toInt64)) + p3.toInt64) / 8191 * 8191 : Int64).toInt32 : Int32).toNatClampNeg) ((100000 * ((2000 * ((1000 * ((41 * ((10 * ((10 * (1 + ((I m 34 : Int32).toInt64))) + p1.toInt64)) + p2.toInt64)) + p4.toInt64)) + p5.toInt64)) + p6.toInt64)) + p3.toInt64) : Int32) = 0) → (vp_in 107 128 ∧ ∀ I3 : Nat → Nat → Int32, I3 = zU I (m + 4) (107 : Int32).toNatClampNeg (p1) → (vp_in 103 128 ∧ ∀ I4 : Nat → Nat → Int32, I4 = zU I3 (m + 4) (103 : Int32).toNatClampNeg (p2) → (vp_in 110 128 ∧ ∀ I5 : Nat → Nat → Int32, I5 = zU I4 (m + 4) (110 : Int32).toNatClampNeg (p3) → (vp_in 98 128 ∧ ∀ I6 : Nat → Nat → Int32, I6 = zU I5 (m + 4) (98 : Int32).toNatClampNeg (p4) → (vp_in 108 128 ∧ ∀ I7 : Nat → Nat → Int32, I7 = zU I6 (m + 4) (108 : Int32).toNatClampNeg (p5) → (vp_in 100 128 ∧ ∀ I8 : Nat → Nat → Int32, I8 = zU I7 (m + 4) (100 : Int32).toNatClampNeg (p6) → ((vp_in (I8 m 34) 4) ∧ zC G d mX12_goThrough 0 0 [.ref (m), .ref (m + 2), .int (240 * (I8 m 34)), .int (I8 (m + 3) (I8 m 34 : Int32).toNatClampNeg)] (I8, J, R, K, n) (fun r h => ∃ (I10 : Nat → Nat → Int32) (J11 : Nat → Nat → Int64) (R12 : Nat → Nat → Option Nat), r = none ∧ h = (I10, J11, R12, K, n) ∧ ∃ u13 u14 : Nat, hMod G R12 K n m u13 u14 ∧ (vp_in ((((100000 * ((2000 * ((1000 * ((41 * ((10 * ((10 * (1 + ((I m 34 : Int32).toInt64))) + p1.toInt64)) + p2.toInt64)) + p4.toInt64)) + p5.toInt64)) + p6.toInt64)) + p3.toInt64) - ((100000 * ((2000 * ((1000 * ((41 * ((10 * ((10 * (1 + ((I m 34 : Int32).toInt64))) + p1.toInt64)) + p2.toInt64)) + p4.toInt64)) + p5.toInt64)) + p6.toInt64)) + p3.toInt64) / 8191 * 8191 : Int64).toInt32) 8191 ∧ ∀ J16 : Nat → Nat → Int64, J16 = zU J11 (m + 15) ((((100000 * ((2000 * ((1000 * ((41 * ((10 * ((10 * (1 + ((I m 34 : Int32).toInt64))) + p1.toInt64)) + p2.toInt64)) + p4.toInt64)) + p5.toInt64)) + p6.toInt64)) + p3.toInt64) - ((100000 * ((2000 * ((1000 * ((41 * ((10 * ((10 * (1 + ((I m 34 : Int32).toInt64))) + p1.toInt64)) + p2.toInt64)) + p4.toInt64)) + p5.toInt64)) + p6.toInt64)) + p3.toInt64) / 8191 * 8191 : Int64).toInt32 : Int32).toNatClampNeg ((100000 * ((2000 * ((1000 * ((41 * ((10 * ((10 * (1 + ((I m 34 : Int32).toInt64))) + p1.toInt64)) + p2.toInt64)) + p4.toInt64)) + p5.toInt64)) + p6.toInt64)) + p3.toInt64) → (vp_in ((((100000 * ((2000 * ((1000 * ((41 * ((10 * ((10 * (1 + ((I m 34 : Int32).toInt64))) + p1.toInt64)) + p2.toInt64)) + p4.toInt64)) + p5.toInt64)) + p6.toInt64)) + p3.toInt64) - ((100000 * ((2000 * ((1000 * ((41 * ((10 * ((10 * (1 + ((I m 34 : Int32).toInt64))) + p1.toInt64)) + p2.toInt64)) + p4.toInt64)) + p5.toInt64)) + p6.toInt64)) + p3.toInt64) / 8191 * 8191 : Int64).toInt32) 8191 ∧ ∀ I17 : Nat → Nat → Int32, I17 = zU I10 (m + 16) ((((100000 * ((2000 * ((1000 * ((41 * ((10 * ((10 * (1 + ((I m 34 : Int32).toInt64))) + p1.toInt64)) + p2.toInt64)) + p4.toInt64)) + p5.toInt64)) + p6.toInt64)) + p3.toInt64) - ((100000 * ((2000 * ((1000 * ((41 * ((10 * ((10 * (1 + ((I m 34 : Int32).toInt64))) + p1.toInt64)) + p2.toInt64)) + p4.toInt64)) + p5.toInt64)) + p6.toInt64)) + p3.toInt64) / 8191 * 8191 : Int64).toInt32 : Int32).toNatClampNeg (I10 m 14) → Q (some (.int (I17 m 14))) (I17, J16, R12, K, n))))))))))))))) : zV G (d + 1) mX12_worthOf kc ks 0 [(0, .ref (m)), (1, .int (p1)), (2, .int (p2)), (3, .int (p3)), (4, .int (p4)), (5, .int (p5)), (6, .int (p6))] [] (I, J, R, K, n) Q := by
  refine zLconst 1 1 1 (by decide +kernel) rfl (by decide) ?_
  refine zAload_n 0 0 2 (by decide +kernel) rfl rfl ?_
  refine gf12_34 67 5 (by decide +kernel) rfl flX12_67 (Mod_0 S0_) ?_
  refine zI2l 6 (by decide +kernel) rfl ?_
  refine zLadd 7 (by decide +kernel) rfl ?_
  refine zLstore 7 [(7, .long (1 + ((I m 34 : Int32).toInt64))), (0, .ref (m)), (1, .int (p1)), (2, .int (p2)), (3, .int (p3)), (4, .int (p4)), (5, .int (p5)), (6, .int (p6))] 9 (by decide +kernel) rfl (by decide) rfl ?_
  refine zLdc2 313 10 12 (by decide +kernel) rfl klX12_313 ?_
  refine zLload 7 0 14 (by decide +kernel) rfl rfl ?_
  refine zLmul 15 (by decide +kernel) rfl ?_
  refine zIload_n 1 2 16 (by decide +kernel) rfl rfl ?_
  refine zI2l 17 (by decide +kernel) rfl ?_
  refine zLadd 18 (by decide +kernel) rfl ?_
  refine zLstore 7 [(7, .long ((10 * (1 + ((I m 34 : Int32).toInt64))) + p1.toInt64)), (0, .ref (m)), (1, .int (p1)), (2, .int (p2)), (3, .int (p3)), (4, .int (p4)), (5, .int (p5)), (6, .int (p6))] 20 (by decide +kernel) rfl (by decide) rfl ?_
  refine zLdc2 313 10 23 (by decide +kernel) rfl klX12_313 ?_
  refine zLload 7 0 25 (by decide +kernel) rfl rfl ?_
  refine zLmul 26 (by decide +kernel) rfl ?_
  refine zIload_n 2 3 27 (by decide +kernel) rfl rfl ?_
  refine zI2l 28 (by decide +kernel) rfl ?_
  refine zLadd 29 (by decide +kernel) rfl ?_
  refine zLstore 7 [(7, .long ((10 * ((10 * (1 + ((I m 34 : Int32).toInt64))) + p1.toInt64)) + p2.toInt64)), (0, .ref (m)), (1, .int (p1)), (2, .int (p2)), (3, .int (p3)), (4, .int (p4)), (5, .int (p5)), (6, .int (p6))] 31 (by decide +kernel) rfl (by decide) rfl ?_
  refine zLdc2 315 41 34 (by decide +kernel) rfl klX12_315 ?_
  refine zLload 7 0 36 (by decide +kernel) rfl rfl ?_
  refine zLmul 37 (by decide +kernel) rfl ?_
  refine zIload 4 5 39 (by decide +kernel) rfl rfl ?_
  refine zI2l 40 (by decide +kernel) rfl ?_
  refine zLadd 41 (by decide +kernel) rfl ?_
  refine zLstore 7 [(7, .long ((41 * ((10 * ((10 * (1 + ((I m 34 : Int32).toInt64))) + p1.toInt64)) + p2.toInt64)) + p4.toInt64)), (0, .ref (m)), (1, .int (p1)), (2, .int (p2)), (3, .int (p3)), (4, .int (p4)), (5, .int (p5)), (6, .int (p6))] 43 (by decide +kernel) rfl (by decide) rfl ?_
  refine zLdc2 317 1000 46 (by decide +kernel) rfl klX12_317 ?_
  refine zLload 7 0 48 (by decide +kernel) rfl rfl ?_
  refine zLmul 49 (by decide +kernel) rfl ?_
  refine zIload 5 6 51 (by decide +kernel) rfl rfl ?_
  refine zI2l 52 (by decide +kernel) rfl ?_
  refine zLadd 53 (by decide +kernel) rfl ?_
  refine zLstore 7 [(7, .long ((1000 * ((41 * ((10 * ((10 * (1 + ((I m 34 : Int32).toInt64))) + p1.toInt64)) + p2.toInt64)) + p4.toInt64)) + p5.toInt64)), (0, .ref (m)), (1, .int (p1)), (2, .int (p2)), (3, .int (p3)), (4, .int (p4)), (5, .int (p5)), (6, .int (p6))] 55 (by decide +kernel) rfl (by decide) rfl ?_
  refine zLdc2 319 2000 58 (by decide +kernel) rfl klX12_319 ?_
  refine zLload 7 0 60 (by decide +kernel) rfl rfl ?_
  refine zLmul 61 (by decide +kernel) rfl ?_
  refine zIload 6 7 63 (by decide +kernel) rfl rfl ?_
  refine zI2l 64 (by decide +kernel) rfl ?_
  refine zLadd 65 (by decide +kernel) rfl ?_
  refine zLstore 7 [(7, .long ((2000 * ((1000 * ((41 * ((10 * ((10 * (1 + ((I m 34 : Int32).toInt64))) + p1.toInt64)) + p2.toInt64)) + p4.toInt64)) + p5.toInt64)) + p6.toInt64)), (0, .ref (m)), (1, .int (p1)), (2, .int (p2)), (3, .int (p3)), (4, .int (p4)), (5, .int (p5)), (6, .int (p6))] 67 (by decide +kernel) rfl (by decide) rfl ?_
  refine zLdc2 321 100000 70 (by decide +kernel) rfl klX12_321 ?_
  refine zLload 7 0 72 (by decide +kernel) rfl rfl ?_
  refine zLmul 73 (by decide +kernel) rfl ?_
  refine zIload_n 3 4 74 (by decide +kernel) rfl rfl ?_
  refine zI2l 75 (by decide +kernel) rfl ?_
  refine zLadd 76 (by decide +kernel) rfl ?_
  refine zLstore 7 [(7, .long ((100000 * ((2000 * ((1000 * ((41 * ((10 * ((10 * (1 + ((I m 34 : Int32).toInt64))) + p1.toInt64)) + p2.toInt64)) + p4.toInt64)) + p5.toInt64)) + p6.toInt64)) + p3.toInt64)), (0, .ref (m)), (1, .int (p1)), (2, .int (p2)), (3, .int (p3)), (4, .int (p4)), (5, .int (p5)), (6, .int (p6))] 78 (by decide +kernel) rfl (by decide) rfl ?_
  refine zLload 7 0 80 (by decide +kernel) rfl rfl ?_
  refine zLdc2 323 8191 83 (by decide +kernel) rfl klX12_323 ?_
  refine zLrem 84 (by decide +kernel) rfl (by decide) ?_
  refine zL2i 85 (by decide +kernel) rfl ?_
  refine zIstore 9 [(9, .int ((((100000 * ((2000 * ((1000 * ((41 * ((10 * ((10 * (1 + ((I m 34 : Int32).toInt64))) + p1.toInt64)) + p2.toInt64)) + p4.toInt64)) + p5.toInt64)) + p6.toInt64)) + p3.toInt64) - ((100000 * ((2000 * ((1000 * ((41 * ((10 * ((10 * (1 + ((I m 34 : Int32).toInt64))) + p1.toInt64)) + p2.toInt64)) + p4.toInt64)) + p5.toInt64)) + p6.toInt64)) + p3.toInt64) / 8191 * 8191 : Int64).toInt32)), (7, .long ((100000 * ((2000 * ((1000 * ((41 * ((10 * ((10 * (1 + ((I m 34 : Int32).toInt64))) + p1.toInt64)) + p2.toInt64)) + p4.toInt64)) + p5.toInt64)) + p6.toInt64)) + p3.toInt64)), (0, .ref (m)), (1, .int (p1)), (2, .int (p2)), (3, .int (p3)), (4, .int (p4)), (5, .int (p5)), (6, .int (p6))] 87 (by decide +kernel) rfl (by decide) rfl ?_
  refine zAload_n 0 2 88 (by decide +kernel) rfl rfl ?_
  refine gf12_36 74 91 (by decide +kernel) rfl flX12_74 (Mod_0 S0_) (Mod_29 S0_) ?_
  refine zIload 9 0 93 (by decide +kernel) rfl rfl ?_
  obtain ⟨w1, F⟩ := F
  refine yLaload 8191 94 (by decide +kernel) rfl (Mod_30 S0_) (w1) ?_
  refine zLload 7 1 96 (by decide +kernel) rfl rfl ?_
  refine zLcmp 97 (by decide +kernel) rfl ?_
  refine zIf_ne 11 108 100 (by decide +kernel) rfl rfl ⟨fun q2 => ?_, fun q2 => ?_⟩
  · replace F := F.2 q2
    refine zAload_n 0 2 109 (by decide +kernel) rfl rfl ?_
    refine gf12_4 20 112 (by decide +kernel) rfl flX12_20 (Mod_0 S0_) (Mod_7 S0_) ?_
    refine zBipush 107 107 114 (by decide +kernel) rfl (by decide) ?_
    refine zIload_n 1 3 115 (by decide +kernel) rfl rfl ?_
    refine yIastore 128 116 (by decide +kernel) rfl (Mod_8 S0_) F.1 ?_
    replace F := F.2 _ rfl
    generalize zU I (m + 4) (107 : Int32).toNatClampNeg (p1) = I3 at F ⊢
    refine zAload_n 0 2 117 (by decide +kernel) rfl rfl ?_
    refine gf12_4 20 120 (by decide +kernel) rfl flX12_20 (Mod_0 S0_) (Mod_7 S0_) ?_
    refine zBipush 103 103 122 (by decide +kernel) rfl (by decide) ?_
    refine zIload_n 2 4 123 (by decide +kernel) rfl rfl ?_
    refine yIastore 128 124 (by decide +kernel) rfl (Mod_8 S0_) F.1 ?_
    replace F := F.2 _ rfl
    generalize zU I3 (m + 4) (103 : Int32).toNatClampNeg (p2) = I4 at F ⊢
    refine zAload_n 0 2 125 (by decide +kernel) rfl rfl ?_
    refine gf12_4 20 128 (by decide +kernel) rfl flX12_20 (Mod_0 S0_) (Mod_7 S0_) ?_
    refine zBipush 110 110 130 (by decide +kernel) rfl (by decide) ?_
    refine zIload_n 3 5 131 (by decide +kernel) rfl rfl ?_
    refine yIastore 128 132 (by decide +kernel) rfl (Mod_8 S0_) F.1 ?_
    replace F := F.2 _ rfl
    generalize zU I4 (m + 4) (110 : Int32).toNatClampNeg (p3) = I5 at F ⊢
    refine zAload_n 0 2 133 (by decide +kernel) rfl rfl ?_
    refine gf12_4 20 136 (by decide +kernel) rfl flX12_20 (Mod_0 S0_) (Mod_7 S0_) ?_
    refine zBipush 98 98 138 (by decide +kernel) rfl (by decide) ?_
    refine zIload 4 6 140 (by decide +kernel) rfl rfl ?_
    refine yIastore 128 141 (by decide +kernel) rfl (Mod_8 S0_) F.1 ?_
    replace F := F.2 _ rfl
    generalize zU I5 (m + 4) (98 : Int32).toNatClampNeg (p4) = I6 at F ⊢
    refine zAload_n 0 2 142 (by decide +kernel) rfl rfl ?_
    refine gf12_4 20 145 (by decide +kernel) rfl flX12_20 (Mod_0 S0_) (Mod_7 S0_) ?_
    refine zBipush 108 108 147 (by decide +kernel) rfl (by decide) ?_
    refine zIload 5 7 149 (by decide +kernel) rfl rfl ?_
    refine yIastore 128 150 (by decide +kernel) rfl (Mod_8 S0_) F.1 ?_
    replace F := F.2 _ rfl
    generalize zU I6 (m + 4) (108 : Int32).toNatClampNeg (p5) = I7 at F ⊢
    refine zAload_n 0 2 151 (by decide +kernel) rfl rfl ?_
    refine gf12_4 20 154 (by decide +kernel) rfl flX12_20 (Mod_0 S0_) (Mod_7 S0_) ?_
    refine zBipush 100 100 156 (by decide +kernel) rfl (by decide) ?_
    refine zIload 6 8 158 (by decide +kernel) rfl rfl ?_
    refine yIastore 128 159 (by decide +kernel) rfl (Mod_8 S0_) F.1 ?_
    replace F := F.2 _ rfl
    generalize zU I7 (m + 4) (100 : Int32).toNatClampNeg (p6) = I8 at F ⊢
    refine zAload_n 0 2 160 (by decide +kernel) rfl rfl ?_
    refine zAload_n 0 2 161 (by decide +kernel) rfl rfl ?_
    refine gf12_2 13 164 (by decide +kernel) rfl flX12_13 (Mod_0 S0_) (Mod_3 S0_) ?_
    refine zSipush 240 240 167 (by decide +kernel) rfl (by decide) ?_
    refine zAload_n 0 2 168 (by decide +kernel) rfl rfl ?_
    refine gf12_34 67 171 (by decide +kernel) rfl flX12_67 (Mod_0 S0_) ?_
    refine zImul 172 (by decide +kernel) rfl ?_
    refine zAload_n 0 2 173 (by decide +kernel) rfl rfl ?_
    refine gf12_3 16 176 (by decide +kernel) rfl flX12_16 (Mod_0 S0_) (Mod_5 S0_) ?_
    refine zAload_n 0 2 177 (by decide +kernel) rfl rfl ?_
    refine gf12_34 67 180 (by decide +kernel) rfl flX12_67 (Mod_0 S0_) ?_
    obtain ⟨w9, F⟩ := F
    refine yIaload 4 181 (by decide +kernel) rfl (Mod_6 S0_) (w9) ?_
    refine zCallV 12 zcls12 mX12_goThrough 277 3 0 0 _ _ 184 [.ref (m + 2), .int (240 * (I8 m 34)), .int (I8 (m + 3) (I8 m 34 : Int32).toNatClampNeg)] [] okX12_goThrough mlX12_277 imX12_goThrough seX12_goThrough (by decide +kernel) rfl rfl (Nat.le_of_ble_eq_true rfl) rfl rfl (Mod_0 S0_) (zC.mono F ?_)
    rintro _ _ ⟨I10, J11, R12, rfl, rfl, F⟩
    change zV G (d + 1) mX12_worthOf kc ks 184 [(9, .int ((((100000 * ((2000 * ((1000 * ((41 * ((10 * ((10 * (1 + ((I m 34 : Int32).toInt64))) + p1.toInt64)) + p2.toInt64)) + p4.toInt64)) + p5.toInt64)) + p6.toInt64)) + p3.toInt64) - ((100000 * ((2000 * ((1000 * ((41 * ((10 * ((10 * (1 + ((I m 34 : Int32).toInt64))) + p1.toInt64)) + p2.toInt64)) + p4.toInt64)) + p5.toInt64)) + p6.toInt64)) + p3.toInt64) / 8191 * 8191 : Int64).toInt32)), (7, .long ((100000 * ((2000 * ((1000 * ((41 * ((10 * ((10 * (1 + ((I m 34 : Int32).toInt64))) + p1.toInt64)) + p2.toInt64)) + p4.toInt64)) + p5.toInt64)) + p6.toInt64)) + p3.toInt64)), (0, .ref (m)), (1, .int (p1)), (2, .int (p2)), (3, .int (p3)), (4, .int (p4)), (5, .int (p5)), (6, .int (p6))] [] (I10, J11, R12, K, n) Q
    obtain ⟨u13, u14, S15, F⟩ := F
    refine zAload_n 0 2 185 (by decide +kernel) rfl rfl ?_
    refine gf12_36 74 188 (by decide +kernel) rfl flX12_74 (Mod_0 S15) (Mod_29 S15) ?_
    refine zIload 9 0 190 (by decide +kernel) rfl rfl ?_
    refine zLload 7 1 192 (by decide +kernel) rfl rfl ?_
    refine yLastore 8191 193 (by decide +kernel) rfl (Mod_30 S15) F.1 ?_
    replace F := F.2 _ rfl
    generalize zU J11 (m + 15) ((((100000 * ((2000 * ((1000 * ((41 * ((10 * ((10 * (1 + ((I m 34 : Int32).toInt64))) + p1.toInt64)) + p2.toInt64)) + p4.toInt64)) + p5.toInt64)) + p6.toInt64)) + p3.toInt64) - ((100000 * ((2000 * ((1000 * ((41 * ((10 * ((10 * (1 + ((I m 34 : Int32).toInt64))) + p1.toInt64)) + p2.toInt64)) + p4.toInt64)) + p5.toInt64)) + p6.toInt64)) + p3.toInt64) / 8191 * 8191 : Int64).toInt32 : Int32).toNatClampNeg ((100000 * ((2000 * ((1000 * ((41 * ((10 * ((10 * (1 + ((I m 34 : Int32).toInt64))) + p1.toInt64)) + p2.toInt64)) + p4.toInt64)) + p5.toInt64)) + p6.toInt64)) + p3.toInt64) = J16 at F ⊢
    refine zAload_n 0 2 194 (by decide +kernel) rfl rfl ?_
    refine gf12_37 78 197 (by decide +kernel) rfl flX12_78 (Mod_0 S15) (Mod_31 S15) ?_
    refine zIload 9 0 199 (by decide +kernel) rfl rfl ?_
    refine zAload_n 0 2 200 (by decide +kernel) rfl rfl ?_
    refine gf12_14 201 203 (by decide +kernel) rfl flX12_201 (Mod_0 S15) ?_
    refine yIastore 8191 204 (by decide +kernel) rfl (Mod_32 S15) F.1 ?_
    replace F := F.2 _ rfl
    generalize zU I10 (m + 16) ((((100000 * ((2000 * ((1000 * ((41 * ((10 * ((10 * (1 + ((I m 34 : Int32).toInt64))) + p1.toInt64)) + p2.toInt64)) + p4.toInt64)) + p5.toInt64)) + p6.toInt64)) + p3.toInt64) - ((100000 * ((2000 * ((1000 * ((41 * ((10 * ((10 * (1 + ((I m 34 : Int32).toInt64))) + p1.toInt64)) + p2.toInt64)) + p4.toInt64)) + p5.toInt64)) + p6.toInt64)) + p3.toInt64) / 8191 * 8191 : Int64).toInt32 : Int32).toNatClampNeg (I10 m 14) = I17 at F ⊢
    refine zAload_n 0 2 205 (by decide +kernel) rfl rfl ?_
    refine gf12_14 201 208 (by decide +kernel) rfl flX12_201 (Mod_0 S15) ?_
    exact zIret rfl (by decide +kernel) F
  · replace F := F.1 q2
    refine zAload_n 0 2 101 (by decide +kernel) rfl rfl ?_
    refine gf12_37 78 104 (by decide +kernel) rfl flX12_78 (Mod_0 S0_) (Mod_31 S0_) ?_
    refine zIload 9 0 106 (by decide +kernel) rfl rfl ?_
    obtain ⟨w18, F⟩ := F
    refine yIaload 8191 107 (by decide +kernel) rfl (Mod_32 S0_) (w18) ?_
    exact zIret rfl (by decide +kernel) F
set_option maxHeartbeats 2000000 in
theorem wX12_yardsBy_0 {G : zG} {d kc ks : Nat} {I : Nat → Nat → Int32} {J : Nat → Nat → Int64} {R : Nat → Nat → Option Nat} {K : Nat → Nat × Nat} {n : Nat} {Q : Option Value → zH → Prop} (m t c : Nat) (S0_ : hMod G R K n m t c) (p1 p2 p3 p4 p5 p6 : Int32) (F : ((vp_in ((2 * p2) + 1) 12) ∧ (((I m 34 : Int32) = (-1) → Q (some (.int ((if ((if (0 : Int32) < (if (((2 * p1) + 1) - ((I (m + 7) ((2 * p2) + 1 : Int32).toNatClampNeg) / 3) : Int32) < 40 then ((2 * p1) + 1) - ((I (m + 7) ((2 * p2) + 1 : Int32).toNatClampNeg) / 3) else 40) then (if (((2 * p1) + 1) - ((I (m + 7) ((2 * p2) + 1 : Int32).toNatClampNeg) / 3) : Int32) < 40 then ((2 * p1) + 1) - ((I (m + 7) ((2 * p2) + 1 : Int32).toNatClampNeg) / 3) else 40) else 0) : Int32) < (if (p5 : Int32) < p4 then p5 else p4) then (if (0 : Int32) < (if (((2 * p1) + 1) - ((I (m + 7) ((2 * p2) + 1 : Int32).toNatClampNeg) / 3) : Int32) < 40 then ((2 * p1) + 1) - ((I (m + 7) ((2 * p2) + 1 : Int32).toNatClampNeg) / 3) else 40) then (if (((2 * p1) + 1) - ((I (m + 7) ((2 * p2) + 1 : Int32).toNatClampNeg) / 3) : Int32) < 40 then ((2 * p1) + 1) - ((I (m + 7) ((2 * p2) + 1 : Int32).toNatClampNeg) / 3) else 40) else 0) else (if (p5 : Int32) < p4 then p5 else p4))))) (I, J, R, K, n)) ∧ (¬ ((I m 34 : Int32) = (-1)) → zC G d mX12_worthOf 0 0 [.ref (m), .int (p1), .int (I (m + 7) ((2 * p2) + 1 : Int32).toNatClampNeg), .int (p3), .int (p4), .int (p5), .int (p6)] (I, J, R, K, n) (fun r h => ∃ (x3 : Int32) (I4 : Nat → Nat → Int32) (J5 : Nat → Nat → Int64) (R6 : Nat → Nat → Option Nat), r = some (.int x3) ∧ h = (I4, J5, R6, K, n) ∧ ∃ u7 u8 : Nat, hMod G R6 K n m u7 u8 ∧ Q (some (.int ((if ((if (0 : Int32) < (if (x3 : Int32) < 40 then x3 else 40) then (if (x3 : Int32) < 40 then x3 else 40) else 0) : Int32) < (if (p5 : Int32) < p4 then p5 else p4) then (if (0 : Int32) < (if (x3 : Int32) < 40 then x3 else 40) then (if (x3 : Int32) < 40 then x3 else 40) else 0) else (if (p5 : Int32) < p4 then p5 else p4))))) (I4, J5, R6, K, n)))))) : zV G (d + 1) mX12_yardsBy kc ks 0 [(0, .ref (m)), (1, .int (p1)), (2, .int (p2)), (3, .int (p3)), (4, .int (p4)), (5, .int (p5)), (6, .int (p6))] [] (I, J, R, K, n) Q := by
  refine zAload_n 0 0 1 (by decide +kernel) rfl rfl ?_
  refine gf12_20 43 4 (by decide +kernel) rfl flX12_43 (Mod_0 S0_) (Mod_13 S0_) ?_
  refine zIconst 2 2 5 (by decide +kernel) rfl (by decide) ?_
  refine zIload_n 2 2 6 (by decide +kernel) rfl rfl ?_
  refine zImul 7 (by decide +kernel) rfl ?_
  refine zIconst 1 1 8 (by decide +kernel) rfl (by decide) ?_
  refine zIadd 9 (by decide +kernel) rfl ?_
  obtain ⟨w1, F⟩ := F
  refine yIaload 12 10 (by decide +kernel) rfl (Mod_14 S0_) (w1) ?_
  refine zIstore 7 [(7, .int (I (m + 7) ((2 * p2) + 1 : Int32).toNatClampNeg)), (0, .ref (m)), (1, .int (p1)), (2, .int (p2)), (3, .int (p3)), (4, .int (p4)), (5, .int (p5)), (6, .int (p6))] 12 (by decide +kernel) rfl (by decide) rfl ?_
  refine zIconst 2 2 13 (by decide +kernel) rfl (by decide) ?_
  refine zIload_n 1 2 14 (by decide +kernel) rfl rfl ?_
  refine zImul 15 (by decide +kernel) rfl ?_
  refine zIconst 1 1 16 (by decide +kernel) rfl (by decide) ?_
  refine zIadd 17 (by decide +kernel) rfl ?_
  refine zIload 7 0 19 (by decide +kernel) rfl rfl ?_
  refine zIconst 3 3 20 (by decide +kernel) rfl (by decide) ?_
  refine zIdiv 21 (by decide +kernel) rfl (by decide) ?_
  refine zIsub 22 (by decide +kernel) rfl ?_
  refine zIstore 8 [(8, .int (((2 * p1) + 1) - ((I (m + 7) ((2 * p2) + 1 : Int32).toNatClampNeg) / 3))), (7, .int (I (m + 7) ((2 * p2) + 1 : Int32).toNatClampNeg)), (0, .ref (m)), (1, .int (p1)), (2, .int (p2)), (3, .int (p3)), (4, .int (p4)), (5, .int (p5)), (6, .int (p6))] 24 (by decide +kernel) rfl (by decide) rfl ?_
  refine zAload_n 0 2 25 (by decide +kernel) rfl rfl ?_
  refine gf12_34 67 28 (by decide +kernel) rfl flX12_67 (Mod_0 S0_) ?_
  refine zIconst (-1) (-1) 29 (by decide +kernel) rfl (by decide) ?_
  refine zIcmp_eq 19 48 32 (by decide +kernel) rfl rfl ⟨fun q2 => ?_, fun q2 => ?_⟩
  · replace F := F.1 q2
    refine zIload 4 6 50 (by decide +kernel) rfl rfl ?_
    refine zIload 5 7 52 (by decide +kernel) rfl rfl ?_
    refine yMin 329 55 (by decide +kernel) rfl mlX12_329 (Nat.le_of_ble_eq_true rfl) ?_
    refine zIconst 0 0 56 (by decide +kernel) rfl (by decide) ?_
    refine zBipush 40 40 58 (by decide +kernel) rfl (by decide) ?_
    refine zIload 8 0 60 (by decide +kernel) rfl rfl ?_
    refine yMin 329 63 (by decide +kernel) rfl mlX12_329 (Nat.le_of_ble_eq_true rfl) ?_
    refine yMax 331 66 (by decide +kernel) rfl mlX12_331 (Nat.le_of_ble_eq_true rfl) ?_
    refine yMin 329 69 (by decide +kernel) rfl mlX12_329 (Nat.le_of_ble_eq_true rfl) ?_
    exact zIret rfl (by decide +kernel) F
  · replace F := F.2 q2
    refine zAload_n 0 2 33 (by decide +kernel) rfl rfl ?_
    refine zIload_n 1 3 34 (by decide +kernel) rfl rfl ?_
    refine zIload 7 1 36 (by decide +kernel) rfl rfl ?_
    refine zIload_n 3 5 37 (by decide +kernel) rfl rfl ?_
    refine zIload 4 6 39 (by decide +kernel) rfl rfl ?_
    refine zIload 5 7 41 (by decide +kernel) rfl rfl ?_
    refine zIload 6 8 43 (by decide +kernel) rfl rfl ?_
    refine zCallV 12 zcls12 mX12_worthOf 325 6 0 0 _ _ 46 [.int (p1), .int (I (m + 7) ((2 * p2) + 1 : Int32).toNatClampNeg), .int (p3), .int (p4), .int (p5), .int (p6)] [] okX12_worthOf mlX12_325 imX12_worthOf seX12_worthOf (by decide +kernel) rfl rfl (Nat.le_of_ble_eq_true rfl) rfl rfl (Mod_0 S0_) (zC.mono F ?_)
    rintro _ _ ⟨x3, I4, J5, R6, rfl, rfl, F⟩
    change zV G (d + 1) mX12_yardsBy kc ks 46 [(8, .int (((2 * p1) + 1) - ((I (m + 7) ((2 * p2) + 1 : Int32).toNatClampNeg) / 3))), (7, .int (I (m + 7) ((2 * p2) + 1 : Int32).toNatClampNeg)), (0, .ref (m)), (1, .int (p1)), (2, .int (p2)), (3, .int (p3)), (4, .int (p4)), (5, .int (p5)), (6, .int (p6))] [.int (x3)] (I4, J5, R6, K, n) Q
    obtain ⟨u7, u8, S9, F⟩ := F
    refine zIstore 8 [(8, .int (x3)), (7, .int (I (m + 7) ((2 * p2) + 1 : Int32).toNatClampNeg)), (0, .ref (m)), (1, .int (p1)), (2, .int (p2)), (3, .int (p3)), (4, .int (p4)), (5, .int (p5)), (6, .int (p6))] 48 (by decide +kernel) rfl (by decide) rfl ?_
    refine zIload 4 6 50 (by decide +kernel) rfl rfl ?_
    refine zIload 5 7 52 (by decide +kernel) rfl rfl ?_
    refine yMin 329 55 (by decide +kernel) rfl mlX12_329 (Nat.le_of_ble_eq_true rfl) ?_
    refine zIconst 0 0 56 (by decide +kernel) rfl (by decide) ?_
    refine zBipush 40 40 58 (by decide +kernel) rfl (by decide) ?_
    refine zIload 8 0 60 (by decide +kernel) rfl rfl ?_
    refine yMin 329 63 (by decide +kernel) rfl mlX12_329 (Nat.le_of_ble_eq_true rfl) ?_
    refine yMax 331 66 (by decide +kernel) rfl mlX12_331 (Nat.le_of_ble_eq_true rfl) ?_
    refine yMin 329 69 (by decide +kernel) rfl mlX12_329 (Nat.le_of_ble_eq_true rfl) ?_
    exact zIret rfl (by decide +kernel) F
set_option maxHeartbeats 2000000 in
theorem wX12_yardsOf_0 {G : zG} {d kc ks : Nat} {I : Nat → Nat → Int32} {J : Nat → Nat → Int64} {R : Nat → Nat → Option Nat} {K : Nat → Nat × Nat} {n : Nat} {Q : Option Value → zH → Prop} (m t c : Nat) (b : Nat) (hb : sA G K n b 32 231) (S0_ : hMod G R K n m t c) (p2 : Int32) (F : ((vp_in (3 * p2) 231) ∧ ((vp_in ((3 * p2) + 1) 231) ∧ ((vp_in ((3 * p2) + 2) 231) ∧ ((vp_in ((27 + (3 * (I b (3 * p2 : Int32).toNatClampNeg))) + 2) 231) ∧ zC G d mX12_bare 0 0 [.ref (m), .ref (b), .int (I b ((3 * p2) + 1 : Int32).toNatClampNeg)] (I, J, R, K, n) (fun r h => ∃ (x5 : Int32) (I6 : Nat → Nat → Int32), r = some (.int x5) ∧ h = (I6, J, R, K, n) ∧ ((vp_in 47 231) ∧ ((vp_in 49 231) ∧ zC G d mX12_yardsBy 0 0 [.ref (m), .int (I b ((3 * p2) + 2 : Int32).toNatClampNeg), .int (I b ((3 * p2) + 1 : Int32).toNatClampNeg), .int (I b ((27 + (3 * (I b (3 * p2 : Int32).toNatClampNeg))) + 2 : Int32).toNatClampNeg), .int (x5), .int (I6 b (47 : Int32).toNatClampNeg), .int (I6 b (49 : Int32).toNatClampNeg)] (I6, J, R, K, n) (fun r h => ∃ (x9 : Int32) (I10 : Nat → Nat → Int32) (J11 : Nat → Nat → Int64) (R12 : Nat → Nat → Option Nat), r = some (.int x9) ∧ h = (I10, J11, R12, K, n) ∧ ∃ u13 u14 : Nat, hMod G R12 K n m u13 u14 ∧ Q (some (.int (x9))) (I10, J11, R12, K, n)))))))))) : zV G (d + 1) mX12_yardsOf kc ks 0 [(0, .ref (m)), (1, .ref (b)), (2, .int (p2))] [] (I, J, R, K, n) Q := by
  refine zAload_n 1 1 1 (by decide +kernel) rfl rfl ?_
  refine zIconst 3 3 2 (by decide +kernel) rfl (by decide) ?_
  refine zIload_n 2 2 3 (by decide +kernel) rfl rfl ?_
  refine zImul 4 (by decide +kernel) rfl ?_
  obtain ⟨w1, F⟩ := F
  refine yIaload 231 5 (by decide +kernel) rfl hb (w1) ?_
  refine zIstore_n 3 [(3, .int (I b (3 * p2 : Int32).toNatClampNeg)), (0, .ref (m)), (1, .ref (b)), (2, .int (p2))] 6 (by decide +kernel) rfl (by decide) rfl ?_
  refine zAload_n 1 2 7 (by decide +kernel) rfl rfl ?_
  refine zIconst 3 3 8 (by decide +kernel) rfl (by decide) ?_
  refine zIload_n 2 3 9 (by decide +kernel) rfl rfl ?_
  refine zImul 10 (by decide +kernel) rfl ?_
  refine zIconst 1 1 11 (by decide +kernel) rfl (by decide) ?_
  refine zIadd 12 (by decide +kernel) rfl ?_
  obtain ⟨w2, F⟩ := F
  refine yIaload 231 13 (by decide +kernel) rfl hb (w2) ?_
  refine zIstore 4 [(4, .int (I b ((3 * p2) + 1 : Int32).toNatClampNeg)), (3, .int (I b (3 * p2 : Int32).toNatClampNeg)), (0, .ref (m)), (1, .ref (b)), (2, .int (p2))] 15 (by decide +kernel) rfl (by decide) rfl ?_
  refine zAload_n 0 2 16 (by decide +kernel) rfl rfl ?_
  refine zAload_n 1 3 17 (by decide +kernel) rfl rfl ?_
  refine zIconst 3 3 18 (by decide +kernel) rfl (by decide) ?_
  refine zIload_n 2 4 19 (by decide +kernel) rfl rfl ?_
  refine zImul 20 (by decide +kernel) rfl ?_
  refine zIconst 2 2 21 (by decide +kernel) rfl (by decide) ?_
  refine zIadd 22 (by decide +kernel) rfl ?_
  obtain ⟨w3, F⟩ := F
  refine yIaload 231 23 (by decide +kernel) rfl hb (w3) ?_
  refine zIload 4 0 25 (by decide +kernel) rfl rfl ?_
  refine zAload_n 1 3 26 (by decide +kernel) rfl rfl ?_
  refine zBipush 27 27 28 (by decide +kernel) rfl (by decide) ?_
  refine zIconst 3 3 29 (by decide +kernel) rfl (by decide) ?_
  refine zIload_n 3 1 30 (by decide +kernel) rfl rfl ?_
  refine zImul 31 (by decide +kernel) rfl ?_
  refine zIadd 32 (by decide +kernel) rfl ?_
  refine zIconst 2 2 33 (by decide +kernel) rfl (by decide) ?_
  refine zIadd 34 (by decide +kernel) rfl ?_
  obtain ⟨w4, F⟩ := F
  refine yIaload 231 35 (by decide +kernel) rfl hb (w4) ?_
  refine zAload_n 0 2 36 (by decide +kernel) rfl rfl ?_
  refine zAload_n 1 3 37 (by decide +kernel) rfl rfl ?_
  refine zIload 4 0 39 (by decide +kernel) rfl rfl ?_
  refine zCallV 12 zcls12 mX12_bare 333 2 0 0 _ _ 42 [.ref (b), .int (I b ((3 * p2) + 1 : Int32).toNatClampNeg)] [.int (I b ((27 + (3 * (I b (3 * p2 : Int32).toNatClampNeg))) + 2 : Int32).toNatClampNeg), .int (I b ((3 * p2) + 1 : Int32).toNatClampNeg), .int (I b ((3 * p2) + 2 : Int32).toNatClampNeg), .ref (m)] okX12_bare mlX12_333 imX12_bare seX12_bare (by decide +kernel) rfl rfl (Nat.le_of_ble_eq_true rfl) rfl rfl (Mod_0 S0_) (zC.mono F ?_)
  rintro _ _ ⟨x5, I6, rfl, rfl, F⟩
  change zV G (d + 1) mX12_yardsOf kc ks 42 [(4, .int (I b ((3 * p2) + 1 : Int32).toNatClampNeg)), (3, .int (I b (3 * p2 : Int32).toNatClampNeg)), (0, .ref (m)), (1, .ref (b)), (2, .int (p2))] [.int (x5), .int (I b ((27 + (3 * (I b (3 * p2 : Int32).toNatClampNeg))) + 2 : Int32).toNatClampNeg), .int (I b ((3 * p2) + 1 : Int32).toNatClampNeg), .int (I b ((3 * p2) + 2 : Int32).toNatClampNeg), .ref (m)] (I6, J, R, K, n) Q
  refine zAload_n 1 3 43 (by decide +kernel) rfl rfl ?_
  refine zBipush 47 47 45 (by decide +kernel) rfl (by decide) ?_
  obtain ⟨w7, F⟩ := F
  refine yIaload 231 46 (by decide +kernel) rfl hb (w7) ?_
  refine zAload_n 1 3 47 (by decide +kernel) rfl rfl ?_
  refine zBipush 49 49 49 (by decide +kernel) rfl (by decide) ?_
  obtain ⟨w8, F⟩ := F
  refine yIaload 231 50 (by decide +kernel) rfl hb (w8) ?_
  refine zCallV 12 zcls12 mX12_yardsBy 336 6 0 0 _ _ 53 [.int (I b ((3 * p2) + 2 : Int32).toNatClampNeg), .int (I b ((3 * p2) + 1 : Int32).toNatClampNeg), .int (I b ((27 + (3 * (I b (3 * p2 : Int32).toNatClampNeg))) + 2 : Int32).toNatClampNeg), .int (x5), .int (I6 b (47 : Int32).toNatClampNeg), .int (I6 b (49 : Int32).toNatClampNeg)] [] okX12_yardsBy mlX12_336 imX12_yardsBy seX12_yardsBy (by decide +kernel) rfl rfl (Nat.le_of_ble_eq_true rfl) rfl rfl (Mod_0 S0_) (zC.mono F ?_)
  rintro _ _ ⟨x9, I10, J11, R12, rfl, rfl, F⟩
  change zV G (d + 1) mX12_yardsOf kc ks 53 [(4, .int (I b ((3 * p2) + 1 : Int32).toNatClampNeg)), (3, .int (I b (3 * p2 : Int32).toNatClampNeg)), (0, .ref (m)), (1, .ref (b)), (2, .int (p2))] [.int (x9)] (I10, J11, R12, K, n) Q
  obtain ⟨u13, u14, S15, F⟩ := F
  exact zIret rfl (by decide +kernel) F
set_option maxHeartbeats 2000000 in
theorem wX12_forgives_0 {G : zG} {d kc ks : Nat} {I : Nat → Nat → Int32} {J : Nat → Nat → Int64} {R : Nat → Nat → Option Nat} {K : Nat → Nat × Nat} {n : Nat} {Q : Option Value → zH → Prop} (m t c : Nat) (b : Nat) (hb : sA G K n b 32 231) (S0_ : hMod G R K n m t c) (p2 : Int32) (F : zC G d mX12_yardsOf 0 0 [.ref (m), .ref (b), .int (p2)] (I, J, R, K, n) (fun r h => ∃ (x1 : Int32) (I2 : Nat → Nat → Int32) (J3 : Nat → Nat → Int64) (R4 : Nat → Nat → Option Nat), r = some (.int x1) ∧ h = (I2, J3, R4, K, n) ∧ ∃ u5 u6 : Nat, hMod G R4 K n m u5 u6 ∧ ((vp_in ((3 * p2) + 1) 231) ∧ ((vp_in ((27 + (3 * (I2 b ((3 * p2) + 1 : Int32).toNatClampNeg))) + 0) 231) ∧ (vp_in ((27 + (3 * (I2 b ((3 * p2) + 1 : Int32).toNatClampNeg))) + 0) 231 ∧ ∀ I10 : Nat → Nat → Int32, I10 = zU I2 b ((27 + (3 * (I2 b ((3 * p2) + 1 : Int32).toNatClampNeg))) + 0 : Int32).toNatClampNeg ((I2 b ((27 + (3 * (I2 b ((3 * p2) + 1 : Int32).toNatClampNeg))) + 0 : Int32).toNatClampNeg) + x1) → ((vp_in (3 * p2) 231) ∧ ((vp_in ((27 + (3 * (I10 b (3 * p2 : Int32).toNatClampNeg))) + 2) 231) ∧ (vp_in ((27 + (3 * (I10 b (3 * p2 : Int32).toNatClampNeg))) + 2) 231 ∧ ∀ I13 : Nat → Nat → Int32, I13 = zU I10 b ((27 + (3 * (I10 b (3 * p2 : Int32).toNatClampNeg))) + 2 : Int32).toNatClampNeg ((I10 b ((27 + (3 * (I10 b (3 * p2 : Int32).toNatClampNeg))) + 2 : Int32).toNatClampNeg) + 1) → ((vp_in 47 231) ∧ (vp_in 47 231 ∧ ∀ I15 : Nat → Nat → Int32, I15 = zU I13 b (47 : Int32).toNatClampNeg ((I13 b (47 : Int32).toNatClampNeg) - x1) → ((vp_in 45 231) ∧ (vp_in 45 231 ∧ ∀ I17 : Nat → Nat → Int32, I17 = zU I15 b (45 : Int32).toNatClampNeg ((if ((I15 b (45 : Int32).toNatClampNeg) + 1 : Int32) < 999 then (I15 b (45 : Int32).toNatClampNeg) + 1 else 999)) → zV G (d + 1) mX12_forgives kc ks 72 [(0, .ref (m)), (1, .ref (b)), (2, .int (p2)), (3, .int (x1)), (4, .int (0))] [] (I17, J3, R4, K, n) Q)))))))))))) : zV G (d + 1) mX12_forgives kc ks 0 [(0, .ref (m)), (1, .ref (b)), (2, .int (p2))] [] (I, J, R, K, n) Q := by
  refine zAload_n 0 0 1 (by decide +kernel) rfl rfl ?_
  refine zAload_n 1 1 2 (by decide +kernel) rfl rfl ?_
  refine zIload_n 2 2 3 (by decide +kernel) rfl rfl ?_
  refine zCallV 12 zcls12 mX12_yardsOf 339 2 0 0 _ _ 6 [.ref (b), .int (p2)] [] okX12_yardsOf mlX12_339 imX12_yardsOf seX12_yardsOf (by decide +kernel) rfl rfl (Nat.le_of_ble_eq_true rfl) rfl rfl (Mod_0 S0_) (zC.mono F ?_)
  rintro _ _ ⟨x1, I2, J3, R4, rfl, rfl, F⟩
  change zV G (d + 1) mX12_forgives kc ks 6 [(0, .ref (m)), (1, .ref (b)), (2, .int (p2))] [.int (x1)] (I2, J3, R4, K, n) Q
  obtain ⟨u5, u6, S7, F⟩ := F
  refine zIstore_n 3 [(3, .int (x1)), (0, .ref (m)), (1, .ref (b)), (2, .int (p2))] 7 (by decide +kernel) rfl (by decide) rfl ?_
  refine zAload_n 1 2 8 (by decide +kernel) rfl rfl ?_
  refine zBipush 27 27 10 (by decide +kernel) rfl (by decide) ?_
  refine zIconst 3 3 11 (by decide +kernel) rfl (by decide) ?_
  refine zAload_n 1 2 12 (by decide +kernel) rfl rfl ?_
  refine zIconst 3 3 13 (by decide +kernel) rfl (by decide) ?_
  refine zIload_n 2 3 14 (by decide +kernel) rfl rfl ?_
  refine zImul 15 (by decide +kernel) rfl ?_
  refine zIconst 1 1 16 (by decide +kernel) rfl (by decide) ?_
  refine zIadd 17 (by decide +kernel) rfl ?_
  obtain ⟨w8, F⟩ := F
  refine yIaload 231 18 (by decide +kernel) rfl hb (w8) ?_
  refine zImul 19 (by decide +kernel) rfl ?_
  refine zIadd 20 (by decide +kernel) rfl ?_
  refine zIconst 0 0 21 (by decide +kernel) rfl (by decide) ?_
  refine zIadd 22 (by decide +kernel) rfl ?_
  refine zDup2 23 (by decide +kernel) rfl rfl rfl ?_
  obtain ⟨w9, F⟩ := F
  refine yIaload 231 24 (by decide +kernel) rfl hb (w9) ?_
  refine zIload_n 3 0 25 (by decide +kernel) rfl rfl ?_
  refine zIadd 26 (by decide +kernel) rfl ?_
  refine yIastore 231 27 (by decide +kernel) rfl hb F.1 ?_
  replace F := F.2 _ rfl
  generalize zU I2 b ((27 + (3 * (I2 b ((3 * p2) + 1 : Int32).toNatClampNeg))) + 0 : Int32).toNatClampNeg ((I2 b ((27 + (3 * (I2 b ((3 * p2) + 1 : Int32).toNatClampNeg))) + 0 : Int32).toNatClampNeg) + x1) = I10 at F ⊢
  refine zAload_n 1 2 28 (by decide +kernel) rfl rfl ?_
  refine zBipush 27 27 30 (by decide +kernel) rfl (by decide) ?_
  refine zIconst 3 3 31 (by decide +kernel) rfl (by decide) ?_
  refine zAload_n 1 2 32 (by decide +kernel) rfl rfl ?_
  refine zIconst 3 3 33 (by decide +kernel) rfl (by decide) ?_
  refine zIload_n 2 3 34 (by decide +kernel) rfl rfl ?_
  refine zImul 35 (by decide +kernel) rfl ?_
  obtain ⟨w11, F⟩ := F
  refine yIaload 231 36 (by decide +kernel) rfl hb (w11) ?_
  refine zImul 37 (by decide +kernel) rfl ?_
  refine zIadd 38 (by decide +kernel) rfl ?_
  refine zIconst 2 2 39 (by decide +kernel) rfl (by decide) ?_
  refine zIadd 40 (by decide +kernel) rfl ?_
  refine zDup2 41 (by decide +kernel) rfl rfl rfl ?_
  obtain ⟨w12, F⟩ := F
  refine yIaload 231 42 (by decide +kernel) rfl hb (w12) ?_
  refine zIconst 1 1 43 (by decide +kernel) rfl (by decide) ?_
  refine zIadd 44 (by decide +kernel) rfl ?_
  refine yIastore 231 45 (by decide +kernel) rfl hb F.1 ?_
  replace F := F.2 _ rfl
  generalize zU I10 b ((27 + (3 * (I10 b (3 * p2 : Int32).toNatClampNeg))) + 2 : Int32).toNatClampNeg ((I10 b ((27 + (3 * (I10 b (3 * p2 : Int32).toNatClampNeg))) + 2 : Int32).toNatClampNeg) + 1) = I13 at F ⊢
  refine zAload_n 1 2 46 (by decide +kernel) rfl rfl ?_
  refine zBipush 47 47 48 (by decide +kernel) rfl (by decide) ?_
  refine zDup2 49 (by decide +kernel) rfl rfl rfl ?_
  obtain ⟨w14, F⟩ := F
  refine yIaload 231 50 (by decide +kernel) rfl hb (w14) ?_
  refine zIload_n 3 0 51 (by decide +kernel) rfl rfl ?_
  refine zIsub 52 (by decide +kernel) rfl ?_
  refine yIastore 231 53 (by decide +kernel) rfl hb F.1 ?_
  replace F := F.2 _ rfl
  generalize zU I13 b (47 : Int32).toNatClampNeg ((I13 b (47 : Int32).toNatClampNeg) - x1) = I15 at F ⊢
  refine zAload_n 1 2 54 (by decide +kernel) rfl rfl ?_
  refine zBipush 45 45 56 (by decide +kernel) rfl (by decide) ?_
  refine zSipush 999 999 59 (by decide +kernel) rfl (by decide) ?_
  refine zAload_n 1 2 60 (by decide +kernel) rfl rfl ?_
  refine zBipush 45 45 62 (by decide +kernel) rfl (by decide) ?_
  obtain ⟨w16, F⟩ := F
  refine yIaload 231 63 (by decide +kernel) rfl hb (w16) ?_
  refine zIconst 1 1 64 (by decide +kernel) rfl (by decide) ?_
  refine zIadd 65 (by decide +kernel) rfl ?_
  refine yMin 329 68 (by decide +kernel) rfl mlX12_329 (Nat.le_of_ble_eq_true rfl) ?_
  refine yIastore 231 69 (by decide +kernel) rfl hb F.1 ?_
  replace F := F.2 _ rfl
  generalize zU I15 b (45 : Int32).toNatClampNeg ((if ((I15 b (45 : Int32).toNatClampNeg) + 1 : Int32) < 999 then (I15 b (45 : Int32).toNatClampNeg) + 1 else 999)) = I17 at F ⊢
  refine zIconst 0 0 70 (by decide +kernel) rfl (by decide) ?_
  refine zIstore 4 [(4, .int (0)), (3, .int (x1)), (0, .ref (m)), (1, .ref (b)), (2, .int (p2))] 72 (by decide +kernel) rfl (by decide) rfl ?_
  exact zLoc [2, 3, 4, 1, 0] _ rfl F
set_option maxHeartbeats 2000000 in
theorem wX12_forgives_72 {G : zG} {d kc ks : Nat} {I : Nat → Nat → Int32} {J : Nat → Nat → Int64} {R : Nat → Nat → Option Nat} {K : Nat → Nat × Nat} {n : Nat} {Q : Option Value → zH → Prop} (m u5 u6 : Nat) (b : Nat) (hb : sA G K n b 32 231) (S7 : hMod G R K n m u5 u6) (l2 l3 l4 : Int32) (F : ((3 ≤ l4 → Q (some (.int (l3))) (I, J, R, K, n)) ∧ (¬ (3 ≤ l4) → (vp_in ((3 * l2) + l4) 231 ∧ ∀ I19 : Nat → Nat → Int32, I19 = zU I b ((3 * l2) + l4 : Int32).toNatClampNeg (0) → zV G (d + 1) mX12_forgives kc ks 72 [(0, .ref (m)), (1, .ref (b)), (2, .int (l2)), (3, .int (l3)), (4, .int (l4 + 1))] [] (I19, J, R, K, n) Q)))) : zV G (d + 1) mX12_forgives kc ks 72 [(0, .ref (m)), (1, .ref (b)), (2, .int (l2)), (3, .int (l3)), (4, .int (l4))] [] (I, J, R, K, n) Q := by
  refine zIload 4 4 74 (by decide +kernel) rfl rfl ?_
  refine zIconst 3 3 75 (by decide +kernel) rfl (by decide) ?_
  refine zIcmp_ge 18 93 78 (by decide +kernel) rfl rfl ⟨fun q18 => ?_, fun q18 => ?_⟩
  · replace F := F.1 q18
    refine zIload_n 3 3 94 (by decide +kernel) rfl rfl ?_
    exact zIret rfl (by decide +kernel) F
  · replace F := F.2 q18
    refine zAload_n 1 1 79 (by decide +kernel) rfl rfl ?_
    refine zIconst 3 3 80 (by decide +kernel) rfl (by decide) ?_
    refine zIload_n 2 2 81 (by decide +kernel) rfl rfl ?_
    refine zImul 82 (by decide +kernel) rfl ?_
    refine zIload 4 4 84 (by decide +kernel) rfl rfl ?_
    refine zIadd 85 (by decide +kernel) rfl ?_
    refine zIconst 0 0 86 (by decide +kernel) rfl (by decide) ?_
    refine yIastore 231 87 (by decide +kernel) rfl hb F.1 ?_
    replace F := F.2 _ rfl
    generalize zU I b ((3 * l2) + l4 : Int32).toNatClampNeg (0) = I19 at F ⊢
    refine zIinc 4 1 4 (l4 + 1) [(4, .int (l4 + 1)), (0, .ref (m)), (1, .ref (b)), (2, .int (l2)), (3, .int (l3))] 90 (by decide +kernel) rfl rfl (by rfl) (by decide) rfl ?_
    refine zGoto (-18) 72 (by decide +kernel) rfl ?_
    exact zLoc [1, 2, 3, 4, 0] _ rfl F
set_option maxHeartbeats 2000000 in
theorem wX12_canPaint_0 {G : zG} {d kc ks : Nat} {I : Nat → Nat → Int32} {J : Nat → Nat → Int64} {R : Nat → Nat → Option Nat} {K : Nat → Nat × Nat} {n : Nat} {Q : Option Value → zH → Prop} (m t c : Nat) (b : Nat) (hb : sA G K n b 32 231) (S0_ : hMod G R K n m t c) (p2 p3 : Int32) (F : zC G d mX12_isFarm 0 0 [.ref (m), .int (p2)] (I, J, R, K, n) (fun r h => ∃ (x1 : Int32) (I2 : Nat → Nat → Int32), r = some (.int x1) ∧ h = (I2, J, R, K, n) ∧ ((x1 = 0 → Q (some (.int (0))) (I2, J, R, K, n)) ∧ (¬ (x1 = 0) → zC G d mX12_isIn 0 0 [.long (p3.toInt64), .long (1), .long (9)] (I2, J, R, K, n) (fun r h => ∃ (x4 : Int32) (I5 : Nat → Nat → Int32), r = some (.int x4) ∧ h = (I5, J, R, K, n) ∧ ((x4 = 0 → Q (some (.int (0))) (I5, J, R, K, n)) ∧ (¬ (x4 = 0) → ((vp_in 47 231) ∧ (((I5 b (47 : Int32).toNatClampNeg : Int32) < p3 → Q (some (.int (0))) (I5, J, R, K, n)) ∧ (¬ ((I5 b (47 : Int32).toNatClampNeg : Int32) < p3) → zC G d mX12_bare 0 0 [.ref (m), .ref (b), .int (p2)] (I5, J, R, K, n) (fun r h => ∃ (x9 : Int32) (I10 : Nat → Nat → Int32), r = some (.int x9) ∧ h = (I10, J, R, K, n) ∧ Q (some (.int ((if x9 < p3 then 0 else 1)))) (I10, J, R, K, n)))))))))))) : zV G (d + 1) mX12_canPaint kc ks 0 [(0, .ref (m)), (1, .ref (b)), (2, .int (p2)), (3, .int (p3))] [] (I, J, R, K, n) Q := by
  refine zAload_n 0 0 1 (by decide +kernel) rfl rfl ?_
  refine zIload_n 2 2 2 (by decide +kernel) rfl rfl ?_
  refine zCallV 12 zcls12 mX12_isFarm 306 1 0 0 _ _ 5 [.int (p2)] [] okX12_isFarm mlX12_306 imX12_isFarm seX12_isFarm (by decide +kernel) rfl rfl (Nat.le_of_ble_eq_true rfl) rfl rfl (Mod_0 S0_) (zC.mono F ?_)
  rintro _ _ ⟨x1, I2, rfl, rfl, F⟩
  change zV G (d + 1) mX12_canPaint kc ks 5 [(0, .ref (m)), (1, .ref (b)), (2, .int (p2)), (3, .int (p3))] [.int (x1)] (I2, J, R, K, n) Q
  refine zIf_eq 37 42 8 (by decide +kernel) rfl rfl ⟨fun q3 => ?_, fun q3 => ?_⟩
  · replace F := F.1 q3
    refine zIconst 0 0 43 (by decide +kernel) rfl (by decide) ?_
    exact zZret .boolean rfl (zNarZ (Or.inl rfl)) (by decide +kernel) F
  · replace F := F.2 q3
    refine zIload_n 3 3 9 (by decide +kernel) rfl rfl ?_
    refine zI2l 10 (by decide +kernel) rfl ?_
    refine zLconst 1 1 11 (by decide +kernel) rfl (by decide) ?_
    refine zLdc2 342 9 14 (by decide +kernel) rfl klX12_342 ?_
    refine zCallS mX12_isIn 214 3 0 0 _ _ 17 [.long (p3.toInt64), .long (1), .long (9)] [] okX12_isIn mlX12_214 smX12_isIn (by decide +kernel) rfl rfl (Nat.le_of_ble_eq_true rfl) rfl rfl (zC.mono F ?_)
    rintro _ _ ⟨x4, I5, rfl, rfl, F⟩
    change zV G (d + 1) mX12_canPaint kc ks 17 [(0, .ref (m)), (1, .ref (b)), (2, .int (p2)), (3, .int (p3))] [.int (x4)] (I5, J, R, K, n) Q
    refine zIf_eq 25 42 20 (by decide +kernel) rfl rfl ⟨fun q6 => ?_, fun q6 => ?_⟩
    · replace F := F.1 q6
      refine zIconst 0 0 43 (by decide +kernel) rfl (by decide) ?_
      exact zZret .boolean rfl (zNarZ (Or.inl rfl)) (by decide +kernel) F
    · replace F := F.2 q6
      refine zAload_n 1 1 21 (by decide +kernel) rfl rfl ?_
      refine zBipush 47 47 23 (by decide +kernel) rfl (by decide) ?_
      obtain ⟨w7, F⟩ := F
      refine yIaload 231 24 (by decide +kernel) rfl hb (w7) ?_
      refine zIload_n 3 3 25 (by decide +kernel) rfl rfl ?_
      refine zIcmp_lt 17 42 28 (by decide +kernel) rfl rfl ⟨fun q8 => ?_, fun q8 => ?_⟩
      · replace F := F.1 q8
        refine zIconst 0 0 43 (by decide +kernel) rfl (by decide) ?_
        exact zZret .boolean rfl (zNarZ (Or.inl rfl)) (by decide +kernel) F
      · replace F := F.2 q8
        refine zAload_n 0 0 29 (by decide +kernel) rfl rfl ?_
        refine zAload_n 1 1 30 (by decide +kernel) rfl rfl ?_
        refine zIload_n 2 2 31 (by decide +kernel) rfl rfl ?_
        refine zCallV 12 zcls12 mX12_bare 333 2 0 0 _ _ 34 [.ref (b), .int (p2)] [] okX12_bare mlX12_333 imX12_bare seX12_bare (by decide +kernel) rfl rfl (Nat.le_of_ble_eq_true rfl) rfl rfl (Mod_0 S0_) (zC.mono F ?_)
        rintro _ _ ⟨x9, I10, rfl, rfl, F⟩
        change zV G (d + 1) mX12_canPaint kc ks 34 [(0, .ref (m)), (1, .ref (b)), (2, .int (p2)), (3, .int (p3))] [.int (x9)] (I10, J, R, K, n) Q
        refine zIload_n 3 3 35 (by decide +kernel) rfl rfl ?_
        suffices KK : zV G (d + 1) mX12_canPaint kc ks 43 [(0, .ref (m)), (1, .ref (b)), (2, .int (p2)), (3, .int (p3))] [.int ((if x9 < p3 then 0 else 1))] (I10, J, R, K, n) Q by
          refine zIcmp_lt 7 42 38 (by decide +kernel) rfl rfl ⟨fun q11 => ?_, fun q11 => ?_⟩
          · refine zIconst 0 0 43 (by decide +kernel) rfl (by decide) ?_
            exact zTop (by rw [if_pos q11]) KK
          · refine zIconst 1 1 39 (by decide +kernel) rfl (by decide) ?_
            refine zGoto 4 43 (by decide +kernel) rfl ?_
            exact zTop (by rw [if_neg q11]) KK
        exact zZret .boolean rfl (zNarZ (zOrIte (Or.inl rfl) (Or.inr rfl))) (by decide +kernel) F
set_option maxHeartbeats 2000000 in
theorem wX12_paints_0 {G : zG} {d kc ks : Nat} {I : Nat → Nat → Int32} {J : Nat → Nat → Int64} {R : Nat → Nat → Option Nat} {K : Nat → Nat × Nat} {n : Nat} {Q : Option Value → zH → Prop} (b : Nat) (hb : sA G K n b 32 231)  (p1 p2 : Int32) (F : ((vp_in ((27 + (3 * p1)) + 1) 231) ∧ (vp_in ((27 + (3 * p1)) + 1) 231 ∧ ∀ I2 : Nat → Nat → Int32, I2 = zU I b ((27 + (3 * p1)) + 1 : Int32).toNatClampNeg ((I b ((27 + (3 * p1)) + 1 : Int32).toNatClampNeg) + p2) → ((vp_in 47 231) ∧ (vp_in 47 231 ∧ ∀ I4 : Nat → Nat → Int32, I4 = zU I2 b (47 : Int32).toNatClampNeg ((I2 b (47 : Int32).toNatClampNeg) - p2) → Q none (I4, J, R, K, n)))))) : zV G (d + 1) mX12_paints kc ks 0 [(0, .ref (b)), (1, .int (p1)), (2, .int (p2))] [] (I, J, R, K, n) Q := by
  refine zAload_n 0 0 1 (by decide +kernel) rfl rfl ?_
  refine zBipush 27 27 3 (by decide +kernel) rfl (by decide) ?_
  refine zIconst 3 3 4 (by decide +kernel) rfl (by decide) ?_
  refine zIload_n 1 1 5 (by decide +kernel) rfl rfl ?_
  refine zImul 6 (by decide +kernel) rfl ?_
  refine zIadd 7 (by decide +kernel) rfl ?_
  refine zIconst 1 1 8 (by decide +kernel) rfl (by decide) ?_
  refine zIadd 9 (by decide +kernel) rfl ?_
  refine zDup2 10 (by decide +kernel) rfl rfl rfl ?_
  obtain ⟨w1, F⟩ := F
  refine yIaload 231 11 (by decide +kernel) rfl hb (w1) ?_
  refine zIload_n 2 2 12 (by decide +kernel) rfl rfl ?_
  refine zIadd 13 (by decide +kernel) rfl ?_
  refine yIastore 231 14 (by decide +kernel) rfl hb F.1 ?_
  replace F := F.2 _ rfl
  generalize zU I b ((27 + (3 * p1)) + 1 : Int32).toNatClampNeg ((I b ((27 + (3 * p1)) + 1 : Int32).toNatClampNeg) + p2) = I2 at F ⊢
  refine zAload_n 0 0 15 (by decide +kernel) rfl rfl ?_
  refine zBipush 47 47 17 (by decide +kernel) rfl (by decide) ?_
  refine zDup2 18 (by decide +kernel) rfl rfl rfl ?_
  obtain ⟨w3, F⟩ := F
  refine yIaload 231 19 (by decide +kernel) rfl hb (w3) ?_
  refine zIload_n 2 2 20 (by decide +kernel) rfl rfl ?_
  refine zIsub 21 (by decide +kernel) rfl ?_
  refine yIastore 231 22 (by decide +kernel) rfl hb F.1 ?_
  replace F := F.2 _ rfl
  generalize zU I2 b (47 : Int32).toNatClampNeg ((I2 b (47 : Int32).toNatClampNeg) - p2) = I4 at F ⊢
  exact zVret rfl (by decide +kernel) F
set_option maxHeartbeats 2000000 in
theorem wX12_canInspect_0 {G : zG} {d kc ks : Nat} {I : Nat → Nat → Int32} {J : Nat → Nat → Int64} {R : Nat → Nat → Option Nat} {K : Nat → Nat × Nat} {n : Nat} {Q : Option Value → zH → Prop} (m t c : Nat) (b : Nat) (hb : sA G K n b 32 231) (S0_ : hMod G R K n m t c) (p2 : Int32) (F : zC G d mX12_isFarm 0 0 [.ref (m), .int (p2)] (I, J, R, K, n) (fun r h => ∃ (x1 : Int32) (I2 : Nat → Nat → Int32), r = some (.int x1) ∧ h = (I2, J, R, K, n) ∧ (((¬ (x1 = 0)) → vp_in ((27 + (3 * p2)) + 1) 231) ∧ Q (some (.int ((if x1 = 0 then 0 else (if (I2 b ((27 + (3 * p2)) + 1 : Int32).toNatClampNeg : Int32) ≤ 0 then 0 else 1))))) (I2, J, R, K, n)))) : zV G (d + 1) mX12_canInspect kc ks 0 [(0, .ref (m)), (1, .ref (b)), (2, .int (p2))] [] (I, J, R, K, n) Q := by
  refine zAload_n 0 0 1 (by decide +kernel) rfl rfl ?_
  refine zIload_n 2 2 2 (by decide +kernel) rfl rfl ?_
  refine zCallV 12 zcls12 mX12_isFarm 306 1 0 0 _ _ 5 [.int (p2)] [] okX12_isFarm mlX12_306 imX12_isFarm seX12_isFarm (by decide +kernel) rfl rfl (Nat.le_of_ble_eq_true rfl) rfl rfl (Mod_0 S0_) (zC.mono F ?_)
  rintro _ _ ⟨x1, I2, rfl, rfl, F⟩
  change zV G (d + 1) mX12_canInspect kc ks 5 [(0, .ref (m)), (1, .ref (b)), (2, .int (p2))] [.int (x1)] (I2, J, R, K, n) Q
  obtain ⟨w4, F⟩ := F
  suffices KK : zV G (d + 1) mX12_canInspect kc ks 26 [(0, .ref (m)), (1, .ref (b)), (2, .int (p2))] [.int ((if x1 = 0 then 0 else (if (I2 b ((27 + (3 * p2)) + 1 : Int32).toNatClampNeg : Int32) ≤ 0 then 0 else 1)))] (I2, J, R, K, n) Q by
    refine zIf_eq 20 25 8 (by decide +kernel) rfl rfl ⟨fun q3 => ?_, fun q3 => ?_⟩
    · refine zIconst 0 0 26 (by decide +kernel) rfl (by decide) ?_
      exact zTop (by rw [if_pos q3]) KK
    · refine zAload_n 1 1 9 (by decide +kernel) rfl rfl ?_
      refine zBipush 27 27 11 (by decide +kernel) rfl (by decide) ?_
      refine zIconst 3 3 12 (by decide +kernel) rfl (by decide) ?_
      refine zIload_n 2 2 13 (by decide +kernel) rfl rfl ?_
      refine zImul 14 (by decide +kernel) rfl ?_
      refine zIadd 15 (by decide +kernel) rfl ?_
      refine zIconst 1 1 16 (by decide +kernel) rfl (by decide) ?_
      refine zIadd 17 (by decide +kernel) rfl ?_
      refine yIaload 231 18 (by decide +kernel) rfl hb (w4 q3) ?_
      refine zIf_le 7 25 21 (by decide +kernel) rfl rfl ⟨fun q5 => ?_, fun q5 => ?_⟩
      · refine zIconst 0 0 26 (by decide +kernel) rfl (by decide) ?_
        exact zTop (by rw [if_neg q3, if_pos q5]) KK
      · refine zIconst 1 1 22 (by decide +kernel) rfl (by decide) ?_
        refine zGoto 4 26 (by decide +kernel) rfl ?_
        exact zTop (by rw [if_neg q3, if_neg q5]) KK
  exact zZret .boolean rfl (zNarZ (zOrIte (Or.inl rfl) (zOrIte (Or.inl rfl) (Or.inr rfl)))) (by decide +kernel) F
set_option maxHeartbeats 2000000 in
theorem wX12_inspects_0 {G : zG} {d kc ks : Nat} {I : Nat → Nat → Int32} {J : Nat → Nat → Int64} {R : Nat → Nat → Option Nat} {K : Nat → Nat × Nat} {n : Nat} {Q : Option Value → zH → Prop} (b : Nat) (hb : sA G K n b 32 231)  (p1 : Int32) (F : ((vp_in ((27 + (3 * p1)) + 1) 231) ∧ (vp_in ((27 + (3 * p1)) + 1) 231 ∧ ∀ I2 : Nat → Nat → Int32, I2 = zU I b ((27 + (3 * p1)) + 1 : Int32).toNatClampNeg (0) → ((vp_in 48 231) ∧ (vp_in 48 231 ∧ ∀ I4 : Nat → Nat → Int32, I4 = zU I2 b (48 : Int32).toNatClampNeg ((if (0 : Int32) < ((I2 b (48 : Int32).toNatClampNeg) - (I b ((27 + (3 * p1)) + 1 : Int32).toNatClampNeg)) then (I2 b (48 : Int32).toNatClampNeg) - (I b ((27 + (3 * p1)) + 1 : Int32).toNatClampNeg) else 0)) → Q (some (.int (I b ((27 + (3 * p1)) + 1 : Int32).toNatClampNeg))) (I4, J, R, K, n)))))) : zV G (d + 1) mX12_inspects kc ks 0 [(0, .ref (b)), (1, .int (p1))] [] (I, J, R, K, n) Q := by
  refine zAload_n 0 0 1 (by decide +kernel) rfl rfl ?_
  refine zBipush 27 27 3 (by decide +kernel) rfl (by decide) ?_
  refine zIconst 3 3 4 (by decide +kernel) rfl (by decide) ?_
  refine zIload_n 1 1 5 (by decide +kernel) rfl rfl ?_
  refine zImul 6 (by decide +kernel) rfl ?_
  refine zIadd 7 (by decide +kernel) rfl ?_
  refine zIconst 1 1 8 (by decide +kernel) rfl (by decide) ?_
  refine zIadd 9 (by decide +kernel) rfl ?_
  obtain ⟨w1, F⟩ := F
  refine yIaload 231 10 (by decide +kernel) rfl hb (w1) ?_
  refine zIstore_n 2 [(2, .int (I b ((27 + (3 * p1)) + 1 : Int32).toNatClampNeg)), (0, .ref (b)), (1, .int (p1))] 11 (by decide +kernel) rfl (by decide) rfl ?_
  refine zAload_n 0 1 12 (by decide +kernel) rfl rfl ?_
  refine zBipush 27 27 14 (by decide +kernel) rfl (by decide) ?_
  refine zIconst 3 3 15 (by decide +kernel) rfl (by decide) ?_
  refine zIload_n 1 2 16 (by decide +kernel) rfl rfl ?_
  refine zImul 17 (by decide +kernel) rfl ?_
  refine zIadd 18 (by decide +kernel) rfl ?_
  refine zIconst 1 1 19 (by decide +kernel) rfl (by decide) ?_
  refine zIadd 20 (by decide +kernel) rfl ?_
  refine zIconst 0 0 21 (by decide +kernel) rfl (by decide) ?_
  refine yIastore 231 22 (by decide +kernel) rfl hb F.1 ?_
  replace F := F.2 _ rfl
  generalize zU I b ((27 + (3 * p1)) + 1 : Int32).toNatClampNeg (0) = I2 at F ⊢
  refine zAload_n 0 1 23 (by decide +kernel) rfl rfl ?_
  refine zBipush 48 48 25 (by decide +kernel) rfl (by decide) ?_
  refine zIconst 0 0 26 (by decide +kernel) rfl (by decide) ?_
  refine zAload_n 0 1 27 (by decide +kernel) rfl rfl ?_
  refine zBipush 48 48 29 (by decide +kernel) rfl (by decide) ?_
  obtain ⟨w3, F⟩ := F
  refine yIaload 231 30 (by decide +kernel) rfl hb (w3) ?_
  refine zIload_n 2 0 31 (by decide +kernel) rfl rfl ?_
  refine zIsub 32 (by decide +kernel) rfl ?_
  refine yMax 331 35 (by decide +kernel) rfl mlX12_331 (Nat.le_of_ble_eq_true rfl) ?_
  refine yIastore 231 36 (by decide +kernel) rfl hb F.1 ?_
  replace F := F.2 _ rfl
  generalize zU I2 b (48 : Int32).toNatClampNeg ((if (0 : Int32) < ((I2 b (48 : Int32).toNatClampNeg) - (I b ((27 + (3 * p1)) + 1 : Int32).toNatClampNeg)) then (I2 b (48 : Int32).toNatClampNeg) - (I b ((27 + (3 * p1)) + 1 : Int32).toNatClampNeg) else 0)) = I4 at F ⊢
  refine zIload_n 2 0 37 (by decide +kernel) rfl rfl ?_
  exact zIret rfl (by decide +kernel) F
set_option maxHeartbeats 2000000 in
theorem wX12_whites_0 {G : zG} {d kc ks : Nat} {I : Nat → Nat → Int32} {J : Nat → Nat → Int64} {R : Nat → Nat → Option Nat} {K : Nat → Nat × Nat} {n : Nat} {Q : Option Value → zH → Prop} (m t c : Nat) (b : Nat) (hb : sA G K n b 32 231) (S0_ : hMod G R K n m t c) (F : zV G (d + 1) mX12_whites kc ks 4 [(0, .ref (m)), (1, .ref (b)), (2, .int (0)), (3, .int (0))] [] (I, J, R, K, n) Q) : zV G (d + 1) mX12_whites kc ks 0 [(0, .ref (m)), (1, .ref (b))] [] (I, J, R, K, n) Q := by
  refine zIconst 0 0 1 (by decide +kernel) rfl (by decide) ?_
  refine zIstore_n 2 [(2, .int (0)), (0, .ref (m)), (1, .ref (b))] 2 (by decide +kernel) rfl (by decide) rfl ?_
  refine zIconst 0 0 3 (by decide +kernel) rfl (by decide) ?_
  refine zIstore_n 3 [(3, .int (0)), (2, .int (0)), (0, .ref (m)), (1, .ref (b))] 4 (by decide +kernel) rfl (by decide) rfl ?_
  exact zLoc [2, 3, 1, 0] _ rfl F
set_option maxHeartbeats 2000000 in
theorem wX12_whites_4 {G : zG} {d kc ks : Nat} {I : Nat → Nat → Int32} {J : Nat → Nat → Int64} {R : Nat → Nat → Option Nat} {K : Nat → Nat × Nat} {n : Nat} {Q : Option Value → zH → Prop} (m t c : Nat) (b : Nat) (hb : sA G K n b 32 231) (S0_ : hMod G R K n m t c) (l2 l3 : Int32) (F : (((I m 26 : Int32) ≤ l3 → Q (some (.int (l2))) (I, J, R, K, n)) ∧ (¬ ((I m 26 : Int32) ≤ l3) → zC G d mX12_bare 0 0 [.ref (m), .ref (b), .int (l3)] (I, J, R, K, n) (fun r h => ∃ (x2 : Int32) (I3 : Nat → Nat → Int32), r = some (.int x2) ∧ h = (I3, J, R, K, n) ∧ zV G (d + 1) mX12_whites kc ks 4 [(0, .ref (m)), (1, .ref (b)), (2, .int (l2 ||| (if x2 = 0 then (1 : Int32) <<< (l3 &&& 31) else 0))), (3, .int (l3 + 1))] [] (I3, J, R, K, n) Q)))) : zV G (d + 1) mX12_whites kc ks 4 [(0, .ref (m)), (1, .ref (b)), (2, .int (l2)), (3, .int (l3))] [] (I, J, R, K, n) Q := by
  refine zIload_n 3 3 5 (by decide +kernel) rfl rfl ?_
  refine zAload_n 0 0 6 (by decide +kernel) rfl rfl ?_
  refine gf12_26 291 9 (by decide +kernel) rfl flX12_291 (Mod_0 S0_) ?_
  refine zIcmp_ge 28 37 12 (by decide +kernel) rfl rfl ⟨fun q1 => ?_, fun q1 => ?_⟩
  · replace F := F.1 q1
    refine zIload_n 2 2 38 (by decide +kernel) rfl rfl ?_
    exact zIret rfl (by decide +kernel) F
  · replace F := F.2 q1
    refine zIload_n 2 2 13 (by decide +kernel) rfl rfl ?_
    refine zAload_n 0 0 14 (by decide +kernel) rfl rfl ?_
    refine zAload_n 1 1 15 (by decide +kernel) rfl rfl ?_
    refine zIload_n 3 3 16 (by decide +kernel) rfl rfl ?_
    refine zCallV 12 zcls12 mX12_bare 333 2 0 0 _ _ 19 [.ref (b), .int (l3)] [.int (l2)] okX12_bare mlX12_333 imX12_bare seX12_bare (by decide +kernel) rfl rfl (Nat.le_of_ble_eq_true rfl) rfl rfl (Mod_0 S0_) (zC.mono F ?_)
    rintro _ _ ⟨x2, I3, rfl, rfl, F⟩
    change zV G (d + 1) mX12_whites kc ks 19 [(0, .ref (m)), (1, .ref (b)), (2, .int (l2)), (3, .int (l3))] [.int (x2), .int (l2)] (I3, J, R, K, n) Q
    suffices KK : zV G (d + 1) mX12_whites kc ks 29 [(0, .ref (m)), (1, .ref (b)), (2, .int (l2)), (3, .int (l3))] [.int ((if x2 = 0 then (1 : Int32) <<< (l3 &&& 31) else 0)), .int (l2)] (I3, J, R, K, n) Q by
      refine zIf_ne 9 28 22 (by decide +kernel) rfl rfl ⟨fun q4 => ?_, fun q4 => ?_⟩
      · refine zIconst 0 0 29 (by decide +kernel) rfl (by decide) ?_
        exact zTop (by rw [if_neg q4]) KK
      · refine zIconst 1 1 23 (by decide +kernel) rfl (by decide) ?_
        refine zIload_n 3 3 24 (by decide +kernel) rfl rfl ?_
        refine zIshl 25 (by decide +kernel) rfl ?_
        refine zGoto 4 29 (by decide +kernel) rfl ?_
        exact zTop (by rw [if_pos q4]) KK
    refine zIor 30 (by decide +kernel) rfl ?_
    refine zIstore_n 2 [(2, .int (l2 ||| (if x2 = 0 then (1 : Int32) <<< (l3 &&& 31) else 0))), (0, .ref (m)), (1, .ref (b)), (3, .int (l3))] 31 (by decide +kernel) rfl (by decide) rfl ?_
    refine zIinc 3 1 3 (l3 + 1) [(3, .int (l3 + 1)), (2, .int (l2 ||| (if x2 = 0 then (1 : Int32) <<< (l3 &&& 31) else 0))), (0, .ref (m)), (1, .ref (b))] 34 (by decide +kernel) rfl rfl (by rfl) (by decide) rfl ?_
    refine zGoto (-30) 4 (by decide +kernel) rfl ?_
    exact zLoc [2, 3, 1, 0] _ rfl F
set_option maxHeartbeats 2000000 in
theorem wX12_wears_0 {G : zG} {d kc ks : Nat} {I : Nat → Nat → Int32} {J : Nat → Nat → Int64} {R : Nat → Nat → Option Nat} {K : Nat → Nat × Nat} {n : Nat} {Q : Option Value → zH → Prop} (m t c : Nat) (b : Nat) (hb : sA G K n b 32 231) (S0_ : hMod G R K n m t c) (F : zV G (d + 1) mX12_wears kc ks 4 [(0, .ref (m)), (1, .ref (b)), (2, .int (0)), (3, .int (0))] [] (I, J, R, K, n) Q) : zV G (d + 1) mX12_wears kc ks 0 [(0, .ref (m)), (1, .ref (b))] [] (I, J, R, K, n) Q := by
  refine zIconst 0 0 1 (by decide +kernel) rfl (by decide) ?_
  refine zIstore_n 2 [(2, .int (0)), (0, .ref (m)), (1, .ref (b))] 2 (by decide +kernel) rfl (by decide) rfl ?_
  refine zIconst 0 0 3 (by decide +kernel) rfl (by decide) ?_
  refine zIstore_n 3 [(3, .int (0)), (2, .int (0)), (0, .ref (m)), (1, .ref (b))] 4 (by decide +kernel) rfl (by decide) rfl ?_
  exact zLoc [2, 3, 1, 0] _ rfl F
set_option maxHeartbeats 2000000 in
theorem wX12_wears_4 {G : zG} {d kc ks : Nat} {I : Nat → Nat → Int32} {J : Nat → Nat → Int64} {R : Nat → Nat → Option Nat} {K : Nat → Nat × Nat} {n : Nat} {Q : Option Value → zH → Prop} (m t c : Nat) (b : Nat) (hb : sA G K n b 32 231) (S0_ : hMod G R K n m t c) (l2 l3 : Int32) (F : (((I m 26 : Int32) ≤ l3 → Q (some (.int (l2))) (I, J, R, K, n)) ∧ (¬ ((I m 26 : Int32) ≤ l3) → ((vp_in ((27 + (3 * l3)) + 1) 231) ∧ ((vp_in ((27 + (3 * l3)) + 1) 231) ∧ (vp_in ((27 + (3 * l3)) + 1) 231 ∧ ∀ I4 : Nat → Nat → Int32, I4 = zU I b ((27 + (3 * l3)) + 1 : Int32).toNatClampNeg ((I b ((27 + (3 * l3)) + 1 : Int32).toNatClampNeg) - (((I b ((27 + (3 * l3)) + 1 : Int32).toNatClampNeg) + 1) / 2)) → ((vp_in 49 231) ∧ ((((I4 b (49 : Int32).toNatClampNeg) - (I4 b (49 : Int32).toNatClampNeg) / 3 * 3 : Int32) = 2 → ((vp_in ((27 + (3 * l3)) + 0) 231) ∧ (vp_in ((27 + (3 * l3)) + 0) 231 ∧ ∀ I8 : Nat → Nat → Int32, I8 = zU I4 b ((27 + (3 * l3)) + 0 : Int32).toNatClampNeg ((if (0 : Int32) < ((I4 b ((27 + (3 * l3)) + 0 : Int32).toNatClampNeg) - 1) then (I4 b ((27 + (3 * l3)) + 0 : Int32).toNatClampNeg) - 1 else 0)) → zV G (d + 1) mX12_wears kc ks 4 [(0, .ref (m)), (1, .ref (b)), (2, .int (l2 + (((I b ((27 + (3 * l3)) + 1 : Int32).toNatClampNeg) + 1) / 2))), (3, .int (l3 + 1))] [] (I8, J, R, K, n) Q))) ∧ (¬ (((I4 b (49 : Int32).toNatClampNeg) - (I4 b (49 : Int32).toNatClampNeg) / 3 * 3 : Int32) = 2) → zV G (d + 1) mX12_wears kc ks 4 [(0, .ref (m)), (1, .ref (b)), (2, .int (l2 + (((I b ((27 + (3 * l3)) + 1 : Int32).toNatClampNeg) + 1) / 2))), (3, .int (l3 + 1))] [] (I4, J, R, K, n) Q))))))))) : zV G (d + 1) mX12_wears kc ks 4 [(0, .ref (m)), (1, .ref (b)), (2, .int (l2)), (3, .int (l3))] [] (I, J, R, K, n) Q := by
  refine zIload_n 3 3 5 (by decide +kernel) rfl rfl ?_
  refine zAload_n 0 0 6 (by decide +kernel) rfl rfl ?_
  refine gf12_26 291 9 (by decide +kernel) rfl flX12_291 (Mod_0 S0_) ?_
  refine zIcmp_ge 73 82 12 (by decide +kernel) rfl rfl ⟨fun q1 => ?_, fun q1 => ?_⟩
  · replace F := F.1 q1
    refine zIload_n 2 2 83 (by decide +kernel) rfl rfl ?_
    exact zIret rfl (by decide +kernel) F
  · replace F := F.2 q1
    refine zBipush 27 27 14 (by decide +kernel) rfl (by decide) ?_
    refine zIconst 3 3 15 (by decide +kernel) rfl (by decide) ?_
    refine zIload_n 3 3 16 (by decide +kernel) rfl rfl ?_
    refine zImul 17 (by decide +kernel) rfl ?_
    refine zIadd 18 (by decide +kernel) rfl ?_
    refine zIstore 4 [(4, .int (27 + (3 * l3))), (0, .ref (m)), (1, .ref (b)), (2, .int (l2)), (3, .int (l3))] 20 (by decide +kernel) rfl (by decide) rfl ?_
    refine zAload_n 1 2 21 (by decide +kernel) rfl rfl ?_
    refine zIload 4 0 23 (by decide +kernel) rfl rfl ?_
    refine zIconst 1 1 24 (by decide +kernel) rfl (by decide) ?_
    refine zIadd 25 (by decide +kernel) rfl ?_
    obtain ⟨w2, F⟩ := F
    refine yIaload 231 26 (by decide +kernel) rfl hb (w2) ?_
    refine zIconst 1 1 27 (by decide +kernel) rfl (by decide) ?_
    refine zIadd 28 (by decide +kernel) rfl ?_
    refine zIconst 2 2 29 (by decide +kernel) rfl (by decide) ?_
    refine zIdiv 30 (by decide +kernel) rfl (by decide) ?_
    refine zIstore 5 [(5, .int (((I b ((27 + (3 * l3)) + 1 : Int32).toNatClampNeg) + 1) / 2)), (4, .int (27 + (3 * l3))), (0, .ref (m)), (1, .ref (b)), (2, .int (l2)), (3, .int (l3))] 32 (by decide +kernel) rfl (by decide) rfl ?_
    refine zAload_n 1 3 33 (by decide +kernel) rfl rfl ?_
    refine zIload 4 1 35 (by decide +kernel) rfl rfl ?_
    refine zIconst 1 1 36 (by decide +kernel) rfl (by decide) ?_
    refine zIadd 37 (by decide +kernel) rfl ?_
    refine zDup2 38 (by decide +kernel) rfl rfl rfl ?_
    obtain ⟨w3, F⟩ := F
    refine yIaload 231 39 (by decide +kernel) rfl hb (w3) ?_
    refine zIload 5 0 41 (by decide +kernel) rfl rfl ?_
    refine zIsub 42 (by decide +kernel) rfl ?_
    refine yIastore 231 43 (by decide +kernel) rfl hb F.1 ?_
    replace F := F.2 _ rfl
    generalize zU I b ((27 + (3 * l3)) + 1 : Int32).toNatClampNeg ((I b ((27 + (3 * l3)) + 1 : Int32).toNatClampNeg) - (((I b ((27 + (3 * l3)) + 1 : Int32).toNatClampNeg) + 1) / 2)) = I4 at F ⊢
    refine zIload_n 2 4 44 (by decide +kernel) rfl rfl ?_
    refine zIload 5 0 46 (by decide +kernel) rfl rfl ?_
    refine zIadd 47 (by decide +kernel) rfl ?_
    refine zIstore_n 2 [(2, .int (l2 + (((I b ((27 + (3 * l3)) + 1 : Int32).toNatClampNeg) + 1) / 2))), (5, .int (((I b ((27 + (3 * l3)) + 1 : Int32).toNatClampNeg) + 1) / 2)), (4, .int (27 + (3 * l3))), (0, .ref (m)), (1, .ref (b)), (3, .int (l3))] 48 (by decide +kernel) rfl (by decide) rfl ?_
    refine zAload_n 1 4 49 (by decide +kernel) rfl rfl ?_
    refine zBipush 49 49 51 (by decide +kernel) rfl (by decide) ?_
    obtain ⟨w5, F⟩ := F
    refine yIaload 231 52 (by decide +kernel) rfl hb (w5) ?_
    refine zIconst 3 3 53 (by decide +kernel) rfl (by decide) ?_
    refine zIrem 54 (by decide +kernel) rfl (by decide) ?_
    refine zIconst 2 2 55 (by decide +kernel) rfl (by decide) ?_
    refine zIcmp_ne 21 76 58 (by decide +kernel) rfl rfl ⟨fun q6 => ?_, fun q6 => ?_⟩
    · replace F := F.2 q6
      refine zIinc 3 1 5 (l3 + 1) [(3, .int (l3 + 1)), (2, .int (l2 + (((I b ((27 + (3 * l3)) + 1 : Int32).toNatClampNeg) + 1) / 2))), (5, .int (((I b ((27 + (3 * l3)) + 1 : Int32).toNatClampNeg) + 1) / 2)), (4, .int (27 + (3 * l3))), (0, .ref (m)), (1, .ref (b))] 79 (by decide +kernel) rfl rfl (by rfl) (by decide) rfl ?_
      refine zGoto (-75) 4 (by decide +kernel) rfl ?_
      exact zLoc [4, 5, 1, 0] _ rfl F
    · replace F := F.1 q6
      refine zAload_n 1 4 59 (by decide +kernel) rfl rfl ?_
      refine zIload 4 2 61 (by decide +kernel) rfl rfl ?_
      refine zIconst 0 0 62 (by decide +kernel) rfl (by decide) ?_
      refine zIadd 63 (by decide +kernel) rfl ?_
      refine zIconst 0 0 64 (by decide +kernel) rfl (by decide) ?_
      refine zAload_n 1 4 65 (by decide +kernel) rfl rfl ?_
      refine zIload 4 2 67 (by decide +kernel) rfl rfl ?_
      refine zIconst 0 0 68 (by decide +kernel) rfl (by decide) ?_
      refine zIadd 69 (by decide +kernel) rfl ?_
      obtain ⟨w7, F⟩ := F
      refine yIaload 231 70 (by decide +kernel) rfl hb (w7) ?_
      refine zIconst 1 1 71 (by decide +kernel) rfl (by decide) ?_
      refine zIsub 72 (by decide +kernel) rfl ?_
      refine yMax 331 75 (by decide +kernel) rfl mlX12_331 (Nat.le_of_ble_eq_true rfl) ?_
      refine yIastore 231 76 (by decide +kernel) rfl hb F.1 ?_
      replace F := F.2 _ rfl
      generalize zU I4 b ((27 + (3 * l3)) + 0 : Int32).toNatClampNeg ((if (0 : Int32) < ((I4 b ((27 + (3 * l3)) + 0 : Int32).toNatClampNeg) - 1) then (I4 b ((27 + (3 * l3)) + 0 : Int32).toNatClampNeg) - 1 else 0)) = I8 at F ⊢
      refine zIinc 3 1 5 (l3 + 1) [(3, .int (l3 + 1)), (2, .int (l2 + (((I b ((27 + (3 * l3)) + 1 : Int32).toNatClampNeg) + 1) / 2))), (5, .int (((I b ((27 + (3 * l3)) + 1 : Int32).toNatClampNeg) + 1) / 2)), (4, .int (27 + (3 * l3))), (0, .ref (m)), (1, .ref (b))] 79 (by decide +kernel) rfl rfl (by rfl) (by decide) rfl ?_
      refine zGoto (-75) 4 (by decide +kernel) rfl ?_
      exact zLoc [4, 5, 1, 0] _ rfl F
set_option maxHeartbeats 2000000 in
theorem wX12_goDay_0 {G : zG} {d kc ks : Nat} {I : Nat → Nat → Int32} {J : Nat → Nat → Int64} {R : Nat → Nat → Option Nat} {K : Nat → Nat × Nat} {n : Nat} {Q : Option Value → zH → Prop} (m t c : Nat) (b : Nat) (hb : sA G K n b 32 231) (S0_ : hMod G R K n m t c) (F : zC G d mX12_wears 0 0 [.ref (m), .ref (b)] (I, J, R, K, n) (fun r h => ∃ (x1 : Int32) (I2 : Nat → Nat → Int32), r = some (.int x1) ∧ h = (I2, J, R, K, n) ∧ ((vp_in 46 231) ∧ (vp_in 46 231 ∧ ∀ I4 : Nat → Nat → Int32, I4 = zU I2 b (46 : Int32).toNatClampNeg ((if ((I2 b (46 : Int32).toNatClampNeg) + x1 : Int32) < 9999 then (I2 b (46 : Int32).toNatClampNeg) + x1 else 9999)) → zC G d mX12_whites 0 0 [.ref (m), .ref (b)] (I4, J, R, K, n) (fun r h => ∃ (x5 : Int32) (I6 : Nat → Nat → Int32), r = some (.int x5) ∧ h = (I6, J, R, K, n) ∧ ((vp_in 50 231) ∧ (((I6 b (50 : Int32).toNatClampNeg : Int32) = 60 → zV G (d + 1) mX12_goDay kc ks 40 [(0, .ref (m)), (1, .ref (b)), (2, .int (x1)), (3, .int (x5)), (4, .int (1))] [] (I6, J, R, K, n) Q) ∧ (¬ ((I6 b (50 : Int32).toNatClampNeg : Int32) = 60) → ((vp_in 50 231) ∧ (vp_in (51 + (3 * (I6 b (50 : Int32).toNatClampNeg))) 231 ∧ ∀ I10 : Nat → Nat → Int32, I10 = zU I6 b (51 + (3 * (I6 b (50 : Int32).toNatClampNeg)) : Int32).toNatClampNeg (x5) → (vp_in ((51 + (3 * (I6 b (50 : Int32).toNatClampNeg))) + 1) 231 ∧ ∀ I11 : Nat → Nat → Int32, I11 = zU I10 b ((51 + (3 * (I6 b (50 : Int32).toNatClampNeg))) + 1 : Int32).toNatClampNeg (x1) → ((vp_in 47 231) ∧ (vp_in ((51 + (3 * (I6 b (50 : Int32).toNatClampNeg))) + 2) 231 ∧ ∀ I13 : Nat → Nat → Int32, I13 = zU I11 b ((51 + (3 * (I6 b (50 : Int32).toNatClampNeg))) + 2 : Int32).toNatClampNeg (I11 b (47 : Int32).toNatClampNeg) → ((vp_in 50 231) ∧ (vp_in 50 231 ∧ ∀ I15 : Nat → Nat → Int32, I15 = zU I13 b (50 : Int32).toNatClampNeg ((I13 b (50 : Int32).toNatClampNeg) + 1) → zC G d mJ6_bitCount_0f7a4 0 0 [.int (x5)] (I15, J, R, K, n) (fun r h => ∃ (x16 : Int32), r = some (.int x16) ∧ h = (I15, J, R, K, n) ∧ ((vp_in 48 231) ∧ (vp_in 48 231 ∧ ∀ I18 : Nat → Nat → Int32, I18 = zU I15 b (48 : Int32).toNatClampNeg ((if ((I15 b (48 : Int32).toNatClampNeg) + x16 : Int32) < 999 then (I15 b (48 : Int32).toNatClampNeg) + x16 else 999)) → ((vp_in 49 231) ∧ (vp_in 49 231 ∧ ∀ I20 : Nat → Nat → Int32, I20 = zU I18 b (49 : Int32).toNatClampNeg ((I18 b (49 : Int32).toNatClampNeg) + 1) → Q (some (.int (x16))) (I20, J, R, K, n))))))))))))))))))))) : zV G (d + 1) mX12_goDay kc ks 0 [(0, .ref (m)), (1, .ref (b))] [] (I, J, R, K, n) Q := by
  refine zAload_n 0 0 1 (by decide +kernel) rfl rfl ?_
  refine zAload_n 1 1 2 (by decide +kernel) rfl rfl ?_
  refine zCallV 12 zcls12 mX12_wears 344 1 0 0 _ _ 5 [.ref (b)] [] okX12_wears mlX12_344 imX12_wears seX12_wears (by decide +kernel) rfl rfl (Nat.le_of_ble_eq_true rfl) rfl rfl (Mod_0 S0_) (zC.mono F ?_)
  rintro _ _ ⟨x1, I2, rfl, rfl, F⟩
  change zV G (d + 1) mX12_goDay kc ks 5 [(0, .ref (m)), (1, .ref (b))] [.int (x1)] (I2, J, R, K, n) Q
  refine zIstore_n 2 [(2, .int (x1)), (0, .ref (m)), (1, .ref (b))] 6 (by decide +kernel) rfl (by decide) rfl ?_
  refine zAload_n 1 2 7 (by decide +kernel) rfl rfl ?_
  refine zBipush 46 46 9 (by decide +kernel) rfl (by decide) ?_
  refine zSipush 9999 9999 12 (by decide +kernel) rfl (by decide) ?_
  refine zAload_n 1 2 13 (by decide +kernel) rfl rfl ?_
  refine zBipush 46 46 15 (by decide +kernel) rfl (by decide) ?_
  obtain ⟨w3, F⟩ := F
  refine yIaload 231 16 (by decide +kernel) rfl hb (w3) ?_
  refine zIload_n 2 0 17 (by decide +kernel) rfl rfl ?_
  refine zIadd 18 (by decide +kernel) rfl ?_
  refine yMin 329 21 (by decide +kernel) rfl mlX12_329 (Nat.le_of_ble_eq_true rfl) ?_
  refine yIastore 231 22 (by decide +kernel) rfl hb F.1 ?_
  replace F := F.2 _ rfl
  generalize zU I2 b (46 : Int32).toNatClampNeg ((if ((I2 b (46 : Int32).toNatClampNeg) + x1 : Int32) < 9999 then (I2 b (46 : Int32).toNatClampNeg) + x1 else 9999)) = I4 at F ⊢
  refine zAload_n 0 1 23 (by decide +kernel) rfl rfl ?_
  refine zAload_n 1 2 24 (by decide +kernel) rfl rfl ?_
  refine zCallV 12 zcls12 mX12_whites 348 1 0 0 _ _ 27 [.ref (b)] [] okX12_whites mlX12_348 imX12_whites seX12_whites (by decide +kernel) rfl rfl (Nat.le_of_ble_eq_true rfl) rfl rfl (Mod_0 S0_) (zC.mono F ?_)
  rintro _ _ ⟨x5, I6, rfl, rfl, F⟩
  change zV G (d + 1) mX12_goDay kc ks 27 [(2, .int (x1)), (0, .ref (m)), (1, .ref (b))] [.int (x5)] (I6, J, R, K, n) Q
  refine zIstore_n 3 [(3, .int (x5)), (2, .int (x1)), (0, .ref (m)), (1, .ref (b))] 28 (by decide +kernel) rfl (by decide) rfl ?_
  refine zAload_n 1 3 29 (by decide +kernel) rfl rfl ?_
  refine zBipush 50 50 31 (by decide +kernel) rfl (by decide) ?_
  obtain ⟨w7, F⟩ := F
  refine yIaload 231 32 (by decide +kernel) rfl hb (w7) ?_
  refine zBipush 60 60 34 (by decide +kernel) rfl (by decide) ?_
  refine zIcmp_ne 44 78 37 (by decide +kernel) rfl rfl ⟨fun q8 => ?_, fun q8 => ?_⟩
  · replace F := F.2 q8
    refine zBipush 51 51 80 (by decide +kernel) rfl (by decide) ?_
    refine zIconst 3 3 81 (by decide +kernel) rfl (by decide) ?_
    refine zAload_n 1 3 82 (by decide +kernel) rfl rfl ?_
    refine zBipush 50 50 84 (by decide +kernel) rfl (by decide) ?_
    obtain ⟨w9, F⟩ := F
    refine yIaload 231 85 (by decide +kernel) rfl hb (w9) ?_
    refine zImul 86 (by decide +kernel) rfl ?_
    refine zIadd 87 (by decide +kernel) rfl ?_
    refine zIstore 4 [(4, .int (51 + (3 * (I6 b (50 : Int32).toNatClampNeg)))), (3, .int (x5)), (2, .int (x1)), (0, .ref (m)), (1, .ref (b))] 89 (by decide +kernel) rfl (by decide) rfl ?_
    refine zAload_n 1 4 90 (by decide +kernel) rfl rfl ?_
    refine zIload 4 0 92 (by decide +kernel) rfl rfl ?_
    refine zIload_n 3 1 93 (by decide +kernel) rfl rfl ?_
    refine yIastore 231 94 (by decide +kernel) rfl hb F.1 ?_
    replace F := F.2 _ rfl
    generalize zU I6 b (51 + (3 * (I6 b (50 : Int32).toNatClampNeg)) : Int32).toNatClampNeg (x5) = I10 at F ⊢
    refine zAload_n 1 4 95 (by decide +kernel) rfl rfl ?_
    refine zIload 4 0 97 (by decide +kernel) rfl rfl ?_
    refine zIconst 1 1 98 (by decide +kernel) rfl (by decide) ?_
    refine zIadd 99 (by decide +kernel) rfl ?_
    refine zIload_n 2 2 100 (by decide +kernel) rfl rfl ?_
    refine yIastore 231 101 (by decide +kernel) rfl hb F.1 ?_
    replace F := F.2 _ rfl
    generalize zU I10 b ((51 + (3 * (I6 b (50 : Int32).toNatClampNeg))) + 1 : Int32).toNatClampNeg (x1) = I11 at F ⊢
    refine zAload_n 1 4 102 (by decide +kernel) rfl rfl ?_
    refine zIload 4 0 104 (by decide +kernel) rfl rfl ?_
    refine zIconst 2 2 105 (by decide +kernel) rfl (by decide) ?_
    refine zIadd 106 (by decide +kernel) rfl ?_
    refine zAload_n 1 4 107 (by decide +kernel) rfl rfl ?_
    refine zBipush 47 47 109 (by decide +kernel) rfl (by decide) ?_
    obtain ⟨w12, F⟩ := F
    refine yIaload 231 110 (by decide +kernel) rfl hb (w12) ?_
    refine yIastore 231 111 (by decide +kernel) rfl hb F.1 ?_
    replace F := F.2 _ rfl
    generalize zU I11 b ((51 + (3 * (I6 b (50 : Int32).toNatClampNeg))) + 2 : Int32).toNatClampNeg (I11 b (47 : Int32).toNatClampNeg) = I13 at F ⊢
    refine zAload_n 1 4 112 (by decide +kernel) rfl rfl ?_
    refine zBipush 50 50 114 (by decide +kernel) rfl (by decide) ?_
    refine zDup2 115 (by decide +kernel) rfl rfl rfl ?_
    obtain ⟨w14, F⟩ := F
    refine yIaload 231 116 (by decide +kernel) rfl hb (w14) ?_
    refine zIconst 1 1 117 (by decide +kernel) rfl (by decide) ?_
    refine zIadd 118 (by decide +kernel) rfl ?_
    refine yIastore 231 119 (by decide +kernel) rfl hb F.1 ?_
    replace F := F.2 _ rfl
    generalize zU I13 b (50 : Int32).toNatClampNeg ((I13 b (50 : Int32).toNatClampNeg) + 1) = I15 at F ⊢
    refine zIload_n 3 1 120 (by decide +kernel) rfl rfl ?_
    refine zCallS mJ6_bitCount_0f7a4 351 1 0 0 _ _ 123 [.int (x5)] [] okJ6_bitCount_0f7a4 mlX12_351 smJ6_bitCount_0f7a4 (by decide +kernel) rfl rfl (Nat.le_of_ble_eq_true rfl) rfl rfl (zC.mono F ?_)
    rintro _ _ ⟨x16, rfl, rfl, F⟩
    change zV G (d + 1) mX12_goDay kc ks 123 [(4, .int (51 + (3 * (I6 b (50 : Int32).toNatClampNeg)))), (3, .int (x5)), (2, .int (x1)), (0, .ref (m)), (1, .ref (b))] [.int (x16)] (I15, J, R, K, n) Q
    refine zIstore 5 [(5, .int (x16)), (4, .int (51 + (3 * (I6 b (50 : Int32).toNatClampNeg)))), (3, .int (x5)), (2, .int (x1)), (0, .ref (m)), (1, .ref (b))] 125 (by decide +kernel) rfl (by decide) rfl ?_
    refine zAload_n 1 5 126 (by decide +kernel) rfl rfl ?_
    refine zBipush 48 48 128 (by decide +kernel) rfl (by decide) ?_
    refine zSipush 999 999 131 (by decide +kernel) rfl (by decide) ?_
    refine zAload_n 1 5 132 (by decide +kernel) rfl rfl ?_
    refine zBipush 48 48 134 (by decide +kernel) rfl (by decide) ?_
    obtain ⟨w17, F⟩ := F
    refine yIaload 231 135 (by decide +kernel) rfl hb (w17) ?_
    refine zIload 5 0 137 (by decide +kernel) rfl rfl ?_
    refine zIadd 138 (by decide +kernel) rfl ?_
    refine yMin 329 141 (by decide +kernel) rfl mlX12_329 (Nat.le_of_ble_eq_true rfl) ?_
    refine yIastore 231 142 (by decide +kernel) rfl hb F.1 ?_
    replace F := F.2 _ rfl
    generalize zU I15 b (48 : Int32).toNatClampNeg ((if ((I15 b (48 : Int32).toNatClampNeg) + x16 : Int32) < 999 then (I15 b (48 : Int32).toNatClampNeg) + x16 else 999)) = I18 at F ⊢
    refine zAload_n 1 5 143 (by decide +kernel) rfl rfl ?_
    refine zBipush 49 49 145 (by decide +kernel) rfl (by decide) ?_
    refine zDup2 146 (by decide +kernel) rfl rfl rfl ?_
    obtain ⟨w19, F⟩ := F
    refine yIaload 231 147 (by decide +kernel) rfl hb (w19) ?_
    refine zIconst 1 1 148 (by decide +kernel) rfl (by decide) ?_
    refine zIadd 149 (by decide +kernel) rfl ?_
    refine yIastore 231 150 (by decide +kernel) rfl hb F.1 ?_
    replace F := F.2 _ rfl
    generalize zU I18 b (49 : Int32).toNatClampNeg ((I18 b (49 : Int32).toNatClampNeg) + 1) = I20 at F ⊢
    refine zIload 5 0 152 (by decide +kernel) rfl rfl ?_
    exact zIret rfl (by decide +kernel) F
  · replace F := F.1 q8
    refine zIconst 1 1 38 (by decide +kernel) rfl (by decide) ?_
    refine zIstore 4 [(4, .int (1)), (3, .int (x5)), (2, .int (x1)), (0, .ref (m)), (1, .ref (b))] 40 (by decide +kernel) rfl (by decide) rfl ?_
    exact zLoc [3, 4, 2, 1, 0] _ rfl F
set_option maxHeartbeats 2000000 in
theorem wX12_goDay_40 {G : zG} {d kc ks : Nat} {I : Nat → Nat → Int32} {J : Nat → Nat → Int64} {R : Nat → Nat → Option Nat} {K : Nat → Nat × Nat} {n : Nat} {Q : Option Value → zH → Prop} (m t c : Nat) (b : Nat) (hb : sA G K n b 32 231) (S0_ : hMod G R K n m t c) (l2 l3 l4 : Int32) (F : ((177 < l4 → ((vp_in 50 231) ∧ (vp_in 50 231 ∧ ∀ I23 : Nat → Nat → Int32, I23 = zU I b (50 : Int32).toNatClampNeg ((I b (50 : Int32).toNatClampNeg) - 1) → ((vp_in 50 231) ∧ (vp_in (51 + (3 * (I23 b (50 : Int32).toNatClampNeg))) 231 ∧ ∀ I25 : Nat → Nat → Int32, I25 = zU I23 b (51 + (3 * (I23 b (50 : Int32).toNatClampNeg)) : Int32).toNatClampNeg (l3) → (vp_in ((51 + (3 * (I23 b (50 : Int32).toNatClampNeg))) + 1) 231 ∧ ∀ I26 : Nat → Nat → Int32, I26 = zU I25 b ((51 + (3 * (I23 b (50 : Int32).toNatClampNeg))) + 1 : Int32).toNatClampNeg (l2) → ((vp_in 47 231) ∧ (vp_in ((51 + (3 * (I23 b (50 : Int32).toNatClampNeg))) + 2) 231 ∧ ∀ I28 : Nat → Nat → Int32, I28 = zU I26 b ((51 + (3 * (I23 b (50 : Int32).toNatClampNeg))) + 2 : Int32).toNatClampNeg (I26 b (47 : Int32).toNatClampNeg) → ((vp_in 50 231) ∧ (vp_in 50 231 ∧ ∀ I30 : Nat → Nat → Int32, I30 = zU I28 b (50 : Int32).toNatClampNeg ((I28 b (50 : Int32).toNatClampNeg) + 1) → zC G d mJ6_bitCount_0f7a4 0 0 [.int (l3)] (I30, J, R, K, n) (fun r h => ∃ (x31 : Int32), r = some (.int x31) ∧ h = (I30, J, R, K, n) ∧ ((vp_in 48 231) ∧ (vp_in 48 231 ∧ ∀ I33 : Nat → Nat → Int32, I33 = zU I30 b (48 : Int32).toNatClampNeg ((if ((I30 b (48 : Int32).toNatClampNeg) + x31 : Int32) < 999 then (I30 b (48 : Int32).toNatClampNeg) + x31 else 999)) → ((vp_in 49 231) ∧ (vp_in 49 231 ∧ ∀ I35 : Nat → Nat → Int32, I35 = zU I33 b (49 : Int32).toNatClampNeg ((I33 b (49 : Int32).toNatClampNeg) + 1) → Q (some (.int (x31))) (I35, J, R, K, n)))))))))))))))) ∧ (¬ (177 < l4) → ((vp_in ((50 + l4) + 3) 231) ∧ (vp_in (50 + l4) 231 ∧ ∀ I37 : Nat → Nat → Int32, I37 = zU I b (50 + l4 : Int32).toNatClampNeg (I b ((50 + l4) + 3 : Int32).toNatClampNeg) → zV G (d + 1) mX12_goDay kc ks 40 [(0, .ref (m)), (1, .ref (b)), (2, .int (l2)), (3, .int (l3)), (4, .int (l4 + 1))] [] (I37, J, R, K, n) Q))))) : zV G (d + 1) mX12_goDay kc ks 40 [(0, .ref (m)), (1, .ref (b)), (2, .int (l2)), (3, .int (l3)), (4, .int (l4))] [] (I, J, R, K, n) Q := by
  refine zIload 4 4 42 (by decide +kernel) rfl rfl ?_
  refine zSipush 177 177 45 (by decide +kernel) rfl (by decide) ?_
  refine zIcmp_gt 25 70 48 (by decide +kernel) rfl rfl ⟨fun q21 => ?_, fun q21 => ?_⟩
  · replace F := F.1 q21
    refine zAload_n 1 1 71 (by decide +kernel) rfl rfl ?_
    refine zBipush 50 50 73 (by decide +kernel) rfl (by decide) ?_
    refine zDup2 74 (by decide +kernel) rfl rfl rfl ?_
    obtain ⟨w22, F⟩ := F
    refine yIaload 231 75 (by decide +kernel) rfl hb (w22) ?_
    refine zIconst 1 1 76 (by decide +kernel) rfl (by decide) ?_
    refine zIsub 77 (by decide +kernel) rfl ?_
    refine yIastore 231 78 (by decide +kernel) rfl hb F.1 ?_
    replace F := F.2 _ rfl
    generalize zU I b (50 : Int32).toNatClampNeg ((I b (50 : Int32).toNatClampNeg) - 1) = I23 at F ⊢
    refine zBipush 51 51 80 (by decide +kernel) rfl (by decide) ?_
    refine zIconst 3 3 81 (by decide +kernel) rfl (by decide) ?_
    refine zAload_n 1 1 82 (by decide +kernel) rfl rfl ?_
    refine zBipush 50 50 84 (by decide +kernel) rfl (by decide) ?_
    obtain ⟨w24, F⟩ := F
    refine yIaload 231 85 (by decide +kernel) rfl hb (w24) ?_
    refine zImul 86 (by decide +kernel) rfl ?_
    refine zIadd 87 (by decide +kernel) rfl ?_
    refine zIstore 4 [(4, .int (51 + (3 * (I23 b (50 : Int32).toNatClampNeg)))), (0, .ref (m)), (1, .ref (b)), (2, .int (l2)), (3, .int (l3))] 89 (by decide +kernel) rfl (by decide) rfl ?_
    refine zAload_n 1 2 90 (by decide +kernel) rfl rfl ?_
    refine zIload 4 0 92 (by decide +kernel) rfl rfl ?_
    refine zIload_n 3 4 93 (by decide +kernel) rfl rfl ?_
    refine yIastore 231 94 (by decide +kernel) rfl hb F.1 ?_
    replace F := F.2 _ rfl
    generalize zU I23 b (51 + (3 * (I23 b (50 : Int32).toNatClampNeg)) : Int32).toNatClampNeg (l3) = I25 at F ⊢
    refine zAload_n 1 2 95 (by decide +kernel) rfl rfl ?_
    refine zIload 4 0 97 (by decide +kernel) rfl rfl ?_
    refine zIconst 1 1 98 (by decide +kernel) rfl (by decide) ?_
    refine zIadd 99 (by decide +kernel) rfl ?_
    refine zIload_n 2 3 100 (by decide +kernel) rfl rfl ?_
    refine yIastore 231 101 (by decide +kernel) rfl hb F.1 ?_
    replace F := F.2 _ rfl
    generalize zU I25 b ((51 + (3 * (I23 b (50 : Int32).toNatClampNeg))) + 1 : Int32).toNatClampNeg (l2) = I26 at F ⊢
    refine zAload_n 1 2 102 (by decide +kernel) rfl rfl ?_
    refine zIload 4 0 104 (by decide +kernel) rfl rfl ?_
    refine zIconst 2 2 105 (by decide +kernel) rfl (by decide) ?_
    refine zIadd 106 (by decide +kernel) rfl ?_
    refine zAload_n 1 2 107 (by decide +kernel) rfl rfl ?_
    refine zBipush 47 47 109 (by decide +kernel) rfl (by decide) ?_
    obtain ⟨w27, F⟩ := F
    refine yIaload 231 110 (by decide +kernel) rfl hb (w27) ?_
    refine yIastore 231 111 (by decide +kernel) rfl hb F.1 ?_
    replace F := F.2 _ rfl
    generalize zU I26 b ((51 + (3 * (I23 b (50 : Int32).toNatClampNeg))) + 2 : Int32).toNatClampNeg (I26 b (47 : Int32).toNatClampNeg) = I28 at F ⊢
    refine zAload_n 1 2 112 (by decide +kernel) rfl rfl ?_
    refine zBipush 50 50 114 (by decide +kernel) rfl (by decide) ?_
    refine zDup2 115 (by decide +kernel) rfl rfl rfl ?_
    obtain ⟨w29, F⟩ := F
    refine yIaload 231 116 (by decide +kernel) rfl hb (w29) ?_
    refine zIconst 1 1 117 (by decide +kernel) rfl (by decide) ?_
    refine zIadd 118 (by decide +kernel) rfl ?_
    refine yIastore 231 119 (by decide +kernel) rfl hb F.1 ?_
    replace F := F.2 _ rfl
    generalize zU I28 b (50 : Int32).toNatClampNeg ((I28 b (50 : Int32).toNatClampNeg) + 1) = I30 at F ⊢
    refine zIload_n 3 4 120 (by decide +kernel) rfl rfl ?_
    refine zCallS mJ6_bitCount_0f7a4 351 1 0 0 _ _ 123 [.int (l3)] [] okJ6_bitCount_0f7a4 mlX12_351 smJ6_bitCount_0f7a4 (by decide +kernel) rfl rfl (Nat.le_of_ble_eq_true rfl) rfl rfl (zC.mono F ?_)
    rintro _ _ ⟨x31, rfl, rfl, F⟩
    change zV G (d + 1) mX12_goDay kc ks 123 [(4, .int (51 + (3 * (I23 b (50 : Int32).toNatClampNeg)))), (0, .ref (m)), (1, .ref (b)), (2, .int (l2)), (3, .int (l3))] [.int (x31)] (I30, J, R, K, n) Q
    refine zIstore 5 [(5, .int (x31)), (4, .int (51 + (3 * (I23 b (50 : Int32).toNatClampNeg)))), (0, .ref (m)), (1, .ref (b)), (2, .int (l2)), (3, .int (l3))] 125 (by decide +kernel) rfl (by decide) rfl ?_
    refine zAload_n 1 3 126 (by decide +kernel) rfl rfl ?_
    refine zBipush 48 48 128 (by decide +kernel) rfl (by decide) ?_
    refine zSipush 999 999 131 (by decide +kernel) rfl (by decide) ?_
    refine zAload_n 1 3 132 (by decide +kernel) rfl rfl ?_
    refine zBipush 48 48 134 (by decide +kernel) rfl (by decide) ?_
    obtain ⟨w32, F⟩ := F
    refine yIaload 231 135 (by decide +kernel) rfl hb (w32) ?_
    refine zIload 5 0 137 (by decide +kernel) rfl rfl ?_
    refine zIadd 138 (by decide +kernel) rfl ?_
    refine yMin 329 141 (by decide +kernel) rfl mlX12_329 (Nat.le_of_ble_eq_true rfl) ?_
    refine yIastore 231 142 (by decide +kernel) rfl hb F.1 ?_
    replace F := F.2 _ rfl
    generalize zU I30 b (48 : Int32).toNatClampNeg ((if ((I30 b (48 : Int32).toNatClampNeg) + x31 : Int32) < 999 then (I30 b (48 : Int32).toNatClampNeg) + x31 else 999)) = I33 at F ⊢
    refine zAload_n 1 3 143 (by decide +kernel) rfl rfl ?_
    refine zBipush 49 49 145 (by decide +kernel) rfl (by decide) ?_
    refine zDup2 146 (by decide +kernel) rfl rfl rfl ?_
    obtain ⟨w34, F⟩ := F
    refine yIaload 231 147 (by decide +kernel) rfl hb (w34) ?_
    refine zIconst 1 1 148 (by decide +kernel) rfl (by decide) ?_
    refine zIadd 149 (by decide +kernel) rfl ?_
    refine yIastore 231 150 (by decide +kernel) rfl hb F.1 ?_
    replace F := F.2 _ rfl
    generalize zU I33 b (49 : Int32).toNatClampNeg ((I33 b (49 : Int32).toNatClampNeg) + 1) = I35 at F ⊢
    refine zIload 5 0 152 (by decide +kernel) rfl rfl ?_
    exact zIret rfl (by decide +kernel) F
  · replace F := F.2 q21
    refine zAload_n 1 1 49 (by decide +kernel) rfl rfl ?_
    refine zBipush 50 50 51 (by decide +kernel) rfl (by decide) ?_
    refine zIload 4 4 53 (by decide +kernel) rfl rfl ?_
    refine zIadd 54 (by decide +kernel) rfl ?_
    refine zAload_n 1 1 55 (by decide +kernel) rfl rfl ?_
    refine zBipush 50 50 57 (by decide +kernel) rfl (by decide) ?_
    refine zIload 4 4 59 (by decide +kernel) rfl rfl ?_
    refine zIadd 60 (by decide +kernel) rfl ?_
    refine zIconst 3 3 61 (by decide +kernel) rfl (by decide) ?_
    refine zIadd 62 (by decide +kernel) rfl ?_
    obtain ⟨w36, F⟩ := F
    refine yIaload 231 63 (by decide +kernel) rfl hb (w36) ?_
    refine yIastore 231 64 (by decide +kernel) rfl hb F.1 ?_
    replace F := F.2 _ rfl
    generalize zU I b (50 + l4 : Int32).toNatClampNeg (I b ((50 + l4) + 3 : Int32).toNatClampNeg) = I37 at F ⊢
    refine zIinc 4 1 4 (l4 + 1) [(4, .int (l4 + 1)), (0, .ref (m)), (1, .ref (b)), (2, .int (l2)), (3, .int (l3))] 67 (by decide +kernel) rfl rfl (by rfl) (by decide) rfl ?_
    refine zGoto (-27) 40 (by decide +kernel) rfl ?_
    exact zLoc [1, 2, 3, 4, 0] _ rfl F
set_option maxHeartbeats 2000000 in
theorem wX12_farm_0 {G : zG} {d kc ks : Nat} {I : Nat → Nat → Int32} {J : Nat → Nat → Int64} {R : Nat → Nat → Option Nat} {K : Nat → Nat × Nat} {n : Nat} {Q : Option Value → zH → Prop} (m t c : Nat) (S0_ : hMod G R K n m t c) (p1 p2 : Int32) (F : zC G d mX12_isFarm 0 0 [.ref (m), .int (p1)] (I, J, R, K, n) (fun r h => ∃ (x1 : Int32) (I2 : Nat → Nat → Int32), r = some (.int x1) ∧ h = (I2, J, R, K, n) ∧ ((x1 = 0 → (∀ I4 : Nat → Nat → Int32, I4 = zU I2 m 0 (1) → (((I4 m 0 : Int32) ≤ 0 → ((p2 = 0 → ((vp_in ((2 * p1) + p2) 12) ∧ Q (some (.int (I4 (m + 7) ((2 * p1) + p2 : Int32).toNatClampNeg))) (I4, J, R, K, n))) ∧ (p2 = 1 → ((vp_in ((2 * p1) + p2) 12) ∧ Q (some (.int (I4 (m + 7) ((2 * p1) + p2 : Int32).toNatClampNeg))) (I4, J, R, K, n))) ∧ (p2 = 2 → ((vp_in ((27 + (3 * p1)) + 0) 231) ∧ Q (some (.int (I4 (m + 13) ((27 + (3 * p1)) + 0 : Int32).toNatClampNeg))) (I4, J, R, K, n))) ∧ (p2 = 3 → ((vp_in ((27 + (3 * p1)) + 1) 231) ∧ Q (some (.int (I4 (m + 13) ((27 + (3 * p1)) + 1 : Int32).toNatClampNeg))) (I4, J, R, K, n))) ∧ (p2 = 4 → zC G d mX12_bare 0 0 [.ref (m), .ref (m + 13), .int (p1)] (I4, J, R, K, n) (fun r h => ∃ (x15 : Int32) (I16 : Nat → Nat → Int32), r = some (.int x15) ∧ h = (I16, J, R, K, n) ∧ Q (some (.int (x15))) (I16, J, R, K, n))) ∧ (¬ p2 = 0 → ¬ p2 = 1 → ¬ p2 = 2 → ¬ p2 = 3 → ¬ p2 = 4 → ((vp_in ((27 + (3 * p1)) + 2) 231) ∧ Q (some (.int (I4 (m + 13) ((27 + (3 * p1)) + 2 : Int32).toNatClampNeg))) (I4, J, R, K, n))))) ∧ (¬ ((I4 m 0 : Int32) ≤ 0) → Q (some (.int (0))) (I4, J, R, K, n))))) ∧ (¬ (x1 = 0) → zC G d mX12_isIn 0 0 [.long (p2.toInt64), .long (0), .long (5)] (I2, J, R, K, n) (fun r h => ∃ (x18 : Int32) (I19 : Nat → Nat → Int32), r = some (.int x18) ∧ h = (I19, J, R, K, n) ∧ (∀ I21 : Nat → Nat → Int32, I21 = zU I19 m 0 ((if x18 = 0 then 1 else 0)) → (((I21 m 0 : Int32) ≤ 0 → ((p2 = 0 → ((vp_in ((2 * p1) + p2) 12) ∧ Q (some (.int (I21 (m + 7) ((2 * p1) + p2 : Int32).toNatClampNeg))) (I21, J, R, K, n))) ∧ (p2 = 1 → ((vp_in ((2 * p1) + p2) 12) ∧ Q (some (.int (I21 (m + 7) ((2 * p1) + p2 : Int32).toNatClampNeg))) (I21, J, R, K, n))) ∧ (p2 = 2 → ((vp_in ((27 + (3 * p1)) + 0) 231) ∧ Q (some (.int (I21 (m + 13) ((27 + (3 * p1)) + 0 : Int32).toNatClampNeg))) (I21, J, R, K, n))) ∧ (p2 = 3 → ((vp_in ((27 + (3 * p1)) + 1) 231) ∧ Q (some (.int (I21 (m + 13) ((27 + (3 * p1)) + 1 : Int32).toNatClampNeg))) (I21, J, R, K, n))) ∧ (p2 = 4 → zC G d mX12_bare 0 0 [.ref (m), .ref (m + 13), .int (p1)] (I21, J, R, K, n) (fun r h => ∃ (x32 : Int32) (I33 : Nat → Nat → Int32), r = some (.int x32) ∧ h = (I33, J, R, K, n) ∧ Q (some (.int (x32))) (I33, J, R, K, n))) ∧ (¬ p2 = 0 → ¬ p2 = 1 → ¬ p2 = 2 → ¬ p2 = 3 → ¬ p2 = 4 → ((vp_in ((27 + (3 * p1)) + 2) 231) ∧ Q (some (.int (I21 (m + 13) ((27 + (3 * p1)) + 2 : Int32).toNatClampNeg))) (I21, J, R, K, n))))) ∧ (¬ ((I21 m 0 : Int32) ≤ 0) → Q (some (.int (0))) (I21, J, R, K, n))))))))) : zV G (d + 1) mX12_farm kc ks 0 [(0, .ref (m)), (1, .int (p1)), (2, .int (p2))] [] (I, J, R, K, n) Q := by
  refine zAload_n 0 0 1 (by decide +kernel) rfl rfl ?_
  refine zAload_n 0 0 2 (by decide +kernel) rfl rfl ?_
  refine zIload_n 1 1 3 (by decide +kernel) rfl rfl ?_
  refine zCallV 12 zcls12 mX12_isFarm 306 1 0 0 _ _ 6 [.int (p1)] [.ref (m)] okX12_isFarm mlX12_306 imX12_isFarm seX12_isFarm (by decide +kernel) rfl rfl (Nat.le_of_ble_eq_true rfl) rfl rfl (Mod_0 S0_) (zC.mono F ?_)
  rintro _ _ ⟨x1, I2, rfl, rfl, F⟩
  change zV G (d + 1) mX12_farm kc ks 6 [(0, .ref (m)), (1, .int (p1)), (2, .int (p2))] [.int (x1), .ref (m)] (I2, J, R, K, n) Q
  refine zIf_eq 19 25 9 (by decide +kernel) rfl rfl ⟨fun q3 => ?_, fun q3 => ?_⟩
  · replace F := F.1 q3
    refine zIconst 1 1 26 (by decide +kernel) rfl (by decide) ?_
    refine pf12_0 93 29 (by decide +kernel) rfl flX12_93 (Mod_0 S0_) ?_
    replace F := F _ rfl
    generalize zU I2 m 0 (1) = I4 at F ⊢
    refine zAload_n 0 0 30 (by decide +kernel) rfl rfl ?_
    refine gf12_0 93 33 (by decide +kernel) rfl flX12_93 (Mod_0 S0_) ?_
    refine zIf_le 5 38 36 (by decide +kernel) rfl rfl ⟨fun q5 => ?_, fun q5 => ?_⟩
    · replace F := F.1 q5
      refine zIload_n 2 2 39 (by decide +kernel) rfl rfl ?_
      by_cases q6 : p2 = 0
      · replace F := F.1 q6
        have zt := zEqT q6 (show (0 : Int32).toInt = 0 by decide)
        refine zTableIn 82 0 4 #[33, 33, 44, 58, 72] 33 33 72 (by decide +kernel) (by omega) (by omega) (by rw [zt]; decide) rfl ?_
        refine zAload_n 0 0 73 (by decide +kernel) rfl rfl ?_
        refine gf12_20 43 76 (by decide +kernel) rfl flX12_43 (Mod_0 S0_) (Mod_13 S0_) ?_
        refine zIconst 2 2 77 (by decide +kernel) rfl (by decide) ?_
        refine zIload_n 1 1 78 (by decide +kernel) rfl rfl ?_
        refine zImul 79 (by decide +kernel) rfl ?_
        refine zIload_n 2 2 80 (by decide +kernel) rfl rfl ?_
        refine zIadd 81 (by decide +kernel) rfl ?_
        obtain ⟨w7, F⟩ := F
        refine yIaload 12 82 (by decide +kernel) rfl (Mod_14 S0_) (w7) ?_
        exact zIret rfl (by decide +kernel) F
      · skip
        by_cases q8 : p2 = 1
        · replace F := F.2.1 q8
          have zt := zEqT q8 (show (1 : Int32).toInt = 1 by decide)
          refine zTableIn 82 0 4 #[33, 33, 44, 58, 72] 33 33 72 (by decide +kernel) (by omega) (by omega) (by rw [zt]; decide) rfl ?_
          refine zAload_n 0 0 73 (by decide +kernel) rfl rfl ?_
          refine gf12_20 43 76 (by decide +kernel) rfl flX12_43 (Mod_0 S0_) (Mod_13 S0_) ?_
          refine zIconst 2 2 77 (by decide +kernel) rfl (by decide) ?_
          refine zIload_n 1 1 78 (by decide +kernel) rfl rfl ?_
          refine zImul 79 (by decide +kernel) rfl ?_
          refine zIload_n 2 2 80 (by decide +kernel) rfl rfl ?_
          refine zIadd 81 (by decide +kernel) rfl ?_
          obtain ⟨w9, F⟩ := F
          refine yIaload 12 82 (by decide +kernel) rfl (Mod_14 S0_) (w9) ?_
          exact zIret rfl (by decide +kernel) F
        · skip
          by_cases q10 : p2 = 2
          · replace F := F.2.2.1 q10
            have zt := zEqT q10 (show (2 : Int32).toInt = 2 by decide)
            refine zTableIn 82 0 4 #[33, 33, 44, 58, 72] 33 44 83 (by decide +kernel) (by omega) (by omega) (by rw [zt]; decide) rfl ?_
            refine zAload_n 0 0 84 (by decide +kernel) rfl rfl ?_
            refine gf12_32 61 87 (by decide +kernel) rfl flX12_61 (Mod_0 S0_) (Mod_25 S0_) ?_
            refine zBipush 27 27 89 (by decide +kernel) rfl (by decide) ?_
            refine zIconst 3 3 90 (by decide +kernel) rfl (by decide) ?_
            refine zIload_n 1 1 91 (by decide +kernel) rfl rfl ?_
            refine zImul 92 (by decide +kernel) rfl ?_
            refine zIadd 93 (by decide +kernel) rfl ?_
            refine zIconst 0 0 94 (by decide +kernel) rfl (by decide) ?_
            refine zIadd 95 (by decide +kernel) rfl ?_
            obtain ⟨w11, F⟩ := F
            refine yIaload 231 96 (by decide +kernel) rfl (Mod_26 S0_) (w11) ?_
            exact zIret rfl (by decide +kernel) F
          · skip
            by_cases q12 : p2 = 3
            · replace F := F.2.2.2.1 q12
              have zt := zEqT q12 (show (3 : Int32).toInt = 3 by decide)
              refine zTableIn 82 0 4 #[33, 33, 44, 58, 72] 33 58 97 (by decide +kernel) (by omega) (by omega) (by rw [zt]; decide) rfl ?_
              refine zAload_n 0 0 98 (by decide +kernel) rfl rfl ?_
              refine gf12_32 61 101 (by decide +kernel) rfl flX12_61 (Mod_0 S0_) (Mod_25 S0_) ?_
              refine zBipush 27 27 103 (by decide +kernel) rfl (by decide) ?_
              refine zIconst 3 3 104 (by decide +kernel) rfl (by decide) ?_
              refine zIload_n 1 1 105 (by decide +kernel) rfl rfl ?_
              refine zImul 106 (by decide +kernel) rfl ?_
              refine zIadd 107 (by decide +kernel) rfl ?_
              refine zIconst 1 1 108 (by decide +kernel) rfl (by decide) ?_
              refine zIadd 109 (by decide +kernel) rfl ?_
              obtain ⟨w13, F⟩ := F
              refine yIaload 231 110 (by decide +kernel) rfl (Mod_26 S0_) (w13) ?_
              exact zIret rfl (by decide +kernel) F
            · skip
              by_cases q14 : p2 = 4
              · replace F := F.2.2.2.2.1 q14
                have zt := zEqT q14 (show (4 : Int32).toInt = 4 by decide)
                refine zTableIn 82 0 4 #[33, 33, 44, 58, 72] 33 72 111 (by decide +kernel) (by omega) (by omega) (by rw [zt]; decide) rfl ?_
                refine zAload_n 0 0 112 (by decide +kernel) rfl rfl ?_
                refine zAload_n 0 0 113 (by decide +kernel) rfl rfl ?_
                refine gf12_32 61 116 (by decide +kernel) rfl flX12_61 (Mod_0 S0_) (Mod_25 S0_) ?_
                refine zIload_n 1 1 117 (by decide +kernel) rfl rfl ?_
                refine zCallV 12 zcls12 mX12_bare 333 2 0 0 _ _ 120 [.ref (m + 13), .int (p1)] [] okX12_bare mlX12_333 imX12_bare seX12_bare (by decide +kernel) rfl rfl (Nat.le_of_ble_eq_true rfl) rfl rfl (Mod_0 S0_) (zC.mono F ?_)
                rintro _ _ ⟨x15, I16, rfl, rfl, F⟩
                change zV G (d + 1) mX12_farm kc ks 120 [(0, .ref (m)), (1, .int (p1)), (2, .int (p2))] [.int (x15)] (I16, J, R, K, n) Q
                exact zIret rfl (by decide +kernel) F
              · skip
                replace F := F.2.2.2.2.2 q6 q8 q10 q12 q14
                have zq6 := zNeT q6 (show (0 : Int32).toInt = 0 by decide)
                have zq8 := zNeT q8 (show (1 : Int32).toInt = 1 by decide)
                have zq10 := zNeT q10 (show (2 : Int32).toInt = 2 by decide)
                have zq12 := zNeT q12 (show (3 : Int32).toInt = 3 by decide)
                have zq14 := zNeT q14 (show (4 : Int32).toInt = 4 by decide)
                refine zTableOut 82 0 4 #[33, 33, 44, 58, 72] 33 121 (by decide +kernel) (by omega) rfl ?_
                refine zAload_n 0 0 122 (by decide +kernel) rfl rfl ?_
                refine gf12_32 61 125 (by decide +kernel) rfl flX12_61 (Mod_0 S0_) (Mod_25 S0_) ?_
                refine zBipush 27 27 127 (by decide +kernel) rfl (by decide) ?_
                refine zIconst 3 3 128 (by decide +kernel) rfl (by decide) ?_
                refine zIload_n 1 1 129 (by decide +kernel) rfl rfl ?_
                refine zImul 130 (by decide +kernel) rfl ?_
                refine zIadd 131 (by decide +kernel) rfl ?_
                refine zIconst 2 2 132 (by decide +kernel) rfl (by decide) ?_
                refine zIadd 133 (by decide +kernel) rfl ?_
                obtain ⟨w17, F⟩ := F
                refine yIaload 231 134 (by decide +kernel) rfl (Mod_26 S0_) (w17) ?_
                exact zIret rfl (by decide +kernel) F
    · replace F := F.2 q5
      refine zIconst 0 0 37 (by decide +kernel) rfl (by decide) ?_
      exact zIret rfl (by decide +kernel) F
  · replace F := F.2 q3
    refine zIload_n 2 2 10 (by decide +kernel) rfl rfl ?_
    refine zI2l 11 (by decide +kernel) rfl ?_
    refine zLconst 0 0 12 (by decide +kernel) rfl (by decide) ?_
    refine zLdc2 356 5 15 (by decide +kernel) rfl klX12_356 ?_
    refine zCallS mX12_isIn 214 3 0 0 _ _ 18 [.long (p2.toInt64), .long (0), .long (5)] [.ref (m)] okX12_isIn mlX12_214 smX12_isIn (by decide +kernel) rfl rfl (Nat.le_of_ble_eq_true rfl) rfl rfl (zC.mono F ?_)
    rintro _ _ ⟨x18, I19, rfl, rfl, F⟩
    change zV G (d + 1) mX12_farm kc ks 18 [(0, .ref (m)), (1, .int (p1)), (2, .int (p2))] [.int (x18), .ref (m)] (I19, J, R, K, n) Q
    suffices KK : zV G (d + 1) mX12_farm kc ks 26 [(0, .ref (m)), (1, .int (p1)), (2, .int (p2))] [.int ((if x18 = 0 then 1 else 0)), .ref (m)] (I19, J, R, K, n) Q by
      refine zIf_eq 7 25 21 (by decide +kernel) rfl rfl ⟨fun q20 => ?_, fun q20 => ?_⟩
      · refine zIconst 1 1 26 (by decide +kernel) rfl (by decide) ?_
        exact zTop (by rw [if_pos q20]) KK
      · refine zIconst 0 0 22 (by decide +kernel) rfl (by decide) ?_
        refine zGoto 4 26 (by decide +kernel) rfl ?_
        exact zTop (by rw [if_neg q20]) KK
    refine pf12_0 93 29 (by decide +kernel) rfl flX12_93 (Mod_0 S0_) ?_
    replace F := F _ rfl
    generalize zU I19 m 0 ((if x18 = 0 then 1 else 0)) = I21 at F ⊢
    refine zAload_n 0 0 30 (by decide +kernel) rfl rfl ?_
    refine gf12_0 93 33 (by decide +kernel) rfl flX12_93 (Mod_0 S0_) ?_
    refine zIf_le 5 38 36 (by decide +kernel) rfl rfl ⟨fun q22 => ?_, fun q22 => ?_⟩
    · replace F := F.1 q22
      refine zIload_n 2 2 39 (by decide +kernel) rfl rfl ?_
      by_cases q23 : p2 = 0
      · replace F := F.1 q23
        have zt := zEqT q23 (show (0 : Int32).toInt = 0 by decide)
        refine zTableIn 82 0 4 #[33, 33, 44, 58, 72] 33 33 72 (by decide +kernel) (by omega) (by omega) (by rw [zt]; decide) rfl ?_
        refine zAload_n 0 0 73 (by decide +kernel) rfl rfl ?_
        refine gf12_20 43 76 (by decide +kernel) rfl flX12_43 (Mod_0 S0_) (Mod_13 S0_) ?_
        refine zIconst 2 2 77 (by decide +kernel) rfl (by decide) ?_
        refine zIload_n 1 1 78 (by decide +kernel) rfl rfl ?_
        refine zImul 79 (by decide +kernel) rfl ?_
        refine zIload_n 2 2 80 (by decide +kernel) rfl rfl ?_
        refine zIadd 81 (by decide +kernel) rfl ?_
        obtain ⟨w24, F⟩ := F
        refine yIaload 12 82 (by decide +kernel) rfl (Mod_14 S0_) (w24) ?_
        exact zIret rfl (by decide +kernel) F
      · skip
        by_cases q25 : p2 = 1
        · replace F := F.2.1 q25
          have zt := zEqT q25 (show (1 : Int32).toInt = 1 by decide)
          refine zTableIn 82 0 4 #[33, 33, 44, 58, 72] 33 33 72 (by decide +kernel) (by omega) (by omega) (by rw [zt]; decide) rfl ?_
          refine zAload_n 0 0 73 (by decide +kernel) rfl rfl ?_
          refine gf12_20 43 76 (by decide +kernel) rfl flX12_43 (Mod_0 S0_) (Mod_13 S0_) ?_
          refine zIconst 2 2 77 (by decide +kernel) rfl (by decide) ?_
          refine zIload_n 1 1 78 (by decide +kernel) rfl rfl ?_
          refine zImul 79 (by decide +kernel) rfl ?_
          refine zIload_n 2 2 80 (by decide +kernel) rfl rfl ?_
          refine zIadd 81 (by decide +kernel) rfl ?_
          obtain ⟨w26, F⟩ := F
          refine yIaload 12 82 (by decide +kernel) rfl (Mod_14 S0_) (w26) ?_
          exact zIret rfl (by decide +kernel) F
        · skip
          by_cases q27 : p2 = 2
          · replace F := F.2.2.1 q27
            have zt := zEqT q27 (show (2 : Int32).toInt = 2 by decide)
            refine zTableIn 82 0 4 #[33, 33, 44, 58, 72] 33 44 83 (by decide +kernel) (by omega) (by omega) (by rw [zt]; decide) rfl ?_
            refine zAload_n 0 0 84 (by decide +kernel) rfl rfl ?_
            refine gf12_32 61 87 (by decide +kernel) rfl flX12_61 (Mod_0 S0_) (Mod_25 S0_) ?_
            refine zBipush 27 27 89 (by decide +kernel) rfl (by decide) ?_
            refine zIconst 3 3 90 (by decide +kernel) rfl (by decide) ?_
            refine zIload_n 1 1 91 (by decide +kernel) rfl rfl ?_
            refine zImul 92 (by decide +kernel) rfl ?_
            refine zIadd 93 (by decide +kernel) rfl ?_
            refine zIconst 0 0 94 (by decide +kernel) rfl (by decide) ?_
            refine zIadd 95 (by decide +kernel) rfl ?_
            obtain ⟨w28, F⟩ := F
            refine yIaload 231 96 (by decide +kernel) rfl (Mod_26 S0_) (w28) ?_
            exact zIret rfl (by decide +kernel) F
          · skip
            by_cases q29 : p2 = 3
            · replace F := F.2.2.2.1 q29
              have zt := zEqT q29 (show (3 : Int32).toInt = 3 by decide)
              refine zTableIn 82 0 4 #[33, 33, 44, 58, 72] 33 58 97 (by decide +kernel) (by omega) (by omega) (by rw [zt]; decide) rfl ?_
              refine zAload_n 0 0 98 (by decide +kernel) rfl rfl ?_
              refine gf12_32 61 101 (by decide +kernel) rfl flX12_61 (Mod_0 S0_) (Mod_25 S0_) ?_
              refine zBipush 27 27 103 (by decide +kernel) rfl (by decide) ?_
              refine zIconst 3 3 104 (by decide +kernel) rfl (by decide) ?_
              refine zIload_n 1 1 105 (by decide +kernel) rfl rfl ?_
              refine zImul 106 (by decide +kernel) rfl ?_
              refine zIadd 107 (by decide +kernel) rfl ?_
              refine zIconst 1 1 108 (by decide +kernel) rfl (by decide) ?_
              refine zIadd 109 (by decide +kernel) rfl ?_
              obtain ⟨w30, F⟩ := F
              refine yIaload 231 110 (by decide +kernel) rfl (Mod_26 S0_) (w30) ?_
              exact zIret rfl (by decide +kernel) F
            · skip
              by_cases q31 : p2 = 4
              · replace F := F.2.2.2.2.1 q31
                have zt := zEqT q31 (show (4 : Int32).toInt = 4 by decide)
                refine zTableIn 82 0 4 #[33, 33, 44, 58, 72] 33 72 111 (by decide +kernel) (by omega) (by omega) (by rw [zt]; decide) rfl ?_
                refine zAload_n 0 0 112 (by decide +kernel) rfl rfl ?_
                refine zAload_n 0 0 113 (by decide +kernel) rfl rfl ?_
                refine gf12_32 61 116 (by decide +kernel) rfl flX12_61 (Mod_0 S0_) (Mod_25 S0_) ?_
                refine zIload_n 1 1 117 (by decide +kernel) rfl rfl ?_
                refine zCallV 12 zcls12 mX12_bare 333 2 0 0 _ _ 120 [.ref (m + 13), .int (p1)] [] okX12_bare mlX12_333 imX12_bare seX12_bare (by decide +kernel) rfl rfl (Nat.le_of_ble_eq_true rfl) rfl rfl (Mod_0 S0_) (zC.mono F ?_)
                rintro _ _ ⟨x32, I33, rfl, rfl, F⟩
                change zV G (d + 1) mX12_farm kc ks 120 [(0, .ref (m)), (1, .int (p1)), (2, .int (p2))] [.int (x32)] (I33, J, R, K, n) Q
                exact zIret rfl (by decide +kernel) F
              · skip
                replace F := F.2.2.2.2.2 q23 q25 q27 q29 q31
                have zq23 := zNeT q23 (show (0 : Int32).toInt = 0 by decide)
                have zq25 := zNeT q25 (show (1 : Int32).toInt = 1 by decide)
                have zq27 := zNeT q27 (show (2 : Int32).toInt = 2 by decide)
                have zq29 := zNeT q29 (show (3 : Int32).toInt = 3 by decide)
                have zq31 := zNeT q31 (show (4 : Int32).toInt = 4 by decide)
                refine zTableOut 82 0 4 #[33, 33, 44, 58, 72] 33 121 (by decide +kernel) (by omega) rfl ?_
                refine zAload_n 0 0 122 (by decide +kernel) rfl rfl ?_
                refine gf12_32 61 125 (by decide +kernel) rfl flX12_61 (Mod_0 S0_) (Mod_25 S0_) ?_
                refine zBipush 27 27 127 (by decide +kernel) rfl (by decide) ?_
                refine zIconst 3 3 128 (by decide +kernel) rfl (by decide) ?_
                refine zIload_n 1 1 129 (by decide +kernel) rfl rfl ?_
                refine zImul 130 (by decide +kernel) rfl ?_
                refine zIadd 131 (by decide +kernel) rfl ?_
                refine zIconst 2 2 132 (by decide +kernel) rfl (by decide) ?_
                refine zIadd 133 (by decide +kernel) rfl ?_
                obtain ⟨w34, F⟩ := F
                refine yIaload 231 134 (by decide +kernel) rfl (Mod_26 S0_) (w34) ?_
                exact zIret rfl (by decide +kernel) F
    · replace F := F.2 q22
      refine zIconst 0 0 37 (by decide +kernel) rfl (by decide) ?_
      exact zIret rfl (by decide +kernel) F
set_option maxHeartbeats 2000000 in
theorem wX12_wrong_0 {G : zG} {d kc ks : Nat} {I : Nat → Nat → Int32} {J : Nat → Nat → Int64} {R : Nat → Nat → Option Nat} {K : Nat → Nat × Nat} {n : Nat} {Q : Option Value → zH → Prop} (m t c : Nat) (S0_ : hMod G R K n m t c) (p1 p2 : Int32) (F : (∀ I1 : Nat → Nat → Int32, I1 = zU I m 0 (0) → zC G d mX12_isOpen 0 0 [.ref (m + 13), .int (p1)] (I1, J, R, K, n) (fun r h => ∃ (x2 : Int32) (I3 : Nat → Nat → Int32), r = some (.int x2) ∧ h = (I3, J, R, K, n) ∧ ((x2 = 0 → Q (some (.int ((-1)))) (I3, J, R, K, n)) ∧ (¬ (x2 = 0) → zC G d mX12_isIn 0 0 [.long (p2.toInt64), .long (0), .long (3)] (I3, J, R, K, n) (fun r h => ∃ (x5 : Int32) (I6 : Nat → Nat → Int32), r = some (.int x5) ∧ h = (I6, J, R, K, n) ∧ ((x5 = 0 → Q (some (.int ((-1)))) (I6, J, R, K, n)) ∧ (¬ (x5 = 0) → ((p2 = 3 → zC G d mX12_yardsOf 0 0 [.ref (m), .ref (m + 13), .int (p1)] (I6, J, R, K, n) (fun r h => ∃ (x10 : Int32) (I11 : Nat → Nat → Int32) (J12 : Nat → Nat → Int64) (R13 : Nat → Nat → Option Nat), r = some (.int x10) ∧ h = (I11, J12, R13, K, n) ∧ ∃ u14 u15 : Nat, hMod G R13 K n m u14 u15 ∧ Q (some (.int (x10))) (I11, J12, R13, K, n))) ∧ (¬ (p2 = 3) → ((vp_in ((3 * p1) + p2) 231) ∧ Q (some (.int (I6 (m + 13) ((3 * p1) + p2 : Int32).toNatClampNeg))) (I6, J, R, K, n)))))))))))) : zV G (d + 1) mX12_wrong kc ks 0 [(0, .ref (m)), (1, .int (p1)), (2, .int (p2))] [] (I, J, R, K, n) Q := by
  refine zAload_n 0 0 1 (by decide +kernel) rfl rfl ?_
  refine zIconst 0 0 2 (by decide +kernel) rfl (by decide) ?_
  refine pf12_0 93 5 (by decide +kernel) rfl flX12_93 (Mod_0 S0_) ?_
  replace F := F _ rfl
  generalize zU I m 0 (0) = I1 at F ⊢
  refine zAload_n 0 0 6 (by decide +kernel) rfl rfl ?_
  refine gf12_32 61 9 (by decide +kernel) rfl flX12_61 (Mod_0 S0_) (Mod_25 S0_) ?_
  refine zIload_n 1 1 10 (by decide +kernel) rfl rfl ?_
  refine zCallS mX12_isOpen 358 2 0 0 _ _ 13 [.ref (m + 13), .int (p1)] [] okX12_isOpen mlX12_358 smX12_isOpen (by decide +kernel) rfl rfl (Nat.le_of_ble_eq_true rfl) rfl rfl (zC.mono F ?_)
  rintro _ _ ⟨x2, I3, rfl, rfl, F⟩
  change zV G (d + 1) mX12_wrong kc ks 13 [(0, .ref (m)), (1, .int (p1)), (2, .int (p2))] [.int (x2)] (I3, J, R, K, n) Q
  refine zIf_eq 15 28 16 (by decide +kernel) rfl rfl ⟨fun q4 => ?_, fun q4 => ?_⟩
  · replace F := F.1 q4
    refine zIconst (-1) (-1) 29 (by decide +kernel) rfl (by decide) ?_
    exact zIret rfl (by decide +kernel) F
  · replace F := F.2 q4
    refine zIload_n 2 2 17 (by decide +kernel) rfl rfl ?_
    refine zI2l 18 (by decide +kernel) rfl ?_
    refine zLconst 0 0 19 (by decide +kernel) rfl (by decide) ?_
    refine zLdc2 362 3 22 (by decide +kernel) rfl klX12_362 ?_
    refine zCallS mX12_isIn 214 3 0 0 _ _ 25 [.long (p2.toInt64), .long (0), .long (3)] [] okX12_isIn mlX12_214 smX12_isIn (by decide +kernel) rfl rfl (Nat.le_of_ble_eq_true rfl) rfl rfl (zC.mono F ?_)
    rintro _ _ ⟨x5, I6, rfl, rfl, F⟩
    change zV G (d + 1) mX12_wrong kc ks 25 [(0, .ref (m)), (1, .int (p1)), (2, .int (p2))] [.int (x5)] (I6, J, R, K, n) Q
    refine zIf_ne 5 30 28 (by decide +kernel) rfl rfl ⟨fun q7 => ?_, fun q7 => ?_⟩
    · replace F := F.2 q7
      refine zIload_n 2 2 31 (by decide +kernel) rfl rfl ?_
      refine zIconst 3 3 32 (by decide +kernel) rfl (by decide) ?_
      refine zIcmp_ne 15 47 35 (by decide +kernel) rfl rfl ⟨fun q8 => ?_, fun q8 => ?_⟩
      · replace F := F.2 q8
        refine zAload_n 0 0 48 (by decide +kernel) rfl rfl ?_
        refine gf12_32 61 51 (by decide +kernel) rfl flX12_61 (Mod_0 S0_) (Mod_25 S0_) ?_
        refine zIconst 3 3 52 (by decide +kernel) rfl (by decide) ?_
        refine zIload_n 1 1 53 (by decide +kernel) rfl rfl ?_
        refine zImul 54 (by decide +kernel) rfl ?_
        refine zIload_n 2 2 55 (by decide +kernel) rfl rfl ?_
        refine zIadd 56 (by decide +kernel) rfl ?_
        obtain ⟨w9, F⟩ := F
        refine yIaload 231 57 (by decide +kernel) rfl (Mod_26 S0_) (w9) ?_
        exact zIret rfl (by decide +kernel) F
      · replace F := F.1 q8
        refine zAload_n 0 0 36 (by decide +kernel) rfl rfl ?_
        refine zAload_n 0 0 37 (by decide +kernel) rfl rfl ?_
        refine gf12_32 61 40 (by decide +kernel) rfl flX12_61 (Mod_0 S0_) (Mod_25 S0_) ?_
        refine zIload_n 1 1 41 (by decide +kernel) rfl rfl ?_
        refine zCallV 12 zcls12 mX12_yardsOf 339 2 0 0 _ _ 44 [.ref (m + 13), .int (p1)] [] okX12_yardsOf mlX12_339 imX12_yardsOf seX12_yardsOf (by decide +kernel) rfl rfl (Nat.le_of_ble_eq_true rfl) rfl rfl (Mod_0 S0_) (zC.mono F ?_)
        rintro _ _ ⟨x10, I11, J12, R13, rfl, rfl, F⟩
        change zV G (d + 1) mX12_wrong kc ks 44 [(0, .ref (m)), (1, .int (p1)), (2, .int (p2))] [.int (x10)] (I11, J12, R13, K, n) Q
        obtain ⟨u14, u15, S16, F⟩ := F
        refine zGoto 13 57 (by decide +kernel) rfl ?_
        exact zIret rfl (by decide +kernel) F
    · replace F := F.1 q7
      refine zIconst (-1) (-1) 29 (by decide +kernel) rfl (by decide) ?_
      exact zIret rfl (by decide +kernel) F
set_option maxHeartbeats 2000000 in
theorem wX12_law_0 {G : zG} {d kc ks : Nat} {I : Nat → Nat → Int32} {J : Nat → Nat → Int64} {R : Nat → Nat → Option Nat} {K : Nat → Nat × Nat} {n : Nat} {Q : Option Value → zH → Prop} (m t c : Nat) (S0_ : hMod G R K n m t c) (p1 : Int32) (F : (∀ I1 : Nat → Nat → Int32, I1 = zU I m 0 (0) → ((p1 = (-1) → (∀ I3 : Nat → Nat → Int32, I3 = zU I1 m 34 (p1) → Q (some (.int (1))) (I3, J, R, K, n))) ∧ (¬ (p1 = (-1)) → zC G d mX12_isIn 0 0 [.long (p1.toInt64), .long (0), .long (((I1 m 7) - 1 : Int32).toInt64)] (I1, J, R, K, n) (fun r h => ∃ (x4 : Int32) (I5 : Nat → Nat → Int32), r = some (.int x4) ∧ h = (I5, J, R, K, n) ∧ ((x4 = 0 → Q (some (.int (0))) (I5, J, R, K, n)) ∧ (¬ (x4 = 0) → (∀ I7 : Nat → Nat → Int32, I7 = zU I5 m 34 (p1) → Q (some (.int (1))) (I7, J, R, K, n))))))))) : zV G (d + 1) mX12_law kc ks 0 [(0, .ref (m)), (1, .int (p1))] [] (I, J, R, K, n) Q := by
  refine zAload_n 0 0 1 (by decide +kernel) rfl rfl ?_
  refine zIconst 0 0 2 (by decide +kernel) rfl (by decide) ?_
  refine pf12_0 93 5 (by decide +kernel) rfl flX12_93 (Mod_0 S0_) ?_
  replace F := F _ rfl
  generalize zU I m 0 (0) = I1 at F ⊢
  refine zIload_n 1 1 6 (by decide +kernel) rfl rfl ?_
  refine zIconst (-1) (-1) 7 (by decide +kernel) rfl (by decide) ?_
  refine zIcmp_eq 21 28 10 (by decide +kernel) rfl rfl ⟨fun q2 => ?_, fun q2 => ?_⟩
  · replace F := F.1 q2
    refine zAload_n 0 0 29 (by decide +kernel) rfl rfl ?_
    refine zIload_n 1 1 30 (by decide +kernel) rfl rfl ?_
    refine pf12_34 67 33 (by decide +kernel) rfl flX12_67 (Mod_0 S0_) ?_
    replace F := F _ rfl
    generalize zU I1 m 34 (p1) = I3 at F ⊢
    refine zIconst 1 1 34 (by decide +kernel) rfl (by decide) ?_
    exact zZret .boolean rfl (zNarZ (Or.inr rfl)) (by decide +kernel) F
  · replace F := F.2 q2
    refine zIload_n 1 1 11 (by decide +kernel) rfl rfl ?_
    refine zI2l 12 (by decide +kernel) rfl ?_
    refine zLconst 0 0 13 (by decide +kernel) rfl (by decide) ?_
    refine zAload_n 0 0 14 (by decide +kernel) rfl rfl ?_
    refine gf12_7 283 17 (by decide +kernel) rfl flX12_283 (Mod_0 S0_) ?_
    refine zIconst 1 1 18 (by decide +kernel) rfl (by decide) ?_
    refine zIsub 19 (by decide +kernel) rfl ?_
    refine zI2l 20 (by decide +kernel) rfl ?_
    refine zCallS mX12_isIn 214 3 0 0 _ _ 23 [.long (p1.toInt64), .long (0), .long (((I1 m 7) - 1 : Int32).toInt64)] [] okX12_isIn mlX12_214 smX12_isIn (by decide +kernel) rfl rfl (Nat.le_of_ble_eq_true rfl) rfl rfl (zC.mono F ?_)
    rintro _ _ ⟨x4, I5, rfl, rfl, F⟩
    change zV G (d + 1) mX12_law kc ks 23 [(0, .ref (m)), (1, .int (p1))] [.int (x4)] (I5, J, R, K, n) Q
    refine zIf_ne 5 28 26 (by decide +kernel) rfl rfl ⟨fun q6 => ?_, fun q6 => ?_⟩
    · replace F := F.2 q6
      refine zAload_n 0 0 29 (by decide +kernel) rfl rfl ?_
      refine zIload_n 1 1 30 (by decide +kernel) rfl rfl ?_
      refine pf12_34 67 33 (by decide +kernel) rfl flX12_67 (Mod_0 S0_) ?_
      replace F := F _ rfl
      generalize zU I5 m 34 (p1) = I7 at F ⊢
      refine zIconst 1 1 34 (by decide +kernel) rfl (by decide) ?_
      exact zZret .boolean rfl (zNarZ (Or.inr rfl)) (by decide +kernel) F
    · replace F := F.1 q6
      refine zIconst 0 0 27 (by decide +kernel) rfl (by decide) ?_
      exact zZret .boolean rfl (zNarZ (Or.inl rfl)) (by decide +kernel) F
set_option maxHeartbeats 2000000 in
theorem wX12_apples_0 {G : zG} {d kc ks : Nat} {I : Nat → Nat → Int32} {J : Nat → Nat → Int64} {R : Nat → Nat → Option Nat} {K : Nat → Nat × Nat} {n : Nat} {Q : Option Value → zH → Prop} (m t c : Nat) (S0_ : hMod G R K n m t c) (p1 : Int32) (F : (∀ I1 : Nat → Nat → Int32, I1 = zU I m 0 (0) → zC G d mX12_isIn 0 0 [.long (p1.toInt64), .long (0), .long (9)] (I1, J, R, K, n) (fun r h => ∃ (x2 : Int32) (I3 : Nat → Nat → Int32), r = some (.int x2) ∧ h = (I3, J, R, K, n) ∧ ((x2 = 0 → Q (some (.int (0))) (I3, J, R, K, n)) ∧ (¬ (x2 = 0) → ((p1 = (I3 m 35 : Int32) → Q (some (.int (0))) (I3, J, R, K, n)) ∧ (¬ (p1 = (I3 m 35 : Int32)) → (∀ I6 : Nat → Nat → Int32, I6 = zU I3 m 35 (p1) → Q (some (.int (1))) (I6, J, R, K, n))))))))) : zV G (d + 1) mX12_apples kc ks 0 [(0, .ref (m)), (1, .int (p1))] [] (I, J, R, K, n) Q := by
  refine zAload_n 0 0 1 (by decide +kernel) rfl rfl ?_
  refine zIconst 0 0 2 (by decide +kernel) rfl (by decide) ?_
  refine pf12_0 93 5 (by decide +kernel) rfl flX12_93 (Mod_0 S0_) ?_
  replace F := F _ rfl
  generalize zU I m 0 (0) = I1 at F ⊢
  refine zIload_n 1 1 6 (by decide +kernel) rfl rfl ?_
  refine zI2l 7 (by decide +kernel) rfl ?_
  refine zLconst 0 0 8 (by decide +kernel) rfl (by decide) ?_
  refine zLdc2 342 9 11 (by decide +kernel) rfl klX12_342 ?_
  refine zCallS mX12_isIn 214 3 0 0 _ _ 14 [.long (p1.toInt64), .long (0), .long (9)] [] okX12_isIn mlX12_214 smX12_isIn (by decide +kernel) rfl rfl (Nat.le_of_ble_eq_true rfl) rfl rfl (zC.mono F ?_)
  rintro _ _ ⟨x2, I3, rfl, rfl, F⟩
  change zV G (d + 1) mX12_apples kc ks 14 [(0, .ref (m)), (1, .int (p1))] [.int (x2)] (I3, J, R, K, n) Q
  refine zIf_eq 11 25 17 (by decide +kernel) rfl rfl ⟨fun q4 => ?_, fun q4 => ?_⟩
  · replace F := F.1 q4
    refine zIconst 0 0 26 (by decide +kernel) rfl (by decide) ?_
    exact zZret .boolean rfl (zNarZ (Or.inl rfl)) (by decide +kernel) F
  · replace F := F.2 q4
    refine zIload_n 1 1 18 (by decide +kernel) rfl rfl ?_
    refine zAload_n 0 0 19 (by decide +kernel) rfl rfl ?_
    refine gf12_35 71 22 (by decide +kernel) rfl flX12_71 (Mod_0 S0_) ?_
    refine zIcmp_ne 5 27 25 (by decide +kernel) rfl rfl ⟨fun q5 => ?_, fun q5 => ?_⟩
    · replace F := F.2 q5
      refine zAload_n 0 0 28 (by decide +kernel) rfl rfl ?_
      refine zIload_n 1 1 29 (by decide +kernel) rfl rfl ?_
      refine pf12_35 71 32 (by decide +kernel) rfl flX12_71 (Mod_0 S0_) ?_
      replace F := F _ rfl
      generalize zU I3 m 35 (p1) = I6 at F ⊢
      refine zIconst 1 1 33 (by decide +kernel) rfl (by decide) ?_
      exact zZret .boolean rfl (zNarZ (Or.inr rfl)) (by decide +kernel) F
    · replace F := F.1 q5
      refine zIconst 0 0 26 (by decide +kernel) rfl (by decide) ?_
      exact zZret .boolean rfl (zNarZ (Or.inl rfl)) (by decide +kernel) F
set_option maxHeartbeats 2000000 in
theorem wX12_remember_0 {G : zG} {d kc ks : Nat} {I : Nat → Nat → Int32} {J : Nat → Nat → Int64} {R : Nat → Nat → Option Nat} {K : Nat → Nat × Nat} {n : Nat} {Q : Option Value → zH → Prop} (m t c : Nat) (S0_ : hMod G R K n m t c) (F : (((I m 39 : Int32) = 40 → zV G (d + 1) mX12_remember kc ks 11 [(0, .ref (m)), (1, .int (0))] [] (I, J, R, K, n) Q) ∧ (¬ ((I m 39 : Int32) = 40) → zV G (d + 1) mX12_remember kc ks 52 [(0, .ref (m)), (1, .int (0))] [] (I, J, R, K, n) Q))) : zV G (d + 1) mX12_remember kc ks 0 [(0, .ref (m))] [] (I, J, R, K, n) Q := by
  refine zAload_n 0 0 1 (by decide +kernel) rfl rfl ?_
  refine gf12_39 300 4 (by decide +kernel) rfl flX12_300 (Mod_0 S0_) ?_
  refine zBipush 40 40 6 (by decide +kernel) rfl (by decide) ?_
  refine zIcmp_ne 44 50 9 (by decide +kernel) rfl rfl ⟨fun q1 => ?_, fun q1 => ?_⟩
  · replace F := F.2 q1
    refine zIconst 0 0 51 (by decide +kernel) rfl (by decide) ?_
    refine zIstore_n 1 [(1, .int (0)), (0, .ref (m))] 52 (by decide +kernel) rfl (by decide) rfl ?_
    exact zLoc [1, 0] _ rfl F
  · replace F := F.1 q1
    refine zIconst 0 0 10 (by decide +kernel) rfl (by decide) ?_
    refine zIstore_n 1 [(1, .int (0)), (0, .ref (m))] 11 (by decide +kernel) rfl (by decide) rfl ?_
    exact zLoc [1, 0] _ rfl F
set_option maxHeartbeats 2000000 in
theorem wX12_remember_52 {G : zG} {d kc ks : Nat} {I : Nat → Nat → Int32} {J : Nat → Nat → Int64} {R : Nat → Nat → Option Nat} {K : Nat → Nat × Nat} {n : Nat} {Q : Option Value → zH → Prop} (m t c : Nat) (S0_ : hMod G R K n m t c) (l1 : Int32) (F : ((231 ≤ l1 → (∀ I3 : Nat → Nat → Int32, I3 = zU I m 39 ((I m 39) + 1) → Q none (I3, J, R, K, n))) ∧ (¬ (231 ≤ l1) → ((vp_in l1 231) ∧ (vp_in ((231 * (I m 39)) + l1) 9240 ∧ ∀ I5 : Nat → Nat → Int32, I5 = zU I (m + 17) ((231 * (I m 39)) + l1 : Int32).toNatClampNeg (I (m + 13) l1.toNatClampNeg) → zV G (d + 1) mX12_remember kc ks 52 [(0, .ref (m)), (1, .int (l1 + 1))] [] (I5, J, R, K, n) Q))))) : zV G (d + 1) mX12_remember kc ks 52 [(0, .ref (m)), (1, .int (l1))] [] (I, J, R, K, n) Q := by
  refine zIload_n 1 1 53 (by decide +kernel) rfl rfl ?_
  refine zSipush 231 231 56 (by decide +kernel) rfl (by decide) ?_
  refine zIcmp_ge 30 86 59 (by decide +kernel) rfl rfl ⟨fun q2 => ?_, fun q2 => ?_⟩
  · replace F := F.1 q2
    refine zAload_n 0 0 87 (by decide +kernel) rfl rfl ?_
    refine zDup 88 (by decide +kernel) rfl rfl ?_
    refine gf12_39 300 91 (by decide +kernel) rfl flX12_300 (Mod_0 S0_) ?_
    refine zIconst 1 1 92 (by decide +kernel) rfl (by decide) ?_
    refine zIadd 93 (by decide +kernel) rfl ?_
    refine pf12_39 300 96 (by decide +kernel) rfl flX12_300 (Mod_0 S0_) ?_
    replace F := F _ rfl
    generalize zU I m 39 ((I m 39) + 1) = I3 at F ⊢
    exact zVret rfl (by decide +kernel) F
  · replace F := F.2 q2
    refine zAload_n 0 0 60 (by decide +kernel) rfl rfl ?_
    refine gf12_38 81 63 (by decide +kernel) rfl flX12_81 (Mod_0 S0_) (Mod_33 S0_) ?_
    refine zSipush 231 231 66 (by decide +kernel) rfl (by decide) ?_
    refine zAload_n 0 0 67 (by decide +kernel) rfl rfl ?_
    refine gf12_39 300 70 (by decide +kernel) rfl flX12_300 (Mod_0 S0_) ?_
    refine zImul 71 (by decide +kernel) rfl ?_
    refine zIload_n 1 1 72 (by decide +kernel) rfl rfl ?_
    refine zIadd 73 (by decide +kernel) rfl ?_
    refine zAload_n 0 0 74 (by decide +kernel) rfl rfl ?_
    refine gf12_32 61 77 (by decide +kernel) rfl flX12_61 (Mod_0 S0_) (Mod_25 S0_) ?_
    refine zIload_n 1 1 78 (by decide +kernel) rfl rfl ?_
    obtain ⟨w4, F⟩ := F
    refine yIaload 231 79 (by decide +kernel) rfl (Mod_26 S0_) (w4) ?_
    refine yIastore 9240 80 (by decide +kernel) rfl (Mod_34 S0_) F.1 ?_
    replace F := F.2 _ rfl
    generalize zU I (m + 17) ((231 * (I m 39)) + l1 : Int32).toNatClampNeg (I (m + 13) l1.toNatClampNeg) = I5 at F ⊢
    refine zIinc 1 1 1 (l1 + 1) [(1, .int (l1 + 1)), (0, .ref (m))] 83 (by decide +kernel) rfl rfl (by rfl) (by decide) rfl ?_
    refine zGoto (-31) 52 (by decide +kernel) rfl ?_
    exact zLoc [1, 0] _ rfl F
set_option maxHeartbeats 2000000 in
theorem wX12_remember_11 {G : zG} {d kc ks : Nat} {I : Nat → Nat → Int32} {J : Nat → Nat → Int64} {R : Nat → Nat → Option Nat} {K : Nat → Nat × Nat} {n : Nat} {Q : Option Value → zH → Prop} (m t c : Nat) (S0_ : hMod G R K n m t c) (l1 : Int32) (F : ((9009 ≤ l1 → (∀ I7 : Nat → Nat → Int32, I7 = zU I m 39 ((I m 39) - 1) → zV G (d + 1) mX12_remember kc ks 52 [(0, .ref (m)), (1, .int (0))] [] (I7, J, R, K, n) Q)) ∧ (¬ (9009 ≤ l1) → ((vp_in (l1 + 231) 9240) ∧ (vp_in l1 9240 ∧ ∀ I9 : Nat → Nat → Int32, I9 = zU I (m + 17) l1.toNatClampNeg (I (m + 17) (l1 + 231 : Int32).toNatClampNeg) → zV G (d + 1) mX12_remember kc ks 11 [(0, .ref (m)), (1, .int (l1 + 1))] [] (I9, J, R, K, n) Q))))) : zV G (d + 1) mX12_remember kc ks 11 [(0, .ref (m)), (1, .int (l1))] [] (I, J, R, K, n) Q := by
  refine zIload_n 1 1 12 (by decide +kernel) rfl rfl ?_
  refine zSipush 9009 9009 15 (by decide +kernel) rfl (by decide) ?_
  refine zIcmp_ge 25 40 18 (by decide +kernel) rfl rfl ⟨fun q6 => ?_, fun q6 => ?_⟩
  · replace F := F.1 q6
    refine zAload_n 0 0 41 (by decide +kernel) rfl rfl ?_
    refine zDup 42 (by decide +kernel) rfl rfl ?_
    refine gf12_39 300 45 (by decide +kernel) rfl flX12_300 (Mod_0 S0_) ?_
    refine zIconst 1 1 46 (by decide +kernel) rfl (by decide) ?_
    refine zIsub 47 (by decide +kernel) rfl ?_
    refine pf12_39 300 50 (by decide +kernel) rfl flX12_300 (Mod_0 S0_) ?_
    replace F := F _ rfl
    generalize zU I m 39 ((I m 39) - 1) = I7 at F ⊢
    refine zIconst 0 0 51 (by decide +kernel) rfl (by decide) ?_
    refine zIstore_n 1 [(1, .int (0)), (0, .ref (m))] 52 (by decide +kernel) rfl (by decide) rfl ?_
    exact zLoc [1, 0] _ rfl F
  · replace F := F.2 q6
    refine zAload_n 0 0 19 (by decide +kernel) rfl rfl ?_
    refine gf12_38 81 22 (by decide +kernel) rfl flX12_81 (Mod_0 S0_) (Mod_33 S0_) ?_
    refine zIload_n 1 1 23 (by decide +kernel) rfl rfl ?_
    refine zAload_n 0 0 24 (by decide +kernel) rfl rfl ?_
    refine gf12_38 81 27 (by decide +kernel) rfl flX12_81 (Mod_0 S0_) (Mod_33 S0_) ?_
    refine zIload_n 1 1 28 (by decide +kernel) rfl rfl ?_
    refine zSipush 231 231 31 (by decide +kernel) rfl (by decide) ?_
    refine zIadd 32 (by decide +kernel) rfl ?_
    obtain ⟨w8, F⟩ := F
    refine yIaload 9240 33 (by decide +kernel) rfl (Mod_34 S0_) (w8) ?_
    refine yIastore 9240 34 (by decide +kernel) rfl (Mod_34 S0_) F.1 ?_
    replace F := F.2 _ rfl
    generalize zU I (m + 17) l1.toNatClampNeg (I (m + 17) (l1 + 231 : Int32).toNatClampNeg) = I9 at F ⊢
    refine zIinc 1 1 1 (l1 + 1) [(1, .int (l1 + 1)), (0, .ref (m))] 37 (by decide +kernel) rfl rfl (by rfl) (by decide) rfl ?_
    refine zGoto (-26) 11 (by decide +kernel) rfl ?_
    exact zLoc [1, 0] _ rfl F
set_option maxHeartbeats 2000000 in
theorem wX12_forgive_0 {G : zG} {d kc ks : Nat} {I : Nat → Nat → Int32} {J : Nat → Nat → Int64} {R : Nat → Nat → Option Nat} {K : Nat → Nat × Nat} {n : Nat} {Q : Option Value → zH → Prop} (m t c : Nat) (S0_ : hMod G R K n m t c) (p1 : Int32) (F : (∀ I1 : Nat → Nat → Int32, I1 = zU I m 0 (0) → zC G d mX12_isOpen 0 0 [.ref (m + 13), .int (p1)] (I1, J, R, K, n) (fun r h => ∃ (x2 : Int32) (I3 : Nat → Nat → Int32), r = some (.int x2) ∧ h = (I3, J, R, K, n) ∧ ((x2 = 0 → Q (some (.int ((-1)))) (I3, J, R, K, n)) ∧ (¬ (x2 = 0) → zC G d mX12_remember 0 0 [.ref (m)] (I3, J, R, K, n) (fun r h => ∃ (I5 : Nat → Nat → Int32), r = none ∧ h = (I5, J, R, K, n) ∧ zC G d mX12_forgives 0 0 [.ref (m), .ref (m + 13), .int (p1)] (I5, J, R, K, n) (fun r h => ∃ (x6 : Int32) (I7 : Nat → Nat → Int32) (J8 : Nat → Nat → Int64) (R9 : Nat → Nat → Option Nat), r = some (.int x6) ∧ h = (I7, J8, R9, K, n) ∧ ∃ u10 u11 : Nat, hMod G R9 K n m u10 u11 ∧ Q (some (.int (x6))) (I7, J8, R9, K, n)))))))) : zV G (d + 1) mX12_forgive kc ks 0 [(0, .ref (m)), (1, .int (p1))] [] (I, J, R, K, n) Q := by
  refine zAload_n 0 0 1 (by decide +kernel) rfl rfl ?_
  refine zIconst 0 0 2 (by decide +kernel) rfl (by decide) ?_
  refine pf12_0 93 5 (by decide +kernel) rfl flX12_93 (Mod_0 S0_) ?_
  replace F := F _ rfl
  generalize zU I m 0 (0) = I1 at F ⊢
  refine zAload_n 0 0 6 (by decide +kernel) rfl rfl ?_
  refine gf12_32 61 9 (by decide +kernel) rfl flX12_61 (Mod_0 S0_) (Mod_25 S0_) ?_
  refine zIload_n 1 1 10 (by decide +kernel) rfl rfl ?_
  refine zCallS mX12_isOpen 358 2 0 0 _ _ 13 [.ref (m + 13), .int (p1)] [] okX12_isOpen mlX12_358 smX12_isOpen (by decide +kernel) rfl rfl (Nat.le_of_ble_eq_true rfl) rfl rfl (zC.mono F ?_)
  rintro _ _ ⟨x2, I3, rfl, rfl, F⟩
  change zV G (d + 1) mX12_forgive kc ks 13 [(0, .ref (m)), (1, .int (p1))] [.int (x2)] (I3, J, R, K, n) Q
  refine zIf_ne 5 18 16 (by decide +kernel) rfl rfl ⟨fun q4 => ?_, fun q4 => ?_⟩
  · replace F := F.2 q4
    refine zAload_n 0 0 19 (by decide +kernel) rfl rfl ?_
    refine zCallV 12 zcls12 mX12_remember 364 0 0 0 _ _ 22 [] [] okX12_remember mlX12_364 imX12_remember seX12_remember (by decide +kernel) rfl rfl (Nat.le_of_ble_eq_true rfl) rfl rfl (Mod_0 S0_) (zC.mono F ?_)
    rintro _ _ ⟨I5, rfl, rfl, F⟩
    change zV G (d + 1) mX12_forgive kc ks 22 [(0, .ref (m)), (1, .int (p1))] [] (I5, J, R, K, n) Q
    refine zAload_n 0 0 23 (by decide +kernel) rfl rfl ?_
    refine zAload_n 0 0 24 (by decide +kernel) rfl rfl ?_
    refine gf12_32 61 27 (by decide +kernel) rfl flX12_61 (Mod_0 S0_) (Mod_25 S0_) ?_
    refine zIload_n 1 1 28 (by decide +kernel) rfl rfl ?_
    refine zCallV 12 zcls12 mX12_forgives 367 2 0 0 _ _ 31 [.ref (m + 13), .int (p1)] [] okX12_forgives mlX12_367 imX12_forgives seX12_forgives (by decide +kernel) rfl rfl (Nat.le_of_ble_eq_true rfl) rfl rfl (Mod_0 S0_) (zC.mono F ?_)
    rintro _ _ ⟨x6, I7, J8, R9, rfl, rfl, F⟩
    change zV G (d + 1) mX12_forgive kc ks 31 [(0, .ref (m)), (1, .int (p1))] [.int (x6)] (I7, J8, R9, K, n) Q
    obtain ⟨u10, u11, S12, F⟩ := F
    exact zIret rfl (by decide +kernel) F
  · replace F := F.1 q4
    refine zIconst (-1) (-1) 17 (by decide +kernel) rfl (by decide) ?_
    exact zIret rfl (by decide +kernel) F
set_option maxHeartbeats 2000000 in
theorem wX12_paint_0 {G : zG} {d kc ks : Nat} {I : Nat → Nat → Int32} {J : Nat → Nat → Int64} {R : Nat → Nat → Option Nat} {K : Nat → Nat × Nat} {n : Nat} {Q : Option Value → zH → Prop} (m t c : Nat) (S0_ : hMod G R K n m t c) (p1 p2 : Int32) (F : (∀ I1 : Nat → Nat → Int32, I1 = zU I m 0 (0) → zC G d mX12_canPaint 0 0 [.ref (m), .ref (m + 13), .int (p1), .int (p2)] (I1, J, R, K, n) (fun r h => ∃ (x2 : Int32) (I3 : Nat → Nat → Int32), r = some (.int x2) ∧ h = (I3, J, R, K, n) ∧ ((x2 = 0 → Q (some (.int ((-1)))) (I3, J, R, K, n)) ∧ (¬ (x2 = 0) → zC G d mX12_remember 0 0 [.ref (m)] (I3, J, R, K, n) (fun r h => ∃ (I5 : Nat → Nat → Int32), r = none ∧ h = (I5, J, R, K, n) ∧ zC G d mX12_paints 0 0 [.ref (m + 13), .int (p1), .int (p2)] (I5, J, R, K, n) (fun r h => ∃ (I6 : Nat → Nat → Int32), r = none ∧ h = (I6, J, R, K, n) ∧ ((vp_in ((27 + (3 * p1)) + 1) 231) ∧ Q (some (.int (I6 (m + 13) ((27 + (3 * p1)) + 1 : Int32).toNatClampNeg))) (I6, J, R, K, n))))))))) : zV G (d + 1) mX12_paint kc ks 0 [(0, .ref (m)), (1, .int (p1)), (2, .int (p2))] [] (I, J, R, K, n) Q := by
  refine zAload_n 0 0 1 (by decide +kernel) rfl rfl ?_
  refine zIconst 0 0 2 (by decide +kernel) rfl (by decide) ?_
  refine pf12_0 93 5 (by decide +kernel) rfl flX12_93 (Mod_0 S0_) ?_
  replace F := F _ rfl
  generalize zU I m 0 (0) = I1 at F ⊢
  refine zAload_n 0 0 6 (by decide +kernel) rfl rfl ?_
  refine zAload_n 0 0 7 (by decide +kernel) rfl rfl ?_
  refine gf12_32 61 10 (by decide +kernel) rfl flX12_61 (Mod_0 S0_) (Mod_25 S0_) ?_
  refine zIload_n 1 1 11 (by decide +kernel) rfl rfl ?_
  refine zIload_n 2 2 12 (by decide +kernel) rfl rfl ?_
  refine zCallV 12 zcls12 mX12_canPaint 370 3 0 0 _ _ 15 [.ref (m + 13), .int (p1), .int (p2)] [] okX12_canPaint mlX12_370 imX12_canPaint seX12_canPaint (by decide +kernel) rfl rfl (Nat.le_of_ble_eq_true rfl) rfl rfl (Mod_0 S0_) (zC.mono F ?_)
  rintro _ _ ⟨x2, I3, rfl, rfl, F⟩
  change zV G (d + 1) mX12_paint kc ks 15 [(0, .ref (m)), (1, .int (p1)), (2, .int (p2))] [.int (x2)] (I3, J, R, K, n) Q
  refine zIf_ne 5 20 18 (by decide +kernel) rfl rfl ⟨fun q4 => ?_, fun q4 => ?_⟩
  · replace F := F.2 q4
    refine zAload_n 0 0 21 (by decide +kernel) rfl rfl ?_
    refine zCallV 12 zcls12 mX12_remember 364 0 0 0 _ _ 24 [] [] okX12_remember mlX12_364 imX12_remember seX12_remember (by decide +kernel) rfl rfl (Nat.le_of_ble_eq_true rfl) rfl rfl (Mod_0 S0_) (zC.mono F ?_)
    rintro _ _ ⟨I5, rfl, rfl, F⟩
    change zV G (d + 1) mX12_paint kc ks 24 [(0, .ref (m)), (1, .int (p1)), (2, .int (p2))] [] (I5, J, R, K, n) Q
    refine zAload_n 0 0 25 (by decide +kernel) rfl rfl ?_
    refine gf12_32 61 28 (by decide +kernel) rfl flX12_61 (Mod_0 S0_) (Mod_25 S0_) ?_
    refine zIload_n 1 1 29 (by decide +kernel) rfl rfl ?_
    refine zIload_n 2 2 30 (by decide +kernel) rfl rfl ?_
    refine zCallS mX12_paints 374 3 0 0 _ _ 33 [.ref (m + 13), .int (p1), .int (p2)] [] okX12_paints mlX12_374 smX12_paints (by decide +kernel) rfl rfl (Nat.le_of_ble_eq_true rfl) rfl rfl (zC.mono F ?_)
    rintro _ _ ⟨I6, rfl, rfl, F⟩
    change zV G (d + 1) mX12_paint kc ks 33 [(0, .ref (m)), (1, .int (p1)), (2, .int (p2))] [] (I6, J, R, K, n) Q
    refine zAload_n 0 0 34 (by decide +kernel) rfl rfl ?_
    refine gf12_32 61 37 (by decide +kernel) rfl flX12_61 (Mod_0 S0_) (Mod_25 S0_) ?_
    refine zBipush 27 27 39 (by decide +kernel) rfl (by decide) ?_
    refine zIconst 3 3 40 (by decide +kernel) rfl (by decide) ?_
    refine zIload_n 1 1 41 (by decide +kernel) rfl rfl ?_
    refine zImul 42 (by decide +kernel) rfl ?_
    refine zIadd 43 (by decide +kernel) rfl ?_
    refine zIconst 1 1 44 (by decide +kernel) rfl (by decide) ?_
    refine zIadd 45 (by decide +kernel) rfl ?_
    obtain ⟨w7, F⟩ := F
    refine yIaload 231 46 (by decide +kernel) rfl (Mod_26 S0_) (w7) ?_
    exact zIret rfl (by decide +kernel) F
  · replace F := F.1 q4
    refine zIconst (-1) (-1) 19 (by decide +kernel) rfl (by decide) ?_
    exact zIret rfl (by decide +kernel) F
set_option maxHeartbeats 2000000 in
theorem wX12_inspect_0 {G : zG} {d kc ks : Nat} {I : Nat → Nat → Int32} {J : Nat → Nat → Int64} {R : Nat → Nat → Option Nat} {K : Nat → Nat × Nat} {n : Nat} {Q : Option Value → zH → Prop} (m t c : Nat) (S0_ : hMod G R K n m t c) (p1 : Int32) (F : (∀ I1 : Nat → Nat → Int32, I1 = zU I m 0 (0) → zC G d mX12_canInspect 0 0 [.ref (m), .ref (m + 13), .int (p1)] (I1, J, R, K, n) (fun r h => ∃ (x2 : Int32) (I3 : Nat → Nat → Int32), r = some (.int x2) ∧ h = (I3, J, R, K, n) ∧ ((x2 = 0 → Q (some (.int ((-1)))) (I3, J, R, K, n)) ∧ (¬ (x2 = 0) → zC G d mX12_remember 0 0 [.ref (m)] (I3, J, R, K, n) (fun r h => ∃ (I5 : Nat → Nat → Int32), r = none ∧ h = (I5, J, R, K, n) ∧ zC G d mX12_inspects 0 0 [.ref (m + 13), .int (p1)] (I5, J, R, K, n) (fun r h => ∃ (x6 : Int32) (I7 : Nat → Nat → Int32), r = some (.int x6) ∧ h = (I7, J, R, K, n) ∧ Q (some (.int (x6))) (I7, J, R, K, n)))))))) : zV G (d + 1) mX12_inspect kc ks 0 [(0, .ref (m)), (1, .int (p1))] [] (I, J, R, K, n) Q := by
  refine zAload_n 0 0 1 (by decide +kernel) rfl rfl ?_
  refine zIconst 0 0 2 (by decide +kernel) rfl (by decide) ?_
  refine pf12_0 93 5 (by decide +kernel) rfl flX12_93 (Mod_0 S0_) ?_
  replace F := F _ rfl
  generalize zU I m 0 (0) = I1 at F ⊢
  refine zAload_n 0 0 6 (by decide +kernel) rfl rfl ?_
  refine zAload_n 0 0 7 (by decide +kernel) rfl rfl ?_
  refine gf12_32 61 10 (by decide +kernel) rfl flX12_61 (Mod_0 S0_) (Mod_25 S0_) ?_
  refine zIload_n 1 1 11 (by decide +kernel) rfl rfl ?_
  refine zCallV 12 zcls12 mX12_canInspect 378 2 0 0 _ _ 14 [.ref (m + 13), .int (p1)] [] okX12_canInspect mlX12_378 imX12_canInspect seX12_canInspect (by decide +kernel) rfl rfl (Nat.le_of_ble_eq_true rfl) rfl rfl (Mod_0 S0_) (zC.mono F ?_)
  rintro _ _ ⟨x2, I3, rfl, rfl, F⟩
  change zV G (d + 1) mX12_inspect kc ks 14 [(0, .ref (m)), (1, .int (p1))] [.int (x2)] (I3, J, R, K, n) Q
  refine zIf_ne 5 19 17 (by decide +kernel) rfl rfl ⟨fun q4 => ?_, fun q4 => ?_⟩
  · replace F := F.2 q4
    refine zAload_n 0 0 20 (by decide +kernel) rfl rfl ?_
    refine zCallV 12 zcls12 mX12_remember 364 0 0 0 _ _ 23 [] [] okX12_remember mlX12_364 imX12_remember seX12_remember (by decide +kernel) rfl rfl (Nat.le_of_ble_eq_true rfl) rfl rfl (Mod_0 S0_) (zC.mono F ?_)
    rintro _ _ ⟨I5, rfl, rfl, F⟩
    change zV G (d + 1) mX12_inspect kc ks 23 [(0, .ref (m)), (1, .int (p1))] [] (I5, J, R, K, n) Q
    refine zAload_n 0 0 24 (by decide +kernel) rfl rfl ?_
    refine gf12_32 61 27 (by decide +kernel) rfl flX12_61 (Mod_0 S0_) (Mod_25 S0_) ?_
    refine zIload_n 1 1 28 (by decide +kernel) rfl rfl ?_
    refine zCallS mX12_inspects 381 2 0 0 _ _ 31 [.ref (m + 13), .int (p1)] [] okX12_inspects mlX12_381 smX12_inspects (by decide +kernel) rfl rfl (Nat.le_of_ble_eq_true rfl) rfl rfl (zC.mono F ?_)
    rintro _ _ ⟨x6, I7, rfl, rfl, F⟩
    change zV G (d + 1) mX12_inspect kc ks 31 [(0, .ref (m)), (1, .int (p1))] [.int (x6)] (I7, J, R, K, n) Q
    exact zIret rfl (by decide +kernel) F
  · replace F := F.1 q4
    refine zIconst (-1) (-1) 18 (by decide +kernel) rfl (by decide) ?_
    exact zIret rfl (by decide +kernel) F
set_option maxHeartbeats 2000000 in
theorem wX12_freePlace_0 {G : zG} {d kc ks : Nat} {I : Nat → Nat → Int32} {J : Nat → Nat → Int64} {R : Nat → Nat → Option Nat} {K : Nat → Nat × Nat} {n : Nat} {Q : Option Value → zH → Prop} (b : Nat) (hb : sA G K n b 32 231)  (F : zV G (d + 1) mX12_freePlace kc ks 2 [(0, .ref (b)), (1, .int (0))] [] (I, J, R, K, n) Q) : zV G (d + 1) mX12_freePlace kc ks 0 [(0, .ref (b))] [] (I, J, R, K, n) Q := by
  refine zIconst 0 0 1 (by decide +kernel) rfl (by decide) ?_
  refine zIstore_n 1 [(1, .int (0)), (0, .ref (b))] 2 (by decide +kernel) rfl (by decide) rfl ?_
  exact zLoc [1, 0] _ rfl F
set_option maxHeartbeats 2000000 in
theorem wX12_freePlace_2 {G : zG} {d kc ks : Nat} {I : Nat → Nat → Int32} {J : Nat → Nat → Int64} {R : Nat → Nat → Option Nat} {K : Nat → Nat × Nat} {n : Nat} {Q : Option Value → zH → Prop} (b : Nat) (hb : sA G K n b 32 231)  (l1 : Int32) (F : ((9 ≤ l1 → Q (some (.int (l1))) (I, J, R, K, n)) ∧ (¬ (9 ≤ l1) → zC G d mX12_isOpen 0 0 [.ref (b), .int (l1)] (I, J, R, K, n) (fun r h => ∃ (x2 : Int32) (I3 : Nat → Nat → Int32), r = some (.int x2) ∧ h = (I3, J, R, K, n) ∧ ((x2 = 0 → Q (some (.int (l1))) (I3, J, R, K, n)) ∧ (¬ (x2 = 0) → zV G (d + 1) mX12_freePlace kc ks 2 [(0, .ref (b)), (1, .int (l1 + 1))] [] (I3, J, R, K, n) Q)))))) : zV G (d + 1) mX12_freePlace kc ks 2 [(0, .ref (b)), (1, .int (l1))] [] (I, J, R, K, n) Q := by
  refine zIload_n 1 1 3 (by decide +kernel) rfl rfl ?_
  refine zBipush 9 9 5 (by decide +kernel) rfl (by decide) ?_
  refine zIcmp_ge 17 22 8 (by decide +kernel) rfl rfl ⟨fun q1 => ?_, fun q1 => ?_⟩
  · replace F := F.1 q1
    refine zIload_n 1 1 23 (by decide +kernel) rfl rfl ?_
    exact zIret rfl (by decide +kernel) F
  · replace F := F.2 q1
    refine zAload_n 0 0 9 (by decide +kernel) rfl rfl ?_
    refine zIload_n 1 1 10 (by decide +kernel) rfl rfl ?_
    refine zCallS mX12_isOpen 358 2 0 0 _ _ 13 [.ref (b), .int (l1)] [] okX12_isOpen mlX12_358 smX12_isOpen (by decide +kernel) rfl rfl (Nat.le_of_ble_eq_true rfl) rfl rfl (zC.mono F ?_)
    rintro _ _ ⟨x2, I3, rfl, rfl, F⟩
    change zV G (d + 1) mX12_freePlace kc ks 13 [(0, .ref (b)), (1, .int (l1))] [.int (x2)] (I3, J, R, K, n) Q
    refine zIf_eq 9 22 16 (by decide +kernel) rfl rfl ⟨fun q4 => ?_, fun q4 => ?_⟩
    · replace F := F.1 q4
      refine zIload_n 1 1 23 (by decide +kernel) rfl rfl ?_
      exact zIret rfl (by decide +kernel) F
    · replace F := F.2 q4
      refine zIinc 1 1 1 (l1 + 1) [(1, .int (l1 + 1)), (0, .ref (b))] 19 (by decide +kernel) rfl rfl (by rfl) (by decide) rfl ?_
      refine zGoto (-17) 2 (by decide +kernel) rfl ?_
      exact zLoc [1, 0] _ rfl F
set_option maxHeartbeats 2000000 in
theorem wX12_sins_0 {G : zG} {d kc ks : Nat} {I : Nat → Nat → Int32} {J : Nat → Nat → Int64} {R : Nat → Nat → Option Nat} {K : Nat → Nat × Nat} {n : Nat} {Q : Option Value → zH → Prop} (b : Nat) (hb : sA G K n b 32 231)  (p1 p2 p3 : Int32) (F : zC G d mX12_freePlace 0 0 [.ref (b)] (I, J, R, K, n) (fun r h => ∃ (x1 : Int32) (I2 : Nat → Nat → Int32), r = some (.int x1) ∧ h = (I2, J, R, K, n) ∧ (vp_in (3 * x1) 231 ∧ ∀ I3 : Nat → Nat → Int32, I3 = zU I2 b (3 * x1 : Int32).toNatClampNeg (p1) → (vp_in ((3 * x1) + 1) 231 ∧ ∀ I4 : Nat → Nat → Int32, I4 = zU I3 b ((3 * x1) + 1 : Int32).toNatClampNeg (p2) → (vp_in ((3 * x1) + 2) 231 ∧ ∀ I5 : Nat → Nat → Int32, I5 = zU I4 b ((3 * x1) + 2 : Int32).toNatClampNeg (p3) → Q none (I5, J, R, K, n)))))) : zV G (d + 1) mX12_sins kc ks 0 [(0, .ref (b)), (1, .int (p1)), (2, .int (p2)), (3, .int (p3))] [] (I, J, R, K, n) Q := by
  refine zAload_n 0 0 1 (by decide +kernel) rfl rfl ?_
  refine zCallS mX12_freePlace 384 1 0 0 _ _ 4 [.ref (b)] [] okX12_freePlace mlX12_384 smX12_freePlace (by decide +kernel) rfl rfl (Nat.le_of_ble_eq_true rfl) rfl rfl (zC.mono F ?_)
  rintro _ _ ⟨x1, I2, rfl, rfl, F⟩
  change zV G (d + 1) mX12_sins kc ks 4 [(0, .ref (b)), (1, .int (p1)), (2, .int (p2)), (3, .int (p3))] [.int (x1)] (I2, J, R, K, n) Q
  refine zIstore 4 [(4, .int (x1)), (0, .ref (b)), (1, .int (p1)), (2, .int (p2)), (3, .int (p3))] 6 (by decide +kernel) rfl (by decide) rfl ?_
  refine zAload_n 0 1 7 (by decide +kernel) rfl rfl ?_
  refine zIconst 3 3 8 (by decide +kernel) rfl (by decide) ?_
  refine zIload 4 0 10 (by decide +kernel) rfl rfl ?_
  refine zImul 11 (by decide +kernel) rfl ?_
  refine zIload_n 1 2 12 (by decide +kernel) rfl rfl ?_
  refine yIastore 231 13 (by decide +kernel) rfl hb F.1 ?_
  replace F := F.2 _ rfl
  generalize zU I2 b (3 * x1 : Int32).toNatClampNeg (p1) = I3 at F ⊢
  refine zAload_n 0 1 14 (by decide +kernel) rfl rfl ?_
  refine zIconst 3 3 15 (by decide +kernel) rfl (by decide) ?_
  refine zIload 4 0 17 (by decide +kernel) rfl rfl ?_
  refine zImul 18 (by decide +kernel) rfl ?_
  refine zIconst 1 1 19 (by decide +kernel) rfl (by decide) ?_
  refine zIadd 20 (by decide +kernel) rfl ?_
  refine zIload_n 2 3 21 (by decide +kernel) rfl rfl ?_
  refine yIastore 231 22 (by decide +kernel) rfl hb F.1 ?_
  replace F := F.2 _ rfl
  generalize zU I3 b ((3 * x1) + 1 : Int32).toNatClampNeg (p2) = I4 at F ⊢
  refine zAload_n 0 1 23 (by decide +kernel) rfl rfl ?_
  refine zIconst 3 3 24 (by decide +kernel) rfl (by decide) ?_
  refine zIload 4 0 26 (by decide +kernel) rfl rfl ?_
  refine zImul 27 (by decide +kernel) rfl ?_
  refine zIconst 2 2 28 (by decide +kernel) rfl (by decide) ?_
  refine zIadd 29 (by decide +kernel) rfl ?_
  refine zIload_n 3 4 30 (by decide +kernel) rfl rfl ?_
  refine yIastore 231 31 (by decide +kernel) rfl hb F.1 ?_
  replace F := F.2 _ rfl
  generalize zU I4 b ((3 * x1) + 2 : Int32).toNatClampNeg (p3) = I5 at F ⊢
  exact zVret rfl (by decide +kernel) F
set_option maxHeartbeats 2000000 in
theorem wX12_sin_0 {G : zG} {d kc ks : Nat} {I : Nat → Nat → Int32} {J : Nat → Nat → Int64} {R : Nat → Nat → Option Nat} {K : Nat → Nat × Nat} {n : Nat} {Q : Option Value → zH → Prop} (m t c : Nat) (S0_ : hMod G R K n m t c) (p1 p2 p3 : Int32) (F : (∀ I1 : Nat → Nat → Int32, I1 = zU I m 0 (0) → zC G d mX12_freePlace 0 0 [.ref (m + 13)] (I1, J, R, K, n) (fun r h => ∃ (x2 : Int32) (I3 : Nat → Nat → Int32), r = some (.int x2) ∧ h = (I3, J, R, K, n) ∧ zC G d mX12_areTwo 0 0 [.ref (m), .int (p1), .int (p2)] (I3, J, R, K, n) (fun r h => ∃ (x4 : Int32) (I5 : Nat → Nat → Int32), r = some (.int x4) ∧ h = (I5, J, R, K, n) ∧ ((x4 = 0 → Q (some (.int ((-1)))) (I5, J, R, K, n)) ∧ (¬ (x4 = 0) → zC G d mX12_isIn 0 0 [.long (p3.toInt64), .long (1), .long (9)] (I5, J, R, K, n) (fun r h => ∃ (x7 : Int32) (I8 : Nat → Nat → Int32), r = some (.int x7) ∧ h = (I8, J, R, K, n) ∧ ((x7 = 0 → Q (some (.int ((-1)))) (I8, J, R, K, n)) ∧ (¬ (x7 = 0) → ((x2 = 9 → Q (some (.int ((-1)))) (I8, J, R, K, n)) ∧ (¬ (x2 = 9) → zC G d mX12_remember 0 0 [.ref (m)] (I8, J, R, K, n) (fun r h => ∃ (I11 : Nat → Nat → Int32), r = none ∧ h = (I11, J, R, K, n) ∧ zC G d mX12_sins 0 0 [.ref (m + 13), .int (p1), .int (p2), .int (p3)] (I11, J, R, K, n) (fun r h => ∃ (I12 : Nat → Nat → Int32), r = none ∧ h = (I12, J, R, K, n) ∧ Q (some (.int (x2))) (I12, J, R, K, n)))))))))))))) : zV G (d + 1) mX12_sin kc ks 0 [(0, .ref (m)), (1, .int (p1)), (2, .int (p2)), (3, .int (p3))] [] (I, J, R, K, n) Q := by
  refine zAload_n 0 0 1 (by decide +kernel) rfl rfl ?_
  refine zIconst 0 0 2 (by decide +kernel) rfl (by decide) ?_
  refine pf12_0 93 5 (by decide +kernel) rfl flX12_93 (Mod_0 S0_) ?_
  replace F := F _ rfl
  generalize zU I m 0 (0) = I1 at F ⊢
  refine zAload_n 0 0 6 (by decide +kernel) rfl rfl ?_
  refine gf12_32 61 9 (by decide +kernel) rfl flX12_61 (Mod_0 S0_) (Mod_25 S0_) ?_
  refine zCallS mX12_freePlace 384 1 0 0 _ _ 12 [.ref (m + 13)] [] okX12_freePlace mlX12_384 smX12_freePlace (by decide +kernel) rfl rfl (Nat.le_of_ble_eq_true rfl) rfl rfl (zC.mono F ?_)
  rintro _ _ ⟨x2, I3, rfl, rfl, F⟩
  change zV G (d + 1) mX12_sin kc ks 12 [(0, .ref (m)), (1, .int (p1)), (2, .int (p2)), (3, .int (p3))] [.int (x2)] (I3, J, R, K, n) Q
  refine zIstore 4 [(4, .int (x2)), (0, .ref (m)), (1, .int (p1)), (2, .int (p2)), (3, .int (p3))] 14 (by decide +kernel) rfl (by decide) rfl ?_
  refine zAload_n 0 1 15 (by decide +kernel) rfl rfl ?_
  refine zIload_n 1 2 16 (by decide +kernel) rfl rfl ?_
  refine zIload_n 2 3 17 (by decide +kernel) rfl rfl ?_
  refine zCallV 12 zcls12 mX12_areTwo 387 2 0 0 _ _ 20 [.int (p1), .int (p2)] [] okX12_areTwo mlX12_387 imX12_areTwo seX12_areTwo (by decide +kernel) rfl rfl (Nat.le_of_ble_eq_true rfl) rfl rfl (Mod_0 S0_) (zC.mono F ?_)
  rintro _ _ ⟨x4, I5, rfl, rfl, F⟩
  change zV G (d + 1) mX12_sin kc ks 20 [(4, .int (x2)), (0, .ref (m)), (1, .int (p1)), (2, .int (p2)), (3, .int (p3))] [.int (x4)] (I5, J, R, K, n) Q
  refine zIf_eq 22 42 23 (by decide +kernel) rfl rfl ⟨fun q6 => ?_, fun q6 => ?_⟩
  · replace F := F.1 q6
    refine zIconst (-1) (-1) 43 (by decide +kernel) rfl (by decide) ?_
    exact zIret rfl (by decide +kernel) F
  · replace F := F.2 q6
    refine zIload_n 3 4 24 (by decide +kernel) rfl rfl ?_
    refine zI2l 25 (by decide +kernel) rfl ?_
    refine zLconst 1 1 26 (by decide +kernel) rfl (by decide) ?_
    refine zLdc2 342 9 29 (by decide +kernel) rfl klX12_342 ?_
    refine zCallS mX12_isIn 214 3 0 0 _ _ 32 [.long (p3.toInt64), .long (1), .long (9)] [] okX12_isIn mlX12_214 smX12_isIn (by decide +kernel) rfl rfl (Nat.le_of_ble_eq_true rfl) rfl rfl (zC.mono F ?_)
    rintro _ _ ⟨x7, I8, rfl, rfl, F⟩
    change zV G (d + 1) mX12_sin kc ks 32 [(4, .int (x2)), (0, .ref (m)), (1, .int (p1)), (2, .int (p2)), (3, .int (p3))] [.int (x7)] (I8, J, R, K, n) Q
    refine zIf_eq 10 42 35 (by decide +kernel) rfl rfl ⟨fun q9 => ?_, fun q9 => ?_⟩
    · replace F := F.1 q9
      refine zIconst (-1) (-1) 43 (by decide +kernel) rfl (by decide) ?_
      exact zIret rfl (by decide +kernel) F
    · replace F := F.2 q9
      refine zIload 4 0 37 (by decide +kernel) rfl rfl ?_
      refine zBipush 9 9 39 (by decide +kernel) rfl (by decide) ?_
      refine zIcmp_ne 5 44 42 (by decide +kernel) rfl rfl ⟨fun q10 => ?_, fun q10 => ?_⟩
      · replace F := F.2 q10
        refine zAload_n 0 1 45 (by decide +kernel) rfl rfl ?_
        refine zCallV 12 zcls12 mX12_remember 364 0 0 0 _ _ 48 [] [] okX12_remember mlX12_364 imX12_remember seX12_remember (by decide +kernel) rfl rfl (Nat.le_of_ble_eq_true rfl) rfl rfl (Mod_0 S0_) (zC.mono F ?_)
        rintro _ _ ⟨I11, rfl, rfl, F⟩
        change zV G (d + 1) mX12_sin kc ks 48 [(4, .int (x2)), (0, .ref (m)), (1, .int (p1)), (2, .int (p2)), (3, .int (p3))] [] (I11, J, R, K, n) Q
        refine zAload_n 0 1 49 (by decide +kernel) rfl rfl ?_
        refine gf12_32 61 52 (by decide +kernel) rfl flX12_61 (Mod_0 S0_) (Mod_25 S0_) ?_
        refine zIload_n 1 2 53 (by decide +kernel) rfl rfl ?_
        refine zIload_n 2 3 54 (by decide +kernel) rfl rfl ?_
        refine zIload_n 3 4 55 (by decide +kernel) rfl rfl ?_
        refine zCallS mX12_sins 390 4 0 0 _ _ 58 [.ref (m + 13), .int (p1), .int (p2), .int (p3)] [] okX12_sins mlX12_390 smX12_sins (by decide +kernel) rfl rfl (Nat.le_of_ble_eq_true rfl) rfl rfl (zC.mono F ?_)
        rintro _ _ ⟨I12, rfl, rfl, F⟩
        change zV G (d + 1) mX12_sin kc ks 58 [(4, .int (x2)), (0, .ref (m)), (1, .int (p1)), (2, .int (p2)), (3, .int (p3))] [] (I12, J, R, K, n) Q
        refine zIload 4 0 60 (by decide +kernel) rfl rfl ?_
        exact zIret rfl (by decide +kernel) F
      · replace F := F.1 q10
        refine zIconst (-1) (-1) 43 (by decide +kernel) rfl (by decide) ?_
        exact zIret rfl (by decide +kernel) F
set_option maxHeartbeats 2000000 in
theorem wX12_buy_0 {G : zG} {d kc ks : Nat} {I : Nat → Nat → Int32} {J : Nat → Nat → Int64} {R : Nat → Nat → Option Nat} {K : Nat → Nat × Nat} {n : Nat} {Q : Option Value → zH → Prop} (m t c : Nat) (S0_ : hMod G R K n m t c) (p1 : Int32) (F : (∀ I1 : Nat → Nat → Int32, I1 = zU I m 0 (0) → (((I1 m 26 : Int32) = 0 → Q (some (.int ((-1)))) (I1, J, R, K, n)) ∧ (¬ ((I1 m 26 : Int32) = 0) → zC G d mX12_isIn 0 0 [.long (p1.toInt64), .long (1), .long (20)] (I1, J, R, K, n) (fun r h => ∃ (x3 : Int32) (I4 : Nat → Nat → Int32), r = some (.int x3) ∧ h = (I4, J, R, K, n) ∧ ((x3 = 0 → Q (some (.int ((-1)))) (I4, J, R, K, n)) ∧ (¬ (x3 = 0) → ((vp_in 48 231) ∧ (((I4 (m + 13) (48 : Int32).toNatClampNeg : Int32) < p1 → Q (some (.int ((-1)))) (I4, J, R, K, n)) ∧ (¬ ((I4 (m + 13) (48 : Int32).toNatClampNeg : Int32) < p1) → ((vp_in 47 231) ∧ ((((I4 (m + 13) (47 : Int32).toNatClampNeg) + p1 : Int32) ≤ 999 → zC G d mX12_remember 0 0 [.ref (m)] (I4, J, R, K, n) (fun r h => ∃ (I10 : Nat → Nat → Int32), r = none ∧ h = (I10, J, R, K, n) ∧ ((vp_in 48 231) ∧ (vp_in 48 231 ∧ ∀ I12 : Nat → Nat → Int32, I12 = zU I10 (m + 13) (48 : Int32).toNatClampNeg ((I10 (m + 13) (48 : Int32).toNatClampNeg) - p1) → ((vp_in 47 231) ∧ (vp_in 47 231 ∧ ∀ I14 : Nat → Nat → Int32, I14 = zU I12 (m + 13) (47 : Int32).toNatClampNeg ((I12 (m + 13) (47 : Int32).toNatClampNeg) + p1) → ((vp_in 47 231) ∧ Q (some (.int (I14 (m + 13) (47 : Int32).toNatClampNeg))) (I14, J, R, K, n)))))))) ∧ (¬ (((I4 (m + 13) (47 : Int32).toNatClampNeg) + p1 : Int32) ≤ 999) → Q (some (.int ((-1)))) (I4, J, R, K, n)))))))))))))) : zV G (d + 1) mX12_buy kc ks 0 [(0, .ref (m)), (1, .int (p1))] [] (I, J, R, K, n) Q := by
  refine zAload_n 0 0 1 (by decide +kernel) rfl rfl ?_
  refine zIconst 0 0 2 (by decide +kernel) rfl (by decide) ?_
  refine pf12_0 93 5 (by decide +kernel) rfl flX12_93 (Mod_0 S0_) ?_
  replace F := F _ rfl
  generalize zU I m 0 (0) = I1 at F ⊢
  refine zAload_n 0 0 6 (by decide +kernel) rfl rfl ?_
  refine gf12_26 291 9 (by decide +kernel) rfl flX12_291 (Mod_0 S0_) ?_
  refine zIf_eq 41 50 12 (by decide +kernel) rfl rfl ⟨fun q2 => ?_, fun q2 => ?_⟩
  · replace F := F.1 q2
    refine zIconst (-1) (-1) 51 (by decide +kernel) rfl (by decide) ?_
    exact zIret rfl (by decide +kernel) F
  · replace F := F.2 q2
    refine zIload_n 1 1 13 (by decide +kernel) rfl rfl ?_
    refine zI2l 14 (by decide +kernel) rfl ?_
    refine zLconst 1 1 15 (by decide +kernel) rfl (by decide) ?_
    refine zLdc2 394 20 18 (by decide +kernel) rfl klX12_394 ?_
    refine zCallS mX12_isIn 214 3 0 0 _ _ 21 [.long (p1.toInt64), .long (1), .long (20)] [] okX12_isIn mlX12_214 smX12_isIn (by decide +kernel) rfl rfl (Nat.le_of_ble_eq_true rfl) rfl rfl (zC.mono F ?_)
    rintro _ _ ⟨x3, I4, rfl, rfl, F⟩
    change zV G (d + 1) mX12_buy kc ks 21 [(0, .ref (m)), (1, .int (p1))] [.int (x3)] (I4, J, R, K, n) Q
    refine zIf_eq 29 50 24 (by decide +kernel) rfl rfl ⟨fun q5 => ?_, fun q5 => ?_⟩
    · replace F := F.1 q5
      refine zIconst (-1) (-1) 51 (by decide +kernel) rfl (by decide) ?_
      exact zIret rfl (by decide +kernel) F
    · replace F := F.2 q5
      refine zAload_n 0 0 25 (by decide +kernel) rfl rfl ?_
      refine gf12_32 61 28 (by decide +kernel) rfl flX12_61 (Mod_0 S0_) (Mod_25 S0_) ?_
      refine zBipush 48 48 30 (by decide +kernel) rfl (by decide) ?_
      obtain ⟨w6, F⟩ := F
      refine yIaload 231 31 (by decide +kernel) rfl (Mod_26 S0_) (w6) ?_
      refine zIload_n 1 1 32 (by decide +kernel) rfl rfl ?_
      refine zIcmp_lt 18 50 35 (by decide +kernel) rfl rfl ⟨fun q7 => ?_, fun q7 => ?_⟩
      · replace F := F.1 q7
        refine zIconst (-1) (-1) 51 (by decide +kernel) rfl (by decide) ?_
        exact zIret rfl (by decide +kernel) F
      · replace F := F.2 q7
        refine zAload_n 0 0 36 (by decide +kernel) rfl rfl ?_
        refine gf12_32 61 39 (by decide +kernel) rfl flX12_61 (Mod_0 S0_) (Mod_25 S0_) ?_
        refine zBipush 47 47 41 (by decide +kernel) rfl (by decide) ?_
        obtain ⟨w8, F⟩ := F
        refine yIaload 231 42 (by decide +kernel) rfl (Mod_26 S0_) (w8) ?_
        refine zIload_n 1 1 43 (by decide +kernel) rfl rfl ?_
        refine zIadd 44 (by decide +kernel) rfl ?_
        refine zSipush 999 999 47 (by decide +kernel) rfl (by decide) ?_
        refine zIcmp_le 5 52 50 (by decide +kernel) rfl rfl ⟨fun q9 => ?_, fun q9 => ?_⟩
        · replace F := F.1 q9
          refine zAload_n 0 0 53 (by decide +kernel) rfl rfl ?_
          refine zCallV 12 zcls12 mX12_remember 364 0 0 0 _ _ 56 [] [] okX12_remember mlX12_364 imX12_remember seX12_remember (by decide +kernel) rfl rfl (Nat.le_of_ble_eq_true rfl) rfl rfl (Mod_0 S0_) (zC.mono F ?_)
          rintro _ _ ⟨I10, rfl, rfl, F⟩
          change zV G (d + 1) mX12_buy kc ks 56 [(0, .ref (m)), (1, .int (p1))] [] (I10, J, R, K, n) Q
          refine zAload_n 0 0 57 (by decide +kernel) rfl rfl ?_
          refine gf12_32 61 60 (by decide +kernel) rfl flX12_61 (Mod_0 S0_) (Mod_25 S0_) ?_
          refine zBipush 48 48 62 (by decide +kernel) rfl (by decide) ?_
          refine zDup2 63 (by decide +kernel) rfl rfl rfl ?_
          obtain ⟨w11, F⟩ := F
          refine yIaload 231 64 (by decide +kernel) rfl (Mod_26 S0_) (w11) ?_
          refine zIload_n 1 1 65 (by decide +kernel) rfl rfl ?_
          refine zIsub 66 (by decide +kernel) rfl ?_
          refine yIastore 231 67 (by decide +kernel) rfl (Mod_26 S0_) F.1 ?_
          replace F := F.2 _ rfl
          generalize zU I10 (m + 13) (48 : Int32).toNatClampNeg ((I10 (m + 13) (48 : Int32).toNatClampNeg) - p1) = I12 at F ⊢
          refine zAload_n 0 0 68 (by decide +kernel) rfl rfl ?_
          refine gf12_32 61 71 (by decide +kernel) rfl flX12_61 (Mod_0 S0_) (Mod_25 S0_) ?_
          refine zBipush 47 47 73 (by decide +kernel) rfl (by decide) ?_
          refine zDup2 74 (by decide +kernel) rfl rfl rfl ?_
          obtain ⟨w13, F⟩ := F
          refine yIaload 231 75 (by decide +kernel) rfl (Mod_26 S0_) (w13) ?_
          refine zIload_n 1 1 76 (by decide +kernel) rfl rfl ?_
          refine zIadd 77 (by decide +kernel) rfl ?_
          refine yIastore 231 78 (by decide +kernel) rfl (Mod_26 S0_) F.1 ?_
          replace F := F.2 _ rfl
          generalize zU I12 (m + 13) (47 : Int32).toNatClampNeg ((I12 (m + 13) (47 : Int32).toNatClampNeg) + p1) = I14 at F ⊢
          refine zAload_n 0 0 79 (by decide +kernel) rfl rfl ?_
          refine gf12_32 61 82 (by decide +kernel) rfl flX12_61 (Mod_0 S0_) (Mod_25 S0_) ?_
          refine zBipush 47 47 84 (by decide +kernel) rfl (by decide) ?_
          obtain ⟨w15, F⟩ := F
          refine yIaload 231 85 (by decide +kernel) rfl (Mod_26 S0_) (w15) ?_
          exact zIret rfl (by decide +kernel) F
        · replace F := F.2 q9
          refine zIconst (-1) (-1) 51 (by decide +kernel) rfl (by decide) ?_
          exact zIret rfl (by decide +kernel) F
set_option maxHeartbeats 2000000 in
theorem wX12_give_0 {G : zG} {d kc ks : Nat} {I : Nat → Nat → Int32} {J : Nat → Nat → Int64} {R : Nat → Nat → Option Nat} {K : Nat → Nat × Nat} {n : Nat} {Q : Option Value → zH → Prop} (m t c : Nat) (S0_ : hMod G R K n m t c) (p1 : Int32) (F : (∀ I1 : Nat → Nat → Int32, I1 = zU I m 0 (0) → (((I1 m 26 : Int32) = 0 → Q (some (.int ((-1)))) (I1, J, R, K, n)) ∧ (¬ ((I1 m 26 : Int32) = 0) → zC G d mX12_isIn 0 0 [.long (p1.toInt64), .long (1), .long (50)] (I1, J, R, K, n) (fun r h => ∃ (x3 : Int32) (I4 : Nat → Nat → Int32), r = some (.int x3) ∧ h = (I4, J, R, K, n) ∧ ((x3 = 0 → Q (some (.int ((-1)))) (I4, J, R, K, n)) ∧ (¬ (x3 = 0) → ((vp_in 48 231) ∧ ((((I4 (m + 13) (48 : Int32).toNatClampNeg) + p1 : Int32) ≤ 999 → zC G d mX12_remember 0 0 [.ref (m)] (I4, J, R, K, n) (fun r h => ∃ (I8 : Nat → Nat → Int32), r = none ∧ h = (I8, J, R, K, n) ∧ ((vp_in 48 231) ∧ (vp_in 48 231 ∧ ∀ I10 : Nat → Nat → Int32, I10 = zU I8 (m + 13) (48 : Int32).toNatClampNeg ((I8 (m + 13) (48 : Int32).toNatClampNeg) + p1) → ((vp_in 48 231) ∧ Q (some (.int (I10 (m + 13) (48 : Int32).toNatClampNeg))) (I10, J, R, K, n)))))) ∧ (¬ (((I4 (m + 13) (48 : Int32).toNatClampNeg) + p1 : Int32) ≤ 999) → Q (some (.int ((-1)))) (I4, J, R, K, n))))))))))) : zV G (d + 1) mX12_give kc ks 0 [(0, .ref (m)), (1, .int (p1))] [] (I, J, R, K, n) Q := by
  refine zAload_n 0 0 1 (by decide +kernel) rfl rfl ?_
  refine zIconst 0 0 2 (by decide +kernel) rfl (by decide) ?_
  refine pf12_0 93 5 (by decide +kernel) rfl flX12_93 (Mod_0 S0_) ?_
  replace F := F _ rfl
  generalize zU I m 0 (0) = I1 at F ⊢
  refine zAload_n 0 0 6 (by decide +kernel) rfl rfl ?_
  refine gf12_26 291 9 (by decide +kernel) rfl flX12_291 (Mod_0 S0_) ?_
  refine zIf_eq 30 39 12 (by decide +kernel) rfl rfl ⟨fun q2 => ?_, fun q2 => ?_⟩
  · replace F := F.1 q2
    refine zIconst (-1) (-1) 40 (by decide +kernel) rfl (by decide) ?_
    exact zIret rfl (by decide +kernel) F
  · replace F := F.2 q2
    refine zIload_n 1 1 13 (by decide +kernel) rfl rfl ?_
    refine zI2l 14 (by decide +kernel) rfl ?_
    refine zLconst 1 1 15 (by decide +kernel) rfl (by decide) ?_
    refine zLdc2 396 50 18 (by decide +kernel) rfl klX12_396 ?_
    refine zCallS mX12_isIn 214 3 0 0 _ _ 21 [.long (p1.toInt64), .long (1), .long (50)] [] okX12_isIn mlX12_214 smX12_isIn (by decide +kernel) rfl rfl (Nat.le_of_ble_eq_true rfl) rfl rfl (zC.mono F ?_)
    rintro _ _ ⟨x3, I4, rfl, rfl, F⟩
    change zV G (d + 1) mX12_give kc ks 21 [(0, .ref (m)), (1, .int (p1))] [.int (x3)] (I4, J, R, K, n) Q
    refine zIf_eq 18 39 24 (by decide +kernel) rfl rfl ⟨fun q5 => ?_, fun q5 => ?_⟩
    · replace F := F.1 q5
      refine zIconst (-1) (-1) 40 (by decide +kernel) rfl (by decide) ?_
      exact zIret rfl (by decide +kernel) F
    · replace F := F.2 q5
      refine zAload_n 0 0 25 (by decide +kernel) rfl rfl ?_
      refine gf12_32 61 28 (by decide +kernel) rfl flX12_61 (Mod_0 S0_) (Mod_25 S0_) ?_
      refine zBipush 48 48 30 (by decide +kernel) rfl (by decide) ?_
      obtain ⟨w6, F⟩ := F
      refine yIaload 231 31 (by decide +kernel) rfl (Mod_26 S0_) (w6) ?_
      refine zIload_n 1 1 32 (by decide +kernel) rfl rfl ?_
      refine zIadd 33 (by decide +kernel) rfl ?_
      refine zSipush 999 999 36 (by decide +kernel) rfl (by decide) ?_
      refine zIcmp_le 5 41 39 (by decide +kernel) rfl rfl ⟨fun q7 => ?_, fun q7 => ?_⟩
      · replace F := F.1 q7
        refine zAload_n 0 0 42 (by decide +kernel) rfl rfl ?_
        refine zCallV 12 zcls12 mX12_remember 364 0 0 0 _ _ 45 [] [] okX12_remember mlX12_364 imX12_remember seX12_remember (by decide +kernel) rfl rfl (Nat.le_of_ble_eq_true rfl) rfl rfl (Mod_0 S0_) (zC.mono F ?_)
        rintro _ _ ⟨I8, rfl, rfl, F⟩
        change zV G (d + 1) mX12_give kc ks 45 [(0, .ref (m)), (1, .int (p1))] [] (I8, J, R, K, n) Q
        refine zAload_n 0 0 46 (by decide +kernel) rfl rfl ?_
        refine gf12_32 61 49 (by decide +kernel) rfl flX12_61 (Mod_0 S0_) (Mod_25 S0_) ?_
        refine zBipush 48 48 51 (by decide +kernel) rfl (by decide) ?_
        refine zDup2 52 (by decide +kernel) rfl rfl rfl ?_
        obtain ⟨w9, F⟩ := F
        refine yIaload 231 53 (by decide +kernel) rfl (Mod_26 S0_) (w9) ?_
        refine zIload_n 1 1 54 (by decide +kernel) rfl rfl ?_
        refine zIadd 55 (by decide +kernel) rfl ?_
        refine yIastore 231 56 (by decide +kernel) rfl (Mod_26 S0_) F.1 ?_
        replace F := F.2 _ rfl
        generalize zU I8 (m + 13) (48 : Int32).toNatClampNeg ((I8 (m + 13) (48 : Int32).toNatClampNeg) + p1) = I10 at F ⊢
        refine zAload_n 0 0 57 (by decide +kernel) rfl rfl ?_
        refine gf12_32 61 60 (by decide +kernel) rfl flX12_61 (Mod_0 S0_) (Mod_25 S0_) ?_
        refine zBipush 48 48 62 (by decide +kernel) rfl (by decide) ?_
        obtain ⟨w11, F⟩ := F
        refine yIaload 231 63 (by decide +kernel) rfl (Mod_26 S0_) (w11) ?_
        exact zIret rfl (by decide +kernel) F
      · replace F := F.2 q7
        refine zIconst (-1) (-1) 40 (by decide +kernel) rfl (by decide) ?_
        exact zIret rfl (by decide +kernel) F
set_option maxHeartbeats 2000000 in
theorem wX12_day_0 {G : zG} {d kc ks : Nat} {I : Nat → Nat → Int32} {J : Nat → Nat → Int64} {R : Nat → Nat → Option Nat} {K : Nat → Nat × Nat} {n : Nat} {Q : Option Value → zH → Prop} (m t c : Nat) (S0_ : hMod G R K n m t c) (F : (∀ I1 : Nat → Nat → Int32, I1 = zU I m 0 (0) → (((I1 m 26 : Int32) = 0 → Q (some (.int ((-1)))) (I1, J, R, K, n)) ∧ (¬ ((I1 m 26 : Int32) = 0) → ((vp_in 49 231) ∧ (((I1 (m + 13) (49 : Int32).toNatClampNeg : Int32) = 999 → Q (some (.int ((-1)))) (I1, J, R, K, n)) ∧ (¬ ((I1 (m + 13) (49 : Int32).toNatClampNeg : Int32) = 999) → zC G d mX12_remember 0 0 [.ref (m)] (I1, J, R, K, n) (fun r h => ∃ (I5 : Nat → Nat → Int32), r = none ∧ h = (I5, J, R, K, n) ∧ zC G d mX12_goDay 0 0 [.ref (m), .ref (m + 13)] (I5, J, R, K, n) (fun r h => ∃ (x6 : Int32) (I7 : Nat → Nat → Int32), r = some (.int x6) ∧ h = (I7, J, R, K, n) ∧ Q (some (.int (x6))) (I7, J, R, K, n)))))))))) : zV G (d + 1) mX12_day kc ks 0 [(0, .ref (m))] [] (I, J, R, K, n) Q := by
  refine zAload_n 0 0 1 (by decide +kernel) rfl rfl ?_
  refine zIconst 0 0 2 (by decide +kernel) rfl (by decide) ?_
  refine pf12_0 93 5 (by decide +kernel) rfl flX12_93 (Mod_0 S0_) ?_
  replace F := F _ rfl
  generalize zU I m 0 (0) = I1 at F ⊢
  refine zAload_n 0 0 6 (by decide +kernel) rfl rfl ?_
  refine gf12_26 291 9 (by decide +kernel) rfl flX12_291 (Mod_0 S0_) ?_
  refine zIf_eq 16 25 12 (by decide +kernel) rfl rfl ⟨fun q2 => ?_, fun q2 => ?_⟩
  · replace F := F.1 q2
    refine zIconst (-1) (-1) 26 (by decide +kernel) rfl (by decide) ?_
    exact zIret rfl (by decide +kernel) F
  · replace F := F.2 q2
    refine zAload_n 0 0 13 (by decide +kernel) rfl rfl ?_
    refine gf12_32 61 16 (by decide +kernel) rfl flX12_61 (Mod_0 S0_) (Mod_25 S0_) ?_
    refine zBipush 49 49 18 (by decide +kernel) rfl (by decide) ?_
    obtain ⟨w3, F⟩ := F
    refine yIaload 231 19 (by decide +kernel) rfl (Mod_26 S0_) (w3) ?_
    refine zSipush 999 999 22 (by decide +kernel) rfl (by decide) ?_
    refine zIcmp_ne 5 27 25 (by decide +kernel) rfl rfl ⟨fun q4 => ?_, fun q4 => ?_⟩
    · replace F := F.2 q4
      refine zAload_n 0 0 28 (by decide +kernel) rfl rfl ?_
      refine zCallV 12 zcls12 mX12_remember 364 0 0 0 _ _ 31 [] [] okX12_remember mlX12_364 imX12_remember seX12_remember (by decide +kernel) rfl rfl (Nat.le_of_ble_eq_true rfl) rfl rfl (Mod_0 S0_) (zC.mono F ?_)
      rintro _ _ ⟨I5, rfl, rfl, F⟩
      change zV G (d + 1) mX12_day kc ks 31 [(0, .ref (m))] [] (I5, J, R, K, n) Q
      refine zAload_n 0 0 32 (by decide +kernel) rfl rfl ?_
      refine zAload_n 0 0 33 (by decide +kernel) rfl rfl ?_
      refine gf12_32 61 36 (by decide +kernel) rfl flX12_61 (Mod_0 S0_) (Mod_25 S0_) ?_
      refine zCallV 12 zcls12 mX12_goDay 398 1 0 0 _ _ 39 [.ref (m + 13)] [] okX12_goDay mlX12_398 imX12_goDay seX12_goDay (by decide +kernel) rfl rfl (Nat.le_of_ble_eq_true rfl) rfl rfl (Mod_0 S0_) (zC.mono F ?_)
      rintro _ _ ⟨x6, I7, rfl, rfl, F⟩
      change zV G (d + 1) mX12_day kc ks 39 [(0, .ref (m))] [.int (x6)] (I7, J, R, K, n) Q
      exact zIret rfl (by decide +kernel) F
    · replace F := F.1 q4
      refine zIconst (-1) (-1) 26 (by decide +kernel) rfl (by decide) ?_
      exact zIret rfl (by decide +kernel) F
set_option maxHeartbeats 2000000 in
theorem wX12_draw_0 {G : zG} {d kc ks : Nat} {I : Nat → Nat → Int32} {J : Nat → Nat → Int64} {R : Nat → Nat → Option Nat} {K : Nat → Nat × Nat} {n : Nat} {Q : Option Value → zH → Prop} (m t c : Nat) (S0_ : hMod G R K n m t c) (p1 : Int32) (F : (∀ J1 : Nat → Nat → Int64, J1 = zU J m 40 (((J m 40) * 6364136223846793005) + 1442695040888963407) → ((¬ (p1.toInt64 : Int64) = 0) ∧ Q (some (.int (((((J1 m 40 : Int64).toUInt64 >>> ((33 : Int32).toInt64.toUInt64 &&& Int64.toUInt64 63)).toInt64) - (((J1 m 40 : Int64).toUInt64 >>> ((33 : Int32).toInt64.toUInt64 &&& Int64.toUInt64 63)).toInt64) / p1.toInt64 * p1.toInt64 : Int64).toInt32))) (I, J1, R, K, n)))) : zV G (d + 1) mX12_draw kc ks 0 [(0, .ref (m)), (1, .int (p1))] [] (I, J, R, K, n) Q := by
  refine zAload_n 0 0 1 (by decide +kernel) rfl rfl ?_
  refine zAload_n 0 0 2 (by decide +kernel) rfl rfl ?_
  refine gf12_40 401 5 (by decide +kernel) rfl flX12_401 (Mod_0 S0_) ?_
  refine zLdc2 405 6364136223846793005 8 (by decide +kernel) rfl klX12_405 ?_
  refine zLmul 9 (by decide +kernel) rfl ?_
  refine zLdc2 407 1442695040888963407 12 (by decide +kernel) rfl klX12_407 ?_
  refine zLadd 13 (by decide +kernel) rfl ?_
  refine pf12_40 401 16 (by decide +kernel) rfl flX12_401 (Mod_0 S0_) ?_
  replace F := F _ rfl
  generalize zU J m 40 (((J m 40) * 6364136223846793005) + 1442695040888963407) = J1 at F ⊢
  refine zAload_n 0 0 17 (by decide +kernel) rfl rfl ?_
  refine gf12_40 401 20 (by decide +kernel) rfl flX12_401 (Mod_0 S0_) ?_
  refine zBipush 33 33 22 (by decide +kernel) rfl (by decide) ?_
  refine zLushr 23 (by decide +kernel) rfl ?_
  refine zIload_n 1 1 24 (by decide +kernel) rfl rfl ?_
  refine zI2l 25 (by decide +kernel) rfl ?_
  obtain ⟨w2, F⟩ := F
  refine zLrem 26 (by decide +kernel) rfl (w2) ?_
  refine zL2i 27 (by decide +kernel) rfl ?_
  exact zIret rfl (by decide +kernel) F
set_option maxHeartbeats 2000000 in
theorem wX12_years_0 {G : zG} {d kc ks : Nat} {I : Nat → Nat → Int32} {J : Nat → Nat → Int64} {R : Nat → Nat → Option Nat} {K : Nat → Nat × Nat} {n : Nat} {Q : Option Value → zH → Prop} (m t c : Nat) (S0_ : hMod G R K n m t c) (p1 : Int32) (p2 : Int64) (F : (∀ I1 : Nat → Nat → Int32, I1 = zU I m 0 (0) → (((I1 m 26 : Int32) = 0 → Q (some (.int ((-1)))) (I1, J, R, K, n)) ∧ (¬ ((I1 m 26 : Int32) = 0) → zC G d mX12_isIn 0 0 [.long (p1.toInt64), .long (1), .long (30)] (I1, J, R, K, n) (fun r h => ∃ (x3 : Int32) (I4 : Nat → Nat → Int32), r = some (.int x3) ∧ h = (I4, J, R, K, n) ∧ ((x3 = 0 → Q (some (.int ((-1)))) (I4, J, R, K, n)) ∧ (¬ (x3 = 0) → ((vp_in 49 231) ∧ ((((I4 (m + 13) (49 : Int32).toNatClampNeg) + p1 : Int32) ≤ 999 → (∀ J8 : Nat → Nat → Int64, J8 = zU J m 40 (p2) → zV G (d + 1) mX12_years kc ks 49 [(0, .ref (m)), (1, .int (p1)), (2, .long (p2)), (4, .int (0))] [] (I4, J8, R, K, n) Q)) ∧ (¬ (((I4 (m + 13) (49 : Int32).toNatClampNeg) + p1 : Int32) ≤ 999) → Q (some (.int ((-1)))) (I4, J, R, K, n))))))))))) : zV G (d + 1) mX12_years kc ks 0 [(0, .ref (m)), (1, .int (p1)), (2, .long (p2))] [] (I, J, R, K, n) Q := by
  refine zAload_n 0 0 1 (by decide +kernel) rfl rfl ?_
  refine zIconst 0 0 2 (by decide +kernel) rfl (by decide) ?_
  refine pf12_0 93 5 (by decide +kernel) rfl flX12_93 (Mod_0 S0_) ?_
  replace F := F _ rfl
  generalize zU I m 0 (0) = I1 at F ⊢
  refine zAload_n 0 0 6 (by decide +kernel) rfl rfl ?_
  refine gf12_26 291 9 (by decide +kernel) rfl flX12_291 (Mod_0 S0_) ?_
  refine zIf_eq 30 39 12 (by decide +kernel) rfl rfl ⟨fun q2 => ?_, fun q2 => ?_⟩
  · replace F := F.1 q2
    refine zIconst (-1) (-1) 40 (by decide +kernel) rfl (by decide) ?_
    exact zIret rfl (by decide +kernel) F
  · replace F := F.2 q2
    refine zIload_n 1 1 13 (by decide +kernel) rfl rfl ?_
    refine zI2l 14 (by decide +kernel) rfl ?_
    refine zLconst 1 1 15 (by decide +kernel) rfl (by decide) ?_
    refine zLdc2 409 30 18 (by decide +kernel) rfl klX12_409 ?_
    refine zCallS mX12_isIn 214 3 0 0 _ _ 21 [.long (p1.toInt64), .long (1), .long (30)] [] okX12_isIn mlX12_214 smX12_isIn (by decide +kernel) rfl rfl (Nat.le_of_ble_eq_true rfl) rfl rfl (zC.mono F ?_)
    rintro _ _ ⟨x3, I4, rfl, rfl, F⟩
    change zV G (d + 1) mX12_years kc ks 21 [(0, .ref (m)), (1, .int (p1)), (2, .long (p2))] [.int (x3)] (I4, J, R, K, n) Q
    refine zIf_eq 18 39 24 (by decide +kernel) rfl rfl ⟨fun q5 => ?_, fun q5 => ?_⟩
    · replace F := F.1 q5
      refine zIconst (-1) (-1) 40 (by decide +kernel) rfl (by decide) ?_
      exact zIret rfl (by decide +kernel) F
    · replace F := F.2 q5
      refine zAload_n 0 0 25 (by decide +kernel) rfl rfl ?_
      refine gf12_32 61 28 (by decide +kernel) rfl flX12_61 (Mod_0 S0_) (Mod_25 S0_) ?_
      refine zBipush 49 49 30 (by decide +kernel) rfl (by decide) ?_
      obtain ⟨w6, F⟩ := F
      refine yIaload 231 31 (by decide +kernel) rfl (Mod_26 S0_) (w6) ?_
      refine zIload_n 1 1 32 (by decide +kernel) rfl rfl ?_
      refine zIadd 33 (by decide +kernel) rfl ?_
      refine zSipush 999 999 36 (by decide +kernel) rfl (by decide) ?_
      refine zIcmp_le 5 41 39 (by decide +kernel) rfl rfl ⟨fun q7 => ?_, fun q7 => ?_⟩
      · replace F := F.1 q7
        refine zAload_n 0 0 42 (by decide +kernel) rfl rfl ?_
        refine zLload_n 2 2 43 (by decide +kernel) rfl rfl ?_
        refine pf12_40 401 46 (by decide +kernel) rfl flX12_401 (Mod_0 S0_) ?_
        replace F := F _ rfl
        generalize zU J m 40 (p2) = J8 at F ⊢
        refine zIconst 0 0 47 (by decide +kernel) rfl (by decide) ?_
        refine zIstore 4 [(4, .int (0)), (0, .ref (m)), (1, .int (p1)), (2, .long (p2))] 49 (by decide +kernel) rfl (by decide) rfl ?_
        exact zLoc [1, 2, 3, 0] _ rfl F
      · replace F := F.2 q7
        refine zIconst (-1) (-1) 40 (by decide +kernel) rfl (by decide) ?_
        exact zIret rfl (by decide +kernel) F
set_option maxHeartbeats 2000000 in
theorem wX12_years_49 {G : zG} {d kc ks : Nat} {I : Nat → Nat → Int32} {J : Nat → Nat → Int64} {R : Nat → Nat → Option Nat} {K : Nat → Nat × Nat} {n : Nat} {Q : Option Value → zH → Prop} (m t c : Nat) (S0_ : hMod G R K n m t c) (l1 l4 : Int32) (l2 : Int64) (F : ((l1 ≤ l4 → ((vp_in 49 231) ∧ Q (some (.int (I (m + 13) (49 : Int32).toNatClampNeg))) (I, J, R, K, n))) ∧ (¬ (l1 ≤ l4) → zC G d mX12_remember 0 0 [.ref (m)] (I, J, R, K, n) (fun r h => ∃ (I11 : Nat → Nat → Int32), r = none ∧ h = (I11, J, R, K, n) ∧ zC G d mX12_draw 0 0 [.ref (m), .int (10)] (I11, J, R, K, n) (fun r h => ∃ (x12 : Int32) (I13 : Nat → Nat → Int32) (J14 : Nat → Nat → Int64), r = some (.int x12) ∧ h = (I13, J14, R, K, n) ∧ (((I13 m 35 : Int32) ≤ x12 → zC G d mX12_draw 0 0 [.ref (m), .int (9)] (I13, J14, R, K, n) (fun r h => ∃ (x16 : Int32) (I17 : Nat → Nat → Int32) (J18 : Nat → Nat → Int64), r = some (.int x16) ∧ h = (I17, J18, R, K, n) ∧ zC G d mX12_isOpen 0 0 [.ref (m + 13), .int (x16)] (I17, J18, R, K, n) (fun r h => ∃ (x19 : Int32) (I20 : Nat → Nat → Int32), r = some (.int x19) ∧ h = (I20, J18, R, K, n) ∧ ((x19 = 0 → ((vp_in 47 231) ∧ (vp_in 47 231 ∧ ∀ I23 : Nat → Nat → Int32, I23 = zU I20 (m + 13) (47 : Int32).toNatClampNeg ((if ((I20 (m + 13) (47 : Int32).toNatClampNeg) + 3 : Int32) < 999 then (I20 (m + 13) (47 : Int32).toNatClampNeg) + 3 else 999)) → zC G d mX12_goDay 0 0 [.ref (m), .ref (m + 13)] (I23, J18, R, K, n) (fun r h => ∃ (x24 : Int32) (I25 : Nat → Nat → Int32), r = some (.int x24) ∧ h = (I25, J18, R, K, n) ∧ zV G (d + 1) mX12_years kc ks 49 [(0, .ref (m)), (1, .int (l1)), (2, .long (l2)), (4, .int (l4 + 1))] [] (I25, J18, R, K, n) Q)))) ∧ (¬ (x19 = 0) → zC G d mX12_forgives 0 0 [.ref (m), .ref (m + 13), .int (x16)] (I20, J18, R, K, n) (fun r h => ∃ (x26 : Int32) (I27 : Nat → Nat → Int32) (J28 : Nat → Nat → Int64) (R29 : Nat → Nat → Option Nat), r = some (.int x26) ∧ h = (I27, J28, R29, K, n) ∧ ∃ u30 u31 : Nat, hMod G R29 K n m u30 u31 ∧ ((vp_in 47 231) ∧ (vp_in 47 231 ∧ ∀ I34 : Nat → Nat → Int32, I34 = zU I27 (m + 13) (47 : Int32).toNatClampNeg ((if ((I27 (m + 13) (47 : Int32).toNatClampNeg) + 3 : Int32) < 999 then (I27 (m + 13) (47 : Int32).toNatClampNeg) + 3 else 999)) → zC G d mX12_goDay 0 0 [.ref (m), .ref (m + 13)] (I34, J28, R29, K, n) (fun r h => ∃ (x35 : Int32) (I36 : Nat → Nat → Int32), r = some (.int x35) ∧ h = (I36, J28, R29, K, n) ∧ zV G (d + 1) mX12_years kc ks 49 [(0, .ref (m)), (1, .int (l1)), (2, .long (l2)), (4, .int (l4 + 1))] [] (I36, J28, R29, K, n) Q))))))))) ∧ (¬ ((I13 m 35 : Int32) ≤ x12) → zC G d mX12_draw 0 0 [.ref (m), .int (I13 m 26)] (I13, J14, R, K, n) (fun r h => ∃ (x37 : Int32) (I38 : Nat → Nat → Int32) (J39 : Nat → Nat → Int64), r = some (.int x37) ∧ h = (I38, J39, R, K, n) ∧ zC G d mX12_draw 0 0 [.ref (m), .int (I38 m 26)] (I38, J39, R, K, n) (fun r h => ∃ (x40 : Int32) (I41 : Nat → Nat → Int32) (J42 : Nat → Nat → Int64), r = some (.int x40) ∧ h = (I41, J42, R, K, n) ∧ zC G d mX12_draw 0 0 [.ref (m), .int (9)] (I41, J42, R, K, n) (fun r h => ∃ (x43 : Int32) (I44 : Nat → Nat → Int32) (J45 : Nat → Nat → Int64), r = some (.int x43) ∧ h = (I44, J45, R, K, n) ∧ ((x37 = x40 → zC G d mX12_draw 0 0 [.ref (m), .int (9)] (I44, J45, R, K, n) (fun r h => ∃ (x47 : Int32) (I48 : Nat → Nat → Int32) (J49 : Nat → Nat → Int64), r = some (.int x47) ∧ h = (I48, J49, R, K, n) ∧ zC G d mX12_isOpen 0 0 [.ref (m + 13), .int (x47)] (I48, J49, R, K, n) (fun r h => ∃ (x50 : Int32) (I51 : Nat → Nat → Int32), r = some (.int x50) ∧ h = (I51, J49, R, K, n) ∧ ((x50 = 0 → ((vp_in 47 231) ∧ (vp_in 47 231 ∧ ∀ I54 : Nat → Nat → Int32, I54 = zU I51 (m + 13) (47 : Int32).toNatClampNeg ((if ((I51 (m + 13) (47 : Int32).toNatClampNeg) + 3 : Int32) < 999 then (I51 (m + 13) (47 : Int32).toNatClampNeg) + 3 else 999)) → zC G d mX12_goDay 0 0 [.ref (m), .ref (m + 13)] (I54, J49, R, K, n) (fun r h => ∃ (x55 : Int32) (I56 : Nat → Nat → Int32), r = some (.int x55) ∧ h = (I56, J49, R, K, n) ∧ zV G (d + 1) mX12_years kc ks 49 [(0, .ref (m)), (1, .int (l1)), (2, .long (l2)), (4, .int (l4 + 1))] [] (I56, J49, R, K, n) Q)))) ∧ (¬ (x50 = 0) → zC G d mX12_forgives 0 0 [.ref (m), .ref (m + 13), .int (x47)] (I51, J49, R, K, n) (fun r h => ∃ (x57 : Int32) (I58 : Nat → Nat → Int32) (J59 : Nat → Nat → Int64) (R60 : Nat → Nat → Option Nat), r = some (.int x57) ∧ h = (I58, J59, R60, K, n) ∧ ∃ u61 u62 : Nat, hMod G R60 K n m u61 u62 ∧ ((vp_in 47 231) ∧ (vp_in 47 231 ∧ ∀ I65 : Nat → Nat → Int32, I65 = zU I58 (m + 13) (47 : Int32).toNatClampNeg ((if ((I58 (m + 13) (47 : Int32).toNatClampNeg) + 3 : Int32) < 999 then (I58 (m + 13) (47 : Int32).toNatClampNeg) + 3 else 999)) → zC G d mX12_goDay 0 0 [.ref (m), .ref (m + 13)] (I65, J59, R60, K, n) (fun r h => ∃ (x66 : Int32) (I67 : Nat → Nat → Int32), r = some (.int x66) ∧ h = (I67, J59, R60, K, n) ∧ zV G (d + 1) mX12_years kc ks 49 [(0, .ref (m)), (1, .int (l1)), (2, .long (l2)), (4, .int (l4 + 1))] [] (I67, J59, R60, K, n) Q))))))))) ∧ (¬ (x37 = x40) → zC G d mX12_freePlace 0 0 [.ref (m + 13)] (I44, J45, R, K, n) (fun r h => ∃ (x68 : Int32) (I69 : Nat → Nat → Int32), r = some (.int x68) ∧ h = (I69, J45, R, K, n) ∧ ((9 ≤ x68 → zC G d mX12_draw 0 0 [.ref (m), .int (9)] (I69, J45, R, K, n) (fun r h => ∃ (x71 : Int32) (I72 : Nat → Nat → Int32) (J73 : Nat → Nat → Int64), r = some (.int x71) ∧ h = (I72, J73, R, K, n) ∧ zC G d mX12_isOpen 0 0 [.ref (m + 13), .int (x71)] (I72, J73, R, K, n) (fun r h => ∃ (x74 : Int32) (I75 : Nat → Nat → Int32), r = some (.int x74) ∧ h = (I75, J73, R, K, n) ∧ ((x74 = 0 → ((vp_in 47 231) ∧ (vp_in 47 231 ∧ ∀ I78 : Nat → Nat → Int32, I78 = zU I75 (m + 13) (47 : Int32).toNatClampNeg ((if ((I75 (m + 13) (47 : Int32).toNatClampNeg) + 3 : Int32) < 999 then (I75 (m + 13) (47 : Int32).toNatClampNeg) + 3 else 999)) → zC G d mX12_goDay 0 0 [.ref (m), .ref (m + 13)] (I78, J73, R, K, n) (fun r h => ∃ (x79 : Int32) (I80 : Nat → Nat → Int32), r = some (.int x79) ∧ h = (I80, J73, R, K, n) ∧ zV G (d + 1) mX12_years kc ks 49 [(0, .ref (m)), (1, .int (l1)), (2, .long (l2)), (4, .int (l4 + 1))] [] (I80, J73, R, K, n) Q)))) ∧ (¬ (x74 = 0) → zC G d mX12_forgives 0 0 [.ref (m), .ref (m + 13), .int (x71)] (I75, J73, R, K, n) (fun r h => ∃ (x81 : Int32) (I82 : Nat → Nat → Int32) (J83 : Nat → Nat → Int64) (R84 : Nat → Nat → Option Nat), r = some (.int x81) ∧ h = (I82, J83, R84, K, n) ∧ ∃ u85 u86 : Nat, hMod G R84 K n m u85 u86 ∧ ((vp_in 47 231) ∧ (vp_in 47 231 ∧ ∀ I89 : Nat → Nat → Int32, I89 = zU I82 (m + 13) (47 : Int32).toNatClampNeg ((if ((I82 (m + 13) (47 : Int32).toNatClampNeg) + 3 : Int32) < 999 then (I82 (m + 13) (47 : Int32).toNatClampNeg) + 3 else 999)) → zC G d mX12_goDay 0 0 [.ref (m), .ref (m + 13)] (I89, J83, R84, K, n) (fun r h => ∃ (x90 : Int32) (I91 : Nat → Nat → Int32), r = some (.int x90) ∧ h = (I91, J83, R84, K, n) ∧ zV G (d + 1) mX12_years kc ks 49 [(0, .ref (m)), (1, .int (l1)), (2, .long (l2)), (4, .int (l4 + 1))] [] (I91, J83, R84, K, n) Q))))))))) ∧ (¬ (9 ≤ x68) → zC G d mX12_sins 0 0 [.ref (m + 13), .int (x37), .int (x40), .int (x43 + 1)] (I69, J45, R, K, n) (fun r h => ∃ (I92 : Nat → Nat → Int32), r = none ∧ h = (I92, J45, R, K, n) ∧ zC G d mX12_draw 0 0 [.ref (m), .int (9)] (I92, J45, R, K, n) (fun r h => ∃ (x93 : Int32) (I94 : Nat → Nat → Int32) (J95 : Nat → Nat → Int64), r = some (.int x93) ∧ h = (I94, J95, R, K, n) ∧ zC G d mX12_isOpen 0 0 [.ref (m + 13), .int (x93)] (I94, J95, R, K, n) (fun r h => ∃ (x96 : Int32) (I97 : Nat → Nat → Int32), r = some (.int x96) ∧ h = (I97, J95, R, K, n) ∧ ((x96 = 0 → ((vp_in 47 231) ∧ (vp_in 47 231 ∧ ∀ I100 : Nat → Nat → Int32, I100 = zU I97 (m + 13) (47 : Int32).toNatClampNeg ((if ((I97 (m + 13) (47 : Int32).toNatClampNeg) + 3 : Int32) < 999 then (I97 (m + 13) (47 : Int32).toNatClampNeg) + 3 else 999)) → zC G d mX12_goDay 0 0 [.ref (m), .ref (m + 13)] (I100, J95, R, K, n) (fun r h => ∃ (x101 : Int32) (I102 : Nat → Nat → Int32), r = some (.int x101) ∧ h = (I102, J95, R, K, n) ∧ zV G (d + 1) mX12_years kc ks 49 [(0, .ref (m)), (1, .int (l1)), (2, .long (l2)), (4, .int (l4 + 1))] [] (I102, J95, R, K, n) Q)))) ∧ (¬ (x96 = 0) → zC G d mX12_forgives 0 0 [.ref (m), .ref (m + 13), .int (x93)] (I97, J95, R, K, n) (fun r h => ∃ (x103 : Int32) (I104 : Nat → Nat → Int32) (J105 : Nat → Nat → Int64) (R106 : Nat → Nat → Option Nat), r = some (.int x103) ∧ h = (I104, J105, R106, K, n) ∧ ∃ u107 u108 : Nat, hMod G R106 K n m u107 u108 ∧ ((vp_in 47 231) ∧ (vp_in 47 231 ∧ ∀ I111 : Nat → Nat → Int32, I111 = zU I104 (m + 13) (47 : Int32).toNatClampNeg ((if ((I104 (m + 13) (47 : Int32).toNatClampNeg) + 3 : Int32) < 999 then (I104 (m + 13) (47 : Int32).toNatClampNeg) + 3 else 999)) → zC G d mX12_goDay 0 0 [.ref (m), .ref (m + 13)] (I111, J105, R106, K, n) (fun r h => ∃ (x112 : Int32) (I113 : Nat → Nat → Int32), r = some (.int x112) ∧ h = (I113, J105, R106, K, n) ∧ zV G (d + 1) mX12_years kc ks 49 [(0, .ref (m)), (1, .int (l1)), (2, .long (l2)), (4, .int (l4 + 1))] [] (I113, J105, R106, K, n) Q)))))))))))))))))))))))) : zV G (d + 1) mX12_years kc ks 49 [(0, .ref (m)), (1, .int (l1)), (2, .long (l2)), (4, .int (l4))] [] (I, J, R, K, n) Q := by
  refine zIload 4 3 51 (by decide +kernel) rfl rfl ?_
  refine zIload_n 1 1 52 (by decide +kernel) rfl rfl ?_
  refine zIcmp_ge 152 204 55 (by decide +kernel) rfl rfl ⟨fun q9 => ?_, fun q9 => ?_⟩
  · replace F := F.1 q9
    refine zAload_n 0 0 205 (by decide +kernel) rfl rfl ?_
    refine gf12_32 61 208 (by decide +kernel) rfl flX12_61 (Mod_0 S0_) (Mod_25 S0_) ?_
    refine zBipush 49 49 210 (by decide +kernel) rfl (by decide) ?_
    obtain ⟨w10, F⟩ := F
    refine yIaload 231 211 (by decide +kernel) rfl (Mod_26 S0_) (w10) ?_
    exact zIret rfl (by decide +kernel) F
  · replace F := F.2 q9
    refine zAload_n 0 0 56 (by decide +kernel) rfl rfl ?_
    refine zCallV 12 zcls12 mX12_remember 364 0 0 0 _ _ 59 [] [] okX12_remember mlX12_364 imX12_remember seX12_remember (by decide +kernel) rfl rfl (Nat.le_of_ble_eq_true rfl) rfl rfl (Mod_0 S0_) (zC.mono F ?_)
    rintro _ _ ⟨I11, rfl, rfl, F⟩
    change zV G (d + 1) mX12_years kc ks 59 [(0, .ref (m)), (1, .int (l1)), (2, .long (l2)), (4, .int (l4))] [] (I11, J, R, K, n) Q
    refine zAload_n 0 0 60 (by decide +kernel) rfl rfl ?_
    refine zBipush 10 10 62 (by decide +kernel) rfl (by decide) ?_
    refine zCallV 12 zcls12 mX12_draw 411 1 0 0 _ _ 65 [.int (10)] [] okX12_draw mlX12_411 imX12_draw seX12_draw (by decide +kernel) rfl rfl (Nat.le_of_ble_eq_true rfl) rfl rfl (Mod_0 S0_) (zC.mono F ?_)
    rintro _ _ ⟨x12, I13, J14, rfl, rfl, F⟩
    change zV G (d + 1) mX12_years kc ks 65 [(0, .ref (m)), (1, .int (l1)), (2, .long (l2)), (4, .int (l4))] [.int (x12)] (I13, J14, R, K, n) Q
    refine zAload_n 0 0 66 (by decide +kernel) rfl rfl ?_
    refine gf12_35 71 69 (by decide +kernel) rfl flX12_71 (Mod_0 S0_) ?_
    refine zIcmp_ge 65 134 72 (by decide +kernel) rfl rfl ⟨fun q15 => ?_, fun q15 => ?_⟩
    · replace F := F.1 q15
      refine zAload_n 0 0 135 (by decide +kernel) rfl rfl ?_
      refine zBipush 9 9 137 (by decide +kernel) rfl (by decide) ?_
      refine zCallV 12 zcls12 mX12_draw 411 1 0 0 _ _ 140 [.int (9)] [] okX12_draw mlX12_411 imX12_draw seX12_draw (by decide +kernel) rfl rfl (Nat.le_of_ble_eq_true rfl) rfl rfl (Mod_0 S0_) (zC.mono F ?_)
      rintro _ _ ⟨x16, I17, J18, rfl, rfl, F⟩
      change zV G (d + 1) mX12_years kc ks 140 [(0, .ref (m)), (1, .int (l1)), (2, .long (l2)), (4, .int (l4))] [.int (x16)] (I17, J18, R, K, n) Q
      refine zIstore 5 [(5, .int (x16)), (0, .ref (m)), (1, .int (l1)), (2, .long (l2)), (4, .int (l4))] 142 (by decide +kernel) rfl (by decide) rfl ?_
      refine zAload_n 0 1 143 (by decide +kernel) rfl rfl ?_
      refine gf12_32 61 146 (by decide +kernel) rfl flX12_61 (Mod_0 S0_) (Mod_25 S0_) ?_
      refine zIload 5 0 148 (by decide +kernel) rfl rfl ?_
      refine zCallS mX12_isOpen 358 2 0 0 _ _ 151 [.ref (m + 13), .int (x16)] [] okX12_isOpen mlX12_358 smX12_isOpen (by decide +kernel) rfl rfl (Nat.le_of_ble_eq_true rfl) rfl rfl (zC.mono F ?_)
      rintro _ _ ⟨x19, I20, rfl, rfl, F⟩
      change zV G (d + 1) mX12_years kc ks 151 [(5, .int (x16)), (0, .ref (m)), (1, .int (l1)), (2, .long (l2)), (4, .int (l4))] [.int (x19)] (I20, J18, R, K, n) Q
      refine zIf_eq 15 166 154 (by decide +kernel) rfl rfl ⟨fun q21 => ?_, fun q21 => ?_⟩
      · replace F := F.1 q21
        refine zAload_n 0 1 167 (by decide +kernel) rfl rfl ?_
        refine gf12_32 61 170 (by decide +kernel) rfl flX12_61 (Mod_0 S0_) (Mod_25 S0_) ?_
        refine zBipush 47 47 172 (by decide +kernel) rfl (by decide) ?_
        refine zSipush 999 999 175 (by decide +kernel) rfl (by decide) ?_
        refine zAload_n 0 1 176 (by decide +kernel) rfl rfl ?_
        refine gf12_32 61 179 (by decide +kernel) rfl flX12_61 (Mod_0 S0_) (Mod_25 S0_) ?_
        refine zBipush 47 47 181 (by decide +kernel) rfl (by decide) ?_
        obtain ⟨w22, F⟩ := F
        refine yIaload 231 182 (by decide +kernel) rfl (Mod_26 S0_) (w22) ?_
        refine zIconst 3 3 183 (by decide +kernel) rfl (by decide) ?_
        refine zIadd 184 (by decide +kernel) rfl ?_
        refine yMin 329 187 (by decide +kernel) rfl mlX12_329 (Nat.le_of_ble_eq_true rfl) ?_
        refine yIastore 231 188 (by decide +kernel) rfl (Mod_26 S0_) F.1 ?_
        replace F := F.2 _ rfl
        generalize zU I20 (m + 13) (47 : Int32).toNatClampNeg ((if ((I20 (m + 13) (47 : Int32).toNatClampNeg) + 3 : Int32) < 999 then (I20 (m + 13) (47 : Int32).toNatClampNeg) + 3 else 999)) = I23 at F ⊢
        refine zAload_n 0 1 189 (by decide +kernel) rfl rfl ?_
        refine zAload_n 0 1 190 (by decide +kernel) rfl rfl ?_
        refine gf12_32 61 193 (by decide +kernel) rfl flX12_61 (Mod_0 S0_) (Mod_25 S0_) ?_
        refine zCallV 12 zcls12 mX12_goDay 398 1 0 0 _ _ 196 [.ref (m + 13)] [] okX12_goDay mlX12_398 imX12_goDay seX12_goDay (by decide +kernel) rfl rfl (Nat.le_of_ble_eq_true rfl) rfl rfl (Mod_0 S0_) (zC.mono F ?_)
        rintro _ _ ⟨x24, I25, rfl, rfl, F⟩
        change zV G (d + 1) mX12_years kc ks 196 [(5, .int (x16)), (0, .ref (m)), (1, .int (l1)), (2, .long (l2)), (4, .int (l4))] [.int (x24)] (I25, J18, R, K, n) Q
        refine zIstore 6 [(6, .int (x24)), (5, .int (x16)), (0, .ref (m)), (1, .int (l1)), (2, .long (l2)), (4, .int (l4))] 198 (by decide +kernel) rfl (by decide) rfl ?_
        refine zIinc 4 1 5 (l4 + 1) [(4, .int (l4 + 1)), (6, .int (x24)), (5, .int (x16)), (0, .ref (m)), (1, .int (l1)), (2, .long (l2))] 201 (by decide +kernel) rfl rfl (by rfl) (by decide) rfl ?_
        refine zGoto (-152) 49 (by decide +kernel) rfl ?_
        exact zLoc [3, 4, 5, 0] _ rfl F
      · replace F := F.2 q21
        refine zAload_n 0 1 155 (by decide +kernel) rfl rfl ?_
        refine zAload_n 0 1 156 (by decide +kernel) rfl rfl ?_
        refine gf12_32 61 159 (by decide +kernel) rfl flX12_61 (Mod_0 S0_) (Mod_25 S0_) ?_
        refine zIload 5 0 161 (by decide +kernel) rfl rfl ?_
        refine zCallV 12 zcls12 mX12_forgives 367 2 0 0 _ _ 164 [.ref (m + 13), .int (x16)] [] okX12_forgives mlX12_367 imX12_forgives seX12_forgives (by decide +kernel) rfl rfl (Nat.le_of_ble_eq_true rfl) rfl rfl (Mod_0 S0_) (zC.mono F ?_)
        rintro _ _ ⟨x26, I27, J28, R29, rfl, rfl, F⟩
        change zV G (d + 1) mX12_years kc ks 164 [(5, .int (x16)), (0, .ref (m)), (1, .int (l1)), (2, .long (l2)), (4, .int (l4))] [.int (x26)] (I27, J28, R29, K, n) Q
        obtain ⟨u30, u31, S32, F⟩ := F
        refine zIstore 6 [(6, .int (x26)), (5, .int (x16)), (0, .ref (m)), (1, .int (l1)), (2, .long (l2)), (4, .int (l4))] 166 (by decide +kernel) rfl (by decide) rfl ?_
        refine zAload_n 0 2 167 (by decide +kernel) rfl rfl ?_
        refine gf12_32 61 170 (by decide +kernel) rfl flX12_61 (Mod_0 S32) (Mod_25 S32) ?_
        refine zBipush 47 47 172 (by decide +kernel) rfl (by decide) ?_
        refine zSipush 999 999 175 (by decide +kernel) rfl (by decide) ?_
        refine zAload_n 0 2 176 (by decide +kernel) rfl rfl ?_
        refine gf12_32 61 179 (by decide +kernel) rfl flX12_61 (Mod_0 S32) (Mod_25 S32) ?_
        refine zBipush 47 47 181 (by decide +kernel) rfl (by decide) ?_
        obtain ⟨w33, F⟩ := F
        refine yIaload 231 182 (by decide +kernel) rfl (Mod_26 S32) (w33) ?_
        refine zIconst 3 3 183 (by decide +kernel) rfl (by decide) ?_
        refine zIadd 184 (by decide +kernel) rfl ?_
        refine yMin 329 187 (by decide +kernel) rfl mlX12_329 (Nat.le_of_ble_eq_true rfl) ?_
        refine yIastore 231 188 (by decide +kernel) rfl (Mod_26 S32) F.1 ?_
        replace F := F.2 _ rfl
        generalize zU I27 (m + 13) (47 : Int32).toNatClampNeg ((if ((I27 (m + 13) (47 : Int32).toNatClampNeg) + 3 : Int32) < 999 then (I27 (m + 13) (47 : Int32).toNatClampNeg) + 3 else 999)) = I34 at F ⊢
        refine zAload_n 0 2 189 (by decide +kernel) rfl rfl ?_
        refine zAload_n 0 2 190 (by decide +kernel) rfl rfl ?_
        refine gf12_32 61 193 (by decide +kernel) rfl flX12_61 (Mod_0 S32) (Mod_25 S32) ?_
        refine zCallV 12 zcls12 mX12_goDay 398 1 0 0 _ _ 196 [.ref (m + 13)] [] okX12_goDay mlX12_398 imX12_goDay seX12_goDay (by decide +kernel) rfl rfl (Nat.le_of_ble_eq_true rfl) rfl rfl (Mod_0 S32) (zC.mono F ?_)
        rintro _ _ ⟨x35, I36, rfl, rfl, F⟩
        change zV G (d + 1) mX12_years kc ks 196 [(6, .int (x26)), (5, .int (x16)), (0, .ref (m)), (1, .int (l1)), (2, .long (l2)), (4, .int (l4))] [.int (x35)] (I36, J28, R29, K, n) Q
        refine zIstore 6 [(6, .int (x35)), (5, .int (x16)), (0, .ref (m)), (1, .int (l1)), (2, .long (l2)), (4, .int (l4))] 198 (by decide +kernel) rfl (by decide) rfl ?_
        refine zIinc 4 1 5 (l4 + 1) [(4, .int (l4 + 1)), (6, .int (x35)), (5, .int (x16)), (0, .ref (m)), (1, .int (l1)), (2, .long (l2))] 201 (by decide +kernel) rfl rfl (by rfl) (by decide) rfl ?_
        refine zGoto (-152) 49 (by decide +kernel) rfl ?_
        exact zLoc [3, 4, 5, 0] _ rfl F
    · replace F := F.2 q15
      refine zAload_n 0 0 73 (by decide +kernel) rfl rfl ?_
      refine zAload_n 0 0 74 (by decide +kernel) rfl rfl ?_
      refine gf12_26 291 77 (by decide +kernel) rfl flX12_291 (Mod_0 S0_) ?_
      refine zCallV 12 zcls12 mX12_draw 411 1 0 0 _ _ 80 [.int (I13 m 26)] [] okX12_draw mlX12_411 imX12_draw seX12_draw (by decide +kernel) rfl rfl (Nat.le_of_ble_eq_true rfl) rfl rfl (Mod_0 S0_) (zC.mono F ?_)
      rintro _ _ ⟨x37, I38, J39, rfl, rfl, F⟩
      change zV G (d + 1) mX12_years kc ks 80 [(0, .ref (m)), (1, .int (l1)), (2, .long (l2)), (4, .int (l4))] [.int (x37)] (I38, J39, R, K, n) Q
      refine zIstore 5 [(5, .int (x37)), (0, .ref (m)), (1, .int (l1)), (2, .long (l2)), (4, .int (l4))] 82 (by decide +kernel) rfl (by decide) rfl ?_
      refine zAload_n 0 1 83 (by decide +kernel) rfl rfl ?_
      refine zAload_n 0 1 84 (by decide +kernel) rfl rfl ?_
      refine gf12_26 291 87 (by decide +kernel) rfl flX12_291 (Mod_0 S0_) ?_
      refine zCallV 12 zcls12 mX12_draw 411 1 0 0 _ _ 90 [.int (I38 m 26)] [] okX12_draw mlX12_411 imX12_draw seX12_draw (by decide +kernel) rfl rfl (Nat.le_of_ble_eq_true rfl) rfl rfl (Mod_0 S0_) (zC.mono F ?_)
      rintro _ _ ⟨x40, I41, J42, rfl, rfl, F⟩
      change zV G (d + 1) mX12_years kc ks 90 [(5, .int (x37)), (0, .ref (m)), (1, .int (l1)), (2, .long (l2)), (4, .int (l4))] [.int (x40)] (I41, J42, R, K, n) Q
      refine zIstore 6 [(6, .int (x40)), (5, .int (x37)), (0, .ref (m)), (1, .int (l1)), (2, .long (l2)), (4, .int (l4))] 92 (by decide +kernel) rfl (by decide) rfl ?_
      refine zAload_n 0 2 93 (by decide +kernel) rfl rfl ?_
      refine zBipush 9 9 95 (by decide +kernel) rfl (by decide) ?_
      refine zCallV 12 zcls12 mX12_draw 411 1 0 0 _ _ 98 [.int (9)] [] okX12_draw mlX12_411 imX12_draw seX12_draw (by decide +kernel) rfl rfl (Nat.le_of_ble_eq_true rfl) rfl rfl (Mod_0 S0_) (zC.mono F ?_)
      rintro _ _ ⟨x43, I44, J45, rfl, rfl, F⟩
      change zV G (d + 1) mX12_years kc ks 98 [(6, .int (x40)), (5, .int (x37)), (0, .ref (m)), (1, .int (l1)), (2, .long (l2)), (4, .int (l4))] [.int (x43)] (I44, J45, R, K, n) Q
      refine zIconst 1 1 99 (by decide +kernel) rfl (by decide) ?_
      refine zIadd 100 (by decide +kernel) rfl ?_
      refine zIstore 7 [(7, .int (x43 + 1)), (6, .int (x40)), (5, .int (x37)), (0, .ref (m)), (1, .int (l1)), (2, .long (l2)), (4, .int (l4))] 102 (by decide +kernel) rfl (by decide) rfl ?_
      refine zIload 5 2 104 (by decide +kernel) rfl rfl ?_
      refine zIload 6 1 106 (by decide +kernel) rfl rfl ?_
      refine zIcmp_eq 28 134 109 (by decide +kernel) rfl rfl ⟨fun q46 => ?_, fun q46 => ?_⟩
      · replace F := F.1 q46
        refine zAload_n 0 3 135 (by decide +kernel) rfl rfl ?_
        refine zBipush 9 9 137 (by decide +kernel) rfl (by decide) ?_
        refine zCallV 12 zcls12 mX12_draw 411 1 0 0 _ _ 140 [.int (9)] [] okX12_draw mlX12_411 imX12_draw seX12_draw (by decide +kernel) rfl rfl (Nat.le_of_ble_eq_true rfl) rfl rfl (Mod_0 S0_) (zC.mono F ?_)
        rintro _ _ ⟨x47, I48, J49, rfl, rfl, F⟩
        change zV G (d + 1) mX12_years kc ks 140 [(7, .int (x43 + 1)), (6, .int (x40)), (5, .int (x37)), (0, .ref (m)), (1, .int (l1)), (2, .long (l2)), (4, .int (l4))] [.int (x47)] (I48, J49, R, K, n) Q
        refine zIstore 5 [(5, .int (x47)), (7, .int (x43 + 1)), (6, .int (x40)), (0, .ref (m)), (1, .int (l1)), (2, .long (l2)), (4, .int (l4))] 142 (by decide +kernel) rfl (by decide) rfl ?_
        refine zAload_n 0 3 143 (by decide +kernel) rfl rfl ?_
        refine gf12_32 61 146 (by decide +kernel) rfl flX12_61 (Mod_0 S0_) (Mod_25 S0_) ?_
        refine zIload 5 0 148 (by decide +kernel) rfl rfl ?_
        refine zCallS mX12_isOpen 358 2 0 0 _ _ 151 [.ref (m + 13), .int (x47)] [] okX12_isOpen mlX12_358 smX12_isOpen (by decide +kernel) rfl rfl (Nat.le_of_ble_eq_true rfl) rfl rfl (zC.mono F ?_)
        rintro _ _ ⟨x50, I51, rfl, rfl, F⟩
        change zV G (d + 1) mX12_years kc ks 151 [(5, .int (x47)), (7, .int (x43 + 1)), (6, .int (x40)), (0, .ref (m)), (1, .int (l1)), (2, .long (l2)), (4, .int (l4))] [.int (x50)] (I51, J49, R, K, n) Q
        refine zIf_eq 15 166 154 (by decide +kernel) rfl rfl ⟨fun q52 => ?_, fun q52 => ?_⟩
        · replace F := F.1 q52
          refine zAload_n 0 3 167 (by decide +kernel) rfl rfl ?_
          refine gf12_32 61 170 (by decide +kernel) rfl flX12_61 (Mod_0 S0_) (Mod_25 S0_) ?_
          refine zBipush 47 47 172 (by decide +kernel) rfl (by decide) ?_
          refine zSipush 999 999 175 (by decide +kernel) rfl (by decide) ?_
          refine zAload_n 0 3 176 (by decide +kernel) rfl rfl ?_
          refine gf12_32 61 179 (by decide +kernel) rfl flX12_61 (Mod_0 S0_) (Mod_25 S0_) ?_
          refine zBipush 47 47 181 (by decide +kernel) rfl (by decide) ?_
          obtain ⟨w53, F⟩ := F
          refine yIaload 231 182 (by decide +kernel) rfl (Mod_26 S0_) (w53) ?_
          refine zIconst 3 3 183 (by decide +kernel) rfl (by decide) ?_
          refine zIadd 184 (by decide +kernel) rfl ?_
          refine yMin 329 187 (by decide +kernel) rfl mlX12_329 (Nat.le_of_ble_eq_true rfl) ?_
          refine yIastore 231 188 (by decide +kernel) rfl (Mod_26 S0_) F.1 ?_
          replace F := F.2 _ rfl
          generalize zU I51 (m + 13) (47 : Int32).toNatClampNeg ((if ((I51 (m + 13) (47 : Int32).toNatClampNeg) + 3 : Int32) < 999 then (I51 (m + 13) (47 : Int32).toNatClampNeg) + 3 else 999)) = I54 at F ⊢
          refine zAload_n 0 3 189 (by decide +kernel) rfl rfl ?_
          refine zAload_n 0 3 190 (by decide +kernel) rfl rfl ?_
          refine gf12_32 61 193 (by decide +kernel) rfl flX12_61 (Mod_0 S0_) (Mod_25 S0_) ?_
          refine zCallV 12 zcls12 mX12_goDay 398 1 0 0 _ _ 196 [.ref (m + 13)] [] okX12_goDay mlX12_398 imX12_goDay seX12_goDay (by decide +kernel) rfl rfl (Nat.le_of_ble_eq_true rfl) rfl rfl (Mod_0 S0_) (zC.mono F ?_)
          rintro _ _ ⟨x55, I56, rfl, rfl, F⟩
          change zV G (d + 1) mX12_years kc ks 196 [(5, .int (x47)), (7, .int (x43 + 1)), (6, .int (x40)), (0, .ref (m)), (1, .int (l1)), (2, .long (l2)), (4, .int (l4))] [.int (x55)] (I56, J49, R, K, n) Q
          refine zIstore 6 [(6, .int (x55)), (5, .int (x47)), (7, .int (x43 + 1)), (0, .ref (m)), (1, .int (l1)), (2, .long (l2)), (4, .int (l4))] 198 (by decide +kernel) rfl (by decide) rfl ?_
          refine zIinc 4 1 6 (l4 + 1) [(4, .int (l4 + 1)), (6, .int (x55)), (5, .int (x47)), (7, .int (x43 + 1)), (0, .ref (m)), (1, .int (l1)), (2, .long (l2))] 201 (by decide +kernel) rfl rfl (by rfl) (by decide) rfl ?_
          refine zGoto (-152) 49 (by decide +kernel) rfl ?_
          exact zLoc [4, 5, 6, 0] _ rfl F
        · replace F := F.2 q52
          refine zAload_n 0 3 155 (by decide +kernel) rfl rfl ?_
          refine zAload_n 0 3 156 (by decide +kernel) rfl rfl ?_
          refine gf12_32 61 159 (by decide +kernel) rfl flX12_61 (Mod_0 S0_) (Mod_25 S0_) ?_
          refine zIload 5 0 161 (by decide +kernel) rfl rfl ?_
          refine zCallV 12 zcls12 mX12_forgives 367 2 0 0 _ _ 164 [.ref (m + 13), .int (x47)] [] okX12_forgives mlX12_367 imX12_forgives seX12_forgives (by decide +kernel) rfl rfl (Nat.le_of_ble_eq_true rfl) rfl rfl (Mod_0 S0_) (zC.mono F ?_)
          rintro _ _ ⟨x57, I58, J59, R60, rfl, rfl, F⟩
          change zV G (d + 1) mX12_years kc ks 164 [(5, .int (x47)), (7, .int (x43 + 1)), (6, .int (x40)), (0, .ref (m)), (1, .int (l1)), (2, .long (l2)), (4, .int (l4))] [.int (x57)] (I58, J59, R60, K, n) Q
          obtain ⟨u61, u62, S63, F⟩ := F
          refine zIstore 6 [(6, .int (x57)), (5, .int (x47)), (7, .int (x43 + 1)), (0, .ref (m)), (1, .int (l1)), (2, .long (l2)), (4, .int (l4))] 166 (by decide +kernel) rfl (by decide) rfl ?_
          refine zAload_n 0 3 167 (by decide +kernel) rfl rfl ?_
          refine gf12_32 61 170 (by decide +kernel) rfl flX12_61 (Mod_0 S63) (Mod_25 S63) ?_
          refine zBipush 47 47 172 (by decide +kernel) rfl (by decide) ?_
          refine zSipush 999 999 175 (by decide +kernel) rfl (by decide) ?_
          refine zAload_n 0 3 176 (by decide +kernel) rfl rfl ?_
          refine gf12_32 61 179 (by decide +kernel) rfl flX12_61 (Mod_0 S63) (Mod_25 S63) ?_
          refine zBipush 47 47 181 (by decide +kernel) rfl (by decide) ?_
          obtain ⟨w64, F⟩ := F
          refine yIaload 231 182 (by decide +kernel) rfl (Mod_26 S63) (w64) ?_
          refine zIconst 3 3 183 (by decide +kernel) rfl (by decide) ?_
          refine zIadd 184 (by decide +kernel) rfl ?_
          refine yMin 329 187 (by decide +kernel) rfl mlX12_329 (Nat.le_of_ble_eq_true rfl) ?_
          refine yIastore 231 188 (by decide +kernel) rfl (Mod_26 S63) F.1 ?_
          replace F := F.2 _ rfl
          generalize zU I58 (m + 13) (47 : Int32).toNatClampNeg ((if ((I58 (m + 13) (47 : Int32).toNatClampNeg) + 3 : Int32) < 999 then (I58 (m + 13) (47 : Int32).toNatClampNeg) + 3 else 999)) = I65 at F ⊢
          refine zAload_n 0 3 189 (by decide +kernel) rfl rfl ?_
          refine zAload_n 0 3 190 (by decide +kernel) rfl rfl ?_
          refine gf12_32 61 193 (by decide +kernel) rfl flX12_61 (Mod_0 S63) (Mod_25 S63) ?_
          refine zCallV 12 zcls12 mX12_goDay 398 1 0 0 _ _ 196 [.ref (m + 13)] [] okX12_goDay mlX12_398 imX12_goDay seX12_goDay (by decide +kernel) rfl rfl (Nat.le_of_ble_eq_true rfl) rfl rfl (Mod_0 S63) (zC.mono F ?_)
          rintro _ _ ⟨x66, I67, rfl, rfl, F⟩
          change zV G (d + 1) mX12_years kc ks 196 [(6, .int (x57)), (5, .int (x47)), (7, .int (x43 + 1)), (0, .ref (m)), (1, .int (l1)), (2, .long (l2)), (4, .int (l4))] [.int (x66)] (I67, J59, R60, K, n) Q
          refine zIstore 6 [(6, .int (x66)), (5, .int (x47)), (7, .int (x43 + 1)), (0, .ref (m)), (1, .int (l1)), (2, .long (l2)), (4, .int (l4))] 198 (by decide +kernel) rfl (by decide) rfl ?_
          refine zIinc 4 1 6 (l4 + 1) [(4, .int (l4 + 1)), (6, .int (x66)), (5, .int (x47)), (7, .int (x43 + 1)), (0, .ref (m)), (1, .int (l1)), (2, .long (l2))] 201 (by decide +kernel) rfl rfl (by rfl) (by decide) rfl ?_
          refine zGoto (-152) 49 (by decide +kernel) rfl ?_
          exact zLoc [4, 5, 6, 0] _ rfl F
      · replace F := F.2 q46
        refine zAload_n 0 3 110 (by decide +kernel) rfl rfl ?_
        refine gf12_32 61 113 (by decide +kernel) rfl flX12_61 (Mod_0 S0_) (Mod_25 S0_) ?_
        refine zCallS mX12_freePlace 384 1 0 0 _ _ 116 [.ref (m + 13)] [] okX12_freePlace mlX12_384 smX12_freePlace (by decide +kernel) rfl rfl (Nat.le_of_ble_eq_true rfl) rfl rfl (zC.mono F ?_)
        rintro _ _ ⟨x68, I69, rfl, rfl, F⟩
        change zV G (d + 1) mX12_years kc ks 116 [(7, .int (x43 + 1)), (6, .int (x40)), (5, .int (x37)), (0, .ref (m)), (1, .int (l1)), (2, .long (l2)), (4, .int (l4))] [.int (x68)] (I69, J45, R, K, n) Q
        refine zBipush 9 9 118 (by decide +kernel) rfl (by decide) ?_
        refine zIcmp_ge 16 134 121 (by decide +kernel) rfl rfl ⟨fun q70 => ?_, fun q70 => ?_⟩
        · replace F := F.1 q70
          refine zAload_n 0 3 135 (by decide +kernel) rfl rfl ?_
          refine zBipush 9 9 137 (by decide +kernel) rfl (by decide) ?_
          refine zCallV 12 zcls12 mX12_draw 411 1 0 0 _ _ 140 [.int (9)] [] okX12_draw mlX12_411 imX12_draw seX12_draw (by decide +kernel) rfl rfl (Nat.le_of_ble_eq_true rfl) rfl rfl (Mod_0 S0_) (zC.mono F ?_)
          rintro _ _ ⟨x71, I72, J73, rfl, rfl, F⟩
          change zV G (d + 1) mX12_years kc ks 140 [(7, .int (x43 + 1)), (6, .int (x40)), (5, .int (x37)), (0, .ref (m)), (1, .int (l1)), (2, .long (l2)), (4, .int (l4))] [.int (x71)] (I72, J73, R, K, n) Q
          refine zIstore 5 [(5, .int (x71)), (7, .int (x43 + 1)), (6, .int (x40)), (0, .ref (m)), (1, .int (l1)), (2, .long (l2)), (4, .int (l4))] 142 (by decide +kernel) rfl (by decide) rfl ?_
          refine zAload_n 0 3 143 (by decide +kernel) rfl rfl ?_
          refine gf12_32 61 146 (by decide +kernel) rfl flX12_61 (Mod_0 S0_) (Mod_25 S0_) ?_
          refine zIload 5 0 148 (by decide +kernel) rfl rfl ?_
          refine zCallS mX12_isOpen 358 2 0 0 _ _ 151 [.ref (m + 13), .int (x71)] [] okX12_isOpen mlX12_358 smX12_isOpen (by decide +kernel) rfl rfl (Nat.le_of_ble_eq_true rfl) rfl rfl (zC.mono F ?_)
          rintro _ _ ⟨x74, I75, rfl, rfl, F⟩
          change zV G (d + 1) mX12_years kc ks 151 [(5, .int (x71)), (7, .int (x43 + 1)), (6, .int (x40)), (0, .ref (m)), (1, .int (l1)), (2, .long (l2)), (4, .int (l4))] [.int (x74)] (I75, J73, R, K, n) Q
          refine zIf_eq 15 166 154 (by decide +kernel) rfl rfl ⟨fun q76 => ?_, fun q76 => ?_⟩
          · replace F := F.1 q76
            refine zAload_n 0 3 167 (by decide +kernel) rfl rfl ?_
            refine gf12_32 61 170 (by decide +kernel) rfl flX12_61 (Mod_0 S0_) (Mod_25 S0_) ?_
            refine zBipush 47 47 172 (by decide +kernel) rfl (by decide) ?_
            refine zSipush 999 999 175 (by decide +kernel) rfl (by decide) ?_
            refine zAload_n 0 3 176 (by decide +kernel) rfl rfl ?_
            refine gf12_32 61 179 (by decide +kernel) rfl flX12_61 (Mod_0 S0_) (Mod_25 S0_) ?_
            refine zBipush 47 47 181 (by decide +kernel) rfl (by decide) ?_
            obtain ⟨w77, F⟩ := F
            refine yIaload 231 182 (by decide +kernel) rfl (Mod_26 S0_) (w77) ?_
            refine zIconst 3 3 183 (by decide +kernel) rfl (by decide) ?_
            refine zIadd 184 (by decide +kernel) rfl ?_
            refine yMin 329 187 (by decide +kernel) rfl mlX12_329 (Nat.le_of_ble_eq_true rfl) ?_
            refine yIastore 231 188 (by decide +kernel) rfl (Mod_26 S0_) F.1 ?_
            replace F := F.2 _ rfl
            generalize zU I75 (m + 13) (47 : Int32).toNatClampNeg ((if ((I75 (m + 13) (47 : Int32).toNatClampNeg) + 3 : Int32) < 999 then (I75 (m + 13) (47 : Int32).toNatClampNeg) + 3 else 999)) = I78 at F ⊢
            refine zAload_n 0 3 189 (by decide +kernel) rfl rfl ?_
            refine zAload_n 0 3 190 (by decide +kernel) rfl rfl ?_
            refine gf12_32 61 193 (by decide +kernel) rfl flX12_61 (Mod_0 S0_) (Mod_25 S0_) ?_
            refine zCallV 12 zcls12 mX12_goDay 398 1 0 0 _ _ 196 [.ref (m + 13)] [] okX12_goDay mlX12_398 imX12_goDay seX12_goDay (by decide +kernel) rfl rfl (Nat.le_of_ble_eq_true rfl) rfl rfl (Mod_0 S0_) (zC.mono F ?_)
            rintro _ _ ⟨x79, I80, rfl, rfl, F⟩
            change zV G (d + 1) mX12_years kc ks 196 [(5, .int (x71)), (7, .int (x43 + 1)), (6, .int (x40)), (0, .ref (m)), (1, .int (l1)), (2, .long (l2)), (4, .int (l4))] [.int (x79)] (I80, J73, R, K, n) Q
            refine zIstore 6 [(6, .int (x79)), (5, .int (x71)), (7, .int (x43 + 1)), (0, .ref (m)), (1, .int (l1)), (2, .long (l2)), (4, .int (l4))] 198 (by decide +kernel) rfl (by decide) rfl ?_
            refine zIinc 4 1 6 (l4 + 1) [(4, .int (l4 + 1)), (6, .int (x79)), (5, .int (x71)), (7, .int (x43 + 1)), (0, .ref (m)), (1, .int (l1)), (2, .long (l2))] 201 (by decide +kernel) rfl rfl (by rfl) (by decide) rfl ?_
            refine zGoto (-152) 49 (by decide +kernel) rfl ?_
            exact zLoc [4, 5, 6, 0] _ rfl F
          · replace F := F.2 q76
            refine zAload_n 0 3 155 (by decide +kernel) rfl rfl ?_
            refine zAload_n 0 3 156 (by decide +kernel) rfl rfl ?_
            refine gf12_32 61 159 (by decide +kernel) rfl flX12_61 (Mod_0 S0_) (Mod_25 S0_) ?_
            refine zIload 5 0 161 (by decide +kernel) rfl rfl ?_
            refine zCallV 12 zcls12 mX12_forgives 367 2 0 0 _ _ 164 [.ref (m + 13), .int (x71)] [] okX12_forgives mlX12_367 imX12_forgives seX12_forgives (by decide +kernel) rfl rfl (Nat.le_of_ble_eq_true rfl) rfl rfl (Mod_0 S0_) (zC.mono F ?_)
            rintro _ _ ⟨x81, I82, J83, R84, rfl, rfl, F⟩
            change zV G (d + 1) mX12_years kc ks 164 [(5, .int (x71)), (7, .int (x43 + 1)), (6, .int (x40)), (0, .ref (m)), (1, .int (l1)), (2, .long (l2)), (4, .int (l4))] [.int (x81)] (I82, J83, R84, K, n) Q
            obtain ⟨u85, u86, S87, F⟩ := F
            refine zIstore 6 [(6, .int (x81)), (5, .int (x71)), (7, .int (x43 + 1)), (0, .ref (m)), (1, .int (l1)), (2, .long (l2)), (4, .int (l4))] 166 (by decide +kernel) rfl (by decide) rfl ?_
            refine zAload_n 0 3 167 (by decide +kernel) rfl rfl ?_
            refine gf12_32 61 170 (by decide +kernel) rfl flX12_61 (Mod_0 S87) (Mod_25 S87) ?_
            refine zBipush 47 47 172 (by decide +kernel) rfl (by decide) ?_
            refine zSipush 999 999 175 (by decide +kernel) rfl (by decide) ?_
            refine zAload_n 0 3 176 (by decide +kernel) rfl rfl ?_
            refine gf12_32 61 179 (by decide +kernel) rfl flX12_61 (Mod_0 S87) (Mod_25 S87) ?_
            refine zBipush 47 47 181 (by decide +kernel) rfl (by decide) ?_
            obtain ⟨w88, F⟩ := F
            refine yIaload 231 182 (by decide +kernel) rfl (Mod_26 S87) (w88) ?_
            refine zIconst 3 3 183 (by decide +kernel) rfl (by decide) ?_
            refine zIadd 184 (by decide +kernel) rfl ?_
            refine yMin 329 187 (by decide +kernel) rfl mlX12_329 (Nat.le_of_ble_eq_true rfl) ?_
            refine yIastore 231 188 (by decide +kernel) rfl (Mod_26 S87) F.1 ?_
            replace F := F.2 _ rfl
            generalize zU I82 (m + 13) (47 : Int32).toNatClampNeg ((if ((I82 (m + 13) (47 : Int32).toNatClampNeg) + 3 : Int32) < 999 then (I82 (m + 13) (47 : Int32).toNatClampNeg) + 3 else 999)) = I89 at F ⊢
            refine zAload_n 0 3 189 (by decide +kernel) rfl rfl ?_
            refine zAload_n 0 3 190 (by decide +kernel) rfl rfl ?_
            refine gf12_32 61 193 (by decide +kernel) rfl flX12_61 (Mod_0 S87) (Mod_25 S87) ?_
            refine zCallV 12 zcls12 mX12_goDay 398 1 0 0 _ _ 196 [.ref (m + 13)] [] okX12_goDay mlX12_398 imX12_goDay seX12_goDay (by decide +kernel) rfl rfl (Nat.le_of_ble_eq_true rfl) rfl rfl (Mod_0 S87) (zC.mono F ?_)
            rintro _ _ ⟨x90, I91, rfl, rfl, F⟩
            change zV G (d + 1) mX12_years kc ks 196 [(6, .int (x81)), (5, .int (x71)), (7, .int (x43 + 1)), (0, .ref (m)), (1, .int (l1)), (2, .long (l2)), (4, .int (l4))] [.int (x90)] (I91, J83, R84, K, n) Q
            refine zIstore 6 [(6, .int (x90)), (5, .int (x71)), (7, .int (x43 + 1)), (0, .ref (m)), (1, .int (l1)), (2, .long (l2)), (4, .int (l4))] 198 (by decide +kernel) rfl (by decide) rfl ?_
            refine zIinc 4 1 6 (l4 + 1) [(4, .int (l4 + 1)), (6, .int (x90)), (5, .int (x71)), (7, .int (x43 + 1)), (0, .ref (m)), (1, .int (l1)), (2, .long (l2))] 201 (by decide +kernel) rfl rfl (by rfl) (by decide) rfl ?_
            refine zGoto (-152) 49 (by decide +kernel) rfl ?_
            exact zLoc [4, 5, 6, 0] _ rfl F
        · replace F := F.2 q70
          refine zAload_n 0 3 122 (by decide +kernel) rfl rfl ?_
          refine gf12_32 61 125 (by decide +kernel) rfl flX12_61 (Mod_0 S0_) (Mod_25 S0_) ?_
          refine zIload 5 2 127 (by decide +kernel) rfl rfl ?_
          refine zIload 6 1 129 (by decide +kernel) rfl rfl ?_
          refine zIload 7 0 131 (by decide +kernel) rfl rfl ?_
          refine zCallS mX12_sins 390 4 0 0 _ _ 134 [.ref (m + 13), .int (x37), .int (x40), .int (x43 + 1)] [] okX12_sins mlX12_390 smX12_sins (by decide +kernel) rfl rfl (Nat.le_of_ble_eq_true rfl) rfl rfl (zC.mono F ?_)
          rintro _ _ ⟨I92, rfl, rfl, F⟩
          change zV G (d + 1) mX12_years kc ks 134 [(7, .int (x43 + 1)), (6, .int (x40)), (5, .int (x37)), (0, .ref (m)), (1, .int (l1)), (2, .long (l2)), (4, .int (l4))] [] (I92, J45, R, K, n) Q
          refine zAload_n 0 3 135 (by decide +kernel) rfl rfl ?_
          refine zBipush 9 9 137 (by decide +kernel) rfl (by decide) ?_
          refine zCallV 12 zcls12 mX12_draw 411 1 0 0 _ _ 140 [.int (9)] [] okX12_draw mlX12_411 imX12_draw seX12_draw (by decide +kernel) rfl rfl (Nat.le_of_ble_eq_true rfl) rfl rfl (Mod_0 S0_) (zC.mono F ?_)
          rintro _ _ ⟨x93, I94, J95, rfl, rfl, F⟩
          change zV G (d + 1) mX12_years kc ks 140 [(7, .int (x43 + 1)), (6, .int (x40)), (5, .int (x37)), (0, .ref (m)), (1, .int (l1)), (2, .long (l2)), (4, .int (l4))] [.int (x93)] (I94, J95, R, K, n) Q
          refine zIstore 5 [(5, .int (x93)), (7, .int (x43 + 1)), (6, .int (x40)), (0, .ref (m)), (1, .int (l1)), (2, .long (l2)), (4, .int (l4))] 142 (by decide +kernel) rfl (by decide) rfl ?_
          refine zAload_n 0 3 143 (by decide +kernel) rfl rfl ?_
          refine gf12_32 61 146 (by decide +kernel) rfl flX12_61 (Mod_0 S0_) (Mod_25 S0_) ?_
          refine zIload 5 0 148 (by decide +kernel) rfl rfl ?_
          refine zCallS mX12_isOpen 358 2 0 0 _ _ 151 [.ref (m + 13), .int (x93)] [] okX12_isOpen mlX12_358 smX12_isOpen (by decide +kernel) rfl rfl (Nat.le_of_ble_eq_true rfl) rfl rfl (zC.mono F ?_)
          rintro _ _ ⟨x96, I97, rfl, rfl, F⟩
          change zV G (d + 1) mX12_years kc ks 151 [(5, .int (x93)), (7, .int (x43 + 1)), (6, .int (x40)), (0, .ref (m)), (1, .int (l1)), (2, .long (l2)), (4, .int (l4))] [.int (x96)] (I97, J95, R, K, n) Q
          refine zIf_eq 15 166 154 (by decide +kernel) rfl rfl ⟨fun q98 => ?_, fun q98 => ?_⟩
          · replace F := F.1 q98
            refine zAload_n 0 3 167 (by decide +kernel) rfl rfl ?_
            refine gf12_32 61 170 (by decide +kernel) rfl flX12_61 (Mod_0 S0_) (Mod_25 S0_) ?_
            refine zBipush 47 47 172 (by decide +kernel) rfl (by decide) ?_
            refine zSipush 999 999 175 (by decide +kernel) rfl (by decide) ?_
            refine zAload_n 0 3 176 (by decide +kernel) rfl rfl ?_
            refine gf12_32 61 179 (by decide +kernel) rfl flX12_61 (Mod_0 S0_) (Mod_25 S0_) ?_
            refine zBipush 47 47 181 (by decide +kernel) rfl (by decide) ?_
            obtain ⟨w99, F⟩ := F
            refine yIaload 231 182 (by decide +kernel) rfl (Mod_26 S0_) (w99) ?_
            refine zIconst 3 3 183 (by decide +kernel) rfl (by decide) ?_
            refine zIadd 184 (by decide +kernel) rfl ?_
            refine yMin 329 187 (by decide +kernel) rfl mlX12_329 (Nat.le_of_ble_eq_true rfl) ?_
            refine yIastore 231 188 (by decide +kernel) rfl (Mod_26 S0_) F.1 ?_
            replace F := F.2 _ rfl
            generalize zU I97 (m + 13) (47 : Int32).toNatClampNeg ((if ((I97 (m + 13) (47 : Int32).toNatClampNeg) + 3 : Int32) < 999 then (I97 (m + 13) (47 : Int32).toNatClampNeg) + 3 else 999)) = I100 at F ⊢
            refine zAload_n 0 3 189 (by decide +kernel) rfl rfl ?_
            refine zAload_n 0 3 190 (by decide +kernel) rfl rfl ?_
            refine gf12_32 61 193 (by decide +kernel) rfl flX12_61 (Mod_0 S0_) (Mod_25 S0_) ?_
            refine zCallV 12 zcls12 mX12_goDay 398 1 0 0 _ _ 196 [.ref (m + 13)] [] okX12_goDay mlX12_398 imX12_goDay seX12_goDay (by decide +kernel) rfl rfl (Nat.le_of_ble_eq_true rfl) rfl rfl (Mod_0 S0_) (zC.mono F ?_)
            rintro _ _ ⟨x101, I102, rfl, rfl, F⟩
            change zV G (d + 1) mX12_years kc ks 196 [(5, .int (x93)), (7, .int (x43 + 1)), (6, .int (x40)), (0, .ref (m)), (1, .int (l1)), (2, .long (l2)), (4, .int (l4))] [.int (x101)] (I102, J95, R, K, n) Q
            refine zIstore 6 [(6, .int (x101)), (5, .int (x93)), (7, .int (x43 + 1)), (0, .ref (m)), (1, .int (l1)), (2, .long (l2)), (4, .int (l4))] 198 (by decide +kernel) rfl (by decide) rfl ?_
            refine zIinc 4 1 6 (l4 + 1) [(4, .int (l4 + 1)), (6, .int (x101)), (5, .int (x93)), (7, .int (x43 + 1)), (0, .ref (m)), (1, .int (l1)), (2, .long (l2))] 201 (by decide +kernel) rfl rfl (by rfl) (by decide) rfl ?_
            refine zGoto (-152) 49 (by decide +kernel) rfl ?_
            exact zLoc [4, 5, 6, 0] _ rfl F
          · replace F := F.2 q98
            refine zAload_n 0 3 155 (by decide +kernel) rfl rfl ?_
            refine zAload_n 0 3 156 (by decide +kernel) rfl rfl ?_
            refine gf12_32 61 159 (by decide +kernel) rfl flX12_61 (Mod_0 S0_) (Mod_25 S0_) ?_
            refine zIload 5 0 161 (by decide +kernel) rfl rfl ?_
            refine zCallV 12 zcls12 mX12_forgives 367 2 0 0 _ _ 164 [.ref (m + 13), .int (x93)] [] okX12_forgives mlX12_367 imX12_forgives seX12_forgives (by decide +kernel) rfl rfl (Nat.le_of_ble_eq_true rfl) rfl rfl (Mod_0 S0_) (zC.mono F ?_)
            rintro _ _ ⟨x103, I104, J105, R106, rfl, rfl, F⟩
            change zV G (d + 1) mX12_years kc ks 164 [(5, .int (x93)), (7, .int (x43 + 1)), (6, .int (x40)), (0, .ref (m)), (1, .int (l1)), (2, .long (l2)), (4, .int (l4))] [.int (x103)] (I104, J105, R106, K, n) Q
            obtain ⟨u107, u108, S109, F⟩ := F
            refine zIstore 6 [(6, .int (x103)), (5, .int (x93)), (7, .int (x43 + 1)), (0, .ref (m)), (1, .int (l1)), (2, .long (l2)), (4, .int (l4))] 166 (by decide +kernel) rfl (by decide) rfl ?_
            refine zAload_n 0 3 167 (by decide +kernel) rfl rfl ?_
            refine gf12_32 61 170 (by decide +kernel) rfl flX12_61 (Mod_0 S109) (Mod_25 S109) ?_
            refine zBipush 47 47 172 (by decide +kernel) rfl (by decide) ?_
            refine zSipush 999 999 175 (by decide +kernel) rfl (by decide) ?_
            refine zAload_n 0 3 176 (by decide +kernel) rfl rfl ?_
            refine gf12_32 61 179 (by decide +kernel) rfl flX12_61 (Mod_0 S109) (Mod_25 S109) ?_
            refine zBipush 47 47 181 (by decide +kernel) rfl (by decide) ?_
            obtain ⟨w110, F⟩ := F
            refine yIaload 231 182 (by decide +kernel) rfl (Mod_26 S109) (w110) ?_
            refine zIconst 3 3 183 (by decide +kernel) rfl (by decide) ?_
            refine zIadd 184 (by decide +kernel) rfl ?_
            refine yMin 329 187 (by decide +kernel) rfl mlX12_329 (Nat.le_of_ble_eq_true rfl) ?_
            refine yIastore 231 188 (by decide +kernel) rfl (Mod_26 S109) F.1 ?_
            replace F := F.2 _ rfl
            generalize zU I104 (m + 13) (47 : Int32).toNatClampNeg ((if ((I104 (m + 13) (47 : Int32).toNatClampNeg) + 3 : Int32) < 999 then (I104 (m + 13) (47 : Int32).toNatClampNeg) + 3 else 999)) = I111 at F ⊢
            refine zAload_n 0 3 189 (by decide +kernel) rfl rfl ?_
            refine zAload_n 0 3 190 (by decide +kernel) rfl rfl ?_
            refine gf12_32 61 193 (by decide +kernel) rfl flX12_61 (Mod_0 S109) (Mod_25 S109) ?_
            refine zCallV 12 zcls12 mX12_goDay 398 1 0 0 _ _ 196 [.ref (m + 13)] [] okX12_goDay mlX12_398 imX12_goDay seX12_goDay (by decide +kernel) rfl rfl (Nat.le_of_ble_eq_true rfl) rfl rfl (Mod_0 S109) (zC.mono F ?_)
            rintro _ _ ⟨x112, I113, rfl, rfl, F⟩
            change zV G (d + 1) mX12_years kc ks 196 [(6, .int (x103)), (5, .int (x93)), (7, .int (x43 + 1)), (0, .ref (m)), (1, .int (l1)), (2, .long (l2)), (4, .int (l4))] [.int (x112)] (I113, J105, R106, K, n) Q
            refine zIstore 6 [(6, .int (x112)), (5, .int (x93)), (7, .int (x43 + 1)), (0, .ref (m)), (1, .int (l1)), (2, .long (l2)), (4, .int (l4))] 198 (by decide +kernel) rfl (by decide) rfl ?_
            refine zIinc 4 1 6 (l4 + 1) [(4, .int (l4 + 1)), (6, .int (x112)), (5, .int (x93)), (7, .int (x43 + 1)), (0, .ref (m)), (1, .int (l1)), (2, .long (l2))] 201 (by decide +kernel) rfl rfl (by rfl) (by decide) rfl ?_
            refine zGoto (-152) 49 (by decide +kernel) rfl ?_
            exact zLoc [4, 5, 6, 0] _ rfl F
set_option maxHeartbeats 2000000 in
theorem wX12_undo_0 {G : zG} {d kc ks : Nat} {I : Nat → Nat → Int32} {J : Nat → Nat → Int64} {R : Nat → Nat → Option Nat} {K : Nat → Nat × Nat} {n : Nat} {Q : Option Value → zH → Prop} (m t c : Nat) (S0_ : hMod G R K n m t c) (F : (∀ I1 : Nat → Nat → Int32, I1 = zU I m 0 (0) → (((I1 m 39 : Int32) = 0 → Q (some (.int ((-1)))) (I1, J, R, K, n)) ∧ (¬ ((I1 m 39 : Int32) = 0) → (∀ I3 : Nat → Nat → Int32, I3 = zU I1 m 39 ((I1 m 39) - 1) → zV G (d + 1) mX12_undo kc ks 26 [(0, .ref (m)), (1, .int (0))] [] (I3, J, R, K, n) Q))))) : zV G (d + 1) mX12_undo kc ks 0 [(0, .ref (m))] [] (I, J, R, K, n) Q := by
  refine zAload_n 0 0 1 (by decide +kernel) rfl rfl ?_
  refine zIconst 0 0 2 (by decide +kernel) rfl (by decide) ?_
  refine pf12_0 93 5 (by decide +kernel) rfl flX12_93 (Mod_0 S0_) ?_
  replace F := F _ rfl
  generalize zU I m 0 (0) = I1 at F ⊢
  refine zAload_n 0 0 6 (by decide +kernel) rfl rfl ?_
  refine gf12_39 300 9 (by decide +kernel) rfl flX12_300 (Mod_0 S0_) ?_
  refine zIf_ne 5 14 12 (by decide +kernel) rfl rfl ⟨fun q2 => ?_, fun q2 => ?_⟩
  · replace F := F.2 q2
    refine zAload_n 0 0 15 (by decide +kernel) rfl rfl ?_
    refine zDup 16 (by decide +kernel) rfl rfl ?_
    refine gf12_39 300 19 (by decide +kernel) rfl flX12_300 (Mod_0 S0_) ?_
    refine zIconst 1 1 20 (by decide +kernel) rfl (by decide) ?_
    refine zIsub 21 (by decide +kernel) rfl ?_
    refine pf12_39 300 24 (by decide +kernel) rfl flX12_300 (Mod_0 S0_) ?_
    replace F := F _ rfl
    generalize zU I1 m 39 ((I1 m 39) - 1) = I3 at F ⊢
    refine zIconst 0 0 25 (by decide +kernel) rfl (by decide) ?_
    refine zIstore_n 1 [(1, .int (0)), (0, .ref (m))] 26 (by decide +kernel) rfl (by decide) rfl ?_
    exact zLoc [1, 0] _ rfl F
  · replace F := F.1 q2
    refine zIconst (-1) (-1) 13 (by decide +kernel) rfl (by decide) ?_
    exact zIret rfl (by decide +kernel) F
set_option maxHeartbeats 2000000 in
theorem wX12_undo_26 {G : zG} {d kc ks : Nat} {I : Nat → Nat → Int32} {J : Nat → Nat → Int64} {R : Nat → Nat → Option Nat} {K : Nat → Nat × Nat} {n : Nat} {Q : Option Value → zH → Prop} (m t c : Nat) (S0_ : hMod G R K n m t c) (l1 : Int32) (F : ((231 ≤ l1 → Q (some (.int (I m 39))) (I, J, R, K, n)) ∧ (¬ (231 ≤ l1) → ((vp_in ((231 * (I m 39)) + l1) 9240) ∧ (vp_in l1 231 ∧ ∀ I6 : Nat → Nat → Int32, I6 = zU I (m + 13) l1.toNatClampNeg (I (m + 17) ((231 * (I m 39)) + l1 : Int32).toNatClampNeg) → zV G (d + 1) mX12_undo kc ks 26 [(0, .ref (m)), (1, .int (l1 + 1))] [] (I6, J, R, K, n) Q))))) : zV G (d + 1) mX12_undo kc ks 26 [(0, .ref (m)), (1, .int (l1))] [] (I, J, R, K, n) Q := by
  refine zIload_n 1 1 27 (by decide +kernel) rfl rfl ?_
  refine zSipush 231 231 30 (by decide +kernel) rfl (by decide) ?_
  refine zIcmp_ge 30 60 33 (by decide +kernel) rfl rfl ⟨fun q4 => ?_, fun q4 => ?_⟩
  · replace F := F.1 q4
    refine zAload_n 0 0 61 (by decide +kernel) rfl rfl ?_
    refine gf12_39 300 64 (by decide +kernel) rfl flX12_300 (Mod_0 S0_) ?_
    exact zIret rfl (by decide +kernel) F
  · replace F := F.2 q4
    refine zAload_n 0 0 34 (by decide +kernel) rfl rfl ?_
    refine gf12_32 61 37 (by decide +kernel) rfl flX12_61 (Mod_0 S0_) (Mod_25 S0_) ?_
    refine zIload_n 1 1 38 (by decide +kernel) rfl rfl ?_
    refine zAload_n 0 0 39 (by decide +kernel) rfl rfl ?_
    refine gf12_38 81 42 (by decide +kernel) rfl flX12_81 (Mod_0 S0_) (Mod_33 S0_) ?_
    refine zSipush 231 231 45 (by decide +kernel) rfl (by decide) ?_
    refine zAload_n 0 0 46 (by decide +kernel) rfl rfl ?_
    refine gf12_39 300 49 (by decide +kernel) rfl flX12_300 (Mod_0 S0_) ?_
    refine zImul 50 (by decide +kernel) rfl ?_
    refine zIload_n 1 1 51 (by decide +kernel) rfl rfl ?_
    refine zIadd 52 (by decide +kernel) rfl ?_
    obtain ⟨w5, F⟩ := F
    refine yIaload 9240 53 (by decide +kernel) rfl (Mod_34 S0_) (w5) ?_
    refine yIastore 231 54 (by decide +kernel) rfl (Mod_26 S0_) F.1 ?_
    replace F := F.2 _ rfl
    generalize zU I (m + 13) l1.toNatClampNeg (I (m + 17) ((231 * (I m 39)) + l1 : Int32).toNatClampNeg) = I6 at F ⊢
    refine zIinc 1 1 1 (l1 + 1) [(1, .int (l1 + 1)), (0, .ref (m))] 57 (by decide +kernel) rfl rfl (by rfl) (by decide) rfl ?_
    refine zGoto (-31) 26 (by decide +kernel) rfl ?_
    exact zLoc [1, 0] _ rfl F
set_option maxHeartbeats 2000000 in
theorem wX12_log_0 {G : zG} {d kc ks : Nat} {I : Nat → Nat → Int32} {J : Nat → Nat → Int64} {R : Nat → Nat → Option Nat} {K : Nat → Nat × Nat} {n : Nat} {Q : Option Value → zH → Prop} (m t c : Nat) (S0_ : hMod G R K n m t c) (p1 p2 : Int32) (F : (∀ I1 : Nat → Nat → Int32, I1 = zU I m 0 (0) → ((vp_in 50 231) ∧ zC G d mX12_isIn 0 0 [.long (p1.toInt64), .long (0), .long (((I1 (m + 13) (50 : Int32).toNatClampNeg) - 1 : Int32).toInt64)] (I1, J, R, K, n) (fun r h => ∃ (x3 : Int32) (I4 : Nat → Nat → Int32), r = some (.int x3) ∧ h = (I4, J, R, K, n) ∧ ((x3 = 0 → Q (some (.int ((-1)))) (I4, J, R, K, n)) ∧ (¬ (x3 = 0) → zC G d mX12_isIn 0 0 [.long (p2.toInt64), .long (0), .long (2)] (I4, J, R, K, n) (fun r h => ∃ (x6 : Int32) (I7 : Nat → Nat → Int32), r = some (.int x6) ∧ h = (I7, J, R, K, n) ∧ (((¬ (x6 = 0)) → vp_in 50 231) ∧ ((¬ (x6 = 0)) → vp_in ((51 + (3 * (((I7 (m + 13) (50 : Int32).toNatClampNeg) - 1) - p1))) + p2) 231) ∧ Q (some (.int ((if x6 = 0 then (-1) else I7 (m + 13) ((51 + (3 * (((I7 (m + 13) (50 : Int32).toNatClampNeg) - 1) - p1))) + p2 : Int32).toNatClampNeg)))) (I7, J, R, K, n))))))))) : zV G (d + 1) mX12_log kc ks 0 [(0, .ref (m)), (1, .int (p1)), (2, .int (p2))] [] (I, J, R, K, n) Q := by
  refine zAload_n 0 0 1 (by decide +kernel) rfl rfl ?_
  refine zIconst 0 0 2 (by decide +kernel) rfl (by decide) ?_
  refine pf12_0 93 5 (by decide +kernel) rfl flX12_93 (Mod_0 S0_) ?_
  replace F := F _ rfl
  generalize zU I m 0 (0) = I1 at F ⊢
  refine zIload_n 1 1 6 (by decide +kernel) rfl rfl ?_
  refine zI2l 7 (by decide +kernel) rfl ?_
  refine zLconst 0 0 8 (by decide +kernel) rfl (by decide) ?_
  refine zAload_n 0 0 9 (by decide +kernel) rfl rfl ?_
  refine gf12_32 61 12 (by decide +kernel) rfl flX12_61 (Mod_0 S0_) (Mod_25 S0_) ?_
  refine zBipush 50 50 14 (by decide +kernel) rfl (by decide) ?_
  obtain ⟨w2, F⟩ := F
  refine yIaload 231 15 (by decide +kernel) rfl (Mod_26 S0_) (w2) ?_
  refine zIconst 1 1 16 (by decide +kernel) rfl (by decide) ?_
  refine zIsub 17 (by decide +kernel) rfl ?_
  refine zI2l 18 (by decide +kernel) rfl ?_
  refine zCallS mX12_isIn 214 3 0 0 _ _ 21 [.long (p1.toInt64), .long (0), .long (((I1 (m + 13) (50 : Int32).toNatClampNeg) - 1 : Int32).toInt64)] [] okX12_isIn mlX12_214 smX12_isIn (by decide +kernel) rfl rfl (Nat.le_of_ble_eq_true rfl) rfl rfl (zC.mono F ?_)
  rintro _ _ ⟨x3, I4, rfl, rfl, F⟩
  change zV G (d + 1) mX12_log kc ks 21 [(0, .ref (m)), (1, .int (p1)), (2, .int (p2))] [.int (x3)] (I4, J, R, K, n) Q
  refine zIf_eq 41 62 24 (by decide +kernel) rfl rfl ⟨fun q5 => ?_, fun q5 => ?_⟩
  · replace F := F.1 q5
    refine zIconst (-1) (-1) 63 (by decide +kernel) rfl (by decide) ?_
    exact zIret rfl (by decide +kernel) F
  · replace F := F.2 q5
    refine zIload_n 2 2 25 (by decide +kernel) rfl rfl ?_
    refine zI2l 26 (by decide +kernel) rfl ?_
    refine zLconst 0 0 27 (by decide +kernel) rfl (by decide) ?_
    refine zLdc2 272 2 30 (by decide +kernel) rfl klX12_272 ?_
    refine zCallS mX12_isIn 214 3 0 0 _ _ 33 [.long (p2.toInt64), .long (0), .long (2)] [] okX12_isIn mlX12_214 smX12_isIn (by decide +kernel) rfl rfl (Nat.le_of_ble_eq_true rfl) rfl rfl (zC.mono F ?_)
    rintro _ _ ⟨x6, I7, rfl, rfl, F⟩
    change zV G (d + 1) mX12_log kc ks 33 [(0, .ref (m)), (1, .int (p1)), (2, .int (p2))] [.int (x6)] (I7, J, R, K, n) Q
    obtain ⟨w9, F⟩ := F
    obtain ⟨w10, F⟩ := F
    suffices KK : zV G (d + 1) mX12_log kc ks 63 [(0, .ref (m)), (1, .int (p1)), (2, .int (p2))] [.int ((if x6 = 0 then (-1) else I7 (m + 13) ((51 + (3 * (((I7 (m + 13) (50 : Int32).toNatClampNeg) - 1) - p1))) + p2 : Int32).toNatClampNeg))] (I7, J, R, K, n) Q by
      refine zIf_eq 29 62 36 (by decide +kernel) rfl rfl ⟨fun q8 => ?_, fun q8 => ?_⟩
      · refine zIconst (-1) (-1) 63 (by decide +kernel) rfl (by decide) ?_
        exact zTop (by rw [if_pos q8]) KK
      · refine zAload_n 0 0 37 (by decide +kernel) rfl rfl ?_
        refine gf12_32 61 40 (by decide +kernel) rfl flX12_61 (Mod_0 S0_) (Mod_25 S0_) ?_
        refine zBipush 51 51 42 (by decide +kernel) rfl (by decide) ?_
        refine zIconst 3 3 43 (by decide +kernel) rfl (by decide) ?_
        refine zAload_n 0 0 44 (by decide +kernel) rfl rfl ?_
        refine gf12_32 61 47 (by decide +kernel) rfl flX12_61 (Mod_0 S0_) (Mod_25 S0_) ?_
        refine zBipush 50 50 49 (by decide +kernel) rfl (by decide) ?_
        refine yIaload 231 50 (by decide +kernel) rfl (Mod_26 S0_) (w9 q8) ?_
        refine zIconst 1 1 51 (by decide +kernel) rfl (by decide) ?_
        refine zIsub 52 (by decide +kernel) rfl ?_
        refine zIload_n 1 1 53 (by decide +kernel) rfl rfl ?_
        refine zIsub 54 (by decide +kernel) rfl ?_
        refine zImul 55 (by decide +kernel) rfl ?_
        refine zIadd 56 (by decide +kernel) rfl ?_
        refine zIload_n 2 2 57 (by decide +kernel) rfl rfl ?_
        refine zIadd 58 (by decide +kernel) rfl ?_
        refine yIaload 231 59 (by decide +kernel) rfl (Mod_26 S0_) (w10 q8) ?_
        refine zGoto 4 63 (by decide +kernel) rfl ?_
        exact zTop (by rw [if_neg q8]) KK
    exact zIret rfl (by decide +kernel) F
set_option maxHeartbeats 2000000 in
theorem wX12_isPlan_0 {G : zG} {d kc ks : Nat} {I : Nat → Nat → Int32} {J : Nat → Nat → Int64} {R : Nat → Nat → Option Nat} {K : Nat → Nat × Nat} {n : Nat} {Q : Option Value → zH → Prop} (m t c : Nat) (S0_ : hMod G R K n m t c) (p1 : Int32) (F : Q (some (.int ((if p1 < 0 then 0 else (if (I m 30 : Int32) ≤ p1 then 0 else 1))))) (I, J, R, K, n)) : zV G (d + 1) mX12_isPlan kc ks 0 [(0, .ref (m)), (1, .int (p1))] [] (I, J, R, K, n) Q := by
  refine zIload_n 1 1 1 (by decide +kernel) rfl rfl ?_
  suffices KK : zV G (d + 1) mX12_isPlan kc ks 17 [(0, .ref (m)), (1, .int (p1))] [.int ((if p1 < 0 then 0 else (if (I m 30 : Int32) ≤ p1 then 0 else 1)))] (I, J, R, K, n) Q by
    refine zIf_lt 15 16 4 (by decide +kernel) rfl rfl ⟨fun q1 => ?_, fun q1 => ?_⟩
    · refine zIconst 0 0 17 (by decide +kernel) rfl (by decide) ?_
      exact zTop (by rw [if_pos q1]) KK
    · refine zIload_n 1 1 5 (by decide +kernel) rfl rfl ?_
      refine zAload_n 0 0 6 (by decide +kernel) rfl rfl ?_
      refine gf12_30 286 9 (by decide +kernel) rfl flX12_286 (Mod_0 S0_) ?_
      refine zIcmp_ge 7 16 12 (by decide +kernel) rfl rfl ⟨fun q2 => ?_, fun q2 => ?_⟩
      · refine zIconst 0 0 17 (by decide +kernel) rfl (by decide) ?_
        exact zTop (by rw [if_neg q1, if_pos q2]) KK
      · refine zIconst 1 1 13 (by decide +kernel) rfl (by decide) ?_
        refine zGoto 4 17 (by decide +kernel) rfl ?_
        exact zTop (by rw [if_neg q1, if_neg q2]) KK
  exact zZret .boolean rfl (zNarZ (zOrIte (Or.inl rfl) (zOrIte (Or.inl rfl) (Or.inr rfl)))) (by decide +kernel) F
set_option maxHeartbeats 2000000 in
theorem wX12_step_0 {G : zG} {d kc ks : Nat} {I : Nat → Nat → Int32} {J : Nat → Nat → Int64} {R : Nat → Nat → Option Nat} {K : Nat → Nat × Nat} {n : Nat} {Q : Option Value → zH → Prop} (m t c : Nat) (S0_ : hMod G R K n m t c) (p1 p2 p3 : Int32) (F : (∀ I1 : Nat → Nat → Int32, I1 = zU I m 0 (0) → zC G d mX12_isPlan 0 0 [.ref (m), .int (p1)] (I1, J, R, K, n) (fun r h => ∃ (x2 : Int32) (I3 : Nat → Nat → Int32), r = some (.int x2) ∧ h = (I3, J, R, K, n) ∧ ((x2 = 0 → Q (some (.int ((-1000000)))) (I3, J, R, K, n)) ∧ (¬ (x2 = 0) → ((vp_in p1 5) ∧ zC G d mX12_isIn 0 0 [.long (p2.toInt64), .long (0), .long (((I3 (m + 12) p1.toNatClampNeg) - 1 : Int32).toInt64)] (I3, J, R, K, n) (fun r h => ∃ (x6 : Int32) (I7 : Nat → Nat → Int32), r = some (.int x6) ∧ h = (I7, J, R, K, n) ∧ ((x6 = 0 → Q (some (.int ((-1000000)))) (I7, J, R, K, n)) ∧ (¬ (x6 = 0) → zC G d mX12_isIn 0 0 [.long (p3.toInt64), .long (0), .long (2)] (I7, J, R, K, n) (fun r h => ∃ (x9 : Int32) (I10 : Nat → Nat → Int32), r = some (.int x9) ∧ h = (I10, J, R, K, n) ∧ (((¬ (x9 = 0)) → vp_in ((3 * ((16 * p1) + p2)) + p3) 240) ∧ Q (some (.int ((if x9 = 0 then (-1000000) else I10 (m + 11) ((3 * ((16 * p1) + p2)) + p3 : Int32).toNatClampNeg)))) (I10, J, R, K, n)))))))))))) : zV G (d + 1) mX12_step kc ks 0 [(0, .ref (m)), (1, .int (p1)), (2, .int (p2)), (3, .int (p3))] [] (I, J, R, K, n) Q := by
  refine zAload_n 0 0 1 (by decide +kernel) rfl rfl ?_
  refine zIconst 0 0 2 (by decide +kernel) rfl (by decide) ?_
  refine pf12_0 93 5 (by decide +kernel) rfl flX12_93 (Mod_0 S0_) ?_
  replace F := F _ rfl
  generalize zU I m 0 (0) = I1 at F ⊢
  refine zAload_n 0 0 6 (by decide +kernel) rfl rfl ?_
  refine zIload_n 1 1 7 (by decide +kernel) rfl rfl ?_
  refine zCallV 12 zcls12 mX12_isPlan 414 1 0 0 _ _ 10 [.int (p1)] [] okX12_isPlan mlX12_414 imX12_isPlan seX12_isPlan (by decide +kernel) rfl rfl (Nat.le_of_ble_eq_true rfl) rfl rfl (Mod_0 S0_) (zC.mono F ?_)
  rintro _ _ ⟨x2, I3, rfl, rfl, F⟩
  change zV G (d + 1) mX12_step kc ks 10 [(0, .ref (m)), (1, .int (p1)), (2, .int (p2)), (3, .int (p3))] [.int (x2)] (I3, J, R, K, n) Q
  refine zIf_eq 51 61 13 (by decide +kernel) rfl rfl ⟨fun q4 => ?_, fun q4 => ?_⟩
  · replace F := F.1 q4
    refine zLdcw 417 (-1000000) 64 (by decide +kernel) rfl kcX12_417 ?_
    exact zIret rfl (by decide +kernel) F
  · replace F := F.2 q4
    refine zIload_n 2 2 14 (by decide +kernel) rfl rfl ?_
    refine zI2l 15 (by decide +kernel) rfl ?_
    refine zLconst 0 0 16 (by decide +kernel) rfl (by decide) ?_
    refine zAload_n 0 0 17 (by decide +kernel) rfl rfl ?_
    refine gf12_25 58 20 (by decide +kernel) rfl flX12_58 (Mod_0 S0_) (Mod_23 S0_) ?_
    refine zIload_n 1 1 21 (by decide +kernel) rfl rfl ?_
    obtain ⟨w5, F⟩ := F
    refine yIaload 5 22 (by decide +kernel) rfl (Mod_24 S0_) (w5) ?_
    refine zIconst 1 1 23 (by decide +kernel) rfl (by decide) ?_
    refine zIsub 24 (by decide +kernel) rfl ?_
    refine zI2l 25 (by decide +kernel) rfl ?_
    refine zCallS mX12_isIn 214 3 0 0 _ _ 28 [.long (p2.toInt64), .long (0), .long (((I3 (m + 12) p1.toNatClampNeg) - 1 : Int32).toInt64)] [] okX12_isIn mlX12_214 smX12_isIn (by decide +kernel) rfl rfl (Nat.le_of_ble_eq_true rfl) rfl rfl (zC.mono F ?_)
    rintro _ _ ⟨x6, I7, rfl, rfl, F⟩
    change zV G (d + 1) mX12_step kc ks 28 [(0, .ref (m)), (1, .int (p1)), (2, .int (p2)), (3, .int (p3))] [.int (x6)] (I7, J, R, K, n) Q
    refine zIf_eq 33 61 31 (by decide +kernel) rfl rfl ⟨fun q8 => ?_, fun q8 => ?_⟩
    · replace F := F.1 q8
      refine zLdcw 417 (-1000000) 64 (by decide +kernel) rfl kcX12_417 ?_
      exact zIret rfl (by decide +kernel) F
    · replace F := F.2 q8
      refine zIload_n 3 3 32 (by decide +kernel) rfl rfl ?_
      refine zI2l 33 (by decide +kernel) rfl ?_
      refine zLconst 0 0 34 (by decide +kernel) rfl (by decide) ?_
      refine zLdc2 272 2 37 (by decide +kernel) rfl klX12_272 ?_
      refine zCallS mX12_isIn 214 3 0 0 _ _ 40 [.long (p3.toInt64), .long (0), .long (2)] [] okX12_isIn mlX12_214 smX12_isIn (by decide +kernel) rfl rfl (Nat.le_of_ble_eq_true rfl) rfl rfl (zC.mono F ?_)
      rintro _ _ ⟨x9, I10, rfl, rfl, F⟩
      change zV G (d + 1) mX12_step kc ks 40 [(0, .ref (m)), (1, .int (p1)), (2, .int (p2)), (3, .int (p3))] [.int (x9)] (I10, J, R, K, n) Q
      obtain ⟨w12, F⟩ := F
      suffices KK : zV G (d + 1) mX12_step kc ks 64 [(0, .ref (m)), (1, .int (p1)), (2, .int (p2)), (3, .int (p3))] [.int ((if x9 = 0 then (-1000000) else I10 (m + 11) ((3 * ((16 * p1) + p2)) + p3 : Int32).toNatClampNeg))] (I10, J, R, K, n) Q by
        refine zIf_eq 21 61 43 (by decide +kernel) rfl rfl ⟨fun q11 => ?_, fun q11 => ?_⟩
        · refine zLdcw 417 (-1000000) 64 (by decide +kernel) rfl kcX12_417 ?_
          exact zTop (by rw [if_pos q11]) KK
        · refine zAload_n 0 0 44 (by decide +kernel) rfl rfl ?_
          refine gf12_24 55 47 (by decide +kernel) rfl flX12_55 (Mod_0 S0_) (Mod_21 S0_) ?_
          refine zIconst 3 3 48 (by decide +kernel) rfl (by decide) ?_
          refine zBipush 16 16 50 (by decide +kernel) rfl (by decide) ?_
          refine zIload_n 1 1 51 (by decide +kernel) rfl rfl ?_
          refine zImul 52 (by decide +kernel) rfl ?_
          refine zIload_n 2 2 53 (by decide +kernel) rfl rfl ?_
          refine zIadd 54 (by decide +kernel) rfl ?_
          refine zImul 55 (by decide +kernel) rfl ?_
          refine zIload_n 3 3 56 (by decide +kernel) rfl rfl ?_
          refine zIadd 57 (by decide +kernel) rfl ?_
          refine yIaload 240 58 (by decide +kernel) rfl (Mod_22 S0_) (w12 q11) ?_
          refine zGoto 6 64 (by decide +kernel) rfl ?_
          exact zTop (by rw [if_neg q11]) KK
      exact zIret rfl (by decide +kernel) F
set_option maxHeartbeats 2000000 in
theorem wX12_canStep_0 {G : zG} {d kc ks : Nat} {I : Nat → Nat → Int32} {J : Nat → Nat → Int64} {R : Nat → Nat → Option Nat} {K : Nat → Nat × Nat} {n : Nat} {Q : Option Value → zH → Prop} (m t c : Nat) (b : Nat) (hb : sA G K n b 32 231) (S0_ : hMod G R K n m t c) (p2 : Int32) (F : ((vp_in (p2 + 1) 240) ∧ ((vp_in p2 240) ∧ (((I (m + 11) p2.toNatClampNeg) = 0 → zC G d mX12_isOpen 0 0 [.ref (b), .int (I (m + 11) (p2 + 1 : Int32).toNatClampNeg)] (I, J, R, K, n) (fun r h => ∃ (x4 : Int32) (I5 : Nat → Nat → Int32), r = some (.int x4) ∧ h = (I5, J, R, K, n) ∧ ((x4 = 0 ∨ x4 = 1) ∧ Q (some (.int (x4))) (I5, J, R, K, n)))) ∧ ((I (m + 11) p2.toNatClampNeg) = 1 → ((vp_in (p2 + 2) 240) ∧ zC G d mX12_canPaint 0 0 [.ref (m), .ref (b), .int (I (m + 11) (p2 + 1 : Int32).toNatClampNeg), .int (I (m + 11) (p2 + 2 : Int32).toNatClampNeg)] (I, J, R, K, n) (fun r h => ∃ (x8 : Int32) (I9 : Nat → Nat → Int32), r = some (.int x8) ∧ h = (I9, J, R, K, n) ∧ ((x8 = 0 ∨ x8 = 1) ∧ Q (some (.int (x8))) (I9, J, R, K, n))))) ∧ ((I (m + 11) p2.toNatClampNeg) = 2 → zC G d mX12_canInspect 0 0 [.ref (m), .ref (b), .int (I (m + 11) (p2 + 1 : Int32).toNatClampNeg)] (I, J, R, K, n) (fun r h => ∃ (x11 : Int32) (I12 : Nat → Nat → Int32), r = some (.int x11) ∧ h = (I12, J, R, K, n) ∧ ((x11 = 0 ∨ x11 = 1) ∧ Q (some (.int (x11))) (I12, J, R, K, n)))) ∧ (¬ (I (m + 11) p2.toNatClampNeg) = 0 → ¬ (I (m + 11) p2.toNatClampNeg) = 1 → ¬ (I (m + 11) p2.toNatClampNeg) = 2 → ((vp_in 49 231) ∧ Q (some (.int ((if 999 ≤ (I b (49 : Int32).toNatClampNeg : Int32) then 0 else 1)))) (I, J, R, K, n))))))) : zV G (d + 1) mX12_canStep kc ks 0 [(0, .ref (m)), (1, .ref (b)), (2, .int (p2))] [] (I, J, R, K, n) Q := by
  refine zAload_n 0 0 1 (by decide +kernel) rfl rfl ?_
  refine gf12_24 55 4 (by decide +kernel) rfl flX12_55 (Mod_0 S0_) (Mod_21 S0_) ?_
  refine zIload_n 2 2 5 (by decide +kernel) rfl rfl ?_
  refine zIconst 1 1 6 (by decide +kernel) rfl (by decide) ?_
  refine zIadd 7 (by decide +kernel) rfl ?_
  obtain ⟨w1, F⟩ := F
  refine yIaload 240 8 (by decide +kernel) rfl (Mod_22 S0_) (w1) ?_
  refine zIstore_n 3 [(3, .int (I (m + 11) (p2 + 1 : Int32).toNatClampNeg)), (0, .ref (m)), (1, .ref (b)), (2, .int (p2))] 9 (by decide +kernel) rfl (by decide) rfl ?_
  refine zAload_n 0 1 10 (by decide +kernel) rfl rfl ?_
  refine gf12_24 55 13 (by decide +kernel) rfl flX12_55 (Mod_0 S0_) (Mod_21 S0_) ?_
  refine zIload_n 2 3 14 (by decide +kernel) rfl rfl ?_
  obtain ⟨w2, F⟩ := F
  refine yIaload 240 15 (by decide +kernel) rfl (Mod_22 S0_) (w2) ?_
  by_cases q3 : (I (m + 11) p2.toNatClampNeg) = 0
  · replace F := F.1 q3
    have zt := zEqT q3 (show (0 : Int32).toInt = 0 by decide)
    refine zTableIn 53 0 2 #[25, 31, 46] 25 25 40 (by decide +kernel) (by omega) (by omega) (by rw [zt]; decide) rfl ?_
    refine zAload_n 1 2 41 (by decide +kernel) rfl rfl ?_
    refine zIload_n 3 0 42 (by decide +kernel) rfl rfl ?_
    refine zCallS mX12_isOpen 358 2 0 0 _ _ 45 [.ref (b), .int (I (m + 11) (p2 + 1 : Int32).toNatClampNeg)] [] okX12_isOpen mlX12_358 smX12_isOpen (by decide +kernel) rfl rfl (Nat.le_of_ble_eq_true rfl) rfl rfl (zC.mono F ?_)
    rintro _ _ ⟨x4, I5, rfl, rfl, F⟩
    change zV G (d + 1) mX12_canStep kc ks 45 [(3, .int (I (m + 11) (p2 + 1 : Int32).toNatClampNeg)), (0, .ref (m)), (1, .ref (b)), (2, .int (p2))] [.int (x4)] (I5, J, R, K, n) Q
    exact zZret .boolean rfl (zNarZ F.1) (by decide +kernel) F.2
  · skip
    by_cases q6 : (I (m + 11) p2.toNatClampNeg) = 1
    · replace F := F.2.1 q6
      have zt := zEqT q6 (show (1 : Int32).toInt = 1 by decide)
      refine zTableIn 53 0 2 #[25, 31, 46] 25 31 46 (by decide +kernel) (by omega) (by omega) (by rw [zt]; decide) rfl ?_
      refine zAload_n 0 1 47 (by decide +kernel) rfl rfl ?_
      refine zAload_n 1 2 48 (by decide +kernel) rfl rfl ?_
      refine zIload_n 3 0 49 (by decide +kernel) rfl rfl ?_
      refine zAload_n 0 1 50 (by decide +kernel) rfl rfl ?_
      refine gf12_24 55 53 (by decide +kernel) rfl flX12_55 (Mod_0 S0_) (Mod_21 S0_) ?_
      refine zIload_n 2 3 54 (by decide +kernel) rfl rfl ?_
      refine zIconst 2 2 55 (by decide +kernel) rfl (by decide) ?_
      refine zIadd 56 (by decide +kernel) rfl ?_
      obtain ⟨w7, F⟩ := F
      refine yIaload 240 57 (by decide +kernel) rfl (Mod_22 S0_) (w7) ?_
      refine zCallV 12 zcls12 mX12_canPaint 370 3 0 0 _ _ 60 [.ref (b), .int (I (m + 11) (p2 + 1 : Int32).toNatClampNeg), .int (I (m + 11) (p2 + 2 : Int32).toNatClampNeg)] [] okX12_canPaint mlX12_370 imX12_canPaint seX12_canPaint (by decide +kernel) rfl rfl (Nat.le_of_ble_eq_true rfl) rfl rfl (Mod_0 S0_) (zC.mono F ?_)
      rintro _ _ ⟨x8, I9, rfl, rfl, F⟩
      change zV G (d + 1) mX12_canStep kc ks 60 [(3, .int (I (m + 11) (p2 + 1 : Int32).toNatClampNeg)), (0, .ref (m)), (1, .ref (b)), (2, .int (p2))] [.int (x8)] (I9, J, R, K, n) Q
      exact zZret .boolean rfl (zNarZ F.1) (by decide +kernel) F.2
    · skip
      by_cases q10 : (I (m + 11) p2.toNatClampNeg) = 2
      · replace F := F.2.2.1 q10
        have zt := zEqT q10 (show (2 : Int32).toInt = 2 by decide)
        refine zTableIn 53 0 2 #[25, 31, 46] 25 46 61 (by decide +kernel) (by omega) (by omega) (by rw [zt]; decide) rfl ?_
        refine zAload_n 0 1 62 (by decide +kernel) rfl rfl ?_
        refine zAload_n 1 2 63 (by decide +kernel) rfl rfl ?_
        refine zIload_n 3 0 64 (by decide +kernel) rfl rfl ?_
        refine zCallV 12 zcls12 mX12_canInspect 378 2 0 0 _ _ 67 [.ref (b), .int (I (m + 11) (p2 + 1 : Int32).toNatClampNeg)] [] okX12_canInspect mlX12_378 imX12_canInspect seX12_canInspect (by decide +kernel) rfl rfl (Nat.le_of_ble_eq_true rfl) rfl rfl (Mod_0 S0_) (zC.mono F ?_)
        rintro _ _ ⟨x11, I12, rfl, rfl, F⟩
        change zV G (d + 1) mX12_canStep kc ks 67 [(3, .int (I (m + 11) (p2 + 1 : Int32).toNatClampNeg)), (0, .ref (m)), (1, .ref (b)), (2, .int (p2))] [.int (x11)] (I12, J, R, K, n) Q
        exact zZret .boolean rfl (zNarZ F.1) (by decide +kernel) F.2
      · skip
        replace F := F.2.2.2 q3 q6 q10
        have zq3 := zNeT q3 (show (0 : Int32).toInt = 0 by decide)
        have zq6 := zNeT q6 (show (1 : Int32).toInt = 1 by decide)
        have zq10 := zNeT q10 (show (2 : Int32).toInt = 2 by decide)
        refine zTableOut 53 0 2 #[25, 31, 46] 25 68 (by decide +kernel) (by omega) rfl ?_
        refine zAload_n 1 2 69 (by decide +kernel) rfl rfl ?_
        refine zBipush 49 49 71 (by decide +kernel) rfl (by decide) ?_
        obtain ⟨w13, F⟩ := F
        refine yIaload 231 72 (by decide +kernel) rfl hb (w13) ?_
        refine zSipush 999 999 75 (by decide +kernel) rfl (by decide) ?_
        suffices KK : zV G (d + 1) mX12_canStep kc ks 83 [(3, .int (I (m + 11) (p2 + 1 : Int32).toNatClampNeg)), (0, .ref (m)), (1, .ref (b)), (2, .int (p2))] [.int ((if 999 ≤ (I b (49 : Int32).toNatClampNeg : Int32) then 0 else 1))] (I, J, R, K, n) Q by
          refine zIcmp_ge 7 82 78 (by decide +kernel) rfl rfl ⟨fun q14 => ?_, fun q14 => ?_⟩
          · refine zIconst 0 0 83 (by decide +kernel) rfl (by decide) ?_
            exact zTop (by rw [if_pos q14]) KK
          · refine zIconst 1 1 79 (by decide +kernel) rfl (by decide) ?_
            refine zGoto 4 83 (by decide +kernel) rfl ?_
            exact zTop (by rw [if_neg q14]) KK
        exact zZret .boolean rfl (zNarZ (zOrIte (Or.inl rfl) (Or.inr rfl))) (by decide +kernel) F
set_option maxHeartbeats 2000000 in
theorem wX12_goStep_0 {G : zG} {d kc ks : Nat} {I : Nat → Nat → Int32} {J : Nat → Nat → Int64} {R : Nat → Nat → Option Nat} {K : Nat → Nat × Nat} {n : Nat} {Q : Option Value → zH → Prop} (m t c : Nat) (b : Nat) (hb : sA G K n b 32 231) (S0_ : hMod G R K n m t c) (p2 : Int32) (F : ((vp_in (p2 + 1) 240) ∧ ((vp_in p2 240) ∧ (((I (m + 11) p2.toNatClampNeg) = 0 → zC G d mX12_forgives 0 0 [.ref (m), .ref (b), .int (I (m + 11) (p2 + 1 : Int32).toNatClampNeg)] (I, J, R, K, n) (fun r h => ∃ (x4 : Int32) (I5 : Nat → Nat → Int32) (J6 : Nat → Nat → Int64) (R7 : Nat → Nat → Option Nat), r = some (.int x4) ∧ h = (I5, J6, R7, K, n) ∧ ∃ u8 u9 : Nat, hMod G R7 K n m u8 u9 ∧ Q (some (.int (x4))) (I5, J6, R7, K, n))) ∧ ((I (m + 11) p2.toNatClampNeg) = 1 → ((vp_in (p2 + 2) 240) ∧ zC G d mX12_paints 0 0 [.ref (b), .int (I (m + 11) (p2 + 1 : Int32).toNatClampNeg), .int (I (m + 11) (p2 + 2 : Int32).toNatClampNeg)] (I, J, R, K, n) (fun r h => ∃ (I13 : Nat → Nat → Int32), r = none ∧ h = (I13, J, R, K, n) ∧ Q (some (.int (0))) (I13, J, R, K, n)))) ∧ ((I (m + 11) p2.toNatClampNeg) = 2 → zC G d mX12_inspects 0 0 [.ref (b), .int (I (m + 11) (p2 + 1 : Int32).toNatClampNeg)] (I, J, R, K, n) (fun r h => ∃ (x15 : Int32) (I16 : Nat → Nat → Int32), r = some (.int x15) ∧ h = (I16, J, R, K, n) ∧ Q (some (.int (0))) (I16, J, R, K, n))) ∧ (¬ (I (m + 11) p2.toNatClampNeg) = 0 → ¬ (I (m + 11) p2.toNatClampNeg) = 1 → ¬ (I (m + 11) p2.toNatClampNeg) = 2 → zC G d mX12_goDay 0 0 [.ref (m), .ref (b)] (I, J, R, K, n) (fun r h => ∃ (x17 : Int32) (I18 : Nat → Nat → Int32), r = some (.int x17) ∧ h = (I18, J, R, K, n) ∧ Q (some (.int (0))) (I18, J, R, K, n))))))) : zV G (d + 1) mX12_goStep kc ks 0 [(0, .ref (m)), (1, .ref (b)), (2, .int (p2))] [] (I, J, R, K, n) Q := by
  refine zAload_n 0 0 1 (by decide +kernel) rfl rfl ?_
  refine gf12_24 55 4 (by decide +kernel) rfl flX12_55 (Mod_0 S0_) (Mod_21 S0_) ?_
  refine zIload_n 2 2 5 (by decide +kernel) rfl rfl ?_
  refine zIconst 1 1 6 (by decide +kernel) rfl (by decide) ?_
  refine zIadd 7 (by decide +kernel) rfl ?_
  obtain ⟨w1, F⟩ := F
  refine yIaload 240 8 (by decide +kernel) rfl (Mod_22 S0_) (w1) ?_
  refine zIstore_n 3 [(3, .int (I (m + 11) (p2 + 1 : Int32).toNatClampNeg)), (0, .ref (m)), (1, .ref (b)), (2, .int (p2))] 9 (by decide +kernel) rfl (by decide) rfl ?_
  refine zIconst 0 0 10 (by decide +kernel) rfl (by decide) ?_
  refine zIstore 4 [(4, .int (0)), (3, .int (I (m + 11) (p2 + 1 : Int32).toNatClampNeg)), (0, .ref (m)), (1, .ref (b)), (2, .int (p2))] 12 (by decide +kernel) rfl (by decide) rfl ?_
  refine zAload_n 0 2 13 (by decide +kernel) rfl rfl ?_
  refine gf12_24 55 16 (by decide +kernel) rfl flX12_55 (Mod_0 S0_) (Mod_21 S0_) ?_
  refine zIload_n 2 4 17 (by decide +kernel) rfl rfl ?_
  obtain ⟨w2, F⟩ := F
  refine yIaload 240 18 (by decide +kernel) rfl (Mod_22 S0_) (w2) ?_
  by_cases q3 : (I (m + 11) p2.toNatClampNeg) = 0
  · replace F := F.1 q3
    have zt := zEqT q3 (show (0 : Int32).toInt = 0 by decide)
    refine zTableIn 57 0 2 #[26, 33, 48] 26 26 44 (by decide +kernel) (by omega) (by omega) (by rw [zt]; decide) rfl ?_
    refine zAload_n 0 2 45 (by decide +kernel) rfl rfl ?_
    refine zAload_n 1 3 46 (by decide +kernel) rfl rfl ?_
    refine zIload_n 3 1 47 (by decide +kernel) rfl rfl ?_
    refine zCallV 12 zcls12 mX12_forgives 367 2 0 0 _ _ 50 [.ref (b), .int (I (m + 11) (p2 + 1 : Int32).toNatClampNeg)] [] okX12_forgives mlX12_367 imX12_forgives seX12_forgives (by decide +kernel) rfl rfl (Nat.le_of_ble_eq_true rfl) rfl rfl (Mod_0 S0_) (zC.mono F ?_)
    rintro _ _ ⟨x4, I5, J6, R7, rfl, rfl, F⟩
    change zV G (d + 1) mX12_goStep kc ks 50 [(4, .int (0)), (3, .int (I (m + 11) (p2 + 1 : Int32).toNatClampNeg)), (0, .ref (m)), (1, .ref (b)), (2, .int (p2))] [.int (x4)] (I5, J6, R7, K, n) Q
    obtain ⟨u8, u9, S10, F⟩ := F
    exact zIret rfl (by decide +kernel) F
  · skip
    by_cases q11 : (I (m + 11) p2.toNatClampNeg) = 1
    · replace F := F.2.1 q11
      have zt := zEqT q11 (show (1 : Int32).toInt = 1 by decide)
      refine zTableIn 57 0 2 #[26, 33, 48] 26 33 51 (by decide +kernel) (by omega) (by omega) (by rw [zt]; decide) rfl ?_
      refine zAload_n 1 3 52 (by decide +kernel) rfl rfl ?_
      refine zIload_n 3 1 53 (by decide +kernel) rfl rfl ?_
      refine zAload_n 0 2 54 (by decide +kernel) rfl rfl ?_
      refine gf12_24 55 57 (by decide +kernel) rfl flX12_55 (Mod_0 S0_) (Mod_21 S0_) ?_
      refine zIload_n 2 4 58 (by decide +kernel) rfl rfl ?_
      refine zIconst 2 2 59 (by decide +kernel) rfl (by decide) ?_
      refine zIadd 60 (by decide +kernel) rfl ?_
      obtain ⟨w12, F⟩ := F
      refine yIaload 240 61 (by decide +kernel) rfl (Mod_22 S0_) (w12) ?_
      refine zCallS mX12_paints 374 3 0 0 _ _ 64 [.ref (b), .int (I (m + 11) (p2 + 1 : Int32).toNatClampNeg), .int (I (m + 11) (p2 + 2 : Int32).toNatClampNeg)] [] okX12_paints mlX12_374 smX12_paints (by decide +kernel) rfl rfl (Nat.le_of_ble_eq_true rfl) rfl rfl (zC.mono F ?_)
      rintro _ _ ⟨I13, rfl, rfl, F⟩
      change zV G (d + 1) mX12_goStep kc ks 64 [(4, .int (0)), (3, .int (I (m + 11) (p2 + 1 : Int32).toNatClampNeg)), (0, .ref (m)), (1, .ref (b)), (2, .int (p2))] [] (I13, J, R, K, n) Q
      refine zIconst 0 0 65 (by decide +kernel) rfl (by decide) ?_
      exact zIret rfl (by decide +kernel) F
    · skip
      by_cases q14 : (I (m + 11) p2.toNatClampNeg) = 2
      · replace F := F.2.2.1 q14
        have zt := zEqT q14 (show (2 : Int32).toInt = 2 by decide)
        refine zTableIn 57 0 2 #[26, 33, 48] 26 48 66 (by decide +kernel) (by omega) (by omega) (by rw [zt]; decide) rfl ?_
        refine zAload_n 1 3 67 (by decide +kernel) rfl rfl ?_
        refine zIload_n 3 1 68 (by decide +kernel) rfl rfl ?_
        refine zCallS mX12_inspects 381 2 0 0 _ _ 71 [.ref (b), .int (I (m + 11) (p2 + 1 : Int32).toNatClampNeg)] [] okX12_inspects mlX12_381 smX12_inspects (by decide +kernel) rfl rfl (Nat.le_of_ble_eq_true rfl) rfl rfl (zC.mono F ?_)
        rintro _ _ ⟨x15, I16, rfl, rfl, F⟩
        change zV G (d + 1) mX12_goStep kc ks 71 [(4, .int (0)), (3, .int (I (m + 11) (p2 + 1 : Int32).toNatClampNeg)), (0, .ref (m)), (1, .ref (b)), (2, .int (p2))] [.int (x15)] (I16, J, R, K, n) Q
        refine zIstore 4 [(4, .int (x15)), (3, .int (I (m + 11) (p2 + 1 : Int32).toNatClampNeg)), (0, .ref (m)), (1, .ref (b)), (2, .int (p2))] 73 (by decide +kernel) rfl (by decide) rfl ?_
        refine zIconst 0 0 74 (by decide +kernel) rfl (by decide) ?_
        exact zIret rfl (by decide +kernel) F
      · skip
        replace F := F.2.2.2 q3 q11 q14
        have zq3 := zNeT q3 (show (0 : Int32).toInt = 0 by decide)
        have zq11 := zNeT q11 (show (1 : Int32).toInt = 1 by decide)
        have zq14 := zNeT q14 (show (2 : Int32).toInt = 2 by decide)
        refine zTableOut 57 0 2 #[26, 33, 48] 26 75 (by decide +kernel) (by omega) rfl ?_
        refine zAload_n 0 2 76 (by decide +kernel) rfl rfl ?_
        refine zAload_n 1 3 77 (by decide +kernel) rfl rfl ?_
        refine zCallV 12 zcls12 mX12_goDay 398 1 0 0 _ _ 80 [.ref (b)] [] okX12_goDay mlX12_398 imX12_goDay seX12_goDay (by decide +kernel) rfl rfl (Nat.le_of_ble_eq_true rfl) rfl rfl (Mod_0 S0_) (zC.mono F ?_)
        rintro _ _ ⟨x17, I18, rfl, rfl, F⟩
        change zV G (d + 1) mX12_goStep kc ks 80 [(4, .int (0)), (3, .int (I (m + 11) (p2 + 1 : Int32).toNatClampNeg)), (0, .ref (m)), (1, .ref (b)), (2, .int (p2))] [.int (x17)] (I18, J, R, K, n) Q
        refine zIstore 4 [(4, .int (x17)), (3, .int (I (m + 11) (p2 + 1 : Int32).toNatClampNeg)), (0, .ref (m)), (1, .ref (b)), (2, .int (p2))] 82 (by decide +kernel) rfl (by decide) rfl ?_
        refine zIconst 0 0 83 (by decide +kernel) rfl (by decide) ?_
        exact zIret rfl (by decide +kernel) F
set_option maxHeartbeats 2000000 in
theorem wX12_run_0 {G : zG} {d kc ks : Nat} {I : Nat → Nat → Int32} {J : Nat → Nat → Int64} {R : Nat → Nat → Option Nat} {K : Nat → Nat × Nat} {n : Nat} {Q : Option Value → zH → Prop} (m t c : Nat) (S0_ : hMod G R K n m t c) (p1 p2 : Int32) (F : (∀ I1 : Nat → Nat → Int32, I1 = zU I m 0 (0) → zC G d mX12_isPlan 0 0 [.ref (m), .int (p1)] (I1, J, R, K, n) (fun r h => ∃ (x2 : Int32) (I3 : Nat → Nat → Int32), r = some (.int x2) ∧ h = (I3, J, R, K, n) ∧ ((x2 = 0 → Q (some (.int ((-1000000)))) (I3, J, R, K, n)) ∧ (¬ (x2 = 0) → (((I3 m 26 : Int32) = 0 → Q (some (.int ((-1000000)))) (I3, J, R, K, n)) ∧ (¬ ((I3 m 26 : Int32) = 0) → zC G d mX12_isIn 0 0 [.long (p2.toInt64), .long (0), .long (1)] (I3, J, R, K, n) (fun r h => ∃ (x6 : Int32) (I7 : Nat → Nat → Int32), r = some (.int x6) ∧ h = (I7, J, R, K, n) ∧ ((x6 = 0 → Q (some (.int ((-1000000)))) (I7, J, R, K, n)) ∧ (¬ (x6 = 0) → zC G d mX12_copy 0 0 [.ref (m + 13), .ref (m + 14)] (I7, J, R, K, n) (fun r h => ∃ (I9 : Nat → Nat → Int32), r = none ∧ h = (I9, J, R, K, n) ∧ zV G (d + 1) mX12_run kc ks 50 [(0, .ref (m)), (1, .int (p1)), (2, .int (p2)), (3, .int (0)), (4, .int (0))] [] (I9, J, R, K, n) Q))))))))))) : zV G (d + 1) mX12_run kc ks 0 [(0, .ref (m)), (1, .int (p1)), (2, .int (p2))] [] (I, J, R, K, n) Q := by
  refine zAload_n 0 0 1 (by decide +kernel) rfl rfl ?_
  refine zIconst 0 0 2 (by decide +kernel) rfl (by decide) ?_
  refine pf12_0 93 5 (by decide +kernel) rfl flX12_93 (Mod_0 S0_) ?_
  replace F := F _ rfl
  generalize zU I m 0 (0) = I1 at F ⊢
  refine zAload_n 0 0 6 (by decide +kernel) rfl rfl ?_
  refine zIload_n 1 1 7 (by decide +kernel) rfl rfl ?_
  refine zCallV 12 zcls12 mX12_isPlan 414 1 0 0 _ _ 10 [.int (p1)] [] okX12_isPlan mlX12_414 imX12_isPlan seX12_isPlan (by decide +kernel) rfl rfl (Nat.le_of_ble_eq_true rfl) rfl rfl (Mod_0 S0_) (zC.mono F ?_)
  rintro _ _ ⟨x2, I3, rfl, rfl, F⟩
  change zV G (d + 1) mX12_run kc ks 10 [(0, .ref (m)), (1, .int (p1)), (2, .int (p2))] [.int (x2)] (I3, J, R, K, n) Q
  refine zIf_eq 20 30 13 (by decide +kernel) rfl rfl ⟨fun q4 => ?_, fun q4 => ?_⟩
  · replace F := F.1 q4
    refine zLdcw 417 (-1000000) 33 (by decide +kernel) rfl kcX12_417 ?_
    exact zIret rfl (by decide +kernel) F
  · replace F := F.2 q4
    refine zAload_n 0 0 14 (by decide +kernel) rfl rfl ?_
    refine gf12_26 291 17 (by decide +kernel) rfl flX12_291 (Mod_0 S0_) ?_
    refine zIf_eq 13 30 20 (by decide +kernel) rfl rfl ⟨fun q5 => ?_, fun q5 => ?_⟩
    · replace F := F.1 q5
      refine zLdcw 417 (-1000000) 33 (by decide +kernel) rfl kcX12_417 ?_
      exact zIret rfl (by decide +kernel) F
    · replace F := F.2 q5
      refine zIload_n 2 2 21 (by decide +kernel) rfl rfl ?_
      refine zI2l 22 (by decide +kernel) rfl ?_
      refine zLconst 0 0 23 (by decide +kernel) rfl (by decide) ?_
      refine zLconst 1 1 24 (by decide +kernel) rfl (by decide) ?_
      refine zCallS mX12_isIn 214 3 0 0 _ _ 27 [.long (p2.toInt64), .long (0), .long (1)] [] okX12_isIn mlX12_214 smX12_isIn (by decide +kernel) rfl rfl (Nat.le_of_ble_eq_true rfl) rfl rfl (zC.mono F ?_)
      rintro _ _ ⟨x6, I7, rfl, rfl, F⟩
      change zV G (d + 1) mX12_run kc ks 27 [(0, .ref (m)), (1, .int (p1)), (2, .int (p2))] [.int (x6)] (I7, J, R, K, n) Q
      refine zIf_ne 7 34 30 (by decide +kernel) rfl rfl ⟨fun q8 => ?_, fun q8 => ?_⟩
      · replace F := F.2 q8
        refine zAload_n 0 0 35 (by decide +kernel) rfl rfl ?_
        refine gf12_32 61 38 (by decide +kernel) rfl flX12_61 (Mod_0 S0_) (Mod_25 S0_) ?_
        refine zAload_n 0 0 39 (by decide +kernel) rfl rfl ?_
        refine gf12_33 64 42 (by decide +kernel) rfl flX12_64 (Mod_0 S0_) (Mod_27 S0_) ?_
        refine zCallS mX12_copy 418 2 0 0 _ _ 45 [.ref (m + 13), .ref (m + 14)] [] okX12_copy mlX12_418 smX12_copy (by decide +kernel) rfl rfl (Nat.le_of_ble_eq_true rfl) rfl rfl (zC.mono F ?_)
        rintro _ _ ⟨I9, rfl, rfl, F⟩
        change zV G (d + 1) mX12_run kc ks 45 [(0, .ref (m)), (1, .int (p1)), (2, .int (p2))] [] (I9, J, R, K, n) Q
        refine zIconst 0 0 46 (by decide +kernel) rfl (by decide) ?_
        refine zIstore_n 3 [(3, .int (0)), (0, .ref (m)), (1, .int (p1)), (2, .int (p2))] 47 (by decide +kernel) rfl (by decide) rfl ?_
        refine zIconst 0 0 48 (by decide +kernel) rfl (by decide) ?_
        refine zIstore 4 [(4, .int (0)), (3, .int (0)), (0, .ref (m)), (1, .int (p1)), (2, .int (p2))] 50 (by decide +kernel) rfl (by decide) rfl ?_
        exact zLoc [2, 3, 4, 1, 0] _ rfl F
      · replace F := F.1 q8
        refine zLdcw 417 (-1000000) 33 (by decide +kernel) rfl kcX12_417 ?_
        exact zIret rfl (by decide +kernel) F
set_option maxHeartbeats 2000000 in
theorem wX12_run_50 {G : zG} {d kc ks : Nat} {I : Nat → Nat → Int32} {J : Nat → Nat → Int64} {R : Nat → Nat → Option Nat} {K : Nat → Nat × Nat} {n : Nat} {Q : Option Value → zH → Prop} (m t c : Nat) (S0_ : hMod G R K n m t c) (l1 l2 l3 l4 : Int32) (F : ((vp_in l1 5) ∧ (((I (m + 12) l1.toNatClampNeg : Int32) ≤ l3 → ((l2 = 1 → Q (some (.int (l4))) (I, J, R, K, n)) ∧ (¬ (l2 = 1) → ((vp_in l1 5) ∧ Q (some (.int ((if l3 = (I (m + 12) l1.toNatClampNeg : Int32) then (-1) else l3)))) (I, J, R, K, n))))) ∧ (¬ ((I (m + 12) l1.toNatClampNeg : Int32) ≤ l3) → zC G d mX12_canStep 0 0 [.ref (m), .ref (m + 14), .int (3 * ((16 * l1) + l3))] (I, J, R, K, n) (fun r h => ∃ (x15 : Int32) (I16 : Nat → Nat → Int32), r = some (.int x15) ∧ h = (I16, J, R, K, n) ∧ ((x15 = 0 → ((l2 = 1 → Q (some (.int (l4))) (I16, J, R, K, n)) ∧ (¬ (l2 = 1) → ((vp_in l1 5) ∧ Q (some (.int ((if l3 = (I16 (m + 12) l1.toNatClampNeg : Int32) then (-1) else l3)))) (I16, J, R, K, n))))) ∧ (¬ (x15 = 0) → zC G d mX12_goStep 0 0 [.ref (m), .ref (m + 14), .int (3 * ((16 * l1) + l3))] (I16, J, R, K, n) (fun r h => ∃ (x21 : Int32) (I22 : Nat → Nat → Int32) (J23 : Nat → Nat → Int64) (R24 : Nat → Nat → Option Nat), r = some (.int x21) ∧ h = (I22, J23, R24, K, n) ∧ ∃ u25 u26 : Nat, hMod G R24 K n m u25 u26 ∧ zV G (d + 1) mX12_run kc ks 50 [(0, .ref (m)), (1, .int (l1)), (2, .int (l2)), (3, .int (l3 + 1)), (4, .int (l4 + x21))] [] (I22, J23, R24, K, n) Q)))))))) : zV G (d + 1) mX12_run kc ks 50 [(0, .ref (m)), (1, .int (l1)), (2, .int (l2)), (3, .int (l3)), (4, .int (l4))] [] (I, J, R, K, n) Q := by
  refine zIload_n 3 3 51 (by decide +kernel) rfl rfl ?_
  refine zAload_n 0 0 52 (by decide +kernel) rfl rfl ?_
  refine gf12_25 58 55 (by decide +kernel) rfl flX12_58 (Mod_0 S0_) (Mod_23 S0_) ?_
  refine zIload_n 1 1 56 (by decide +kernel) rfl rfl ?_
  obtain ⟨w10, F⟩ := F
  refine yIaload 5 57 (by decide +kernel) rfl (Mod_24 S0_) (w10) ?_
  refine zIcmp_ge 49 106 60 (by decide +kernel) rfl rfl ⟨fun q11 => ?_, fun q11 => ?_⟩
  · replace F := F.1 q11
    refine zIload_n 2 2 107 (by decide +kernel) rfl rfl ?_
    refine zIconst 1 1 108 (by decide +kernel) rfl (by decide) ?_
    refine zIcmp_ne 6 114 111 (by decide +kernel) rfl rfl ⟨fun q12 => ?_, fun q12 => ?_⟩
    · replace F := F.2 q12
      refine zIload_n 3 3 115 (by decide +kernel) rfl rfl ?_
      refine zAload_n 0 0 116 (by decide +kernel) rfl rfl ?_
      refine gf12_25 58 119 (by decide +kernel) rfl flX12_58 (Mod_0 S0_) (Mod_23 S0_) ?_
      refine zIload_n 1 1 120 (by decide +kernel) rfl rfl ?_
      obtain ⟨w13, F⟩ := F
      refine yIaload 5 121 (by decide +kernel) rfl (Mod_24 S0_) (w13) ?_
      suffices KK : zV G (d + 1) mX12_run kc ks 129 [(0, .ref (m)), (1, .int (l1)), (2, .int (l2)), (3, .int (l3)), (4, .int (l4))] [.int ((if l3 = (I (m + 12) l1.toNatClampNeg : Int32) then (-1) else l3))] (I, J, R, K, n) Q by
        refine zIcmp_ne 7 128 124 (by decide +kernel) rfl rfl ⟨fun q14 => ?_, fun q14 => ?_⟩
        · refine zIload_n 3 3 129 (by decide +kernel) rfl rfl ?_
          exact zTop (by rw [if_neg q14]) KK
        · refine zIconst (-1) (-1) 125 (by decide +kernel) rfl (by decide) ?_
          refine zGoto 4 129 (by decide +kernel) rfl ?_
          exact zTop (by rw [if_pos q14]) KK
      exact zIret rfl (by decide +kernel) F
    · replace F := F.1 q12
      refine zIload 4 4 113 (by decide +kernel) rfl rfl ?_
      exact zIret rfl (by decide +kernel) F
  · replace F := F.2 q11
    refine zAload_n 0 0 61 (by decide +kernel) rfl rfl ?_
    refine zAload_n 0 0 62 (by decide +kernel) rfl rfl ?_
    refine gf12_33 64 65 (by decide +kernel) rfl flX12_64 (Mod_0 S0_) (Mod_27 S0_) ?_
    refine zIconst 3 3 66 (by decide +kernel) rfl (by decide) ?_
    refine zBipush 16 16 68 (by decide +kernel) rfl (by decide) ?_
    refine zIload_n 1 1 69 (by decide +kernel) rfl rfl ?_
    refine zImul 70 (by decide +kernel) rfl ?_
    refine zIload_n 3 3 71 (by decide +kernel) rfl rfl ?_
    refine zIadd 72 (by decide +kernel) rfl ?_
    refine zImul 73 (by decide +kernel) rfl ?_
    refine zCallV 12 zcls12 mX12_canStep 422 2 0 0 _ _ 76 [.ref (m + 14), .int (3 * ((16 * l1) + l3))] [] okX12_canStep mlX12_422 imX12_canStep seX12_canStep (by decide +kernel) rfl rfl (Nat.le_of_ble_eq_true rfl) rfl rfl (Mod_0 S0_) (zC.mono F ?_)
    rintro _ _ ⟨x15, I16, rfl, rfl, F⟩
    change zV G (d + 1) mX12_run kc ks 76 [(0, .ref (m)), (1, .int (l1)), (2, .int (l2)), (3, .int (l3)), (4, .int (l4))] [.int (x15)] (I16, J, R, K, n) Q
    refine zIf_eq 30 106 79 (by decide +kernel) rfl rfl ⟨fun q17 => ?_, fun q17 => ?_⟩
    · replace F := F.1 q17
      refine zIload_n 2 2 107 (by decide +kernel) rfl rfl ?_
      refine zIconst 1 1 108 (by decide +kernel) rfl (by decide) ?_
      refine zIcmp_ne 6 114 111 (by decide +kernel) rfl rfl ⟨fun q18 => ?_, fun q18 => ?_⟩
      · replace F := F.2 q18
        refine zIload_n 3 3 115 (by decide +kernel) rfl rfl ?_
        refine zAload_n 0 0 116 (by decide +kernel) rfl rfl ?_
        refine gf12_25 58 119 (by decide +kernel) rfl flX12_58 (Mod_0 S0_) (Mod_23 S0_) ?_
        refine zIload_n 1 1 120 (by decide +kernel) rfl rfl ?_
        obtain ⟨w19, F⟩ := F
        refine yIaload 5 121 (by decide +kernel) rfl (Mod_24 S0_) (w19) ?_
        suffices KK : zV G (d + 1) mX12_run kc ks 129 [(0, .ref (m)), (1, .int (l1)), (2, .int (l2)), (3, .int (l3)), (4, .int (l4))] [.int ((if l3 = (I16 (m + 12) l1.toNatClampNeg : Int32) then (-1) else l3))] (I16, J, R, K, n) Q by
          refine zIcmp_ne 7 128 124 (by decide +kernel) rfl rfl ⟨fun q20 => ?_, fun q20 => ?_⟩
          · refine zIload_n 3 3 129 (by decide +kernel) rfl rfl ?_
            exact zTop (by rw [if_neg q20]) KK
          · refine zIconst (-1) (-1) 125 (by decide +kernel) rfl (by decide) ?_
            refine zGoto 4 129 (by decide +kernel) rfl ?_
            exact zTop (by rw [if_pos q20]) KK
        exact zIret rfl (by decide +kernel) F
      · replace F := F.1 q18
        refine zIload 4 4 113 (by decide +kernel) rfl rfl ?_
        exact zIret rfl (by decide +kernel) F
    · replace F := F.2 q17
      refine zIload 4 4 81 (by decide +kernel) rfl rfl ?_
      refine zAload_n 0 0 82 (by decide +kernel) rfl rfl ?_
      refine zAload_n 0 0 83 (by decide +kernel) rfl rfl ?_
      refine gf12_33 64 86 (by decide +kernel) rfl flX12_64 (Mod_0 S0_) (Mod_27 S0_) ?_
      refine zIconst 3 3 87 (by decide +kernel) rfl (by decide) ?_
      refine zBipush 16 16 89 (by decide +kernel) rfl (by decide) ?_
      refine zIload_n 1 1 90 (by decide +kernel) rfl rfl ?_
      refine zImul 91 (by decide +kernel) rfl ?_
      refine zIload_n 3 3 92 (by decide +kernel) rfl rfl ?_
      refine zIadd 93 (by decide +kernel) rfl ?_
      refine zImul 94 (by decide +kernel) rfl ?_
      refine zCallV 12 zcls12 mX12_goStep 425 2 0 0 _ _ 97 [.ref (m + 14), .int (3 * ((16 * l1) + l3))] [.int (l4)] okX12_goStep mlX12_425 imX12_goStep seX12_goStep (by decide +kernel) rfl rfl (Nat.le_of_ble_eq_true rfl) rfl rfl (Mod_0 S0_) (zC.mono F ?_)
      rintro _ _ ⟨x21, I22, J23, R24, rfl, rfl, F⟩
      change zV G (d + 1) mX12_run kc ks 97 [(0, .ref (m)), (1, .int (l1)), (2, .int (l2)), (3, .int (l3)), (4, .int (l4))] [.int (x21), .int (l4)] (I22, J23, R24, K, n) Q
      obtain ⟨u25, u26, S27, F⟩ := F
      refine zIadd 98 (by decide +kernel) rfl ?_
      refine zIstore 4 [(4, .int (l4 + x21)), (0, .ref (m)), (1, .int (l1)), (2, .int (l2)), (3, .int (l3))] 100 (by decide +kernel) rfl (by decide) rfl ?_
      refine zIinc 3 1 4 (l3 + 1) [(3, .int (l3 + 1)), (4, .int (l4 + x21)), (0, .ref (m)), (1, .int (l1)), (2, .int (l2))] 103 (by decide +kernel) rfl rfl (by rfl) (by decide) rfl ?_
      refine zGoto (-53) 50 (by decide +kernel) rfl ?_
      exact zLoc [2, 3, 4, 0, 1] _ rfl F
set_option maxHeartbeats 2000000 in
theorem wX12_perform_0 {G : zG} {d kc ks : Nat} {I : Nat → Nat → Int32} {J : Nat → Nat → Int64} {R : Nat → Nat → Option Nat} {K : Nat → Nat × Nat} {n : Nat} {Q : Option Value → zH → Prop} (m t c : Nat) (S0_ : hMod G R K n m t c) (p1 : Int32) (F : (∀ I1 : Nat → Nat → Int32, I1 = zU I m 0 (0) → zC G d mX12_isPlan 0 0 [.ref (m), .int (p1)] (I1, J, R, K, n) (fun r h => ∃ (x2 : Int32) (I3 : Nat → Nat → Int32), r = some (.int x2) ∧ h = (I3, J, R, K, n) ∧ ((x2 = 0 → Q (some (.int ((-1)))) (I3, J, R, K, n)) ∧ (¬ (x2 = 0) → (((I3 m 26 : Int32) = 0 → Q (some (.int ((-1)))) (I3, J, R, K, n)) ∧ (¬ ((I3 m 26 : Int32) = 0) → zV G (d + 1) mX12_perform kc ks 24 [(0, .ref (m)), (1, .int (p1)), (2, .int (0))] [] (I3, J, R, K, n) Q))))))) : zV G (d + 1) mX12_perform kc ks 0 [(0, .ref (m)), (1, .int (p1))] [] (I, J, R, K, n) Q := by
  refine zAload_n 0 0 1 (by decide +kernel) rfl rfl ?_
  refine zIconst 0 0 2 (by decide +kernel) rfl (by decide) ?_
  refine pf12_0 93 5 (by decide +kernel) rfl flX12_93 (Mod_0 S0_) ?_
  replace F := F _ rfl
  generalize zU I m 0 (0) = I1 at F ⊢
  refine zAload_n 0 0 6 (by decide +kernel) rfl rfl ?_
  refine zIload_n 1 1 7 (by decide +kernel) rfl rfl ?_
  refine zCallV 12 zcls12 mX12_isPlan 414 1 0 0 _ _ 10 [.int (p1)] [] okX12_isPlan mlX12_414 imX12_isPlan seX12_isPlan (by decide +kernel) rfl rfl (Nat.le_of_ble_eq_true rfl) rfl rfl (Mod_0 S0_) (zC.mono F ?_)
  rintro _ _ ⟨x2, I3, rfl, rfl, F⟩
  change zV G (d + 1) mX12_perform kc ks 10 [(0, .ref (m)), (1, .int (p1))] [.int (x2)] (I3, J, R, K, n) Q
  refine zIf_eq 10 20 13 (by decide +kernel) rfl rfl ⟨fun q4 => ?_, fun q4 => ?_⟩
  · replace F := F.1 q4
    refine zIconst (-1) (-1) 21 (by decide +kernel) rfl (by decide) ?_
    exact zIret rfl (by decide +kernel) F
  · replace F := F.2 q4
    refine zAload_n 0 0 14 (by decide +kernel) rfl rfl ?_
    refine gf12_26 291 17 (by decide +kernel) rfl flX12_291 (Mod_0 S0_) ?_
    refine zIf_ne 5 22 20 (by decide +kernel) rfl rfl ⟨fun q5 => ?_, fun q5 => ?_⟩
    · replace F := F.2 q5
      refine zIconst 0 0 23 (by decide +kernel) rfl (by decide) ?_
      refine zIstore_n 2 [(2, .int (0)), (0, .ref (m)), (1, .int (p1))] 24 (by decide +kernel) rfl (by decide) rfl ?_
      exact zLoc [1, 2, 0] _ rfl F
    · replace F := F.1 q5
      refine zIconst (-1) (-1) 21 (by decide +kernel) rfl (by decide) ?_
      exact zIret rfl (by decide +kernel) F
set_option maxHeartbeats 2000000 in
theorem wX12_perform_24 {G : zG} {d kc ks : Nat} {I : Nat → Nat → Int32} {J : Nat → Nat → Int64} {R : Nat → Nat → Option Nat} {K : Nat → Nat × Nat} {n : Nat} {Q : Option Value → zH → Prop} (m t c : Nat) (S0_ : hMod G R K n m t c) (l1 l2 : Int32) (F : ((vp_in l1 5) ∧ (((I (m + 12) l1.toNatClampNeg : Int32) ≤ l2 → Q (some (.int (l2))) (I, J, R, K, n)) ∧ (¬ ((I (m + 12) l1.toNatClampNeg : Int32) ≤ l2) → zC G d mX12_canStep 0 0 [.ref (m), .ref (m + 13), .int (3 * ((16 * l1) + l2))] (I, J, R, K, n) (fun r h => ∃ (x8 : Int32) (I9 : Nat → Nat → Int32), r = some (.int x8) ∧ h = (I9, J, R, K, n) ∧ ((x8 = 0 → Q (some (.int (l2))) (I9, J, R, K, n)) ∧ (¬ (x8 = 0) → zC G d mX12_remember 0 0 [.ref (m)] (I9, J, R, K, n) (fun r h => ∃ (I11 : Nat → Nat → Int32), r = none ∧ h = (I11, J, R, K, n) ∧ zC G d mX12_goStep 0 0 [.ref (m), .ref (m + 13), .int (3 * ((16 * l1) + l2))] (I11, J, R, K, n) (fun r h => ∃ (x12 : Int32) (I13 : Nat → Nat → Int32) (J14 : Nat → Nat → Int64) (R15 : Nat → Nat → Option Nat), r = some (.int x12) ∧ h = (I13, J14, R15, K, n) ∧ ∃ u16 u17 : Nat, hMod G R15 K n m u16 u17 ∧ zV G (d + 1) mX12_perform kc ks 24 [(0, .ref (m)), (1, .int (l1)), (2, .int (l2 + 1))] [] (I13, J14, R15, K, n) Q))))))))) : zV G (d + 1) mX12_perform kc ks 24 [(0, .ref (m)), (1, .int (l1)), (2, .int (l2))] [] (I, J, R, K, n) Q := by
  refine zIload_n 2 2 25 (by decide +kernel) rfl rfl ?_
  refine zAload_n 0 0 26 (by decide +kernel) rfl rfl ?_
  refine gf12_25 58 29 (by decide +kernel) rfl flX12_58 (Mod_0 S0_) (Mod_23 S0_) ?_
  refine zIload_n 1 1 30 (by decide +kernel) rfl rfl ?_
  obtain ⟨w6, F⟩ := F
  refine yIaload 5 31 (by decide +kernel) rfl (Mod_24 S0_) (w6) ?_
  refine zIcmp_ge 49 80 34 (by decide +kernel) rfl rfl ⟨fun q7 => ?_, fun q7 => ?_⟩
  · replace F := F.1 q7
    refine zIload_n 2 2 81 (by decide +kernel) rfl rfl ?_
    exact zIret rfl (by decide +kernel) F
  · replace F := F.2 q7
    refine zAload_n 0 0 35 (by decide +kernel) rfl rfl ?_
    refine zAload_n 0 0 36 (by decide +kernel) rfl rfl ?_
    refine gf12_32 61 39 (by decide +kernel) rfl flX12_61 (Mod_0 S0_) (Mod_25 S0_) ?_
    refine zIconst 3 3 40 (by decide +kernel) rfl (by decide) ?_
    refine zBipush 16 16 42 (by decide +kernel) rfl (by decide) ?_
    refine zIload_n 1 1 43 (by decide +kernel) rfl rfl ?_
    refine zImul 44 (by decide +kernel) rfl ?_
    refine zIload_n 2 2 45 (by decide +kernel) rfl rfl ?_
    refine zIadd 46 (by decide +kernel) rfl ?_
    refine zImul 47 (by decide +kernel) rfl ?_
    refine zCallV 12 zcls12 mX12_canStep 422 2 0 0 _ _ 50 [.ref (m + 13), .int (3 * ((16 * l1) + l2))] [] okX12_canStep mlX12_422 imX12_canStep seX12_canStep (by decide +kernel) rfl rfl (Nat.le_of_ble_eq_true rfl) rfl rfl (Mod_0 S0_) (zC.mono F ?_)
    rintro _ _ ⟨x8, I9, rfl, rfl, F⟩
    change zV G (d + 1) mX12_perform kc ks 50 [(0, .ref (m)), (1, .int (l1)), (2, .int (l2))] [.int (x8)] (I9, J, R, K, n) Q
    refine zIf_eq 30 80 53 (by decide +kernel) rfl rfl ⟨fun q10 => ?_, fun q10 => ?_⟩
    · replace F := F.1 q10
      refine zIload_n 2 2 81 (by decide +kernel) rfl rfl ?_
      exact zIret rfl (by decide +kernel) F
    · replace F := F.2 q10
      refine zAload_n 0 0 54 (by decide +kernel) rfl rfl ?_
      refine zCallV 12 zcls12 mX12_remember 364 0 0 0 _ _ 57 [] [] okX12_remember mlX12_364 imX12_remember seX12_remember (by decide +kernel) rfl rfl (Nat.le_of_ble_eq_true rfl) rfl rfl (Mod_0 S0_) (zC.mono F ?_)
      rintro _ _ ⟨I11, rfl, rfl, F⟩
      change zV G (d + 1) mX12_perform kc ks 57 [(0, .ref (m)), (1, .int (l1)), (2, .int (l2))] [] (I11, J, R, K, n) Q
      refine zAload_n 0 0 58 (by decide +kernel) rfl rfl ?_
      refine zAload_n 0 0 59 (by decide +kernel) rfl rfl ?_
      refine gf12_32 61 62 (by decide +kernel) rfl flX12_61 (Mod_0 S0_) (Mod_25 S0_) ?_
      refine zIconst 3 3 63 (by decide +kernel) rfl (by decide) ?_
      refine zBipush 16 16 65 (by decide +kernel) rfl (by decide) ?_
      refine zIload_n 1 1 66 (by decide +kernel) rfl rfl ?_
      refine zImul 67 (by decide +kernel) rfl ?_
      refine zIload_n 2 2 68 (by decide +kernel) rfl rfl ?_
      refine zIadd 69 (by decide +kernel) rfl ?_
      refine zImul 70 (by decide +kernel) rfl ?_
      refine zCallV 12 zcls12 mX12_goStep 425 2 0 0 _ _ 73 [.ref (m + 13), .int (3 * ((16 * l1) + l2))] [] okX12_goStep mlX12_425 imX12_goStep seX12_goStep (by decide +kernel) rfl rfl (Nat.le_of_ble_eq_true rfl) rfl rfl (Mod_0 S0_) (zC.mono F ?_)
      rintro _ _ ⟨x12, I13, J14, R15, rfl, rfl, F⟩
      change zV G (d + 1) mX12_perform kc ks 73 [(0, .ref (m)), (1, .int (l1)), (2, .int (l2))] [.int (x12)] (I13, J14, R15, K, n) Q
      obtain ⟨u16, u17, S18, F⟩ := F
      refine zIstore_n 3 [(3, .int (x12)), (0, .ref (m)), (1, .int (l1)), (2, .int (l2))] 74 (by decide +kernel) rfl (by decide) rfl ?_
      refine zIinc 2 1 3 (l2 + 1) [(2, .int (l2 + 1)), (3, .int (x12)), (0, .ref (m)), (1, .int (l1))] 77 (by decide +kernel) rfl rfl (by rfl) (by decide) rfl ?_
      refine zGoto (-53) 24 (by decide +kernel) rfl ?_
      exact zLoc [2, 3, 0] _ rfl F
set_option maxHeartbeats 2000000 in
theorem wX12_openOf_0 {G : zG} {d kc ks : Nat} {I : Nat → Nat → Int32} {J : Nat → Nat → Int64} {R : Nat → Nat → Option Nat} {K : Nat → Nat × Nat} {n : Nat} {Q : Option Value → zH → Prop} (m t c : Nat) (S0_ : hMod G R K n m t c) (p1 p2 : Int32) (F : zV G (d + 1) mX12_openOf kc ks 5 [(0, .ref (m)), (1, .int (p1)), (2, .int (p2)), (3, .int (0)), (4, .int (0))] [] (I, J, R, K, n) Q) : zV G (d + 1) mX12_openOf kc ks 0 [(0, .ref (m)), (1, .int (p1)), (2, .int (p2))] [] (I, J, R, K, n) Q := by
  refine zIconst 0 0 1 (by decide +kernel) rfl (by decide) ?_
  refine zIstore_n 3 [(3, .int (0)), (0, .ref (m)), (1, .int (p1)), (2, .int (p2))] 2 (by decide +kernel) rfl (by decide) rfl ?_
  refine zIconst 0 0 3 (by decide +kernel) rfl (by decide) ?_
  refine zIstore 4 [(4, .int (0)), (3, .int (0)), (0, .ref (m)), (1, .int (p1)), (2, .int (p2))] 5 (by decide +kernel) rfl (by decide) rfl ?_
  exact zLoc [2, 3, 4, 1, 0] _ rfl F
set_option maxHeartbeats 2000000 in
theorem wX12_openOf_5 {G : zG} {d kc ks : Nat} {I : Nat → Nat → Int32} {J : Nat → Nat → Int64} {R : Nat → Nat → Option Nat} {K : Nat → Nat × Nat} {n : Nat} {Q : Option Value → zH → Prop} (m t c : Nat) (S0_ : hMod G R K n m t c) (l1 l2 l3 l4 : Int32) (F : ((9 ≤ l4 → Q (some (.int (l3))) (I, J, R, K, n)) ∧ (¬ (9 ≤ l4) → zC G d mX12_isOpen 0 0 [.ref (m + 13), .int (l4)] (I, J, R, K, n) (fun r h => ∃ (x2 : Int32) (I3 : Nat → Nat → Int32), r = some (.int x2) ∧ h = (I3, J, R, K, n) ∧ (((¬ (x2 = 0)) → (¬ (l1 = (-1))) → vp_in ((3 * l4) + l2) 231) ∧ zV G (d + 1) mX12_openOf kc ks 5 [(0, .ref (m)), (1, .int (l1)), (2, .int (l2)), (3, .int (l3 ||| (if x2 = 0 then 0 else (if l1 = (-1) then (1 : Int32) <<< (l4 &&& 31) else (if (I3 (m + 13) ((3 * l4) + l2 : Int32).toNatClampNeg : Int32) = l1 then (1 : Int32) <<< (l4 &&& 31) else 0))))), (4, .int (l4 + 1))] [] (I3, J, R, K, n) Q))))) : zV G (d + 1) mX12_openOf kc ks 5 [(0, .ref (m)), (1, .int (l1)), (2, .int (l2)), (3, .int (l3)), (4, .int (l4))] [] (I, J, R, K, n) Q := by
  refine zIload 4 4 7 (by decide +kernel) rfl rfl ?_
  refine zBipush 9 9 9 (by decide +kernel) rfl (by decide) ?_
  refine zIcmp_ge 52 61 12 (by decide +kernel) rfl rfl ⟨fun q1 => ?_, fun q1 => ?_⟩
  · replace F := F.1 q1
    refine zIload_n 3 3 62 (by decide +kernel) rfl rfl ?_
    exact zIret rfl (by decide +kernel) F
  · replace F := F.2 q1
    refine zIload_n 3 3 13 (by decide +kernel) rfl rfl ?_
    refine zAload_n 0 0 14 (by decide +kernel) rfl rfl ?_
    refine gf12_32 61 17 (by decide +kernel) rfl flX12_61 (Mod_0 S0_) (Mod_25 S0_) ?_
    refine zIload 4 4 19 (by decide +kernel) rfl rfl ?_
    refine zCallS mX12_isOpen 358 2 0 0 _ _ 22 [.ref (m + 13), .int (l4)] [.int (l3)] okX12_isOpen mlX12_358 smX12_isOpen (by decide +kernel) rfl rfl (Nat.le_of_ble_eq_true rfl) rfl rfl (zC.mono F ?_)
    rintro _ _ ⟨x2, I3, rfl, rfl, F⟩
    change zV G (d + 1) mX12_openOf kc ks 22 [(0, .ref (m)), (1, .int (l1)), (2, .int (l2)), (3, .int (l3)), (4, .int (l4))] [.int (x2), .int (l3)] (I3, J, R, K, n) Q
    obtain ⟨w6, F⟩ := F
    suffices KK : zV G (d + 1) mX12_openOf kc ks 53 [(0, .ref (m)), (1, .int (l1)), (2, .int (l2)), (3, .int (l3)), (4, .int (l4))] [.int ((if x2 = 0 then 0 else (if l1 = (-1) then (1 : Int32) <<< (l4 &&& 31) else (if (I3 (m + 13) ((3 * l4) + l2 : Int32).toNatClampNeg : Int32) = l1 then (1 : Int32) <<< (l4 &&& 31) else 0)))), .int (l3)] (I3, J, R, K, n) Q by
      refine zIf_eq 30 52 25 (by decide +kernel) rfl rfl ⟨fun q4 => ?_, fun q4 => ?_⟩
      · refine zIconst 0 0 53 (by decide +kernel) rfl (by decide) ?_
        exact zTop (by rw [if_pos q4]) KK
      · refine zIload_n 1 1 26 (by decide +kernel) rfl rfl ?_
        refine zIconst (-1) (-1) 27 (by decide +kernel) rfl (by decide) ?_
        refine zIcmp_eq 18 45 30 (by decide +kernel) rfl rfl ⟨fun q5 => ?_, fun q5 => ?_⟩
        · refine zIconst 1 1 46 (by decide +kernel) rfl (by decide) ?_
          refine zIload 4 4 48 (by decide +kernel) rfl rfl ?_
          refine zIshl 49 (by decide +kernel) rfl ?_
          refine zGoto 4 53 (by decide +kernel) rfl ?_
          exact zTop (by rw [if_neg q4, if_pos q5]) KK
        · refine zAload_n 0 0 31 (by decide +kernel) rfl rfl ?_
          refine gf12_32 61 34 (by decide +kernel) rfl flX12_61 (Mod_0 S0_) (Mod_25 S0_) ?_
          refine zIconst 3 3 35 (by decide +kernel) rfl (by decide) ?_
          refine zIload 4 4 37 (by decide +kernel) rfl rfl ?_
          refine zImul 38 (by decide +kernel) rfl ?_
          refine zIload_n 2 2 39 (by decide +kernel) rfl rfl ?_
          refine zIadd 40 (by decide +kernel) rfl ?_
          refine yIaload 231 41 (by decide +kernel) rfl (Mod_26 S0_) (w6 q4 q5) ?_
          refine zIload_n 1 1 42 (by decide +kernel) rfl rfl ?_
          refine zIcmp_ne 10 52 45 (by decide +kernel) rfl rfl ⟨fun q7 => ?_, fun q7 => ?_⟩
          · refine zIconst 0 0 53 (by decide +kernel) rfl (by decide) ?_
            exact zTop (by rw [if_neg q4, if_neg q5, if_neg q7]) KK
          · refine zIconst 1 1 46 (by decide +kernel) rfl (by decide) ?_
            refine zIload 4 4 48 (by decide +kernel) rfl rfl ?_
            refine zIshl 49 (by decide +kernel) rfl ?_
            refine zGoto 4 53 (by decide +kernel) rfl ?_
            exact zTop (by rw [if_neg q4, if_neg q5, if_pos q7]) KK
    refine zIor 54 (by decide +kernel) rfl ?_
    refine zIstore_n 3 [(3, .int (l3 ||| (if x2 = 0 then 0 else (if l1 = (-1) then (1 : Int32) <<< (l4 &&& 31) else (if (I3 (m + 13) ((3 * l4) + l2 : Int32).toNatClampNeg : Int32) = l1 then (1 : Int32) <<< (l4 &&& 31) else 0))))), (0, .ref (m)), (1, .int (l1)), (2, .int (l2)), (4, .int (l4))] 55 (by decide +kernel) rfl (by decide) rfl ?_
    refine zIinc 4 1 4 (l4 + 1) [(4, .int (l4 + 1)), (3, .int (l3 ||| (if x2 = 0 then 0 else (if l1 = (-1) then (1 : Int32) <<< (l4 &&& 31) else (if (I3 (m + 13) ((3 * l4) + l2 : Int32).toNatClampNeg : Int32) = l1 then (1 : Int32) <<< (l4 &&& 31) else 0))))), (0, .ref (m)), (1, .int (l1)), (2, .int (l2))] 58 (by decide +kernel) rfl rfl (by rfl) (by decide) rfl ?_
    refine zGoto (-53) 5 (by decide +kernel) rfl ?_
    exact zLoc [2, 3, 4, 1, 0] _ rfl F
set_option maxHeartbeats 2000000 in
theorem wX12_forgivesSet_0 {G : zG} {d kc ks : Nat} {I : Nat → Nat → Int32} {J : Nat → Nat → Int64} {R : Nat → Nat → Option Nat} {K : Nat → Nat × Nat} {n : Nat} {Q : Option Value → zH → Prop} (m t c : Nat) (S0_ : hMod G R K n m t c) (p1 : Int32) (F : zC G d mX12_copy 0 0 [.ref (m + 13), .ref (m + 14)] (I, J, R, K, n) (fun r h => ∃ (I1 : Nat → Nat → Int32), r = none ∧ h = (I1, J, R, K, n) ∧ zV G (d + 1) mX12_forgivesSet kc ks 15 [(0, .ref (m)), (1, .int (p1)), (2, .int (0)), (3, .int (0))] [] (I1, J, R, K, n) Q)) : zV G (d + 1) mX12_forgivesSet kc ks 0 [(0, .ref (m)), (1, .int (p1))] [] (I, J, R, K, n) Q := by
  refine zAload_n 0 0 1 (by decide +kernel) rfl rfl ?_
  refine gf12_32 61 4 (by decide +kernel) rfl flX12_61 (Mod_0 S0_) (Mod_25 S0_) ?_
  refine zAload_n 0 0 5 (by decide +kernel) rfl rfl ?_
  refine gf12_33 64 8 (by decide +kernel) rfl flX12_64 (Mod_0 S0_) (Mod_27 S0_) ?_
  refine zCallS mX12_copy 418 2 0 0 _ _ 11 [.ref (m + 13), .ref (m + 14)] [] okX12_copy mlX12_418 smX12_copy (by decide +kernel) rfl rfl (Nat.le_of_ble_eq_true rfl) rfl rfl (zC.mono F ?_)
  rintro _ _ ⟨I1, rfl, rfl, F⟩
  change zV G (d + 1) mX12_forgivesSet kc ks 11 [(0, .ref (m)), (1, .int (p1))] [] (I1, J, R, K, n) Q
  refine zIconst 0 0 12 (by decide +kernel) rfl (by decide) ?_
  refine zIstore_n 2 [(2, .int (0)), (0, .ref (m)), (1, .int (p1))] 13 (by decide +kernel) rfl (by decide) rfl ?_
  refine zIconst 0 0 14 (by decide +kernel) rfl (by decide) ?_
  refine zIstore_n 3 [(3, .int (0)), (2, .int (0)), (0, .ref (m)), (1, .int (p1))] 15 (by decide +kernel) rfl (by decide) rfl ?_
  exact zLoc [2, 3, 1, 0] _ rfl F
set_option maxHeartbeats 2000000 in
theorem wX12_forgivesSet_15 {G : zG} {d kc ks : Nat} {I : Nat → Nat → Int32} {J : Nat → Nat → Int64} {R : Nat → Nat → Option Nat} {K : Nat → Nat × Nat} {n : Nat} {Q : Option Value → zH → Prop} (m t c : Nat) (S0_ : hMod G R K n m t c) (l1 l2 l3 : Int32) (F : ((9 ≤ l3 → Q (some (.int (l2))) (I, J, R, K, n)) ∧ (¬ (9 ≤ l3) → zC G d mX12_has 0 0 [.int (l1), .int (l3)] (I, J, R, K, n) (fun r h => ∃ (x3 : Int32) (I4 : Nat → Nat → Int32), r = some (.int x3) ∧ h = (I4, J, R, K, n) ∧ ((x3 = 0 → zV G (d + 1) mX12_forgivesSet kc ks 15 [(0, .ref (m)), (1, .int (l1)), (2, .int (l2 + 0)), (3, .int (l3 + 1))] [] (I4, J, R, K, n) Q) ∧ (¬ (x3 = 0) → zC G d mX12_forgives 0 0 [.ref (m), .ref (m + 14), .int (l3)] (I4, J, R, K, n) (fun r h => ∃ (x6 : Int32) (I7 : Nat → Nat → Int32) (J8 : Nat → Nat → Int64) (R9 : Nat → Nat → Option Nat), r = some (.int x6) ∧ h = (I7, J8, R9, K, n) ∧ ∃ u10 u11 : Nat, hMod G R9 K n m u10 u11 ∧ zV G (d + 1) mX12_forgivesSet kc ks 15 [(0, .ref (m)), (1, .int (l1)), (2, .int (l2 + x6)), (3, .int (l3 + 1))] [] (I7, J8, R9, K, n) Q))))))) : zV G (d + 1) mX12_forgivesSet kc ks 15 [(0, .ref (m)), (1, .int (l1)), (2, .int (l2)), (3, .int (l3))] [] (I, J, R, K, n) Q := by
  refine zIload_n 3 3 16 (by decide +kernel) rfl rfl ?_
  refine zBipush 9 9 18 (by decide +kernel) rfl (by decide) ?_
  refine zIcmp_ge 33 51 21 (by decide +kernel) rfl rfl ⟨fun q2 => ?_, fun q2 => ?_⟩
  · replace F := F.1 q2
    refine zIload_n 2 2 52 (by decide +kernel) rfl rfl ?_
    exact zIret rfl (by decide +kernel) F
  · replace F := F.2 q2
    refine zIload_n 2 2 22 (by decide +kernel) rfl rfl ?_
    refine zIload_n 1 1 23 (by decide +kernel) rfl rfl ?_
    refine zIload_n 3 3 24 (by decide +kernel) rfl rfl ?_
    refine zCallS mX12_has 226 2 0 0 _ _ 27 [.int (l1), .int (l3)] [.int (l2)] okX12_has mlX12_226 smX12_has (by decide +kernel) rfl rfl (Nat.le_of_ble_eq_true rfl) rfl rfl (zC.mono F ?_)
    rintro _ _ ⟨x3, I4, rfl, rfl, F⟩
    change zV G (d + 1) mX12_forgivesSet kc ks 27 [(0, .ref (m)), (1, .int (l1)), (2, .int (l2)), (3, .int (l3))] [.int (x3), .int (l2)] (I4, J, R, K, n) Q
    refine zIf_eq 15 42 30 (by decide +kernel) rfl rfl ⟨fun q5 => ?_, fun q5 => ?_⟩
    · replace F := F.1 q5
      refine zIconst 0 0 43 (by decide +kernel) rfl (by decide) ?_
      refine zIadd 44 (by decide +kernel) rfl ?_
      refine zIstore_n 2 [(2, .int (l2 + 0)), (0, .ref (m)), (1, .int (l1)), (3, .int (l3))] 45 (by decide +kernel) rfl (by decide) rfl ?_
      refine zIinc 3 1 3 (l3 + 1) [(3, .int (l3 + 1)), (2, .int (l2 + 0)), (0, .ref (m)), (1, .int (l1))] 48 (by decide +kernel) rfl rfl (by rfl) (by decide) rfl ?_
      refine zGoto (-33) 15 (by decide +kernel) rfl ?_
      exact zLoc [2, 3, 1, 0] _ rfl F
    · replace F := F.2 q5
      refine zAload_n 0 0 31 (by decide +kernel) rfl rfl ?_
      refine zAload_n 0 0 32 (by decide +kernel) rfl rfl ?_
      refine gf12_33 64 35 (by decide +kernel) rfl flX12_64 (Mod_0 S0_) (Mod_27 S0_) ?_
      refine zIload_n 3 3 36 (by decide +kernel) rfl rfl ?_
      refine zCallV 12 zcls12 mX12_forgives 367 2 0 0 _ _ 39 [.ref (m + 14), .int (l3)] [.int (l2)] okX12_forgives mlX12_367 imX12_forgives seX12_forgives (by decide +kernel) rfl rfl (Nat.le_of_ble_eq_true rfl) rfl rfl (Mod_0 S0_) (zC.mono F ?_)
      rintro _ _ ⟨x6, I7, J8, R9, rfl, rfl, F⟩
      change zV G (d + 1) mX12_forgivesSet kc ks 39 [(0, .ref (m)), (1, .int (l1)), (2, .int (l2)), (3, .int (l3))] [.int (x6), .int (l2)] (I7, J8, R9, K, n) Q
      obtain ⟨u10, u11, S12, F⟩ := F
      refine zGoto 4 43 (by decide +kernel) rfl ?_
      refine zIadd 44 (by decide +kernel) rfl ?_
      refine zIstore_n 2 [(2, .int (l2 + x6)), (0, .ref (m)), (1, .int (l1)), (3, .int (l3))] 45 (by decide +kernel) rfl (by decide) rfl ?_
      refine zIinc 3 1 3 (l3 + 1) [(3, .int (l3 + 1)), (2, .int (l2 + x6)), (0, .ref (m)), (1, .int (l1))] 48 (by decide +kernel) rfl rfl (by rfl) (by decide) rfl ?_
      refine zGoto (-33) 15 (by decide +kernel) rfl ?_
      exact zLoc [2, 3, 1, 0] _ rfl F
set_option maxHeartbeats 2000000 in
theorem wX12_fewest_0 {G : zG} {d kc ks : Nat} {I : Nat → Nat → Int32} {J : Nat → Nat → Int64} {R : Nat → Nat → Option Nat} {K : Nat → Nat × Nat} {n : Nat} {Q : Option Value → zH → Prop} (m t c : Nat) (S0_ : hMod G R K n m t c) (p1 p2 : Int32) (F : zV G (d + 1) mX12_fewest kc ks 5 [(0, .ref (m)), (1, .int (p1)), (2, .int (p2)), (3, .int ((-1))), (4, .int (0))] [] (I, J, R, K, n) Q) : zV G (d + 1) mX12_fewest kc ks 0 [(0, .ref (m)), (1, .int (p1)), (2, .int (p2))] [] (I, J, R, K, n) Q := by
  refine zIconst (-1) (-1) 1 (by decide +kernel) rfl (by decide) ?_
  refine zIstore_n 3 [(3, .int ((-1))), (0, .ref (m)), (1, .int (p1)), (2, .int (p2))] 2 (by decide +kernel) rfl (by decide) rfl ?_
  refine zIconst 0 0 3 (by decide +kernel) rfl (by decide) ?_
  refine zIstore 4 [(4, .int (0)), (3, .int ((-1))), (0, .ref (m)), (1, .int (p1)), (2, .int (p2))] 5 (by decide +kernel) rfl (by decide) rfl ?_
  exact zLoc [2, 3, 4, 1, 0] _ rfl F
set_option maxHeartbeats 2000000 in
theorem wX12_fewest_5 {G : zG} {d kc ks : Nat} {I : Nat → Nat → Int32} {J : Nat → Nat → Int64} {R : Nat → Nat → Option Nat} {K : Nat → Nat × Nat} {n : Nat} {Q : Option Value → zH → Prop} (m t c : Nat) (S0_ : hMod G R K n m t c) (l1 l2 l3 l4 : Int32) (F : ((512 ≤ l4 → Q (some (.int (l3))) (I, J, R, K, n)) ∧ (¬ (512 ≤ l4) → (((l4 &&& (l1 ^^^ (-1)) : Int32) = 0 → ((l3 = (-1) → zC G d mX12_forgivesSet 0 0 [.ref (m), .int (l4)] (I, J, R, K, n) (fun r h => ∃ (x4 : Int32) (I5 : Nat → Nat → Int32) (J6 : Nat → Nat → Int64) (R7 : Nat → Nat → Option Nat), r = some (.int x4) ∧ h = (I5, J6, R7, K, n) ∧ ∃ u8 u9 : Nat, hMod G R7 K n m u8 u9 ∧ zC G d mX12_whites 0 0 [.ref (m), .ref (m + 14)] (I5, J6, R7, K, n) (fun r h => ∃ (x11 : Int32) (I12 : Nat → Nat → Int32), r = some (.int x11) ∧ h = (I12, J6, R7, K, n) ∧ (((l2 &&& (x11 ^^^ (-1)) : Int32) = 0 → zV G (d + 1) mX12_fewest kc ks 5 [(0, .ref (m)), (1, .int (l1)), (2, .int (l2)), (3, .int (l4)), (4, .int (l4 + 1))] [] (I12, J6, R7, K, n) Q) ∧ (¬ ((l2 &&& (x11 ^^^ (-1)) : Int32) = 0) → zV G (d + 1) mX12_fewest kc ks 5 [(0, .ref (m)), (1, .int (l1)), (2, .int (l2)), (3, .int (l3)), (4, .int (l4 + 1))] [] (I12, J6, R7, K, n) Q))))) ∧ (¬ (l3 = (-1)) → zC G d mJ6_bitCount_0f7a4 0 0 [.int (l4)] (I, J, R, K, n) (fun r h => ∃ (x14 : Int32), r = some (.int x14) ∧ h = (I, J, R, K, n) ∧ zC G d mJ6_bitCount_0f7a4 0 0 [.int (l3)] (I, J, R, K, n) (fun r h => ∃ (x15 : Int32), r = some (.int x15) ∧ h = (I, J, R, K, n) ∧ ((x14 < x15 → zC G d mX12_forgivesSet 0 0 [.ref (m), .int (l4)] (I, J, R, K, n) (fun r h => ∃ (x17 : Int32) (I18 : Nat → Nat → Int32) (J19 : Nat → Nat → Int64) (R20 : Nat → Nat → Option Nat), r = some (.int x17) ∧ h = (I18, J19, R20, K, n) ∧ ∃ u21 u22 : Nat, hMod G R20 K n m u21 u22 ∧ zC G d mX12_whites 0 0 [.ref (m), .ref (m + 14)] (I18, J19, R20, K, n) (fun r h => ∃ (x24 : Int32) (I25 : Nat → Nat → Int32), r = some (.int x24) ∧ h = (I25, J19, R20, K, n) ∧ (((l2 &&& (x24 ^^^ (-1)) : Int32) = 0 → zV G (d + 1) mX12_fewest kc ks 5 [(0, .ref (m)), (1, .int (l1)), (2, .int (l2)), (3, .int (l4)), (4, .int (l4 + 1))] [] (I25, J19, R20, K, n) Q) ∧ (¬ ((l2 &&& (x24 ^^^ (-1)) : Int32) = 0) → zV G (d + 1) mX12_fewest kc ks 5 [(0, .ref (m)), (1, .int (l1)), (2, .int (l2)), (3, .int (l3)), (4, .int (l4 + 1))] [] (I25, J19, R20, K, n) Q))))) ∧ (¬ (x14 < x15) → zV G (d + 1) mX12_fewest kc ks 5 [(0, .ref (m)), (1, .int (l1)), (2, .int (l2)), (3, .int (l3)), (4, .int (l4 + 1))] [] (I, J, R, K, n) Q))))))) ∧ (¬ ((l4 &&& (l1 ^^^ (-1)) : Int32) = 0) → zV G (d + 1) mX12_fewest kc ks 5 [(0, .ref (m)), (1, .int (l1)), (2, .int (l2)), (3, .int (l3)), (4, .int (l4 + 1))] [] (I, J, R, K, n) Q))))) : zV G (d + 1) mX12_fewest kc ks 5 [(0, .ref (m)), (1, .int (l1)), (2, .int (l2)), (3, .int (l3)), (4, .int (l4))] [] (I, J, R, K, n) Q := by
  refine zIload 4 4 7 (by decide +kernel) rfl rfl ?_
  refine zSipush 512 512 10 (by decide +kernel) rfl (by decide) ?_
  refine zIcmp_ge 64 74 13 (by decide +kernel) rfl rfl ⟨fun q1 => ?_, fun q1 => ?_⟩
  · replace F := F.1 q1
    refine zIload_n 3 3 75 (by decide +kernel) rfl rfl ?_
    exact zIret rfl (by decide +kernel) F
  · replace F := F.2 q1
    refine zIload 4 4 15 (by decide +kernel) rfl rfl ?_
    refine zIload_n 1 1 16 (by decide +kernel) rfl rfl ?_
    refine zIconst (-1) (-1) 17 (by decide +kernel) rfl (by decide) ?_
    refine zIxor 18 (by decide +kernel) rfl ?_
    refine zIand 19 (by decide +kernel) rfl ?_
    refine zIf_ne 49 68 22 (by decide +kernel) rfl rfl ⟨fun q2 => ?_, fun q2 => ?_⟩
    · replace F := F.2 q2
      refine zIinc 4 1 4 (l4 + 1) [(4, .int (l4 + 1)), (0, .ref (m)), (1, .int (l1)), (2, .int (l2)), (3, .int (l3))] 71 (by decide +kernel) rfl rfl (by rfl) (by decide) rfl ?_
      refine zGoto (-66) 5 (by decide +kernel) rfl ?_
      exact zLoc [1, 2, 3, 4, 0] _ rfl F
    · replace F := F.1 q2
      refine zIload_n 3 3 23 (by decide +kernel) rfl rfl ?_
      refine zIconst (-1) (-1) 24 (by decide +kernel) rfl (by decide) ?_
      refine zIcmp_eq 18 42 27 (by decide +kernel) rfl rfl ⟨fun q3 => ?_, fun q3 => ?_⟩
      · replace F := F.1 q3
        refine zAload_n 0 0 43 (by decide +kernel) rfl rfl ?_
        refine zIload 4 4 45 (by decide +kernel) rfl rfl ?_
        refine zCallV 12 zcls12 mX12_forgivesSet 428 1 0 0 _ _ 48 [.int (l4)] [] okX12_forgivesSet mlX12_428 imX12_forgivesSet seX12_forgivesSet (by decide +kernel) rfl rfl (Nat.le_of_ble_eq_true rfl) rfl rfl (Mod_0 S0_) (zC.mono F ?_)
        rintro _ _ ⟨x4, I5, J6, R7, rfl, rfl, F⟩
        change zV G (d + 1) mX12_fewest kc ks 48 [(0, .ref (m)), (1, .int (l1)), (2, .int (l2)), (3, .int (l3)), (4, .int (l4))] [.int (x4)] (I5, J6, R7, K, n) Q
        obtain ⟨u8, u9, S10, F⟩ := F
        refine zIstore 5 [(5, .int (x4)), (0, .ref (m)), (1, .int (l1)), (2, .int (l2)), (3, .int (l3)), (4, .int (l4))] 50 (by decide +kernel) rfl (by decide) rfl ?_
        refine zIload_n 2 3 51 (by decide +kernel) rfl rfl ?_
        refine zAload_n 0 1 52 (by decide +kernel) rfl rfl ?_
        refine zAload_n 0 1 53 (by decide +kernel) rfl rfl ?_
        refine gf12_33 64 56 (by decide +kernel) rfl flX12_64 (Mod_0 S10) (Mod_27 S10) ?_
        refine zCallV 12 zcls12 mX12_whites 348 1 0 0 _ _ 59 [.ref (m + 14)] [.int (l2)] okX12_whites mlX12_348 imX12_whites seX12_whites (by decide +kernel) rfl rfl (Nat.le_of_ble_eq_true rfl) rfl rfl (Mod_0 S10) (zC.mono F ?_)
        rintro _ _ ⟨x11, I12, rfl, rfl, F⟩
        change zV G (d + 1) mX12_fewest kc ks 59 [(5, .int (x4)), (0, .ref (m)), (1, .int (l1)), (2, .int (l2)), (3, .int (l3)), (4, .int (l4))] [.int (x11), .int (l2)] (I12, J6, R7, K, n) Q
        refine zIconst (-1) (-1) 60 (by decide +kernel) rfl (by decide) ?_
        refine zIxor 61 (by decide +kernel) rfl ?_
        refine zIand 62 (by decide +kernel) rfl ?_
        refine zIf_ne 6 68 65 (by decide +kernel) rfl rfl ⟨fun q13 => ?_, fun q13 => ?_⟩
        · replace F := F.2 q13
          refine zIinc 4 1 5 (l4 + 1) [(4, .int (l4 + 1)), (5, .int (x4)), (0, .ref (m)), (1, .int (l1)), (2, .int (l2)), (3, .int (l3))] 71 (by decide +kernel) rfl rfl (by rfl) (by decide) rfl ?_
          refine zGoto (-66) 5 (by decide +kernel) rfl ?_
          exact zLoc [2, 3, 4, 5, 0] _ rfl F
        · replace F := F.1 q13
          refine zIload 4 5 67 (by decide +kernel) rfl rfl ?_
          refine zIstore_n 3 [(3, .int (l4)), (5, .int (x4)), (0, .ref (m)), (1, .int (l1)), (2, .int (l2)), (4, .int (l4))] 68 (by decide +kernel) rfl (by decide) rfl ?_
          refine zIinc 4 1 5 (l4 + 1) [(4, .int (l4 + 1)), (3, .int (l4)), (5, .int (x4)), (0, .ref (m)), (1, .int (l1)), (2, .int (l2))] 71 (by decide +kernel) rfl rfl (by rfl) (by decide) rfl ?_
          refine zGoto (-66) 5 (by decide +kernel) rfl ?_
          exact zLoc [3, 4, 5, 1, 0] _ rfl F
      · replace F := F.2 q3
        refine zIload 4 4 29 (by decide +kernel) rfl rfl ?_
        refine zCallS mJ6_bitCount_0f7a4 351 1 0 0 _ _ 32 [.int (l4)] [] okJ6_bitCount_0f7a4 mlX12_351 smJ6_bitCount_0f7a4 (by decide +kernel) rfl rfl (Nat.le_of_ble_eq_true rfl) rfl rfl (zC.mono F ?_)
        rintro _ _ ⟨x14, rfl, rfl, F⟩
        change zV G (d + 1) mX12_fewest kc ks 32 [(0, .ref (m)), (1, .int (l1)), (2, .int (l2)), (3, .int (l3)), (4, .int (l4))] [.int (x14)] (I, J, R, K, n) Q
        refine zIload_n 3 3 33 (by decide +kernel) rfl rfl ?_
        refine zCallS mJ6_bitCount_0f7a4 351 1 0 0 _ _ 36 [.int (l3)] [.int (x14)] okJ6_bitCount_0f7a4 mlX12_351 smJ6_bitCount_0f7a4 (by decide +kernel) rfl rfl (Nat.le_of_ble_eq_true rfl) rfl rfl (zC.mono F ?_)
        rintro _ _ ⟨x15, rfl, rfl, F⟩
        change zV G (d + 1) mX12_fewest kc ks 36 [(0, .ref (m)), (1, .int (l1)), (2, .int (l2)), (3, .int (l3)), (4, .int (l4))] [.int (x15), .int (x14)] (I, J, R, K, n) Q
        refine zIcmp_lt 6 42 39 (by decide +kernel) rfl rfl ⟨fun q16 => ?_, fun q16 => ?_⟩
        · replace F := F.1 q16
          refine zAload_n 0 0 43 (by decide +kernel) rfl rfl ?_
          refine zIload 4 4 45 (by decide +kernel) rfl rfl ?_
          refine zCallV 12 zcls12 mX12_forgivesSet 428 1 0 0 _ _ 48 [.int (l4)] [] okX12_forgivesSet mlX12_428 imX12_forgivesSet seX12_forgivesSet (by decide +kernel) rfl rfl (Nat.le_of_ble_eq_true rfl) rfl rfl (Mod_0 S0_) (zC.mono F ?_)
          rintro _ _ ⟨x17, I18, J19, R20, rfl, rfl, F⟩
          change zV G (d + 1) mX12_fewest kc ks 48 [(0, .ref (m)), (1, .int (l1)), (2, .int (l2)), (3, .int (l3)), (4, .int (l4))] [.int (x17)] (I18, J19, R20, K, n) Q
          obtain ⟨u21, u22, S23, F⟩ := F
          refine zIstore 5 [(5, .int (x17)), (0, .ref (m)), (1, .int (l1)), (2, .int (l2)), (3, .int (l3)), (4, .int (l4))] 50 (by decide +kernel) rfl (by decide) rfl ?_
          refine zIload_n 2 3 51 (by decide +kernel) rfl rfl ?_
          refine zAload_n 0 1 52 (by decide +kernel) rfl rfl ?_
          refine zAload_n 0 1 53 (by decide +kernel) rfl rfl ?_
          refine gf12_33 64 56 (by decide +kernel) rfl flX12_64 (Mod_0 S23) (Mod_27 S23) ?_
          refine zCallV 12 zcls12 mX12_whites 348 1 0 0 _ _ 59 [.ref (m + 14)] [.int (l2)] okX12_whites mlX12_348 imX12_whites seX12_whites (by decide +kernel) rfl rfl (Nat.le_of_ble_eq_true rfl) rfl rfl (Mod_0 S23) (zC.mono F ?_)
          rintro _ _ ⟨x24, I25, rfl, rfl, F⟩
          change zV G (d + 1) mX12_fewest kc ks 59 [(5, .int (x17)), (0, .ref (m)), (1, .int (l1)), (2, .int (l2)), (3, .int (l3)), (4, .int (l4))] [.int (x24), .int (l2)] (I25, J19, R20, K, n) Q
          refine zIconst (-1) (-1) 60 (by decide +kernel) rfl (by decide) ?_
          refine zIxor 61 (by decide +kernel) rfl ?_
          refine zIand 62 (by decide +kernel) rfl ?_
          refine zIf_ne 6 68 65 (by decide +kernel) rfl rfl ⟨fun q26 => ?_, fun q26 => ?_⟩
          · replace F := F.2 q26
            refine zIinc 4 1 5 (l4 + 1) [(4, .int (l4 + 1)), (5, .int (x17)), (0, .ref (m)), (1, .int (l1)), (2, .int (l2)), (3, .int (l3))] 71 (by decide +kernel) rfl rfl (by rfl) (by decide) rfl ?_
            refine zGoto (-66) 5 (by decide +kernel) rfl ?_
            exact zLoc [2, 3, 4, 5, 0] _ rfl F
          · replace F := F.1 q26
            refine zIload 4 5 67 (by decide +kernel) rfl rfl ?_
            refine zIstore_n 3 [(3, .int (l4)), (5, .int (x17)), (0, .ref (m)), (1, .int (l1)), (2, .int (l2)), (4, .int (l4))] 68 (by decide +kernel) rfl (by decide) rfl ?_
            refine zIinc 4 1 5 (l4 + 1) [(4, .int (l4 + 1)), (3, .int (l4)), (5, .int (x17)), (0, .ref (m)), (1, .int (l1)), (2, .int (l2))] 71 (by decide +kernel) rfl rfl (by rfl) (by decide) rfl ?_
            refine zGoto (-66) 5 (by decide +kernel) rfl ?_
            exact zLoc [3, 4, 5, 1, 0] _ rfl F
        · replace F := F.2 q16
          refine zGoto 29 68 (by decide +kernel) rfl ?_
          refine zIinc 4 1 4 (l4 + 1) [(4, .int (l4 + 1)), (0, .ref (m)), (1, .int (l1)), (2, .int (l2)), (3, .int (l3))] 71 (by decide +kernel) rfl rfl (by rfl) (by decide) rfl ?_
          refine zGoto (-66) 5 (by decide +kernel) rfl ?_
          exact zLoc [1, 2, 3, 4, 0] _ rfl F
set_option maxHeartbeats 2000000 in
theorem wX12_told0_0 {G : zG} {d kc ks : Nat} {I : Nat → Nat → Int32} {J : Nat → Nat → Int64} {R : Nat → Nat → Option Nat} {K : Nat → Nat × Nat} {n : Nat} {Q : Option Value → zH → Prop}  (p0 p1 : Int32) (F : ((p0 = (-1) → Q (some (.int (p0))) (I, J, R, K, n)) ∧ (¬ (p0 = (-1)) → ((p1 = 0 → Q (some (.int (p0))) (I, J, R, K, n)) ∧ (¬ (p1 = 0) → zC G d mJ6_bitCount_0f7a4 0 0 [.int (p0)] (I, J, R, K, n) (fun r h => ∃ (x3 : Int32), r = some (.int x3) ∧ h = (I, J, R, K, n) ∧ Q (some (.int (x3))) (I, J, R, K, n))))))) : zV G (d + 1) mX12_told0 kc ks 0 [(0, .int (p0)), (1, .int (p1))] [] (I, J, R, K, n) Q := by
  refine zIload_n 0 0 1 (by decide +kernel) rfl rfl ?_
  refine zIconst (-1) (-1) 2 (by decide +kernel) rfl (by decide) ?_
  refine zIcmp_eq 7 9 5 (by decide +kernel) rfl rfl ⟨fun q1 => ?_, fun q1 => ?_⟩
  · replace F := F.1 q1
    refine zIload_n 0 0 10 (by decide +kernel) rfl rfl ?_
    refine zGoto 7 17 (by decide +kernel) rfl ?_
    exact zIret rfl (by decide +kernel) F
  · replace F := F.2 q1
    refine zIload_n 1 1 6 (by decide +kernel) rfl rfl ?_
    refine zIf_ne 7 13 9 (by decide +kernel) rfl rfl ⟨fun q2 => ?_, fun q2 => ?_⟩
    · replace F := F.2 q2
      refine zIload_n 0 0 14 (by decide +kernel) rfl rfl ?_
      refine zCallS mJ6_bitCount_0f7a4 351 1 0 0 _ _ 17 [.int (p0)] [] okJ6_bitCount_0f7a4 mlX12_351 smJ6_bitCount_0f7a4 (by decide +kernel) rfl rfl (Nat.le_of_ble_eq_true rfl) rfl rfl (zC.mono F ?_)
      rintro _ _ ⟨x3, rfl, rfl, F⟩
      change zV G (d + 1) mX12_told0 kc ks 17 [(0, .int (p0)), (1, .int (p1))] [.int (x3)] (I, J, R, K, n) Q
      exact zIret rfl (by decide +kernel) F
    · replace F := F.1 q2
      refine zIload_n 0 0 10 (by decide +kernel) rfl rfl ?_
      refine zGoto 7 17 (by decide +kernel) rfl ?_
      exact zIret rfl (by decide +kernel) F
set_option maxHeartbeats 2000000 in
theorem wX12_least_0 {G : zG} {d kc ks : Nat} {I : Nat → Nat → Int32} {J : Nat → Nat → Int64} {R : Nat → Nat → Option Nat} {K : Nat → Nat × Nat} {n : Nat} {Q : Option Value → zH → Prop} (m t c : Nat) (S0_ : hMod G R K n m t c) (p1 p2 : Int32) (F : (∀ I1 : Nat → Nat → Int32, I1 = zU I m 0 (0) → zC G d mX12_isFarm 0 0 [.ref (m), .int (p1)] (I1, J, R, K, n) (fun r h => ∃ (x2 : Int32) (I3 : Nat → Nat → Int32), r = some (.int x2) ∧ h = (I3, J, R, K, n) ∧ ((x2 = 0 → Q (some (.int ((-1)))) (I3, J, R, K, n)) ∧ (¬ (x2 = 0) → zC G d mX12_isIn 0 0 [.long (p2.toInt64), .long (0), .long (1)] (I3, J, R, K, n) (fun r h => ∃ (x5 : Int32) (I6 : Nat → Nat → Int32), r = some (.int x5) ∧ h = (I6, J, R, K, n) ∧ ((x5 = 0 → Q (some (.int ((-1)))) (I6, J, R, K, n)) ∧ (¬ (x5 = 0) → zC G d mX12_openOf 0 0 [.ref (m), .int (p1), .int (1)] (I6, J, R, K, n) (fun r h => ∃ (x8 : Int32) (I9 : Nat → Nat → Int32), r = some (.int x8) ∧ h = (I9, J, R, K, n) ∧ zC G d mX12_fewest 0 0 [.ref (m), .int (x8), .int ((1 : Int32) <<< (p1 &&& 31))] (I9, J, R, K, n) (fun r h => ∃ (x10 : Int32) (I11 : Nat → Nat → Int32) (J12 : Nat → Nat → Int64) (R13 : Nat → Nat → Option Nat), r = some (.int x10) ∧ h = (I11, J12, R13, K, n) ∧ ∃ u14 u15 : Nat, hMod G R13 K n m u14 u15 ∧ zC G d mX12_told0 0 0 [.int (x10), .int (p2)] (I11, J12, R13, K, n) (fun r h => ∃ (x17 : Int32) (I18 : Nat → Nat → Int32), r = some (.int x17) ∧ h = (I18, J12, R13, K, n) ∧ Q (some (.int (x17))) (I18, J12, R13, K, n)))))))))))) : zV G (d + 1) mX12_least kc ks 0 [(0, .ref (m)), (1, .int (p1)), (2, .int (p2))] [] (I, J, R, K, n) Q := by
  refine zAload_n 0 0 1 (by decide +kernel) rfl rfl ?_
  refine zIconst 0 0 2 (by decide +kernel) rfl (by decide) ?_
  refine pf12_0 93 5 (by decide +kernel) rfl flX12_93 (Mod_0 S0_) ?_
  replace F := F _ rfl
  generalize zU I m 0 (0) = I1 at F ⊢
  refine zAload_n 0 0 6 (by decide +kernel) rfl rfl ?_
  refine zIload_n 1 1 7 (by decide +kernel) rfl rfl ?_
  refine zCallV 12 zcls12 mX12_isFarm 306 1 0 0 _ _ 10 [.int (p1)] [] okX12_isFarm mlX12_306 imX12_isFarm seX12_isFarm (by decide +kernel) rfl rfl (Nat.le_of_ble_eq_true rfl) rfl rfl (Mod_0 S0_) (zC.mono F ?_)
  rintro _ _ ⟨x2, I3, rfl, rfl, F⟩
  change zV G (d + 1) mX12_least kc ks 10 [(0, .ref (m)), (1, .int (p1)), (2, .int (p2))] [.int (x2)] (I3, J, R, K, n) Q
  refine zIf_eq 33 43 13 (by decide +kernel) rfl rfl ⟨fun q4 => ?_, fun q4 => ?_⟩
  · replace F := F.1 q4
    refine zIconst (-1) (-1) 44 (by decide +kernel) rfl (by decide) ?_
    exact zIret rfl (by decide +kernel) F
  · replace F := F.2 q4
    refine zIload_n 2 2 14 (by decide +kernel) rfl rfl ?_
    refine zI2l 15 (by decide +kernel) rfl ?_
    refine zLconst 0 0 16 (by decide +kernel) rfl (by decide) ?_
    refine zLconst 1 1 17 (by decide +kernel) rfl (by decide) ?_
    refine zCallS mX12_isIn 214 3 0 0 _ _ 20 [.long (p2.toInt64), .long (0), .long (1)] [] okX12_isIn mlX12_214 smX12_isIn (by decide +kernel) rfl rfl (Nat.le_of_ble_eq_true rfl) rfl rfl (zC.mono F ?_)
    rintro _ _ ⟨x5, I6, rfl, rfl, F⟩
    change zV G (d + 1) mX12_least kc ks 20 [(0, .ref (m)), (1, .int (p1)), (2, .int (p2))] [.int (x5)] (I6, J, R, K, n) Q
    refine zIf_eq 23 43 23 (by decide +kernel) rfl rfl ⟨fun q7 => ?_, fun q7 => ?_⟩
    · replace F := F.1 q7
      refine zIconst (-1) (-1) 44 (by decide +kernel) rfl (by decide) ?_
      exact zIret rfl (by decide +kernel) F
    · replace F := F.2 q7
      refine zAload_n 0 0 24 (by decide +kernel) rfl rfl ?_
      refine zAload_n 0 0 25 (by decide +kernel) rfl rfl ?_
      refine zIload_n 1 1 26 (by decide +kernel) rfl rfl ?_
      refine zIconst 1 1 27 (by decide +kernel) rfl (by decide) ?_
      refine zCallV 12 zcls12 mX12_openOf 431 2 0 0 _ _ 30 [.int (p1), .int (1)] [.ref (m)] okX12_openOf mlX12_431 imX12_openOf seX12_openOf (by decide +kernel) rfl rfl (Nat.le_of_ble_eq_true rfl) rfl rfl (Mod_0 S0_) (zC.mono F ?_)
      rintro _ _ ⟨x8, I9, rfl, rfl, F⟩
      change zV G (d + 1) mX12_least kc ks 30 [(0, .ref (m)), (1, .int (p1)), (2, .int (p2))] [.int (x8), .ref (m)] (I9, J, R, K, n) Q
      refine zIconst 1 1 31 (by decide +kernel) rfl (by decide) ?_
      refine zIload_n 1 1 32 (by decide +kernel) rfl rfl ?_
      refine zIshl 33 (by decide +kernel) rfl ?_
      refine zCallV 12 zcls12 mX12_fewest 434 2 0 0 _ _ 36 [.int (x8), .int ((1 : Int32) <<< (p1 &&& 31))] [] okX12_fewest mlX12_434 imX12_fewest seX12_fewest (by decide +kernel) rfl rfl (Nat.le_of_ble_eq_true rfl) rfl rfl (Mod_0 S0_) (zC.mono F ?_)
      rintro _ _ ⟨x10, I11, J12, R13, rfl, rfl, F⟩
      change zV G (d + 1) mX12_least kc ks 36 [(0, .ref (m)), (1, .int (p1)), (2, .int (p2))] [.int (x10)] (I11, J12, R13, K, n) Q
      obtain ⟨u14, u15, S16, F⟩ := F
      refine zIload_n 2 2 37 (by decide +kernel) rfl rfl ?_
      refine zCallS mX12_told0 437 2 0 0 _ _ 40 [.int (x10), .int (p2)] [] okX12_told0 mlX12_437 smX12_told0 (by decide +kernel) rfl rfl (Nat.le_of_ble_eq_true rfl) rfl rfl (zC.mono F ?_)
      rintro _ _ ⟨x17, I18, rfl, rfl, F⟩
      change zV G (d + 1) mX12_least kc ks 40 [(0, .ref (m)), (1, .int (p1)), (2, .int (p2))] [.int (x17)] (I18, J12, R13, K, n) Q
      refine zGoto 4 44 (by decide +kernel) rfl ?_
      exact zIret rfl (by decide +kernel) F
set_option maxHeartbeats 2000000 in
theorem wX12_every_0 {G : zG} {d kc ks : Nat} {I : Nat → Nat → Int32} {J : Nat → Nat → Int64} {R : Nat → Nat → Option Nat} {K : Nat → Nat × Nat} {n : Nat} {Q : Option Value → zH → Prop} (m t c : Nat) (S0_ : hMod G R K n m t c) (p1 : Int32) (F : (∀ I1 : Nat → Nat → Int32, I1 = zU I m 0 (0) → (((I1 m 26 : Int32) ≤ 0 → Q (some (.int ((-1)))) (I1, J, R, K, n)) ∧ (¬ ((I1 m 26 : Int32) ≤ 0) → zC G d mX12_isIn 0 0 [.long (p1.toInt64), .long (0), .long (1)] (I1, J, R, K, n) (fun r h => ∃ (x3 : Int32) (I4 : Nat → Nat → Int32), r = some (.int x3) ∧ h = (I4, J, R, K, n) ∧ ((x3 = 0 → Q (some (.int ((-1)))) (I4, J, R, K, n)) ∧ (¬ (x3 = 0) → zC G d mX12_openOf 0 0 [.ref (m), .int ((-1)), .int (0)] (I4, J, R, K, n) (fun r h => ∃ (x6 : Int32) (I7 : Nat → Nat → Int32), r = some (.int x6) ∧ h = (I7, J, R, K, n) ∧ zC G d mX12_fewest 0 0 [.ref (m), .int (x6), .int (((1 : Int32) <<< ((I7 m 26 : Int32) &&& 31)) - 1)] (I7, J, R, K, n) (fun r h => ∃ (x8 : Int32) (I9 : Nat → Nat → Int32) (J10 : Nat → Nat → Int64) (R11 : Nat → Nat → Option Nat), r = some (.int x8) ∧ h = (I9, J10, R11, K, n) ∧ ∃ u12 u13 : Nat, hMod G R11 K n m u12 u13 ∧ zC G d mX12_told0 0 0 [.int (x8), .int (p1)] (I9, J10, R11, K, n) (fun r h => ∃ (x15 : Int32) (I16 : Nat → Nat → Int32), r = some (.int x15) ∧ h = (I16, J10, R11, K, n) ∧ Q (some (.int (x15))) (I16, J10, R11, K, n))))))))))) : zV G (d + 1) mX12_every kc ks 0 [(0, .ref (m)), (1, .int (p1))] [] (I, J, R, K, n) Q := by
  refine zAload_n 0 0 1 (by decide +kernel) rfl rfl ?_
  refine zIconst 0 0 2 (by decide +kernel) rfl (by decide) ?_
  refine pf12_0 93 5 (by decide +kernel) rfl flX12_93 (Mod_0 S0_) ?_
  replace F := F _ rfl
  generalize zU I m 0 (0) = I1 at F ⊢
  refine zAload_n 0 0 6 (by decide +kernel) rfl rfl ?_
  refine gf12_26 291 9 (by decide +kernel) rfl flX12_291 (Mod_0 S0_) ?_
  refine zIf_le 38 47 12 (by decide +kernel) rfl rfl ⟨fun q2 => ?_, fun q2 => ?_⟩
  · replace F := F.1 q2
    refine zIconst (-1) (-1) 48 (by decide +kernel) rfl (by decide) ?_
    exact zIret rfl (by decide +kernel) F
  · replace F := F.2 q2
    refine zIload_n 1 1 13 (by decide +kernel) rfl rfl ?_
    refine zI2l 14 (by decide +kernel) rfl ?_
    refine zLconst 0 0 15 (by decide +kernel) rfl (by decide) ?_
    refine zLconst 1 1 16 (by decide +kernel) rfl (by decide) ?_
    refine zCallS mX12_isIn 214 3 0 0 _ _ 19 [.long (p1.toInt64), .long (0), .long (1)] [] okX12_isIn mlX12_214 smX12_isIn (by decide +kernel) rfl rfl (Nat.le_of_ble_eq_true rfl) rfl rfl (zC.mono F ?_)
    rintro _ _ ⟨x3, I4, rfl, rfl, F⟩
    change zV G (d + 1) mX12_every kc ks 19 [(0, .ref (m)), (1, .int (p1))] [.int (x3)] (I4, J, R, K, n) Q
    refine zIf_eq 28 47 22 (by decide +kernel) rfl rfl ⟨fun q5 => ?_, fun q5 => ?_⟩
    · replace F := F.1 q5
      refine zIconst (-1) (-1) 48 (by decide +kernel) rfl (by decide) ?_
      exact zIret rfl (by decide +kernel) F
    · replace F := F.2 q5
      refine zAload_n 0 0 23 (by decide +kernel) rfl rfl ?_
      refine zAload_n 0 0 24 (by decide +kernel) rfl rfl ?_
      refine zIconst (-1) (-1) 25 (by decide +kernel) rfl (by decide) ?_
      refine zIconst 0 0 26 (by decide +kernel) rfl (by decide) ?_
      refine zCallV 12 zcls12 mX12_openOf 431 2 0 0 _ _ 29 [.int ((-1)), .int (0)] [.ref (m)] okX12_openOf mlX12_431 imX12_openOf seX12_openOf (by decide +kernel) rfl rfl (Nat.le_of_ble_eq_true rfl) rfl rfl (Mod_0 S0_) (zC.mono F ?_)
      rintro _ _ ⟨x6, I7, rfl, rfl, F⟩
      change zV G (d + 1) mX12_every kc ks 29 [(0, .ref (m)), (1, .int (p1))] [.int (x6), .ref (m)] (I7, J, R, K, n) Q
      refine zIconst 1 1 30 (by decide +kernel) rfl (by decide) ?_
      refine zAload_n 0 0 31 (by decide +kernel) rfl rfl ?_
      refine gf12_26 291 34 (by decide +kernel) rfl flX12_291 (Mod_0 S0_) ?_
      refine zIshl 35 (by decide +kernel) rfl ?_
      refine zIconst 1 1 36 (by decide +kernel) rfl (by decide) ?_
      refine zIsub 37 (by decide +kernel) rfl ?_
      refine zCallV 12 zcls12 mX12_fewest 434 2 0 0 _ _ 40 [.int (x6), .int (((1 : Int32) <<< ((I7 m 26 : Int32) &&& 31)) - 1)] [] okX12_fewest mlX12_434 imX12_fewest seX12_fewest (by decide +kernel) rfl rfl (Nat.le_of_ble_eq_true rfl) rfl rfl (Mod_0 S0_) (zC.mono F ?_)
      rintro _ _ ⟨x8, I9, J10, R11, rfl, rfl, F⟩
      change zV G (d + 1) mX12_every kc ks 40 [(0, .ref (m)), (1, .int (p1))] [.int (x8)] (I9, J10, R11, K, n) Q
      obtain ⟨u12, u13, S14, F⟩ := F
      refine zIload_n 1 1 41 (by decide +kernel) rfl rfl ?_
      refine zCallS mX12_told0 437 2 0 0 _ _ 44 [.int (x8), .int (p1)] [] okX12_told0 mlX12_437 smX12_told0 (by decide +kernel) rfl rfl (Nat.le_of_ble_eq_true rfl) rfl rfl (zC.mono F ?_)
      rintro _ _ ⟨x15, I16, rfl, rfl, F⟩
      change zV G (d + 1) mX12_every kc ks 44 [(0, .ref (m)), (1, .int (p1))] [.int (x15)] (I16, J10, R11, K, n) Q
      refine zGoto 4 48 (by decide +kernel) rfl ?_
      exact zIret rfl (by decide +kernel) F
set_option maxHeartbeats 2000000 in
theorem wX12_richest_0 {G : zG} {d kc ks : Nat} {I : Nat → Nat → Int32} {J : Nat → Nat → Int64} {R : Nat → Nat → Option Nat} {K : Nat → Nat × Nat} {n : Nat} {Q : Option Value → zH → Prop} (m t c : Nat) (S0_ : hMod G R K n m t c) (p1 p2 : Int32) (F : (∀ I1 : Nat → Nat → Int32, I1 = zU I m 0 (0) → (((I1 m 26 : Int32) = 0 → Q (some (.int ((-1)))) (I1, J, R, K, n)) ∧ (¬ ((I1 m 26 : Int32) = 0) → zC G d mX12_isIn 0 0 [.long (p1.toInt64), .long (0), .long (9)] (I1, J, R, K, n) (fun r h => ∃ (x3 : Int32) (I4 : Nat → Nat → Int32), r = some (.int x3) ∧ h = (I4, J, R, K, n) ∧ ((x3 = 0 → Q (some (.int ((-1)))) (I4, J, R, K, n)) ∧ (¬ (x3 = 0) → zC G d mX12_isIn 0 0 [.long (p2.toInt64), .long (0), .long (1)] (I4, J, R, K, n) (fun r h => ∃ (x6 : Int32) (I7 : Nat → Nat → Int32), r = some (.int x6) ∧ h = (I7, J, R, K, n) ∧ ((x6 = 0 → Q (some (.int ((-1)))) (I7, J, R, K, n)) ∧ (¬ (x6 = 0) → zC G d mX12_openOf 0 0 [.ref (m), .int ((-1)), .int (0)] (I7, J, R, K, n) (fun r h => ∃ (x9 : Int32) (I10 : Nat → Nat → Int32), r = some (.int x9) ∧ h = (I10, J, R, K, n) ∧ zV G (d + 1) mX12_richest kc ks 52 [(0, .ref (m)), (1, .int (p1)), (2, .int (p2)), (3, .int (x9)), (4, .int (0)), (5, .int (0)), (6, .int (1))] [] (I10, J, R, K, n) Q))))))))))) : zV G (d + 1) mX12_richest kc ks 0 [(0, .ref (m)), (1, .int (p1)), (2, .int (p2))] [] (I, J, R, K, n) Q := by
  refine zAload_n 0 0 1 (by decide +kernel) rfl rfl ?_
  refine zIconst 0 0 2 (by decide +kernel) rfl (by decide) ?_
  refine pf12_0 93 5 (by decide +kernel) rfl flX12_93 (Mod_0 S0_) ?_
  replace F := F _ rfl
  generalize zU I m 0 (0) = I1 at F ⊢
  refine zAload_n 0 0 6 (by decide +kernel) rfl rfl ?_
  refine gf12_26 291 9 (by decide +kernel) rfl flX12_291 (Mod_0 S0_) ?_
  refine zIf_eq 25 34 12 (by decide +kernel) rfl rfl ⟨fun q2 => ?_, fun q2 => ?_⟩
  · replace F := F.1 q2
    refine zIconst (-1) (-1) 35 (by decide +kernel) rfl (by decide) ?_
    exact zIret rfl (by decide +kernel) F
  · replace F := F.2 q2
    refine zIload_n 1 1 13 (by decide +kernel) rfl rfl ?_
    refine zI2l 14 (by decide +kernel) rfl ?_
    refine zLconst 0 0 15 (by decide +kernel) rfl (by decide) ?_
    refine zLdc2 342 9 18 (by decide +kernel) rfl klX12_342 ?_
    refine zCallS mX12_isIn 214 3 0 0 _ _ 21 [.long (p1.toInt64), .long (0), .long (9)] [] okX12_isIn mlX12_214 smX12_isIn (by decide +kernel) rfl rfl (Nat.le_of_ble_eq_true rfl) rfl rfl (zC.mono F ?_)
    rintro _ _ ⟨x3, I4, rfl, rfl, F⟩
    change zV G (d + 1) mX12_richest kc ks 21 [(0, .ref (m)), (1, .int (p1)), (2, .int (p2))] [.int (x3)] (I4, J, R, K, n) Q
    refine zIf_eq 13 34 24 (by decide +kernel) rfl rfl ⟨fun q5 => ?_, fun q5 => ?_⟩
    · replace F := F.1 q5
      refine zIconst (-1) (-1) 35 (by decide +kernel) rfl (by decide) ?_
      exact zIret rfl (by decide +kernel) F
    · replace F := F.2 q5
      refine zIload_n 2 2 25 (by decide +kernel) rfl rfl ?_
      refine zI2l 26 (by decide +kernel) rfl ?_
      refine zLconst 0 0 27 (by decide +kernel) rfl (by decide) ?_
      refine zLconst 1 1 28 (by decide +kernel) rfl (by decide) ?_
      refine zCallS mX12_isIn 214 3 0 0 _ _ 31 [.long (p2.toInt64), .long (0), .long (1)] [] okX12_isIn mlX12_214 smX12_isIn (by decide +kernel) rfl rfl (Nat.le_of_ble_eq_true rfl) rfl rfl (zC.mono F ?_)
      rintro _ _ ⟨x6, I7, rfl, rfl, F⟩
      change zV G (d + 1) mX12_richest kc ks 31 [(0, .ref (m)), (1, .int (p1)), (2, .int (p2))] [.int (x6)] (I7, J, R, K, n) Q
      refine zIf_ne 5 36 34 (by decide +kernel) rfl rfl ⟨fun q8 => ?_, fun q8 => ?_⟩
      · replace F := F.2 q8
        refine zAload_n 0 0 37 (by decide +kernel) rfl rfl ?_
        refine zIconst (-1) (-1) 38 (by decide +kernel) rfl (by decide) ?_
        refine zIconst 0 0 39 (by decide +kernel) rfl (by decide) ?_
        refine zCallV 12 zcls12 mX12_openOf 431 2 0 0 _ _ 42 [.int ((-1)), .int (0)] [] okX12_openOf mlX12_431 imX12_openOf seX12_openOf (by decide +kernel) rfl rfl (Nat.le_of_ble_eq_true rfl) rfl rfl (Mod_0 S0_) (zC.mono F ?_)
        rintro _ _ ⟨x9, I10, rfl, rfl, F⟩
        change zV G (d + 1) mX12_richest kc ks 42 [(0, .ref (m)), (1, .int (p1)), (2, .int (p2))] [.int (x9)] (I10, J, R, K, n) Q
        refine zIstore_n 3 [(3, .int (x9)), (0, .ref (m)), (1, .int (p1)), (2, .int (p2))] 43 (by decide +kernel) rfl (by decide) rfl ?_
        refine zIconst 0 0 44 (by decide +kernel) rfl (by decide) ?_
        refine zIstore 4 [(4, .int (0)), (3, .int (x9)), (0, .ref (m)), (1, .int (p1)), (2, .int (p2))] 46 (by decide +kernel) rfl (by decide) rfl ?_
        refine zIconst 0 0 47 (by decide +kernel) rfl (by decide) ?_
        refine zIstore 5 [(5, .int (0)), (4, .int (0)), (3, .int (x9)), (0, .ref (m)), (1, .int (p1)), (2, .int (p2))] 49 (by decide +kernel) rfl (by decide) rfl ?_
        refine zIconst 1 1 50 (by decide +kernel) rfl (by decide) ?_
        refine zIstore 6 [(6, .int (1)), (5, .int (0)), (4, .int (0)), (3, .int (x9)), (0, .ref (m)), (1, .int (p1)), (2, .int (p2))] 52 (by decide +kernel) rfl (by decide) rfl ?_
        exact zLoc [4, 5, 6, 3, 2, 1, 0] _ rfl F
      · replace F := F.1 q8
        refine zIconst (-1) (-1) 35 (by decide +kernel) rfl (by decide) ?_
        exact zIret rfl (by decide +kernel) F
set_option maxHeartbeats 2000000 in
theorem wX12_richest_52 {G : zG} {d kc ks : Nat} {I : Nat → Nat → Int32} {J : Nat → Nat → Int64} {R : Nat → Nat → Option Nat} {K : Nat → Nat × Nat} {n : Nat} {Q : Option Value → zH → Prop} (m t c : Nat) (S0_ : hMod G R K n m t c) (l1 l2 l3 l4 l5 l6 : Int32) (F : ((512 ≤ l6 → Q (some (.int ((if l2 = 0 then l4 else l5)))) (I, J, R, K, n)) ∧ (¬ (512 ≤ l6) → (((l6 &&& (l3 ^^^ (-1)) : Int32) = 0 → zC G d mJ6_bitCount_0f7a4 0 0 [.int (l6)] (I, J, R, K, n) (fun r h => ∃ (x14 : Int32), r = some (.int x14) ∧ h = (I, J, R, K, n) ∧ ((x14 ≤ l1 → zC G d mX12_forgivesSet 0 0 [.ref (m), .int (l6)] (I, J, R, K, n) (fun r h => ∃ (x16 : Int32) (I17 : Nat → Nat → Int32) (J18 : Nat → Nat → Int64) (R19 : Nat → Nat → Option Nat), r = some (.int x16) ∧ h = (I17, J18, R19, K, n) ∧ ∃ u20 u21 : Nat, hMod G R19 K n m u20 u21 ∧ ((x16 < l5 → zV G (d + 1) mX12_richest kc ks 52 [(0, .ref (m)), (1, .int (l1)), (2, .int (l2)), (3, .int (l3)), (4, .int (l4)), (5, .int (l5)), (6, .int (l6 + 1))] [] (I17, J18, R19, K, n) Q) ∧ (¬ (x16 < l5) → ((x16 = l5 → zC G d mJ6_bitCount_0f7a4 0 0 [.int (l6)] (I17, J18, R19, K, n) (fun r h => ∃ (x25 : Int32), r = some (.int x25) ∧ h = (I17, J18, R19, K, n) ∧ zC G d mJ6_bitCount_0f7a4 0 0 [.int (l4)] (I17, J18, R19, K, n) (fun r h => ∃ (x26 : Int32), r = some (.int x26) ∧ h = (I17, J18, R19, K, n) ∧ ((x25 < x26 → zV G (d + 1) mX12_richest kc ks 52 [(0, .ref (m)), (1, .int (l1)), (2, .int (l2)), (3, .int (l3)), (4, .int (l6)), (5, .int (x16)), (6, .int (l6 + 1))] [] (I17, J18, R19, K, n) Q) ∧ (¬ (x25 < x26) → zV G (d + 1) mX12_richest kc ks 52 [(0, .ref (m)), (1, .int (l1)), (2, .int (l2)), (3, .int (l3)), (4, .int (l4)), (5, .int (l5)), (6, .int (l6 + 1))] [] (I17, J18, R19, K, n) Q))))) ∧ (¬ (x16 = l5) → zV G (d + 1) mX12_richest kc ks 52 [(0, .ref (m)), (1, .int (l1)), (2, .int (l2)), (3, .int (l3)), (4, .int (l6)), (5, .int (x16)), (6, .int (l6 + 1))] [] (I17, J18, R19, K, n) Q)))))) ∧ (¬ (x14 ≤ l1) → zV G (d + 1) mX12_richest kc ks 52 [(0, .ref (m)), (1, .int (l1)), (2, .int (l2)), (3, .int (l3)), (4, .int (l4)), (5, .int (l5)), (6, .int (l6 + 1))] [] (I, J, R, K, n) Q)))) ∧ (¬ ((l6 &&& (l3 ^^^ (-1)) : Int32) = 0) → zV G (d + 1) mX12_richest kc ks 52 [(0, .ref (m)), (1, .int (l1)), (2, .int (l2)), (3, .int (l3)), (4, .int (l4)), (5, .int (l5)), (6, .int (l6 + 1))] [] (I, J, R, K, n) Q))))) : zV G (d + 1) mX12_richest kc ks 52 [(0, .ref (m)), (1, .int (l1)), (2, .int (l2)), (3, .int (l3)), (4, .int (l4)), (5, .int (l5)), (6, .int (l6))] [] (I, J, R, K, n) Q := by
  refine zIload 6 6 54 (by decide +kernel) rfl rfl ?_
  refine zSipush 512 512 57 (by decide +kernel) rfl (by decide) ?_
  refine zIcmp_ge 76 133 60 (by decide +kernel) rfl rfl ⟨fun q11 => ?_, fun q11 => ?_⟩
  · replace F := F.1 q11
    refine zIload_n 2 2 134 (by decide +kernel) rfl rfl ?_
    suffices KK : zV G (d + 1) mX12_richest kc ks 144 [(0, .ref (m)), (1, .int (l1)), (2, .int (l2)), (3, .int (l3)), (4, .int (l4)), (5, .int (l5)), (6, .int (l6))] [.int ((if l2 = 0 then l4 else l5))] (I, J, R, K, n) Q by
      refine zIf_ne 8 142 137 (by decide +kernel) rfl rfl ⟨fun q12 => ?_, fun q12 => ?_⟩
      · refine zIload 5 5 144 (by decide +kernel) rfl rfl ?_
        exact zTop (by rw [if_neg q12]) KK
      · refine zIload 4 4 139 (by decide +kernel) rfl rfl ?_
        refine zGoto 5 144 (by decide +kernel) rfl ?_
        exact zTop (by rw [if_pos q12]) KK
    exact zIret rfl (by decide +kernel) F
  · replace F := F.2 q11
    refine zIload 6 6 62 (by decide +kernel) rfl rfl ?_
    refine zIload_n 3 3 63 (by decide +kernel) rfl rfl ?_
    refine zIconst (-1) (-1) 64 (by decide +kernel) rfl (by decide) ?_
    refine zIxor 65 (by decide +kernel) rfl ?_
    refine zIand 66 (by decide +kernel) rfl ?_
    refine zIf_ne 61 127 69 (by decide +kernel) rfl rfl ⟨fun q13 => ?_, fun q13 => ?_⟩
    · replace F := F.2 q13
      refine zIinc 6 1 6 (l6 + 1) [(6, .int (l6 + 1)), (0, .ref (m)), (1, .int (l1)), (2, .int (l2)), (3, .int (l3)), (4, .int (l4)), (5, .int (l5))] 130 (by decide +kernel) rfl rfl (by rfl) (by decide) rfl ?_
      refine zGoto (-78) 52 (by decide +kernel) rfl ?_
      exact zLoc [1, 2, 3, 4, 5, 6, 0] _ rfl F
    · replace F := F.1 q13
      refine zIload 6 6 71 (by decide +kernel) rfl rfl ?_
      refine zCallS mJ6_bitCount_0f7a4 351 1 0 0 _ _ 74 [.int (l6)] [] okJ6_bitCount_0f7a4 mlX12_351 smJ6_bitCount_0f7a4 (by decide +kernel) rfl rfl (Nat.le_of_ble_eq_true rfl) rfl rfl (zC.mono F ?_)
      rintro _ _ ⟨x14, rfl, rfl, F⟩
      change zV G (d + 1) mX12_richest kc ks 74 [(0, .ref (m)), (1, .int (l1)), (2, .int (l2)), (3, .int (l3)), (4, .int (l4)), (5, .int (l5)), (6, .int (l6))] [.int (x14)] (I, J, R, K, n) Q
      refine zIload_n 1 1 75 (by decide +kernel) rfl rfl ?_
      refine zIcmp_le 6 81 78 (by decide +kernel) rfl rfl ⟨fun q15 => ?_, fun q15 => ?_⟩
      · replace F := F.1 q15
        refine zAload_n 0 0 82 (by decide +kernel) rfl rfl ?_
        refine zIload 6 6 84 (by decide +kernel) rfl rfl ?_
        refine zCallV 12 zcls12 mX12_forgivesSet 428 1 0 0 _ _ 87 [.int (l6)] [] okX12_forgivesSet mlX12_428 imX12_forgivesSet seX12_forgivesSet (by decide +kernel) rfl rfl (Nat.le_of_ble_eq_true rfl) rfl rfl (Mod_0 S0_) (zC.mono F ?_)
        rintro _ _ ⟨x16, I17, J18, R19, rfl, rfl, F⟩
        change zV G (d + 1) mX12_richest kc ks 87 [(0, .ref (m)), (1, .int (l1)), (2, .int (l2)), (3, .int (l3)), (4, .int (l4)), (5, .int (l5)), (6, .int (l6))] [.int (x16)] (I17, J18, R19, K, n) Q
        obtain ⟨u20, u21, S22, F⟩ := F
        refine zIstore 7 [(7, .int (x16)), (0, .ref (m)), (1, .int (l1)), (2, .int (l2)), (3, .int (l3)), (4, .int (l4)), (5, .int (l5)), (6, .int (l6))] 89 (by decide +kernel) rfl (by decide) rfl ?_
        refine zIload 7 0 91 (by decide +kernel) rfl rfl ?_
        refine zIload 5 6 93 (by decide +kernel) rfl rfl ?_
        refine zIcmp_lt 34 127 96 (by decide +kernel) rfl rfl ⟨fun q23 => ?_, fun q23 => ?_⟩
        · replace F := F.1 q23
          refine zIinc 6 1 7 (l6 + 1) [(6, .int (l6 + 1)), (7, .int (x16)), (0, .ref (m)), (1, .int (l1)), (2, .int (l2)), (3, .int (l3)), (4, .int (l4)), (5, .int (l5))] 130 (by decide +kernel) rfl rfl (by rfl) (by decide) rfl ?_
          refine zGoto (-78) 52 (by decide +kernel) rfl ?_
          exact zLoc [2, 3, 4, 5, 6, 7, 0] _ rfl F
        · replace F := F.2 q23
          refine zIload 7 0 98 (by decide +kernel) rfl rfl ?_
          refine zIload 5 6 100 (by decide +kernel) rfl rfl ?_
          refine zIcmp_ne 19 119 103 (by decide +kernel) rfl rfl ⟨fun q24 => ?_, fun q24 => ?_⟩
          · replace F := F.2 q24
            refine zIload 6 7 121 (by decide +kernel) rfl rfl ?_
            refine zIstore 4 [(4, .int (l6)), (7, .int (x16)), (0, .ref (m)), (1, .int (l1)), (2, .int (l2)), (3, .int (l3)), (5, .int (l5)), (6, .int (l6))] 123 (by decide +kernel) rfl (by decide) rfl ?_
            refine zIload 7 1 125 (by decide +kernel) rfl rfl ?_
            refine zIstore 5 [(5, .int (x16)), (4, .int (l6)), (7, .int (x16)), (0, .ref (m)), (1, .int (l1)), (2, .int (l2)), (3, .int (l3)), (6, .int (l6))] 127 (by decide +kernel) rfl (by decide) rfl ?_
            refine zIinc 6 1 7 (l6 + 1) [(6, .int (l6 + 1)), (5, .int (x16)), (4, .int (l6)), (7, .int (x16)), (0, .ref (m)), (1, .int (l1)), (2, .int (l2)), (3, .int (l3))] 130 (by decide +kernel) rfl rfl (by rfl) (by decide) rfl ?_
            refine zGoto (-78) 52 (by decide +kernel) rfl ?_
            exact zLoc [4, 5, 6, 7, 2, 1, 0] _ rfl F
          · replace F := F.1 q24
            refine zIload 6 7 105 (by decide +kernel) rfl rfl ?_
            refine zCallS mJ6_bitCount_0f7a4 351 1 0 0 _ _ 108 [.int (l6)] [] okJ6_bitCount_0f7a4 mlX12_351 smJ6_bitCount_0f7a4 (by decide +kernel) rfl rfl (Nat.le_of_ble_eq_true rfl) rfl rfl (zC.mono F ?_)
            rintro _ _ ⟨x25, rfl, rfl, F⟩
            change zV G (d + 1) mX12_richest kc ks 108 [(7, .int (x16)), (0, .ref (m)), (1, .int (l1)), (2, .int (l2)), (3, .int (l3)), (4, .int (l4)), (5, .int (l5)), (6, .int (l6))] [.int (x25)] (I17, J18, R19, K, n) Q
            refine zIload 4 5 110 (by decide +kernel) rfl rfl ?_
            refine zCallS mJ6_bitCount_0f7a4 351 1 0 0 _ _ 113 [.int (l4)] [.int (x25)] okJ6_bitCount_0f7a4 mlX12_351 smJ6_bitCount_0f7a4 (by decide +kernel) rfl rfl (Nat.le_of_ble_eq_true rfl) rfl rfl (zC.mono F ?_)
            rintro _ _ ⟨x26, rfl, rfl, F⟩
            change zV G (d + 1) mX12_richest kc ks 113 [(7, .int (x16)), (0, .ref (m)), (1, .int (l1)), (2, .int (l2)), (3, .int (l3)), (4, .int (l4)), (5, .int (l5)), (6, .int (l6))] [.int (x26), .int (x25)] (I17, J18, R19, K, n) Q
            refine zIcmp_lt 6 119 116 (by decide +kernel) rfl rfl ⟨fun q27 => ?_, fun q27 => ?_⟩
            · replace F := F.1 q27
              refine zIload 6 7 121 (by decide +kernel) rfl rfl ?_
              refine zIstore 4 [(4, .int (l6)), (7, .int (x16)), (0, .ref (m)), (1, .int (l1)), (2, .int (l2)), (3, .int (l3)), (5, .int (l5)), (6, .int (l6))] 123 (by decide +kernel) rfl (by decide) rfl ?_
              refine zIload 7 1 125 (by decide +kernel) rfl rfl ?_
              refine zIstore 5 [(5, .int (x16)), (4, .int (l6)), (7, .int (x16)), (0, .ref (m)), (1, .int (l1)), (2, .int (l2)), (3, .int (l3)), (6, .int (l6))] 127 (by decide +kernel) rfl (by decide) rfl ?_
              refine zIinc 6 1 7 (l6 + 1) [(6, .int (l6 + 1)), (5, .int (x16)), (4, .int (l6)), (7, .int (x16)), (0, .ref (m)), (1, .int (l1)), (2, .int (l2)), (3, .int (l3))] 130 (by decide +kernel) rfl rfl (by rfl) (by decide) rfl ?_
              refine zGoto (-78) 52 (by decide +kernel) rfl ?_
              exact zLoc [4, 5, 6, 7, 2, 1, 0] _ rfl F
            · replace F := F.2 q27
              refine zGoto 11 127 (by decide +kernel) rfl ?_
              refine zIinc 6 1 7 (l6 + 1) [(6, .int (l6 + 1)), (7, .int (x16)), (0, .ref (m)), (1, .int (l1)), (2, .int (l2)), (3, .int (l3)), (4, .int (l4)), (5, .int (l5))] 130 (by decide +kernel) rfl rfl (by rfl) (by decide) rfl ?_
              refine zGoto (-78) 52 (by decide +kernel) rfl ?_
              exact zLoc [2, 3, 4, 5, 6, 7, 0] _ rfl F
      · replace F := F.2 q15
        refine zGoto 49 127 (by decide +kernel) rfl ?_
        refine zIinc 6 1 6 (l6 + 1) [(6, .int (l6 + 1)), (0, .ref (m)), (1, .int (l1)), (2, .int (l2)), (3, .int (l3)), (4, .int (l4)), (5, .int (l5))] 130 (by decide +kernel) rfl rfl (by rfl) (by decide) rfl ?_
        refine zGoto (-78) 52 (by decide +kernel) rfl ?_
        exact zLoc [1, 2, 3, 4, 5, 6, 0] _ rfl F
set_option maxHeartbeats 2000000 in
theorem wX12_goPairs_0 {G : zG} {d kc ks : Nat} {I : Nat → Nat → Int32} {J : Nat → Nat → Int64} {R : Nat → Nat → Option Nat} {K : Nat → Nat × Nat} {n : Nat} {Q : Option Value → zH → Prop} (m t c : Nat) (S0_ : hMod G R K n m t c) (p1 p2 p3 p4 : Int32) (F : ((p1 = (I m 26 : Int32) → (((I m 41 : Int32) = (-1) → (∀ I3 : Nat → Nat → Int32, I3 = zU I m 41 (p4) → (∀ I4 : Nat → Nat → Int32, I4 = zU I3 m 42 (p3) → Q none (I4, J, R, K, n)))) ∧ (¬ ((I m 41 : Int32) = (-1)) → (((I m 42 : Int32) < p3 → (∀ I6 : Nat → Nat → Int32, I6 = zU I m 41 (p4) → (∀ I7 : Nat → Nat → Int32, I7 = zU I6 m 42 (p3) → Q none (I7, J, R, K, n)))) ∧ (¬ ((I m 42 : Int32) < p3) → Q none (I, J, R, K, n)))))) ∧ (¬ (p1 = (I m 26 : Int32)) → zV G (d + 1) mX12_goPairs kc ks 40 [(0, .ref (m)), (1, .int (p1)), (2, .int (p2)), (3, .int (p3)), (4, .int (p4)), (5, .int (0))] [] (I, J, R, K, n) Q))) : zV G (d + 1) mX12_goPairs kc ks 0 [(0, .ref (m)), (1, .int (p1)), (2, .int (p2)), (3, .int (p3)), (4, .int (p4))] [] (I, J, R, K, n) Q := by
  refine zIload_n 1 1 1 (by decide +kernel) rfl rfl ?_
  refine zAload_n 0 0 2 (by decide +kernel) rfl rfl ?_
  refine gf12_26 291 5 (by decide +kernel) rfl flX12_291 (Mod_0 S0_) ?_
  refine zIcmp_ne 32 37 8 (by decide +kernel) rfl rfl ⟨fun q1 => ?_, fun q1 => ?_⟩
  · replace F := F.2 q1
    refine zIconst 0 0 38 (by decide +kernel) rfl (by decide) ?_
    refine zIstore 5 [(5, .int (0)), (0, .ref (m)), (1, .int (p1)), (2, .int (p2)), (3, .int (p3)), (4, .int (p4))] 40 (by decide +kernel) rfl (by decide) rfl ?_
    exact zLoc [1, 2, 3, 4, 5, 0] _ rfl F
  · replace F := F.1 q1
    refine zAload_n 0 0 9 (by decide +kernel) rfl rfl ?_
    refine gf12_41 440 12 (by decide +kernel) rfl flX12_440 (Mod_0 S0_) ?_
    refine zIconst (-1) (-1) 13 (by decide +kernel) rfl (by decide) ?_
    refine zIcmp_eq 12 25 16 (by decide +kernel) rfl rfl ⟨fun q2 => ?_, fun q2 => ?_⟩
    · replace F := F.1 q2
      refine zAload_n 0 0 26 (by decide +kernel) rfl rfl ?_
      refine zIload 4 4 28 (by decide +kernel) rfl rfl ?_
      refine pf12_41 440 31 (by decide +kernel) rfl flX12_440 (Mod_0 S0_) ?_
      replace F := F _ rfl
      generalize zU I m 41 (p4) = I3 at F ⊢
      refine zAload_n 0 0 32 (by decide +kernel) rfl rfl ?_
      refine zIload_n 3 3 33 (by decide +kernel) rfl rfl ?_
      refine pf12_42 443 36 (by decide +kernel) rfl flX12_443 (Mod_0 S0_) ?_
      replace F := F _ rfl
      generalize zU I3 m 42 (p3) = I4 at F ⊢
      exact zVret rfl (by decide +kernel) F
    · replace F := F.2 q2
      refine zIload_n 3 3 17 (by decide +kernel) rfl rfl ?_
      refine zAload_n 0 0 18 (by decide +kernel) rfl rfl ?_
      refine gf12_42 443 21 (by decide +kernel) rfl flX12_443 (Mod_0 S0_) ?_
      refine zIcmp_gt 4 25 24 (by decide +kernel) rfl rfl ⟨fun q5 => ?_, fun q5 => ?_⟩
      · replace F := F.1 q5
        refine zAload_n 0 0 26 (by decide +kernel) rfl rfl ?_
        refine zIload 4 4 28 (by decide +kernel) rfl rfl ?_
        refine pf12_41 440 31 (by decide +kernel) rfl flX12_440 (Mod_0 S0_) ?_
        replace F := F _ rfl
        generalize zU I m 41 (p4) = I6 at F ⊢
        refine zAload_n 0 0 32 (by decide +kernel) rfl rfl ?_
        refine zIload_n 3 3 33 (by decide +kernel) rfl rfl ?_
        refine pf12_42 443 36 (by decide +kernel) rfl flX12_443 (Mod_0 S0_) ?_
        replace F := F _ rfl
        generalize zU I6 m 42 (p3) = I7 at F ⊢
        exact zVret rfl (by decide +kernel) F
      · replace F := F.2 q5
        exact zVret rfl (by decide +kernel) F
set_option maxHeartbeats 2000000 in
theorem wX12_goPairs_40 {G : zG} {d kc ks : Nat} {I : Nat → Nat → Int32} {J : Nat → Nat → Int64} {R : Nat → Nat → Option Nat} {K : Nat → Nat × Nat} {n : Nat} {Q : Option Value → zH → Prop} (m t c : Nat) (S0_ : hMod G R K n m t c) (l1 l2 l3 l4 l5 : Int32) (F : ((9 ≤ l5 → zC G d mX12_goPairs 0 0 [.ref (m), .int (l1 + 1), .int (l2), .int (l3), .int ((10 * l4) + 9)] (I, J, R, K, n) (fun r h => ∃ (I9 : Nat → Nat → Int32) (J10 : Nat → Nat → Int64) (R11 : Nat → Nat → Option Nat), r = none ∧ h = (I9, J10, R11, K, n) ∧ ∃ u12 u13 : Nat, hMod G R11 K n m u12 u13 ∧ Q none (I9, J10, R11, K, n))) ∧ (¬ (9 ≤ l5) → zC G d mX12_isOpen 0 0 [.ref (m + 13), .int (l5)] (I, J, R, K, n) (fun r h => ∃ (x15 : Int32) (I16 : Nat → Nat → Int32), r = some (.int x15) ∧ h = (I16, J, R, K, n) ∧ ((x15 = 0 → zV G (d + 1) mX12_goPairs kc ks 40 [(0, .ref (m)), (1, .int (l1)), (2, .int (l2)), (3, .int (l3)), (4, .int (l4)), (5, .int (l5 + 1))] [] (I16, J, R, K, n) Q) ∧ (¬ (x15 = 0) → ((vp_in ((3 * l5) + 1) 231) ∧ (((I16 (m + 13) ((3 * l5) + 1 : Int32).toNatClampNeg : Int32) = l1 → ((vp_in (3 * l5) 231) ∧ zC G d mX12_has 0 0 [.int (l2), .int (I16 (m + 13) (3 * l5 : Int32).toNatClampNeg)] (I16, J, R, K, n) (fun r h => ∃ (x21 : Int32) (I22 : Nat → Nat → Int32), r = some (.int x21) ∧ h = (I22, J, R, K, n) ∧ ((x21 = 0 → ((vp_in (3 * l5) 231) ∧ zC G d mX12_yardsOf 0 0 [.ref (m), .ref (m + 13), .int (l5)] (I22, J, R, K, n) (fun r h => ∃ (x25 : Int32) (I26 : Nat → Nat → Int32) (J27 : Nat → Nat → Int64) (R28 : Nat → Nat → Option Nat), r = some (.int x25) ∧ h = (I26, J27, R28, K, n) ∧ ∃ u29 u30 : Nat, hMod G R28 K n m u29 u30 ∧ zC G d mX12_goPairs 0 0 [.ref (m), .int (l1 + 1), .int (l2 ||| ((1 : Int32) <<< ((I22 (m + 13) (3 * l5 : Int32).toNatClampNeg : Int32) &&& 31))), .int (l3 + x25), .int ((10 * l4) + l5)] (I26, J27, R28, K, n) (fun r h => ∃ (I32 : Nat → Nat → Int32) (J33 : Nat → Nat → Int64) (R34 : Nat → Nat → Option Nat), r = none ∧ h = (I32, J33, R34, K, n) ∧ ∃ u35 u36 : Nat, hMod G R34 K n m u35 u36 ∧ zV G (d + 1) mX12_goPairs kc ks 40 [(0, .ref (m)), (1, .int (l1)), (2, .int (l2)), (3, .int (l3)), (4, .int (l4)), (5, .int (l5 + 1))] [] (I32, J33, R34, K, n) Q)))) ∧ (¬ (x21 = 0) → zV G (d + 1) mX12_goPairs kc ks 40 [(0, .ref (m)), (1, .int (l1)), (2, .int (l2)), (3, .int (l3)), (4, .int (l4)), (5, .int (l5 + 1))] [] (I22, J, R, K, n) Q))))) ∧ (¬ ((I16 (m + 13) ((3 * l5) + 1 : Int32).toNatClampNeg : Int32) = l1) → zV G (d + 1) mX12_goPairs kc ks 40 [(0, .ref (m)), (1, .int (l1)), (2, .int (l2)), (3, .int (l3)), (4, .int (l4)), (5, .int (l5 + 1))] [] (I16, J, R, K, n) Q))))))))) : zV G (d + 1) mX12_goPairs kc ks 40 [(0, .ref (m)), (1, .int (l1)), (2, .int (l2)), (3, .int (l3)), (4, .int (l4)), (5, .int (l5))] [] (I, J, R, K, n) Q := by
  refine zIload 5 5 42 (by decide +kernel) rfl rfl ?_
  refine zBipush 9 9 44 (by decide +kernel) rfl (by decide) ?_
  refine zIcmp_ge 95 139 47 (by decide +kernel) rfl rfl ⟨fun q8 => ?_, fun q8 => ?_⟩
  · replace F := F.1 q8
    refine zAload_n 0 0 140 (by decide +kernel) rfl rfl ?_
    refine zIload_n 1 1 141 (by decide +kernel) rfl rfl ?_
    refine zIconst 1 1 142 (by decide +kernel) rfl (by decide) ?_
    refine zIadd 143 (by decide +kernel) rfl ?_
    refine zIload_n 2 2 144 (by decide +kernel) rfl rfl ?_
    refine zIload_n 3 3 145 (by decide +kernel) rfl rfl ?_
    refine zBipush 10 10 147 (by decide +kernel) rfl (by decide) ?_
    refine zIload 4 4 149 (by decide +kernel) rfl rfl ?_
    refine zImul 150 (by decide +kernel) rfl ?_
    refine zBipush 9 9 152 (by decide +kernel) rfl (by decide) ?_
    refine zIadd 153 (by decide +kernel) rfl ?_
    refine zCallV 12 zcls12 mX12_goPairs 446 4 0 0 _ _ 156 [.int (l1 + 1), .int (l2), .int (l3), .int ((10 * l4) + 9)] [] okX12_goPairs mlX12_446 imX12_goPairs seX12_goPairs (by decide +kernel) rfl rfl (Nat.le_of_ble_eq_true rfl) rfl rfl (Mod_0 S0_) (zC.mono F ?_)
    rintro _ _ ⟨I9, J10, R11, rfl, rfl, F⟩
    change zV G (d + 1) mX12_goPairs kc ks 156 [(0, .ref (m)), (1, .int (l1)), (2, .int (l2)), (3, .int (l3)), (4, .int (l4)), (5, .int (l5))] [] (I9, J10, R11, K, n) Q
    obtain ⟨u12, u13, S14, F⟩ := F
    exact zVret rfl (by decide +kernel) F
  · replace F := F.2 q8
    refine zAload_n 0 0 48 (by decide +kernel) rfl rfl ?_
    refine gf12_32 61 51 (by decide +kernel) rfl flX12_61 (Mod_0 S0_) (Mod_25 S0_) ?_
    refine zIload 5 5 53 (by decide +kernel) rfl rfl ?_
    refine zCallS mX12_isOpen 358 2 0 0 _ _ 56 [.ref (m + 13), .int (l5)] [] okX12_isOpen mlX12_358 smX12_isOpen (by decide +kernel) rfl rfl (Nat.le_of_ble_eq_true rfl) rfl rfl (zC.mono F ?_)
    rintro _ _ ⟨x15, I16, rfl, rfl, F⟩
    change zV G (d + 1) mX12_goPairs kc ks 56 [(0, .ref (m)), (1, .int (l1)), (2, .int (l2)), (3, .int (l3)), (4, .int (l4)), (5, .int (l5))] [.int (x15)] (I16, J, R, K, n) Q
    refine zIf_eq 77 133 59 (by decide +kernel) rfl rfl ⟨fun q17 => ?_, fun q17 => ?_⟩
    · replace F := F.1 q17
      refine zIinc 5 1 5 (l5 + 1) [(5, .int (l5 + 1)), (0, .ref (m)), (1, .int (l1)), (2, .int (l2)), (3, .int (l3)), (4, .int (l4))] 136 (by decide +kernel) rfl rfl (by rfl) (by decide) rfl ?_
      refine zGoto (-96) 40 (by decide +kernel) rfl ?_
      exact zLoc [1, 2, 3, 4, 5, 0] _ rfl F
    · replace F := F.2 q17
      refine zAload_n 0 0 60 (by decide +kernel) rfl rfl ?_
      refine gf12_32 61 63 (by decide +kernel) rfl flX12_61 (Mod_0 S0_) (Mod_25 S0_) ?_
      refine zIconst 3 3 64 (by decide +kernel) rfl (by decide) ?_
      refine zIload 5 5 66 (by decide +kernel) rfl rfl ?_
      refine zImul 67 (by decide +kernel) rfl ?_
      refine zIconst 1 1 68 (by decide +kernel) rfl (by decide) ?_
      refine zIadd 69 (by decide +kernel) rfl ?_
      obtain ⟨w18, F⟩ := F
      refine yIaload 231 70 (by decide +kernel) rfl (Mod_26 S0_) (w18) ?_
      refine zIload_n 1 1 71 (by decide +kernel) rfl rfl ?_
      refine zIcmp_ne 62 133 74 (by decide +kernel) rfl rfl ⟨fun q19 => ?_, fun q19 => ?_⟩
      · replace F := F.2 q19
        refine zIinc 5 1 5 (l5 + 1) [(5, .int (l5 + 1)), (0, .ref (m)), (1, .int (l1)), (2, .int (l2)), (3, .int (l3)), (4, .int (l4))] 136 (by decide +kernel) rfl rfl (by rfl) (by decide) rfl ?_
        refine zGoto (-96) 40 (by decide +kernel) rfl ?_
        exact zLoc [1, 2, 3, 4, 5, 0] _ rfl F
      · replace F := F.1 q19
        refine zIload_n 2 2 75 (by decide +kernel) rfl rfl ?_
        refine zAload_n 0 0 76 (by decide +kernel) rfl rfl ?_
        refine gf12_32 61 79 (by decide +kernel) rfl flX12_61 (Mod_0 S0_) (Mod_25 S0_) ?_
        refine zIconst 3 3 80 (by decide +kernel) rfl (by decide) ?_
        refine zIload 5 5 82 (by decide +kernel) rfl rfl ?_
        refine zImul 83 (by decide +kernel) rfl ?_
        obtain ⟨w20, F⟩ := F
        refine yIaload 231 84 (by decide +kernel) rfl (Mod_26 S0_) (w20) ?_
        refine zCallS mX12_has 226 2 0 0 _ _ 87 [.int (l2), .int (I16 (m + 13) (3 * l5 : Int32).toNatClampNeg)] [] okX12_has mlX12_226 smX12_has (by decide +kernel) rfl rfl (Nat.le_of_ble_eq_true rfl) rfl rfl (zC.mono F ?_)
        rintro _ _ ⟨x21, I22, rfl, rfl, F⟩
        change zV G (d + 1) mX12_goPairs kc ks 87 [(0, .ref (m)), (1, .int (l1)), (2, .int (l2)), (3, .int (l3)), (4, .int (l4)), (5, .int (l5))] [.int (x21)] (I22, J, R, K, n) Q
        refine zIf_eq 6 93 90 (by decide +kernel) rfl rfl ⟨fun q23 => ?_, fun q23 => ?_⟩
        · replace F := F.1 q23
          refine zAload_n 0 0 94 (by decide +kernel) rfl rfl ?_
          refine zIload_n 1 1 95 (by decide +kernel) rfl rfl ?_
          refine zIconst 1 1 96 (by decide +kernel) rfl (by decide) ?_
          refine zIadd 97 (by decide +kernel) rfl ?_
          refine zIload_n 2 2 98 (by decide +kernel) rfl rfl ?_
          refine zIconst 1 1 99 (by decide +kernel) rfl (by decide) ?_
          refine zAload_n 0 0 100 (by decide +kernel) rfl rfl ?_
          refine gf12_32 61 103 (by decide +kernel) rfl flX12_61 (Mod_0 S0_) (Mod_25 S0_) ?_
          refine zIconst 3 3 104 (by decide +kernel) rfl (by decide) ?_
          refine zIload 5 5 106 (by decide +kernel) rfl rfl ?_
          refine zImul 107 (by decide +kernel) rfl ?_
          obtain ⟨w24, F⟩ := F
          refine yIaload 231 108 (by decide +kernel) rfl (Mod_26 S0_) (w24) ?_
          refine zIshl 109 (by decide +kernel) rfl ?_
          refine zIor 110 (by decide +kernel) rfl ?_
          refine zIload_n 3 3 111 (by decide +kernel) rfl rfl ?_
          refine zAload_n 0 0 112 (by decide +kernel) rfl rfl ?_
          refine zAload_n 0 0 113 (by decide +kernel) rfl rfl ?_
          refine gf12_32 61 116 (by decide +kernel) rfl flX12_61 (Mod_0 S0_) (Mod_25 S0_) ?_
          refine zIload 5 5 118 (by decide +kernel) rfl rfl ?_
          refine zCallV 12 zcls12 mX12_yardsOf 339 2 0 0 _ _ 121 [.ref (m + 13), .int (l5)] [.int (l3), .int (l2 ||| ((1 : Int32) <<< ((I22 (m + 13) (3 * l5 : Int32).toNatClampNeg : Int32) &&& 31))), .int (l1 + 1), .ref (m)] okX12_yardsOf mlX12_339 imX12_yardsOf seX12_yardsOf (by decide +kernel) rfl rfl (Nat.le_of_ble_eq_true rfl) rfl rfl (Mod_0 S0_) (zC.mono F ?_)
          rintro _ _ ⟨x25, I26, J27, R28, rfl, rfl, F⟩
          change zV G (d + 1) mX12_goPairs kc ks 121 [(0, .ref (m)), (1, .int (l1)), (2, .int (l2)), (3, .int (l3)), (4, .int (l4)), (5, .int (l5))] [.int (x25), .int (l3), .int (l2 ||| ((1 : Int32) <<< ((I22 (m + 13) (3 * l5 : Int32).toNatClampNeg : Int32) &&& 31))), .int (l1 + 1), .ref (m)] (I26, J27, R28, K, n) Q
          obtain ⟨u29, u30, S31, F⟩ := F
          refine zIadd 122 (by decide +kernel) rfl ?_
          refine zBipush 10 10 124 (by decide +kernel) rfl (by decide) ?_
          refine zIload 4 4 126 (by decide +kernel) rfl rfl ?_
          refine zImul 127 (by decide +kernel) rfl ?_
          refine zIload 5 5 129 (by decide +kernel) rfl rfl ?_
          refine zIadd 130 (by decide +kernel) rfl ?_
          refine zCallV 12 zcls12 mX12_goPairs 446 4 0 0 _ _ 133 [.int (l1 + 1), .int (l2 ||| ((1 : Int32) <<< ((I22 (m + 13) (3 * l5 : Int32).toNatClampNeg : Int32) &&& 31))), .int (l3 + x25), .int ((10 * l4) + l5)] [] okX12_goPairs mlX12_446 imX12_goPairs seX12_goPairs (by decide +kernel) rfl rfl (Nat.le_of_ble_eq_true rfl) rfl rfl (Mod_0 S31) (zC.mono F ?_)
          rintro _ _ ⟨I32, J33, R34, rfl, rfl, F⟩
          change zV G (d + 1) mX12_goPairs kc ks 133 [(0, .ref (m)), (1, .int (l1)), (2, .int (l2)), (3, .int (l3)), (4, .int (l4)), (5, .int (l5))] [] (I32, J33, R34, K, n) Q
          obtain ⟨u35, u36, S37, F⟩ := F
          refine zIinc 5 1 5 (l5 + 1) [(5, .int (l5 + 1)), (0, .ref (m)), (1, .int (l1)), (2, .int (l2)), (3, .int (l3)), (4, .int (l4))] 136 (by decide +kernel) rfl rfl (by rfl) (by decide) rfl ?_
          refine zGoto (-96) 40 (by decide +kernel) rfl ?_
          exact zLoc [1, 2, 3, 4, 5, 0] _ rfl F
        · replace F := F.2 q23
          refine zGoto 43 133 (by decide +kernel) rfl ?_
          refine zIinc 5 1 5 (l5 + 1) [(5, .int (l5 + 1)), (0, .ref (m)), (1, .int (l1)), (2, .int (l2)), (3, .int (l3)), (4, .int (l4))] 136 (by decide +kernel) rfl rfl (by rfl) (by decide) rfl ?_
          refine zGoto (-96) 40 (by decide +kernel) rfl ?_
          exact zLoc [1, 2, 3, 4, 5, 0] _ rfl F
set_option maxHeartbeats 2000000 in
theorem wX12_pairs_0 {G : zG} {d kc ks : Nat} {I : Nat → Nat → Int32} {J : Nat → Nat → Int64} {R : Nat → Nat → Option Nat} {K : Nat → Nat × Nat} {n : Nat} {Q : Option Value → zH → Prop} (m t c : Nat) (S0_ : hMod G R K n m t c) (p1 : Int32) (F : (∀ I1 : Nat → Nat → Int32, I1 = zU I m 0 (0) → (((I1 m 26 : Int32) = 0 → Q (some (.int ((-1)))) (I1, J, R, K, n)) ∧ (¬ ((I1 m 26 : Int32) = 0) → zC G d mX12_isIn 0 0 [.long (p1.toInt64), .long (0), .long (1)] (I1, J, R, K, n) (fun r h => ∃ (x3 : Int32) (I4 : Nat → Nat → Int32), r = some (.int x3) ∧ h = (I4, J, R, K, n) ∧ ((x3 = 0 → Q (some (.int ((-1)))) (I4, J, R, K, n)) ∧ (¬ (x3 = 0) → (∀ I6 : Nat → Nat → Int32, I6 = zU I4 m 41 ((-1)) → (∀ I7 : Nat → Nat → Int32, I7 = zU I6 m 42 (0) → zC G d mX12_goPairs 0 0 [.ref (m), .int (0), .int (0), .int (0), .int (0)] (I7, J, R, K, n) (fun r h => ∃ (I8 : Nat → Nat → Int32) (J9 : Nat → Nat → Int64) (R10 : Nat → Nat → Option Nat), r = none ∧ h = (I8, J9, R10, K, n) ∧ ∃ u11 u12 : Nat, hMod G R10 K n m u11 u12 ∧ Q (some (.int ((if p1 = 0 then I8 m 41 else I8 m 42)))) (I8, J9, R10, K, n))))))))))) : zV G (d + 1) mX12_pairs kc ks 0 [(0, .ref (m)), (1, .int (p1))] [] (I, J, R, K, n) Q := by
  refine zAload_n 0 0 1 (by decide +kernel) rfl rfl ?_
  refine zIconst 0 0 2 (by decide +kernel) rfl (by decide) ?_
  refine pf12_0 93 5 (by decide +kernel) rfl flX12_93 (Mod_0 S0_) ?_
  replace F := F _ rfl
  generalize zU I m 0 (0) = I1 at F ⊢
  refine zAload_n 0 0 6 (by decide +kernel) rfl rfl ?_
  refine gf12_26 291 9 (by decide +kernel) rfl flX12_291 (Mod_0 S0_) ?_
  refine zIf_eq 13 22 12 (by decide +kernel) rfl rfl ⟨fun q2 => ?_, fun q2 => ?_⟩
  · replace F := F.1 q2
    refine zIconst (-1) (-1) 23 (by decide +kernel) rfl (by decide) ?_
    exact zIret rfl (by decide +kernel) F
  · replace F := F.2 q2
    refine zIload_n 1 1 13 (by decide +kernel) rfl rfl ?_
    refine zI2l 14 (by decide +kernel) rfl ?_
    refine zLconst 0 0 15 (by decide +kernel) rfl (by decide) ?_
    refine zLconst 1 1 16 (by decide +kernel) rfl (by decide) ?_
    refine zCallS mX12_isIn 214 3 0 0 _ _ 19 [.long (p1.toInt64), .long (0), .long (1)] [] okX12_isIn mlX12_214 smX12_isIn (by decide +kernel) rfl rfl (Nat.le_of_ble_eq_true rfl) rfl rfl (zC.mono F ?_)
    rintro _ _ ⟨x3, I4, rfl, rfl, F⟩
    change zV G (d + 1) mX12_pairs kc ks 19 [(0, .ref (m)), (1, .int (p1))] [.int (x3)] (I4, J, R, K, n) Q
    refine zIf_ne 5 24 22 (by decide +kernel) rfl rfl ⟨fun q5 => ?_, fun q5 => ?_⟩
    · replace F := F.2 q5
      refine zAload_n 0 0 25 (by decide +kernel) rfl rfl ?_
      refine zIconst (-1) (-1) 26 (by decide +kernel) rfl (by decide) ?_
      refine pf12_41 440 29 (by decide +kernel) rfl flX12_440 (Mod_0 S0_) ?_
      replace F := F _ rfl
      generalize zU I4 m 41 ((-1)) = I6 at F ⊢
      refine zAload_n 0 0 30 (by decide +kernel) rfl rfl ?_
      refine zIconst 0 0 31 (by decide +kernel) rfl (by decide) ?_
      refine pf12_42 443 34 (by decide +kernel) rfl flX12_443 (Mod_0 S0_) ?_
      replace F := F _ rfl
      generalize zU I6 m 42 (0) = I7 at F ⊢
      refine zAload_n 0 0 35 (by decide +kernel) rfl rfl ?_
      refine zIconst 0 0 36 (by decide +kernel) rfl (by decide) ?_
      refine zIconst 0 0 37 (by decide +kernel) rfl (by decide) ?_
      refine zIconst 0 0 38 (by decide +kernel) rfl (by decide) ?_
      refine zIconst 0 0 39 (by decide +kernel) rfl (by decide) ?_
      refine zCallV 12 zcls12 mX12_goPairs 446 4 0 0 _ _ 42 [.int (0), .int (0), .int (0), .int (0)] [] okX12_goPairs mlX12_446 imX12_goPairs seX12_goPairs (by decide +kernel) rfl rfl (Nat.le_of_ble_eq_true rfl) rfl rfl (Mod_0 S0_) (zC.mono F ?_)
      rintro _ _ ⟨I8, J9, R10, rfl, rfl, F⟩
      change zV G (d + 1) mX12_pairs kc ks 42 [(0, .ref (m)), (1, .int (p1))] [] (I8, J9, R10, K, n) Q
      obtain ⟨u11, u12, S13, F⟩ := F
      refine zIload_n 1 1 43 (by decide +kernel) rfl rfl ?_
      suffices KK : zV G (d + 1) mX12_pairs kc ks 57 [(0, .ref (m)), (1, .int (p1))] [.int ((if p1 = 0 then I8 m 41 else I8 m 42))] (I8, J9, R10, K, n) Q by
        refine zIf_ne 10 53 46 (by decide +kernel) rfl rfl ⟨fun q14 => ?_, fun q14 => ?_⟩
        · refine zAload_n 0 0 54 (by decide +kernel) rfl rfl ?_
          refine gf12_42 443 57 (by decide +kernel) rfl flX12_443 (Mod_0 S13) ?_
          exact zTop (by rw [if_neg q14]) KK
        · refine zAload_n 0 0 47 (by decide +kernel) rfl rfl ?_
          refine gf12_41 440 50 (by decide +kernel) rfl flX12_440 (Mod_0 S13) ?_
          refine zGoto 7 57 (by decide +kernel) rfl ?_
          exact zTop (by rw [if_pos q14]) KK
      exact zIret rfl (by decide +kernel) F
    · replace F := F.1 q5
      refine zIconst (-1) (-1) 23 (by decide +kernel) rfl (by decide) ?_
      exact zIret rfl (by decide +kernel) F
set_option maxHeartbeats 2000000 in
theorem wX12_isTold_0 {G : zG} {d kc ks : Nat} {I : Nat → Nat → Int32} {J : Nat → Nat → Int64} {R : Nat → Nat → Option Nat} {K : Nat → Nat × Nat} {n : Nat} {Q : Option Value → zH → Prop} (m t c : Nat) (S0_ : hMod G R K n m t c) (p1 : Int32) (F : Q (some (.int ((if p1 < 0 then 0 else (if (I m 27 : Int32) ≤ p1 then 0 else 1))))) (I, J, R, K, n)) : zV G (d + 1) mX12_isTold kc ks 0 [(0, .ref (m)), (1, .int (p1))] [] (I, J, R, K, n) Q := by
  refine zIload_n 1 1 1 (by decide +kernel) rfl rfl ?_
  suffices KK : zV G (d + 1) mX12_isTold kc ks 17 [(0, .ref (m)), (1, .int (p1))] [.int ((if p1 < 0 then 0 else (if (I m 27 : Int32) ≤ p1 then 0 else 1)))] (I, J, R, K, n) Q by
    refine zIf_lt 15 16 4 (by decide +kernel) rfl rfl ⟨fun q1 => ?_, fun q1 => ?_⟩
    · refine zIconst 0 0 17 (by decide +kernel) rfl (by decide) ?_
      exact zTop (by rw [if_pos q1]) KK
    · refine zIload_n 1 1 5 (by decide +kernel) rfl rfl ?_
      refine zAload_n 0 0 6 (by decide +kernel) rfl rfl ?_
      refine gf12_27 294 9 (by decide +kernel) rfl flX12_294 (Mod_0 S0_) ?_
      refine zIcmp_ge 7 16 12 (by decide +kernel) rfl rfl ⟨fun q2 => ?_, fun q2 => ?_⟩
      · refine zIconst 0 0 17 (by decide +kernel) rfl (by decide) ?_
        exact zTop (by rw [if_neg q1, if_pos q2]) KK
      · refine zIconst 1 1 13 (by decide +kernel) rfl (by decide) ?_
        refine zGoto 4 17 (by decide +kernel) rfl ?_
        exact zTop (by rw [if_neg q1, if_neg q2]) KK
  exact zZret .boolean rfl (zNarZ (zOrIte (Or.inl rfl) (zOrIte (Or.inl rfl) (Or.inr rfl)))) (by decide +kernel) F
set_option maxHeartbeats 2000000 in
theorem wX12_seen_0 {G : zG} {d kc ks : Nat} {I : Nat → Nat → Int32} {J : Nat → Nat → Int64} {R : Nat → Nat → Option Nat} {K : Nat → Nat × Nat} {n : Nat} {Q : Option Value → zH → Prop} (m t c : Nat) (S0_ : hMod G R K n m t c) (p1 p2 p3 : Int32) (F : (∀ I1 : Nat → Nat → Int32, I1 = zU I m 0 (0) → zC G d mX12_isTold 0 0 [.ref (m), .int (p1)] (I1, J, R, K, n) (fun r h => ∃ (x2 : Int32) (I3 : Nat → Nat → Int32), r = some (.int x2) ∧ h = (I3, J, R, K, n) ∧ ((x2 = 0 → Q (some (.int ((-1)))) (I3, J, R, K, n)) ∧ (¬ (x2 = 0) → zC G d mX12_isIn 0 0 [.long (p2.toInt64), .long (0), .long (40)] (I3, J, R, K, n) (fun r h => ∃ (x5 : Int32) (I6 : Nat → Nat → Int32), r = some (.int x5) ∧ h = (I6, J, R, K, n) ∧ ((x5 = 0 → Q (some (.int ((-1)))) (I6, J, R, K, n)) ∧ (¬ (x5 = 0) → (((I6 m 44 : Int32) = 10 → Q (some (.int ((-1)))) (I6, J, R, K, n)) ∧ (¬ ((I6 m 44 : Int32) = 10) → (vp_in (3 * (I6 m 44)) 30 ∧ ∀ I9 : Nat → Nat → Int32, I9 = zU I6 (m + 18) (3 * (I6 m 44) : Int32).toNatClampNeg (p1) → (vp_in ((3 * (I9 m 44)) + 1) 30 ∧ ∀ I10 : Nat → Nat → Int32, I10 = zU I9 (m + 18) ((3 * (I9 m 44)) + 1 : Int32).toNatClampNeg (p2) → (vp_in ((3 * (I10 m 44)) + 2) 30 ∧ ∀ I12 : Nat → Nat → Int32, I12 = zU I10 (m + 18) ((3 * (I10 m 44)) + 2 : Int32).toNatClampNeg ((if p3 = 0 then 0 else 1)) → (∀ I13 : Nat → Nat → Int32, I13 = zU I12 m 44 ((I12 m 44) + 1) → Q (some (.int (I13 m 44))) (I13, J, R, K, n))))))))))))))) : zV G (d + 1) mX12_seen kc ks 0 [(0, .ref (m)), (1, .int (p1)), (2, .int (p2)), (3, .int (p3))] [] (I, J, R, K, n) Q := by
  refine zAload_n 0 0 1 (by decide +kernel) rfl rfl ?_
  refine zIconst 0 0 2 (by decide +kernel) rfl (by decide) ?_
  refine pf12_0 93 5 (by decide +kernel) rfl flX12_93 (Mod_0 S0_) ?_
  replace F := F _ rfl
  generalize zU I m 0 (0) = I1 at F ⊢
  refine zAload_n 0 0 6 (by decide +kernel) rfl rfl ?_
  refine zIload_n 1 1 7 (by decide +kernel) rfl rfl ?_
  refine zCallV 12 zcls12 mX12_isTold 450 1 0 0 _ _ 10 [.int (p1)] [] okX12_isTold mlX12_450 imX12_isTold seX12_isTold (by decide +kernel) rfl rfl (Nat.le_of_ble_eq_true rfl) rfl rfl (Mod_0 S0_) (zC.mono F ?_)
  rintro _ _ ⟨x2, I3, rfl, rfl, F⟩
  change zV G (d + 1) mX12_seen kc ks 10 [(0, .ref (m)), (1, .int (p1)), (2, .int (p2)), (3, .int (p3))] [.int (x2)] (I3, J, R, K, n) Q
  refine zIf_eq 24 34 13 (by decide +kernel) rfl rfl ⟨fun q4 => ?_, fun q4 => ?_⟩
  · replace F := F.1 q4
    refine zIconst (-1) (-1) 35 (by decide +kernel) rfl (by decide) ?_
    exact zIret rfl (by decide +kernel) F
  · replace F := F.2 q4
    refine zIload_n 2 2 14 (by decide +kernel) rfl rfl ?_
    refine zI2l 15 (by decide +kernel) rfl ?_
    refine zLconst 0 0 16 (by decide +kernel) rfl (by decide) ?_
    refine zLdc2 453 40 19 (by decide +kernel) rfl klX12_453 ?_
    refine zCallS mX12_isIn 214 3 0 0 _ _ 22 [.long (p2.toInt64), .long (0), .long (40)] [] okX12_isIn mlX12_214 smX12_isIn (by decide +kernel) rfl rfl (Nat.le_of_ble_eq_true rfl) rfl rfl (zC.mono F ?_)
    rintro _ _ ⟨x5, I6, rfl, rfl, F⟩
    change zV G (d + 1) mX12_seen kc ks 22 [(0, .ref (m)), (1, .int (p1)), (2, .int (p2)), (3, .int (p3))] [.int (x5)] (I6, J, R, K, n) Q
    refine zIf_eq 12 34 25 (by decide +kernel) rfl rfl ⟨fun q7 => ?_, fun q7 => ?_⟩
    · replace F := F.1 q7
      refine zIconst (-1) (-1) 35 (by decide +kernel) rfl (by decide) ?_
      exact zIret rfl (by decide +kernel) F
    · replace F := F.2 q7
      refine zAload_n 0 0 26 (by decide +kernel) rfl rfl ?_
      refine gf12_44 297 29 (by decide +kernel) rfl flX12_297 (Mod_0 S0_) ?_
      refine zBipush 10 10 31 (by decide +kernel) rfl (by decide) ?_
      refine zIcmp_ne 5 36 34 (by decide +kernel) rfl rfl ⟨fun q8 => ?_, fun q8 => ?_⟩
      · replace F := F.2 q8
        refine zAload_n 0 0 37 (by decide +kernel) rfl rfl ?_
        refine gf12_43 84 40 (by decide +kernel) rfl flX12_84 (Mod_0 S0_) (Mod_35 S0_) ?_
        refine zIconst 3 3 41 (by decide +kernel) rfl (by decide) ?_
        refine zAload_n 0 0 42 (by decide +kernel) rfl rfl ?_
        refine gf12_44 297 45 (by decide +kernel) rfl flX12_297 (Mod_0 S0_) ?_
        refine zImul 46 (by decide +kernel) rfl ?_
        refine zIload_n 1 1 47 (by decide +kernel) rfl rfl ?_
        refine yIastore 30 48 (by decide +kernel) rfl (Mod_36 S0_) F.1 ?_
        replace F := F.2 _ rfl
        generalize zU I6 (m + 18) (3 * (I6 m 44) : Int32).toNatClampNeg (p1) = I9 at F ⊢
        refine zAload_n 0 0 49 (by decide +kernel) rfl rfl ?_
        refine gf12_43 84 52 (by decide +kernel) rfl flX12_84 (Mod_0 S0_) (Mod_35 S0_) ?_
        refine zIconst 3 3 53 (by decide +kernel) rfl (by decide) ?_
        refine zAload_n 0 0 54 (by decide +kernel) rfl rfl ?_
        refine gf12_44 297 57 (by decide +kernel) rfl flX12_297 (Mod_0 S0_) ?_
        refine zImul 58 (by decide +kernel) rfl ?_
        refine zIconst 1 1 59 (by decide +kernel) rfl (by decide) ?_
        refine zIadd 60 (by decide +kernel) rfl ?_
        refine zIload_n 2 2 61 (by decide +kernel) rfl rfl ?_
        refine yIastore 30 62 (by decide +kernel) rfl (Mod_36 S0_) F.1 ?_
        replace F := F.2 _ rfl
        generalize zU I9 (m + 18) ((3 * (I9 m 44)) + 1 : Int32).toNatClampNeg (p2) = I10 at F ⊢
        refine zAload_n 0 0 63 (by decide +kernel) rfl rfl ?_
        refine gf12_43 84 66 (by decide +kernel) rfl flX12_84 (Mod_0 S0_) (Mod_35 S0_) ?_
        refine zIconst 3 3 67 (by decide +kernel) rfl (by decide) ?_
        refine zAload_n 0 0 68 (by decide +kernel) rfl rfl ?_
        refine gf12_44 297 71 (by decide +kernel) rfl flX12_297 (Mod_0 S0_) ?_
        refine zImul 72 (by decide +kernel) rfl ?_
        refine zIconst 2 2 73 (by decide +kernel) rfl (by decide) ?_
        refine zIadd 74 (by decide +kernel) rfl ?_
        refine zIload_n 3 3 75 (by decide +kernel) rfl rfl ?_
        suffices KK : zV G (d + 1) mX12_seen kc ks 83 [(0, .ref (m)), (1, .int (p1)), (2, .int (p2)), (3, .int (p3))] [.int ((if p3 = 0 then 0 else 1)), .int ((3 * (I10 m 44)) + 2), .ref (m + 18)] (I10, J, R, K, n) Q by
          refine zIf_eq 7 82 78 (by decide +kernel) rfl rfl ⟨fun q11 => ?_, fun q11 => ?_⟩
          · refine zIconst 0 0 83 (by decide +kernel) rfl (by decide) ?_
            exact zTop (by rw [if_pos q11]) KK
          · refine zIconst 1 1 79 (by decide +kernel) rfl (by decide) ?_
            refine zGoto 4 83 (by decide +kernel) rfl ?_
            exact zTop (by rw [if_neg q11]) KK
        refine yIastore 30 84 (by decide +kernel) rfl (Mod_36 S0_) F.1 ?_
        replace F := F.2 _ rfl
        generalize zU I10 (m + 18) ((3 * (I10 m 44)) + 2 : Int32).toNatClampNeg ((if p3 = 0 then 0 else 1)) = I12 at F ⊢
        refine zAload_n 0 0 85 (by decide +kernel) rfl rfl ?_
        refine zDup 86 (by decide +kernel) rfl rfl ?_
        refine gf12_44 297 89 (by decide +kernel) rfl flX12_297 (Mod_0 S0_) ?_
        refine zIconst 1 1 90 (by decide +kernel) rfl (by decide) ?_
        refine zIadd 91 (by decide +kernel) rfl ?_
        refine pf12_44 297 94 (by decide +kernel) rfl flX12_297 (Mod_0 S0_) ?_
        replace F := F _ rfl
        generalize zU I12 m 44 ((I12 m 44) + 1) = I13 at F ⊢
        refine zAload_n 0 0 95 (by decide +kernel) rfl rfl ?_
        refine gf12_44 297 98 (by decide +kernel) rfl flX12_297 (Mod_0 S0_) ?_
        exact zIret rfl (by decide +kernel) F
      · replace F := F.1 q8
        refine zIconst (-1) (-1) 35 (by decide +kernel) rfl (by decide) ?_
        exact zIret rfl (by decide +kernel) F
set_option maxHeartbeats 2000000 in
theorem wX12_yardsTold_0 {G : zG} {d kc ks : Nat} {I : Nat → Nat → Int32} {J : Nat → Nat → Int64} {R : Nat → Nat → Option Nat} {K : Nat → Nat × Nat} {n : Nat} {Q : Option Value → zH → Prop} (m t c : Nat) (S0_ : hMod G R K n m t c) (p1 p2 : Int32) (F : ((vp_in ((3 * p1) + 1) 27) ∧ ((vp_in (2 * (I (m + 9) ((3 * p1) + 1 : Int32).toNatClampNeg)) 12) ∧ ((vp_in 0 2) ∧ zC G d mX12_yardsBy 0 0 [.ref (m), .int (p2), .int (I (m + 9) ((3 * p1) + 1 : Int32).toNatClampNeg), .int (0), .int (I (m + 7) (2 * (I (m + 9) ((3 * p1) + 1 : Int32).toNatClampNeg) : Int32).toNatClampNeg), .int (I (m + 5) (0 : Int32).toNatClampNeg), .int (0)] (I, J, R, K, n) (fun r h => ∃ (x4 : Int32) (I5 : Nat → Nat → Int32) (J6 : Nat → Nat → Int64) (R7 : Nat → Nat → Option Nat), r = some (.int x4) ∧ h = (I5, J6, R7, K, n) ∧ ∃ u8 u9 : Nat, hMod G R7 K n m u8 u9 ∧ Q (some (.int (x4))) (I5, J6, R7, K, n)))))) : zV G (d + 1) mX12_yardsTold kc ks 0 [(0, .ref (m)), (1, .int (p1)), (2, .int (p2))] [] (I, J, R, K, n) Q := by
  refine zAload_n 0 0 1 (by decide +kernel) rfl rfl ?_
  refine gf12_22 49 4 (by decide +kernel) rfl flX12_49 (Mod_0 S0_) (Mod_17 S0_) ?_
  refine zIconst 3 3 5 (by decide +kernel) rfl (by decide) ?_
  refine zIload_n 1 1 6 (by decide +kernel) rfl rfl ?_
  refine zImul 7 (by decide +kernel) rfl ?_
  refine zIconst 1 1 8 (by decide +kernel) rfl (by decide) ?_
  refine zIadd 9 (by decide +kernel) rfl ?_
  obtain ⟨w1, F⟩ := F
  refine yIaload 27 10 (by decide +kernel) rfl (Mod_18 S0_) (w1) ?_
  refine zIstore_n 3 [(3, .int (I (m + 9) ((3 * p1) + 1 : Int32).toNatClampNeg)), (0, .ref (m)), (1, .int (p1)), (2, .int (p2))] 11 (by decide +kernel) rfl (by decide) rfl ?_
  refine zAload_n 0 1 12 (by decide +kernel) rfl rfl ?_
  refine zIload_n 2 3 13 (by decide +kernel) rfl rfl ?_
  refine zIload_n 3 0 14 (by decide +kernel) rfl rfl ?_
  refine zIconst 0 0 15 (by decide +kernel) rfl (by decide) ?_
  refine zAload_n 0 1 16 (by decide +kernel) rfl rfl ?_
  refine gf12_20 43 19 (by decide +kernel) rfl flX12_43 (Mod_0 S0_) (Mod_13 S0_) ?_
  refine zIconst 2 2 20 (by decide +kernel) rfl (by decide) ?_
  refine zIload_n 3 0 21 (by decide +kernel) rfl rfl ?_
  refine zImul 22 (by decide +kernel) rfl ?_
  obtain ⟨w2, F⟩ := F
  refine yIaload 12 23 (by decide +kernel) rfl (Mod_14 S0_) (w2) ?_
  refine zAload_n 0 1 24 (by decide +kernel) rfl rfl ?_
  refine gf12_18 37 27 (by decide +kernel) rfl flX12_37 (Mod_0 S0_) (Mod_9 S0_) ?_
  refine zIconst 0 0 28 (by decide +kernel) rfl (by decide) ?_
  obtain ⟨w3, F⟩ := F
  refine yIaload 2 29 (by decide +kernel) rfl (Mod_10 S0_) (w3) ?_
  refine zIconst 0 0 30 (by decide +kernel) rfl (by decide) ?_
  refine zCallV 12 zcls12 mX12_yardsBy 336 6 0 0 _ _ 33 [.int (p2), .int (I (m + 9) ((3 * p1) + 1 : Int32).toNatClampNeg), .int (0), .int (I (m + 7) (2 * (I (m + 9) ((3 * p1) + 1 : Int32).toNatClampNeg) : Int32).toNatClampNeg), .int (I (m + 5) (0 : Int32).toNatClampNeg), .int (0)] [] okX12_yardsBy mlX12_336 imX12_yardsBy seX12_yardsBy (by decide +kernel) rfl rfl (Nat.le_of_ble_eq_true rfl) rfl rfl (Mod_0 S0_) (zC.mono F ?_)
  rintro _ _ ⟨x4, I5, J6, R7, rfl, rfl, F⟩
  change zV G (d + 1) mX12_yardsTold kc ks 33 [(3, .int (I (m + 9) ((3 * p1) + 1 : Int32).toNatClampNeg)), (0, .ref (m)), (1, .int (p1)), (2, .int (p2))] [.int (x4)] (I5, J6, R7, K, n) Q
  obtain ⟨u8, u9, S10, F⟩ := F
  exact zIret rfl (by decide +kernel) F
set_option maxHeartbeats 2000000 in
theorem wX12_isWeight_0 {G : zG} {d kc ks : Nat} {I : Nat → Nat → Int32} {J : Nat → Nat → Int64} {R : Nat → Nat → Option Nat} {K : Nat → Nat × Nat} {n : Nat} {Q : Option Value → zH → Prop} (m t c : Nat) (S0_ : hMod G R K n m t c) (p1 p2 : Int32) (F : zV G (d + 1) mX12_isWeight kc ks 2 [(0, .ref (m)), (1, .int (p1)), (2, .int (p2)), (3, .int (0))] [] (I, J, R, K, n) Q) : zV G (d + 1) mX12_isWeight kc ks 0 [(0, .ref (m)), (1, .int (p1)), (2, .int (p2))] [] (I, J, R, K, n) Q := by
  refine zIconst 0 0 1 (by decide +kernel) rfl (by decide) ?_
  refine zIstore_n 3 [(3, .int (0)), (0, .ref (m)), (1, .int (p1)), (2, .int (p2))] 2 (by decide +kernel) rfl (by decide) rfl ?_
  exact zLoc [1, 2, 3, 0] _ rfl F
set_option maxHeartbeats 2000000 in
theorem wX12_isWeight_2 {G : zG} {d kc ks : Nat} {I : Nat → Nat → Int32} {J : Nat → Nat → Int64} {R : Nat → Nat → Option Nat} {K : Nat → Nat × Nat} {n : Nat} {Q : Option Value → zH → Prop} (m t c : Nat) (S0_ : hMod G R K n m t c) (l1 l2 l3 : Int32) (F : (((I m 44 : Int32) ≤ l3 → Q (some (.int (1))) (I, J, R, K, n)) ∧ (¬ ((I m 44 : Int32) ≤ l3) → ((vp_in (3 * l3) 30) ∧ (((I (m + 18) (3 * l3 : Int32).toNatClampNeg : Int32) = l1 → zC G d mX12_yardsTold 0 0 [.ref (m), .int (l1), .int (l2)] (I, J, R, K, n) (fun r h => ∃ (x4 : Int32) (I5 : Nat → Nat → Int32) (J6 : Nat → Nat → Int64) (R7 : Nat → Nat → Option Nat), r = some (.int x4) ∧ h = (I5, J6, R7, K, n) ∧ ∃ u8 u9 : Nat, hMod G R7 K n m u8 u9 ∧ ((vp_in ((3 * l3) + 1) 30) ∧ ((vp_in ((3 * l3) + 2) 30) ∧ ((((if x4 < (I5 (m + 18) ((3 * l3) + 1 : Int32).toNatClampNeg : Int32) then 0 else 1) : Int32) = ((if (I5 (m + 18) ((3 * l3) + 2 : Int32).toNatClampNeg : Int32) = 1 then 1 else 0) : Int32) → zV G (d + 1) mX12_isWeight kc ks 2 [(0, .ref (m)), (1, .int (l1)), (2, .int (l2)), (3, .int (l3 + 1))] [] (I5, J6, R7, K, n) Q) ∧ (¬ (((if x4 < (I5 (m + 18) ((3 * l3) + 1 : Int32).toNatClampNeg : Int32) then 0 else 1) : Int32) = ((if (I5 (m + 18) ((3 * l3) + 2 : Int32).toNatClampNeg : Int32) = 1 then 1 else 0) : Int32)) → Q (some (.int (0))) (I5, J6, R7, K, n))))))) ∧ (¬ ((I (m + 18) (3 * l3 : Int32).toNatClampNeg : Int32) = l1) → zV G (d + 1) mX12_isWeight kc ks 2 [(0, .ref (m)), (1, .int (l1)), (2, .int (l2)), (3, .int (l3 + 1))] [] (I, J, R, K, n) Q)))))) : zV G (d + 1) mX12_isWeight kc ks 2 [(0, .ref (m)), (1, .int (l1)), (2, .int (l2)), (3, .int (l3))] [] (I, J, R, K, n) Q := by
  refine zIload_n 3 3 3 (by decide +kernel) rfl rfl ?_
  refine zAload_n 0 0 4 (by decide +kernel) rfl rfl ?_
  refine gf12_44 297 7 (by decide +kernel) rfl flX12_297 (Mod_0 S0_) ?_
  refine zIcmp_ge 69 76 10 (by decide +kernel) rfl rfl ⟨fun q1 => ?_, fun q1 => ?_⟩
  · replace F := F.1 q1
    refine zIconst 1 1 77 (by decide +kernel) rfl (by decide) ?_
    exact zZret .boolean rfl (zNarZ (Or.inr rfl)) (by decide +kernel) F
  · replace F := F.2 q1
    refine zAload_n 0 0 11 (by decide +kernel) rfl rfl ?_
    refine gf12_43 84 14 (by decide +kernel) rfl flX12_84 (Mod_0 S0_) (Mod_35 S0_) ?_
    refine zIconst 3 3 15 (by decide +kernel) rfl (by decide) ?_
    refine zIload_n 3 3 16 (by decide +kernel) rfl rfl ?_
    refine zImul 17 (by decide +kernel) rfl ?_
    obtain ⟨w2, F⟩ := F
    refine yIaload 30 18 (by decide +kernel) rfl (Mod_36 S0_) (w2) ?_
    refine zIload_n 1 1 19 (by decide +kernel) rfl rfl ?_
    refine zIcmp_ne 51 70 22 (by decide +kernel) rfl rfl ⟨fun q3 => ?_, fun q3 => ?_⟩
    · replace F := F.2 q3
      refine zIinc 3 1 3 (l3 + 1) [(3, .int (l3 + 1)), (0, .ref (m)), (1, .int (l1)), (2, .int (l2))] 73 (by decide +kernel) rfl rfl (by rfl) (by decide) rfl ?_
      refine zGoto (-71) 2 (by decide +kernel) rfl ?_
      exact zLoc [1, 2, 3, 0] _ rfl F
    · replace F := F.1 q3
      refine zAload_n 0 0 23 (by decide +kernel) rfl rfl ?_
      refine zIload_n 1 1 24 (by decide +kernel) rfl rfl ?_
      refine zIload_n 2 2 25 (by decide +kernel) rfl rfl ?_
      refine zCallV 12 zcls12 mX12_yardsTold 455 2 0 0 _ _ 28 [.int (l1), .int (l2)] [] okX12_yardsTold mlX12_455 imX12_yardsTold seX12_yardsTold (by decide +kernel) rfl rfl (Nat.le_of_ble_eq_true rfl) rfl rfl (Mod_0 S0_) (zC.mono F ?_)
      rintro _ _ ⟨x4, I5, J6, R7, rfl, rfl, F⟩
      change zV G (d + 1) mX12_isWeight kc ks 28 [(0, .ref (m)), (1, .int (l1)), (2, .int (l2)), (3, .int (l3))] [.int (x4)] (I5, J6, R7, K, n) Q
      obtain ⟨u8, u9, S10, F⟩ := F
      refine zAload_n 0 0 29 (by decide +kernel) rfl rfl ?_
      refine gf12_43 84 32 (by decide +kernel) rfl flX12_84 (Mod_0 S10) (Mod_35 S10) ?_
      refine zIconst 3 3 33 (by decide +kernel) rfl (by decide) ?_
      refine zIload_n 3 3 34 (by decide +kernel) rfl rfl ?_
      refine zImul 35 (by decide +kernel) rfl ?_
      refine zIconst 1 1 36 (by decide +kernel) rfl (by decide) ?_
      refine zIadd 37 (by decide +kernel) rfl ?_
      obtain ⟨w11, F⟩ := F
      refine yIaload 30 38 (by decide +kernel) rfl (Mod_36 S10) (w11) ?_
      suffices KK : zV G (d + 1) mX12_isWeight kc ks 46 [(0, .ref (m)), (1, .int (l1)), (2, .int (l2)), (3, .int (l3))] [.int ((if x4 < (I5 (m + 18) ((3 * l3) + 1 : Int32).toNatClampNeg : Int32) then 0 else 1))] (I5, J6, R7, K, n) Q by
        refine zIcmp_lt 7 45 41 (by decide +kernel) rfl rfl ⟨fun q12 => ?_, fun q12 => ?_⟩
        · refine zIconst 0 0 46 (by decide +kernel) rfl (by decide) ?_
          exact zTop (by rw [if_pos q12]) KK
        · refine zIconst 1 1 42 (by decide +kernel) rfl (by decide) ?_
          refine zGoto 4 46 (by decide +kernel) rfl ?_
          exact zTop (by rw [if_neg q12]) KK
      refine zAload_n 0 0 47 (by decide +kernel) rfl rfl ?_
      refine gf12_43 84 50 (by decide +kernel) rfl flX12_84 (Mod_0 S10) (Mod_35 S10) ?_
      refine zIconst 3 3 51 (by decide +kernel) rfl (by decide) ?_
      refine zIload_n 3 3 52 (by decide +kernel) rfl rfl ?_
      refine zImul 53 (by decide +kernel) rfl ?_
      refine zIconst 2 2 54 (by decide +kernel) rfl (by decide) ?_
      refine zIadd 55 (by decide +kernel) rfl ?_
      obtain ⟨w13, F⟩ := F
      refine yIaload 30 56 (by decide +kernel) rfl (Mod_36 S10) (w13) ?_
      refine zIconst 1 1 57 (by decide +kernel) rfl (by decide) ?_
      suffices KK : zV G (d + 1) mX12_isWeight kc ks 65 [(0, .ref (m)), (1, .int (l1)), (2, .int (l2)), (3, .int (l3))] [.int ((if (I5 (m + 18) ((3 * l3) + 2 : Int32).toNatClampNeg : Int32) = 1 then 1 else 0)), .int ((if x4 < (I5 (m + 18) ((3 * l3) + 1 : Int32).toNatClampNeg : Int32) then 0 else 1))] (I5, J6, R7, K, n) Q by
        refine zIcmp_ne 7 64 60 (by decide +kernel) rfl rfl ⟨fun q14 => ?_, fun q14 => ?_⟩
        · refine zIconst 0 0 65 (by decide +kernel) rfl (by decide) ?_
          exact zTop (by rw [if_neg q14]) KK
        · refine zIconst 1 1 61 (by decide +kernel) rfl (by decide) ?_
          refine zGoto 4 65 (by decide +kernel) rfl ?_
          exact zTop (by rw [if_pos q14]) KK
      refine zIcmp_eq 5 70 68 (by decide +kernel) rfl rfl ⟨fun q15 => ?_, fun q15 => ?_⟩
      · replace F := F.1 q15
        refine zIinc 3 1 3 (l3 + 1) [(3, .int (l3 + 1)), (0, .ref (m)), (1, .int (l1)), (2, .int (l2))] 73 (by decide +kernel) rfl rfl (by rfl) (by decide) rfl ?_
        refine zGoto (-71) 2 (by decide +kernel) rfl ?_
        exact zLoc [1, 2, 3, 0] _ rfl F
      · replace F := F.2 q15
        refine zIconst 0 0 69 (by decide +kernel) rfl (by decide) ?_
        exact zZret .boolean rfl (zNarZ (Or.inl rfl)) (by decide +kernel) F
set_option maxHeartbeats 2000000 in
theorem wX12_weights_0 {G : zG} {d kc ks : Nat} {I : Nat → Nat → Int32} {J : Nat → Nat → Int64} {R : Nat → Nat → Option Nat} {K : Nat → Nat × Nat} {n : Nat} {Q : Option Value → zH → Prop} (m t c : Nat) (S0_ : hMod G R K n m t c) (p1 p2 : Int32) (F : (∀ I1 : Nat → Nat → Int32, I1 = zU I m 0 (0) → zC G d mX12_isTold 0 0 [.ref (m), .int (p1)] (I1, J, R, K, n) (fun r h => ∃ (x2 : Int32) (I3 : Nat → Nat → Int32), r = some (.int x2) ∧ h = (I3, J, R, K, n) ∧ ((x2 = 0 → Q (some (.int ((-1)))) (I3, J, R, K, n)) ∧ (¬ (x2 = 0) → (((-1) ≤ p2 → zV G (d + 1) mX12_weights kc ks 25 [(0, .ref (m)), (1, .int (p1)), (2, .int (p2)), (3, .int (0)), (4, .int (1))] [] (I3, J, R, K, n) Q) ∧ (¬ ((-1) ≤ p2) → Q (some (.int ((-1)))) (I3, J, R, K, n)))))))) : zV G (d + 1) mX12_weights kc ks 0 [(0, .ref (m)), (1, .int (p1)), (2, .int (p2))] [] (I, J, R, K, n) Q := by
  refine zAload_n 0 0 1 (by decide +kernel) rfl rfl ?_
  refine zIconst 0 0 2 (by decide +kernel) rfl (by decide) ?_
  refine pf12_0 93 5 (by decide +kernel) rfl flX12_93 (Mod_0 S0_) ?_
  replace F := F _ rfl
  generalize zU I m 0 (0) = I1 at F ⊢
  refine zAload_n 0 0 6 (by decide +kernel) rfl rfl ?_
  refine zIload_n 1 1 7 (by decide +kernel) rfl rfl ?_
  refine zCallV 12 zcls12 mX12_isTold 450 1 0 0 _ _ 10 [.int (p1)] [] okX12_isTold mlX12_450 imX12_isTold seX12_isTold (by decide +kernel) rfl rfl (Nat.le_of_ble_eq_true rfl) rfl rfl (Mod_0 S0_) (zC.mono F ?_)
  rintro _ _ ⟨x2, I3, rfl, rfl, F⟩
  change zV G (d + 1) mX12_weights kc ks 10 [(0, .ref (m)), (1, .int (p1)), (2, .int (p2))] [.int (x2)] (I3, J, R, K, n) Q
  refine zIf_eq 8 18 13 (by decide +kernel) rfl rfl ⟨fun q4 => ?_, fun q4 => ?_⟩
  · replace F := F.1 q4
    refine zIconst (-1) (-1) 19 (by decide +kernel) rfl (by decide) ?_
    exact zIret rfl (by decide +kernel) F
  · replace F := F.2 q4
    refine zIload_n 2 2 14 (by decide +kernel) rfl rfl ?_
    refine zIconst (-1) (-1) 15 (by decide +kernel) rfl (by decide) ?_
    refine zIcmp_ge 5 20 18 (by decide +kernel) rfl rfl ⟨fun q5 => ?_, fun q5 => ?_⟩
    · replace F := F.1 q5
      refine zIconst 0 0 21 (by decide +kernel) rfl (by decide) ?_
      refine zIstore_n 3 [(3, .int (0)), (0, .ref (m)), (1, .int (p1)), (2, .int (p2))] 22 (by decide +kernel) rfl (by decide) rfl ?_
      refine zIconst 1 1 23 (by decide +kernel) rfl (by decide) ?_
      refine zIstore 4 [(4, .int (1)), (3, .int (0)), (0, .ref (m)), (1, .int (p1)), (2, .int (p2))] 25 (by decide +kernel) rfl (by decide) rfl ?_
      exact zLoc [2, 3, 4, 1, 0] _ rfl F
    · replace F := F.2 q5
      refine zIconst (-1) (-1) 19 (by decide +kernel) rfl (by decide) ?_
      exact zIret rfl (by decide +kernel) F
set_option maxHeartbeats 2000000 in
theorem wX12_weights_25 {G : zG} {d kc ks : Nat} {I : Nat → Nat → Int32} {J : Nat → Nat → Int64} {R : Nat → Nat → Option Nat} {K : Nat → Nat × Nat} {n : Nat} {Q : Option Value → zH → Prop} (m t c : Nat) (S0_ : hMod G R K n m t c) (l1 l2 l3 l4 : Int32) (F : ((9 < l4 → Q (some (.int ((if l2 = (-1) then l3 else (-1))))) (I, J, R, K, n)) ∧ (¬ (9 < l4) → zC G d mX12_isWeight 0 0 [.ref (m), .int (l1), .int (l4)] (I, J, R, K, n) (fun r h => ∃ (x8 : Int32) (I9 : Nat → Nat → Int32) (J10 : Nat → Nat → Int64) (R11 : Nat → Nat → Option Nat), r = some (.int x8) ∧ h = (I9, J10, R11, K, n) ∧ ∃ u12 u13 : Nat, hMod G R11 K n m u12 u13 ∧ ((x8 = 0 → zV G (d + 1) mX12_weights kc ks 25 [(0, .ref (m)), (1, .int (l1)), (2, .int (l2)), (3, .int (l3)), (4, .int (l4 + 1))] [] (I9, J10, R11, K, n) Q) ∧ (¬ (x8 = 0) → ((l3 = l2 → Q (some (.int (l4))) (I9, J10, R11, K, n)) ∧ (¬ (l3 = l2) → zV G (d + 1) mX12_weights kc ks 25 [(0, .ref (m)), (1, .int (l1)), (2, .int (l2)), (3, .int (l3 + 1)), (4, .int (l4 + 1))] [] (I9, J10, R11, K, n) Q)))))))) : zV G (d + 1) mX12_weights kc ks 25 [(0, .ref (m)), (1, .int (l1)), (2, .int (l2)), (3, .int (l3)), (4, .int (l4))] [] (I, J, R, K, n) Q := by
  refine zIload 4 4 27 (by decide +kernel) rfl rfl ?_
  refine zBipush 9 9 29 (by decide +kernel) rfl (by decide) ?_
  refine zIcmp_gt 33 62 32 (by decide +kernel) rfl rfl ⟨fun q6 => ?_, fun q6 => ?_⟩
  · replace F := F.1 q6
    refine zIload_n 2 2 63 (by decide +kernel) rfl rfl ?_
    refine zIconst (-1) (-1) 64 (by decide +kernel) rfl (by decide) ?_
    suffices KK : zV G (d + 1) mX12_weights kc ks 72 [(0, .ref (m)), (1, .int (l1)), (2, .int (l2)), (3, .int (l3)), (4, .int (l4))] [.int ((if l2 = (-1) then l3 else (-1)))] (I, J, R, K, n) Q by
      refine zIcmp_ne 7 71 67 (by decide +kernel) rfl rfl ⟨fun q7 => ?_, fun q7 => ?_⟩
      · refine zIconst (-1) (-1) 72 (by decide +kernel) rfl (by decide) ?_
        exact zTop (by rw [if_neg q7]) KK
      · refine zIload_n 3 3 68 (by decide +kernel) rfl rfl ?_
        refine zGoto 4 72 (by decide +kernel) rfl ?_
        exact zTop (by rw [if_pos q7]) KK
    exact zIret rfl (by decide +kernel) F
  · replace F := F.2 q6
    refine zAload_n 0 0 33 (by decide +kernel) rfl rfl ?_
    refine zIload_n 1 1 34 (by decide +kernel) rfl rfl ?_
    refine zIload 4 4 36 (by decide +kernel) rfl rfl ?_
    refine zCallV 12 zcls12 mX12_isWeight 458 2 0 0 _ _ 39 [.int (l1), .int (l4)] [] okX12_isWeight mlX12_458 imX12_isWeight seX12_isWeight (by decide +kernel) rfl rfl (Nat.le_of_ble_eq_true rfl) rfl rfl (Mod_0 S0_) (zC.mono F ?_)
    rintro _ _ ⟨x8, I9, J10, R11, rfl, rfl, F⟩
    change zV G (d + 1) mX12_weights kc ks 39 [(0, .ref (m)), (1, .int (l1)), (2, .int (l2)), (3, .int (l3)), (4, .int (l4))] [.int (x8)] (I9, J10, R11, K, n) Q
    obtain ⟨u12, u13, S14, F⟩ := F
    refine zIf_ne 6 45 42 (by decide +kernel) rfl rfl ⟨fun q15 => ?_, fun q15 => ?_⟩
    · replace F := F.2 q15
      refine zIload_n 3 3 46 (by decide +kernel) rfl rfl ?_
      refine zIload_n 2 2 47 (by decide +kernel) rfl rfl ?_
      refine zIcmp_ne 6 53 50 (by decide +kernel) rfl rfl ⟨fun q16 => ?_, fun q16 => ?_⟩
      · replace F := F.2 q16
        refine zIinc 3 1 3 (l3 + 1) [(3, .int (l3 + 1)), (0, .ref (m)), (1, .int (l1)), (2, .int (l2)), (4, .int (l4))] 56 (by decide +kernel) rfl rfl (by rfl) (by decide) rfl ?_
        refine zIinc 4 1 4 (l4 + 1) [(4, .int (l4 + 1)), (3, .int (l3 + 1)), (0, .ref (m)), (1, .int (l1)), (2, .int (l2))] 59 (by decide +kernel) rfl rfl (by rfl) (by decide) rfl ?_
        refine zGoto (-34) 25 (by decide +kernel) rfl ?_
        exact zLoc [2, 3, 4, 1, 0] _ rfl F
      · replace F := F.1 q16
        refine zIload 4 4 52 (by decide +kernel) rfl rfl ?_
        exact zIret rfl (by decide +kernel) F
    · replace F := F.1 q15
      refine zGoto 14 56 (by decide +kernel) rfl ?_
      refine zIinc 4 1 4 (l4 + 1) [(4, .int (l4 + 1)), (0, .ref (m)), (1, .int (l1)), (2, .int (l2)), (3, .int (l3))] 59 (by decide +kernel) rfl rfl (by rfl) (by decide) rfl ?_
      refine zGoto (-34) 25 (by decide +kernel) rfl ?_
      exact zLoc [1, 2, 3, 4, 0] _ rfl F
set_option maxHeartbeats 2000000 in
theorem wX12_ask_0 {G : zG} {d kc ks : Nat} {I : Nat → Nat → Int32} {J : Nat → Nat → Int64} {R : Nat → Nat → Option Nat} {K : Nat → Nat × Nat} {n : Nat} {Q : Option Value → zH → Prop} (m t c : Nat) (S0_ : hMod G R K n m t c) (p1 : Int32) (F : (∀ I1 : Nat → Nat → Int32, I1 = zU I m 0 (0) → zC G d mX12_isTold 0 0 [.ref (m), .int (p1)] (I1, J, R, K, n) (fun r h => ∃ (x2 : Int32) (I3 : Nat → Nat → Int32), r = some (.int x2) ∧ h = (I3, J, R, K, n) ∧ ((x2 = 0 → Q (some (.int ((-1)))) (I3, J, R, K, n)) ∧ (¬ (x2 = 0) → zV G (d + 1) mX12_ask kc ks 22 [(0, .ref (m)), (1, .int (p1)), (2, .int ((-1))), (3, .int (0)), (4, .int (0))] [] (I3, J, R, K, n) Q))))) : zV G (d + 1) mX12_ask kc ks 0 [(0, .ref (m)), (1, .int (p1))] [] (I, J, R, K, n) Q := by
  refine zAload_n 0 0 1 (by decide +kernel) rfl rfl ?_
  refine zIconst 0 0 2 (by decide +kernel) rfl (by decide) ?_
  refine pf12_0 93 5 (by decide +kernel) rfl flX12_93 (Mod_0 S0_) ?_
  replace F := F _ rfl
  generalize zU I m 0 (0) = I1 at F ⊢
  refine zAload_n 0 0 6 (by decide +kernel) rfl rfl ?_
  refine zIload_n 1 1 7 (by decide +kernel) rfl rfl ?_
  refine zCallV 12 zcls12 mX12_isTold 450 1 0 0 _ _ 10 [.int (p1)] [] okX12_isTold mlX12_450 imX12_isTold seX12_isTold (by decide +kernel) rfl rfl (Nat.le_of_ble_eq_true rfl) rfl rfl (Mod_0 S0_) (zC.mono F ?_)
  rintro _ _ ⟨x2, I3, rfl, rfl, F⟩
  change zV G (d + 1) mX12_ask kc ks 10 [(0, .ref (m)), (1, .int (p1))] [.int (x2)] (I3, J, R, K, n) Q
  refine zIf_ne 5 15 13 (by decide +kernel) rfl rfl ⟨fun q4 => ?_, fun q4 => ?_⟩
  · replace F := F.2 q4
    refine zIconst (-1) (-1) 16 (by decide +kernel) rfl (by decide) ?_
    refine zIstore_n 2 [(2, .int ((-1))), (0, .ref (m)), (1, .int (p1))] 17 (by decide +kernel) rfl (by decide) rfl ?_
    refine zIconst 0 0 18 (by decide +kernel) rfl (by decide) ?_
    refine zIstore_n 3 [(3, .int (0)), (2, .int ((-1))), (0, .ref (m)), (1, .int (p1))] 19 (by decide +kernel) rfl (by decide) rfl ?_
    refine zIconst 0 0 20 (by decide +kernel) rfl (by decide) ?_
    refine zIstore 4 [(4, .int (0)), (3, .int (0)), (2, .int ((-1))), (0, .ref (m)), (1, .int (p1))] 22 (by decide +kernel) rfl (by decide) rfl ?_
    exact zLoc [3, 4, 2, 1, 0] _ rfl F
  · replace F := F.1 q4
    refine zIconst (-1) (-1) 14 (by decide +kernel) rfl (by decide) ?_
    exact zIret rfl (by decide +kernel) F
set_option maxHeartbeats 2000000 in
theorem wX12_ask_22 {G : zG} {d kc ks : Nat} {I : Nat → Nat → Int32} {J : Nat → Nat → Int64} {R : Nat → Nat → Option Nat} {K : Nat → Nat × Nat} {n : Nat} {Q : Option Value → zH → Prop} (m t c : Nat) (S0_ : hMod G R K n m t c) (l1 l2 l3 l4 : Int32) (F : ((40 < l4 → Q (some (.int (l2))) (I, J, R, K, n)) ∧ (¬ (40 < l4) → zV G (d + 1) mX12_ask kc ks 38 [(0, .ref (m)), (1, .int (l1)), (2, .int (l2)), (3, .int (l3)), (4, .int (l4)), (5, .int (0)), (6, .int (0)), (7, .int (1))] [] (I, J, R, K, n) Q))) : zV G (d + 1) mX12_ask kc ks 22 [(0, .ref (m)), (1, .int (l1)), (2, .int (l2)), (3, .int (l3)), (4, .int (l4))] [] (I, J, R, K, n) Q := by
  refine zIload 4 4 24 (by decide +kernel) rfl rfl ?_
  refine zBipush 40 40 26 (by decide +kernel) rfl (by decide) ?_
  refine zIcmp_gt 103 129 29 (by decide +kernel) rfl rfl ⟨fun q5 => ?_, fun q5 => ?_⟩
  · replace F := F.1 q5
    refine zIload_n 2 2 130 (by decide +kernel) rfl rfl ?_
    exact zIret rfl (by decide +kernel) F
  · replace F := F.2 q5
    refine zIconst 0 0 30 (by decide +kernel) rfl (by decide) ?_
    refine zIstore 5 [(5, .int (0)), (0, .ref (m)), (1, .int (l1)), (2, .int (l2)), (3, .int (l3)), (4, .int (l4))] 32 (by decide +kernel) rfl (by decide) rfl ?_
    refine zIconst 0 0 33 (by decide +kernel) rfl (by decide) ?_
    refine zIstore 6 [(6, .int (0)), (5, .int (0)), (0, .ref (m)), (1, .int (l1)), (2, .int (l2)), (3, .int (l3)), (4, .int (l4))] 35 (by decide +kernel) rfl (by decide) rfl ?_
    refine zIconst 1 1 36 (by decide +kernel) rfl (by decide) ?_
    refine zIstore 7 [(7, .int (1)), (6, .int (0)), (5, .int (0)), (0, .ref (m)), (1, .int (l1)), (2, .int (l2)), (3, .int (l3)), (4, .int (l4))] 38 (by decide +kernel) rfl (by decide) rfl ?_
    exact zLoc [3, 4, 5, 6, 7, 2, 1, 0] _ rfl F
set_option maxHeartbeats 2000000 in
theorem wX12_ask_38 {G : zG} {d kc ks : Nat} {I : Nat → Nat → Int32} {J : Nat → Nat → Int64} {R : Nat → Nat → Option Nat} {K : Nat → Nat × Nat} {n : Nat} {Q : Option Value → zH → Prop} (m t c : Nat) (S0_ : hMod G R K n m t c) (l1 l2 l3 l4 l5 l6 l7 : Int32) (F : ((9 < l7 → ((l6 = 0 → Q (some (.int ((-1)))) (I, J, R, K, n)) ∧ (¬ (l6 = 0) → ((l2 = (-1) → zV G (d + 1) mX12_ask kc ks 22 [(0, .ref (m)), (1, .int (l1)), (2, .int (l4)), (3, .int ((if 0 ≤ (l5 : Int32) then l5 else 0 - l5))), (4, .int (l4 + 1))] [] (I, J, R, K, n) Q) ∧ (¬ (l2 = (-1)) → ((((if 0 ≤ (l5 : Int32) then l5 else 0 - l5) : Int32) < l3 → zV G (d + 1) mX12_ask kc ks 22 [(0, .ref (m)), (1, .int (l1)), (2, .int (l4)), (3, .int ((if 0 ≤ (l5 : Int32) then l5 else 0 - l5))), (4, .int (l4 + 1))] [] (I, J, R, K, n) Q) ∧ (¬ (((if 0 ≤ (l5 : Int32) then l5 else 0 - l5) : Int32) < l3) → zV G (d + 1) mX12_ask kc ks 22 [(0, .ref (m)), (1, .int (l1)), (2, .int (l2)), (3, .int (l3)), (4, .int (l4 + 1))] [] (I, J, R, K, n) Q))))))) ∧ (¬ (9 < l7) → zC G d mX12_isWeight 0 0 [.ref (m), .int (l1), .int (l7)] (I, J, R, K, n) (fun r h => ∃ (x10 : Int32) (I11 : Nat → Nat → Int32) (J12 : Nat → Nat → Int64) (R13 : Nat → Nat → Option Nat), r = some (.int x10) ∧ h = (I11, J12, R13, K, n) ∧ ∃ u14 u15 : Nat, hMod G R13 K n m u14 u15 ∧ ((x10 = 0 → zV G (d + 1) mX12_ask kc ks 38 [(0, .ref (m)), (1, .int (l1)), (2, .int (l2)), (3, .int (l3)), (4, .int (l4)), (5, .int (l5)), (6, .int (l6)), (7, .int (l7 + 1))] [] (I11, J12, R13, K, n) Q) ∧ (¬ (x10 = 0) → zC G d mX12_yardsTold 0 0 [.ref (m), .int (l1), .int (l7)] (I11, J12, R13, K, n) (fun r h => ∃ (x18 : Int32) (I19 : Nat → Nat → Int32) (J20 : Nat → Nat → Int64) (R21 : Nat → Nat → Option Nat), r = some (.int x18) ∧ h = (I19, J20, R21, K, n) ∧ ∃ u22 u23 : Nat, hMod G R21 K n m u22 u23 ∧ zV G (d + 1) mX12_ask kc ks 38 [(0, .ref (m)), (1, .int (l1)), (2, .int (l2)), (3, .int (l3)), (4, .int (l4)), (5, .int (l5 + (if x18 < l4 then (-1) else 1))), (6, .int (1)), (7, .int (l7 + 1))] [] (I19, J20, R21, K, n) Q))))))) : zV G (d + 1) mX12_ask kc ks 38 [(0, .ref (m)), (1, .int (l1)), (2, .int (l2)), (3, .int (l3)), (4, .int (l4)), (5, .int (l5)), (6, .int (l6)), (7, .int (l7))] [] (I, J, R, K, n) Q := by
  refine zIload 7 7 40 (by decide +kernel) rfl rfl ?_
  refine zBipush 9 9 42 (by decide +kernel) rfl (by decide) ?_
  refine zIcmp_gt 47 89 45 (by decide +kernel) rfl rfl ⟨fun q6 => ?_, fun q6 => ?_⟩
  · replace F := F.1 q6
    refine zIload 6 6 91 (by decide +kernel) rfl rfl ?_
    refine zIf_ne 5 96 94 (by decide +kernel) rfl rfl ⟨fun q7 => ?_, fun q7 => ?_⟩
    · replace F := F.2 q7
      refine zIload 5 5 98 (by decide +kernel) rfl rfl ?_
      refine yAbs 461 101 (by decide +kernel) rfl mlX12_461 (Nat.le_of_ble_eq_true rfl) ?_
      refine zIstore 5 [(5, .int ((if 0 ≤ (l5 : Int32) then l5 else 0 - l5))), (0, .ref (m)), (1, .int (l1)), (2, .int (l2)), (3, .int (l3)), (4, .int (l4)), (6, .int (l6)), (7, .int (l7))] 103 (by decide +kernel) rfl (by decide) rfl ?_
      refine zIload_n 2 3 104 (by decide +kernel) rfl rfl ?_
      refine zIconst (-1) (-1) 105 (by decide +kernel) rfl (by decide) ?_
      refine zIcmp_eq 12 117 108 (by decide +kernel) rfl rfl ⟨fun q8 => ?_, fun q8 => ?_⟩
      · replace F := F.1 q8
        refine zIload 4 5 119 (by decide +kernel) rfl rfl ?_
        refine zIstore_n 2 [(2, .int (l4)), (5, .int ((if 0 ≤ (l5 : Int32) then l5 else 0 - l5))), (0, .ref (m)), (1, .int (l1)), (3, .int (l3)), (4, .int (l4)), (6, .int (l6)), (7, .int (l7))] 120 (by decide +kernel) rfl (by decide) rfl ?_
        refine zIload 5 1 122 (by decide +kernel) rfl rfl ?_
        refine zIstore_n 3 [(3, .int ((if 0 ≤ (l5 : Int32) then l5 else 0 - l5))), (2, .int (l4)), (5, .int ((if 0 ≤ (l5 : Int32) then l5 else 0 - l5))), (0, .ref (m)), (1, .int (l1)), (4, .int (l4)), (6, .int (l6)), (7, .int (l7))] 123 (by decide +kernel) rfl (by decide) rfl ?_
        refine zIinc 4 1 5 (l4 + 1) [(4, .int (l4 + 1)), (3, .int ((if 0 ≤ (l5 : Int32) then l5 else 0 - l5))), (2, .int (l4)), (5, .int ((if 0 ≤ (l5 : Int32) then l5 else 0 - l5))), (0, .ref (m)), (1, .int (l1)), (6, .int (l6)), (7, .int (l7))] 126 (by decide +kernel) rfl rfl (by rfl) (by decide) rfl ?_
        refine zGoto (-104) 22 (by decide +kernel) rfl ?_
        exact zLoc [4, 5, 2, 1, 0] _ rfl F
      · replace F := F.2 q8
        refine zIload 5 0 110 (by decide +kernel) rfl rfl ?_
        refine zIload_n 3 4 111 (by decide +kernel) rfl rfl ?_
        refine zIcmp_lt 6 117 114 (by decide +kernel) rfl rfl ⟨fun q9 => ?_, fun q9 => ?_⟩
        · replace F := F.1 q9
          refine zIload 4 5 119 (by decide +kernel) rfl rfl ?_
          refine zIstore_n 2 [(2, .int (l4)), (5, .int ((if 0 ≤ (l5 : Int32) then l5 else 0 - l5))), (0, .ref (m)), (1, .int (l1)), (3, .int (l3)), (4, .int (l4)), (6, .int (l6)), (7, .int (l7))] 120 (by decide +kernel) rfl (by decide) rfl ?_
          refine zIload 5 1 122 (by decide +kernel) rfl rfl ?_
          refine zIstore_n 3 [(3, .int ((if 0 ≤ (l5 : Int32) then l5 else 0 - l5))), (2, .int (l4)), (5, .int ((if 0 ≤ (l5 : Int32) then l5 else 0 - l5))), (0, .ref (m)), (1, .int (l1)), (4, .int (l4)), (6, .int (l6)), (7, .int (l7))] 123 (by decide +kernel) rfl (by decide) rfl ?_
          refine zIinc 4 1 5 (l4 + 1) [(4, .int (l4 + 1)), (3, .int ((if 0 ≤ (l5 : Int32) then l5 else 0 - l5))), (2, .int (l4)), (5, .int ((if 0 ≤ (l5 : Int32) then l5 else 0 - l5))), (0, .ref (m)), (1, .int (l1)), (6, .int (l6)), (7, .int (l7))] 126 (by decide +kernel) rfl rfl (by rfl) (by decide) rfl ?_
          refine zGoto (-104) 22 (by decide +kernel) rfl ?_
          exact zLoc [4, 5, 2, 1, 0] _ rfl F
        · replace F := F.2 q9
          refine zGoto 9 123 (by decide +kernel) rfl ?_
          refine zIinc 4 1 5 (l4 + 1) [(4, .int (l4 + 1)), (5, .int ((if 0 ≤ (l5 : Int32) then l5 else 0 - l5))), (0, .ref (m)), (1, .int (l1)), (2, .int (l2)), (3, .int (l3)), (6, .int (l6)), (7, .int (l7))] 126 (by decide +kernel) rfl rfl (by rfl) (by decide) rfl ?_
          refine zGoto (-104) 22 (by decide +kernel) rfl ?_
          exact zLoc [2, 3, 4, 5, 0] _ rfl F
    · replace F := F.1 q7
      refine zIconst (-1) (-1) 95 (by decide +kernel) rfl (by decide) ?_
      exact zIret rfl (by decide +kernel) F
  · replace F := F.2 q6
    refine zAload_n 0 0 46 (by decide +kernel) rfl rfl ?_
    refine zIload_n 1 1 47 (by decide +kernel) rfl rfl ?_
    refine zIload 7 7 49 (by decide +kernel) rfl rfl ?_
    refine zCallV 12 zcls12 mX12_isWeight 458 2 0 0 _ _ 52 [.int (l1), .int (l7)] [] okX12_isWeight mlX12_458 imX12_isWeight seX12_isWeight (by decide +kernel) rfl rfl (Nat.le_of_ble_eq_true rfl) rfl rfl (Mod_0 S0_) (zC.mono F ?_)
    rintro _ _ ⟨x10, I11, J12, R13, rfl, rfl, F⟩
    change zV G (d + 1) mX12_ask kc ks 52 [(0, .ref (m)), (1, .int (l1)), (2, .int (l2)), (3, .int (l3)), (4, .int (l4)), (5, .int (l5)), (6, .int (l6)), (7, .int (l7))] [.int (x10)] (I11, J12, R13, K, n) Q
    obtain ⟨u14, u15, S16, F⟩ := F
    refine zIf_ne 6 58 55 (by decide +kernel) rfl rfl ⟨fun q17 => ?_, fun q17 => ?_⟩
    · replace F := F.2 q17
      refine zIconst 1 1 59 (by decide +kernel) rfl (by decide) ?_
      refine zIstore 6 [(6, .int (1)), (0, .ref (m)), (1, .int (l1)), (2, .int (l2)), (3, .int (l3)), (4, .int (l4)), (5, .int (l5)), (7, .int (l7))] 61 (by decide +kernel) rfl (by decide) rfl ?_
      refine zIload 5 6 63 (by decide +kernel) rfl rfl ?_
      refine zAload_n 0 1 64 (by decide +kernel) rfl rfl ?_
      refine zIload_n 1 2 65 (by decide +kernel) rfl rfl ?_
      refine zIload 7 7 67 (by decide +kernel) rfl rfl ?_
      refine zCallV 12 zcls12 mX12_yardsTold 455 2 0 0 _ _ 70 [.int (l1), .int (l7)] [.int (l5)] okX12_yardsTold mlX12_455 imX12_yardsTold seX12_yardsTold (by decide +kernel) rfl rfl (Nat.le_of_ble_eq_true rfl) rfl rfl (Mod_0 S16) (zC.mono F ?_)
      rintro _ _ ⟨x18, I19, J20, R21, rfl, rfl, F⟩
      change zV G (d + 1) mX12_ask kc ks 70 [(6, .int (1)), (0, .ref (m)), (1, .int (l1)), (2, .int (l2)), (3, .int (l3)), (4, .int (l4)), (5, .int (l5)), (7, .int (l7))] [.int (x18), .int (l5)] (I19, J20, R21, K, n) Q
      obtain ⟨u22, u23, S24, F⟩ := F
      refine zIload 4 5 72 (by decide +kernel) rfl rfl ?_
      suffices KK : zV G (d + 1) mX12_ask kc ks 80 [(6, .int (1)), (0, .ref (m)), (1, .int (l1)), (2, .int (l2)), (3, .int (l3)), (4, .int (l4)), (5, .int (l5)), (7, .int (l7))] [.int ((if x18 < l4 then (-1) else 1)), .int (l5)] (I19, J20, R21, K, n) Q by
        refine zIcmp_lt 7 79 75 (by decide +kernel) rfl rfl ⟨fun q25 => ?_, fun q25 => ?_⟩
        · refine zIconst (-1) (-1) 80 (by decide +kernel) rfl (by decide) ?_
          exact zTop (by rw [if_pos q25]) KK
        · refine zIconst 1 1 76 (by decide +kernel) rfl (by decide) ?_
          refine zGoto 4 80 (by decide +kernel) rfl ?_
          exact zTop (by rw [if_neg q25]) KK
      refine zIadd 81 (by decide +kernel) rfl ?_
      refine zIstore 5 [(5, .int (l5 + (if x18 < l4 then (-1) else 1))), (6, .int (1)), (0, .ref (m)), (1, .int (l1)), (2, .int (l2)), (3, .int (l3)), (4, .int (l4)), (7, .int (l7))] 83 (by decide +kernel) rfl (by decide) rfl ?_
      refine zIinc 7 1 7 (l7 + 1) [(7, .int (l7 + 1)), (5, .int (l5 + (if x18 < l4 then (-1) else 1))), (6, .int (1)), (0, .ref (m)), (1, .int (l1)), (2, .int (l2)), (3, .int (l3)), (4, .int (l4))] 86 (by decide +kernel) rfl rfl (by rfl) (by decide) rfl ?_
      refine zGoto (-48) 38 (by decide +kernel) rfl ?_
      exact zLoc [3, 4, 5, 6, 7, 1, 2, 0] _ rfl F
    · replace F := F.1 q17
      refine zGoto 28 83 (by decide +kernel) rfl ?_
      refine zIinc 7 1 7 (l7 + 1) [(7, .int (l7 + 1)), (0, .ref (m)), (1, .int (l1)), (2, .int (l2)), (3, .int (l3)), (4, .int (l4)), (5, .int (l5)), (6, .int (l6))] 86 (by decide +kernel) rfl rfl (by rfl) (by decide) rfl ?_
      refine zGoto (-48) 38 (by decide +kernel) rfl ?_
      exact zLoc [1, 2, 3, 4, 5, 6, 7, 0] _ rfl F
set_option maxHeartbeats 2000000 in
theorem wX12_goFar_0 {G : zG} {d kc ks : Nat} {I : Nat → Nat → Int32} {J : Nat → Nat → Int64} {R : Nat → Nat → Option Nat} {K : Nat → Nat × Nat} {n : Nat} {Q : Option Value → zH → Prop} (m t c : Nat) (S0_ : hMod G R K n m t c) (p1 : Int32) (F : zV G (d + 1) mX12_goFar kc ks 2 [(0, .ref (m)), (1, .int (p1)), (2, .int (0))] [] (I, J, R, K, n) Q) : zV G (d + 1) mX12_goFar kc ks 0 [(0, .ref (m)), (1, .int (p1))] [] (I, J, R, K, n) Q := by
  refine zIconst 0 0 1 (by decide +kernel) rfl (by decide) ?_
  refine zIstore_n 2 [(2, .int (0)), (0, .ref (m)), (1, .int (p1))] 2 (by decide +kernel) rfl (by decide) rfl ?_
  exact zLoc [1, 2, 0] _ rfl F
set_option maxHeartbeats 2000000 in
theorem wX12_goFar_2 {G : zG} {d kc ks : Nat} {I : Nat → Nat → Int32} {J : Nat → Nat → Int64} {R : Nat → Nat → Option Nat} {K : Nat → Nat × Nat} {n : Nat} {Q : Option Value → zH → Prop} (m t c : Nat) (S0_ : hMod G R K n m t c) (l1 l2 : Int32) (F : ((6 ≤ l2 → zV G (d + 1) mX12_goFar kc ks 27 [(0, .ref (m)), (1, .int (l1)), (2, .int ((1 : Int32) <<< (l1 &&& 31))), (3, .int (1))] [] (I, J, R, K, n) Q) ∧ (¬ (6 ≤ l2) → (vp_in l2 6 ∧ ∀ I2 : Nat → Nat → Int32, I2 = zU I (m + 19) l2.toNatClampNeg ((-1)) → zV G (d + 1) mX12_goFar kc ks 2 [(0, .ref (m)), (1, .int (l1)), (2, .int (l2 + 1))] [] (I2, J, R, K, n) Q)))) : zV G (d + 1) mX12_goFar kc ks 2 [(0, .ref (m)), (1, .int (l1)), (2, .int (l2))] [] (I, J, R, K, n) Q := by
  refine zIload_n 2 2 3 (by decide +kernel) rfl rfl ?_
  refine zBipush 6 6 5 (by decide +kernel) rfl (by decide) ?_
  refine zIcmp_ge 16 21 8 (by decide +kernel) rfl rfl ⟨fun q1 => ?_, fun q1 => ?_⟩
  · replace F := F.1 q1
    refine zIconst 1 1 22 (by decide +kernel) rfl (by decide) ?_
    refine zIload_n 1 1 23 (by decide +kernel) rfl rfl ?_
    refine zIshl 24 (by decide +kernel) rfl ?_
    refine zIstore_n 2 [(2, .int ((1 : Int32) <<< (l1 &&& 31))), (0, .ref (m)), (1, .int (l1))] 25 (by decide +kernel) rfl (by decide) rfl ?_
    refine zIconst 1 1 26 (by decide +kernel) rfl (by decide) ?_
    refine zIstore_n 3 [(3, .int (1)), (2, .int ((1 : Int32) <<< (l1 &&& 31))), (0, .ref (m)), (1, .int (l1))] 27 (by decide +kernel) rfl (by decide) rfl ?_
    exact zLoc [2, 3, 1, 0] _ rfl F
  · replace F := F.2 q1
    refine zAload_n 0 0 9 (by decide +kernel) rfl rfl ?_
    refine gf12_45 87 12 (by decide +kernel) rfl flX12_87 (Mod_0 S0_) (Mod_37 S0_) ?_
    refine zIload_n 2 2 13 (by decide +kernel) rfl rfl ?_
    refine zIconst (-1) (-1) 14 (by decide +kernel) rfl (by decide) ?_
    refine yIastore 6 15 (by decide +kernel) rfl (Mod_38 S0_) F.1 ?_
    replace F := F.2 _ rfl
    generalize zU I (m + 19) l2.toNatClampNeg ((-1)) = I2 at F ⊢
    refine zIinc 2 1 2 (l2 + 1) [(2, .int (l2 + 1)), (0, .ref (m)), (1, .int (l1))] 18 (by decide +kernel) rfl rfl (by rfl) (by decide) rfl ?_
    refine zGoto (-16) 2 (by decide +kernel) rfl ?_
    exact zLoc [1, 2, 0] _ rfl F
set_option maxHeartbeats 2000000 in
theorem wX12_goFar_27 {G : zG} {d kc ks : Nat} {I : Nat → Nat → Int32} {J : Nat → Nat → Int64} {R : Nat → Nat → Option Nat} {K : Nat → Nat × Nat} {n : Nat} {Q : Option Value → zH → Prop} (m t c : Nat) (S0_ : hMod G R K n m t c) (l1 l2 l3 : Int32) (F : ((6 < l3 → Q none (I, J, R, K, n)) ∧ (¬ (6 < l3) → zV G (d + 1) mX12_goFar kc ks 39 [(0, .ref (m)), (1, .int (l1)), (2, .int (l2)), (3, .int (l3)), (4, .int (0)), (5, .int (0))] [] (I, J, R, K, n) Q))) : zV G (d + 1) mX12_goFar kc ks 27 [(0, .ref (m)), (1, .int (l1)), (2, .int (l2)), (3, .int (l3))] [] (I, J, R, K, n) Q := by
  refine zIload_n 3 3 28 (by decide +kernel) rfl rfl ?_
  refine zBipush 6 6 30 (by decide +kernel) rfl (by decide) ?_
  refine zIcmp_gt 134 164 33 (by decide +kernel) rfl rfl ⟨fun q3 => ?_, fun q3 => ?_⟩
  · replace F := F.1 q3
    exact zVret rfl (by decide +kernel) F
  · replace F := F.2 q3
    refine zIconst 0 0 34 (by decide +kernel) rfl (by decide) ?_
    refine zIstore 4 [(4, .int (0)), (0, .ref (m)), (1, .int (l1)), (2, .int (l2)), (3, .int (l3))] 36 (by decide +kernel) rfl (by decide) rfl ?_
    refine zIconst 0 0 37 (by decide +kernel) rfl (by decide) ?_
    refine zIstore 5 [(5, .int (0)), (4, .int (0)), (0, .ref (m)), (1, .int (l1)), (2, .int (l2)), (3, .int (l3))] 39 (by decide +kernel) rfl (by decide) rfl ?_
    exact zLoc [2, 3, 4, 5, 1, 0] _ rfl F
set_option maxHeartbeats 2000000 in
theorem wX12_goFar_39 {G : zG} {d kc ks : Nat} {I : Nat → Nat → Int32} {J : Nat → Nat → Int64} {R : Nat → Nat → Option Nat} {K : Nat → Nat × Nat} {n : Nat} {Q : Option Value → zH → Prop} (m t c : Nat) (S0_ : hMod G R K n m t c) (l1 l2 l3 l4 l5 : Int32) (F : ((9 ≤ l5 → zV G (d + 1) mX12_goFar kc ks 124 [(0, .ref (m)), (1, .int (l1)), (2, .int (l2)), (3, .int (l3)), (4, .int (l4)), (5, .int (0))] [] (I, J, R, K, n) Q) ∧ (¬ (9 ≤ l5) → zC G d mX12_isOpen 0 0 [.ref (m + 13), .int (l5)] (I, J, R, K, n) (fun r h => ∃ (x5 : Int32) (I6 : Nat → Nat → Int32), r = some (.int x5) ∧ h = (I6, J, R, K, n) ∧ ((x5 = 0 → zV G (d + 1) mX12_goFar kc ks 39 [(0, .ref (m)), (1, .int (l1)), (2, .int (l2)), (3, .int (l3)), (4, .int (l4)), (5, .int (l5 + 1))] [] (I6, J, R, K, n) Q) ∧ (¬ (x5 = 0) → ((vp_in (3 * l5) 231) ∧ zC G d mX12_has 0 0 [.int (l2), .int (I6 (m + 13) (3 * l5 : Int32).toNatClampNeg)] (I6, J, R, K, n) (fun r h => ∃ (x9 : Int32) (I10 : Nat → Nat → Int32), r = some (.int x9) ∧ h = (I10, J, R, K, n) ∧ ((x9 = 0 → zV G (d + 1) mX12_goFar kc ks 39 [(0, .ref (m)), (1, .int (l1)), (2, .int (l2)), (3, .int (l3)), (4, .int (l4)), (5, .int (l5 + 1))] [] (I10, J, R, K, n) Q) ∧ (¬ (x9 = 0) → ((vp_in ((3 * l5) + 1) 231) ∧ ((vp_in (I10 (m + 13) ((3 * l5) + 1 : Int32).toNatClampNeg) 6) ∧ (((I10 (m + 19) (I10 (m + 13) ((3 * l5) + 1 : Int32).toNatClampNeg : Int32).toNatClampNeg : Int32) = (-1) → ((vp_in ((3 * l5) + 1) 231) ∧ zV G (d + 1) mX12_goFar kc ks 39 [(0, .ref (m)), (1, .int (l1)), (2, .int (l2)), (3, .int (l3)), (4, .int (l4 ||| ((1 : Int32) <<< ((I10 (m + 13) ((3 * l5) + 1 : Int32).toNatClampNeg : Int32) &&& 31)))), (5, .int (l5 + 1))] [] (I10, J, R, K, n) Q)) ∧ (¬ ((I10 (m + 19) (I10 (m + 13) ((3 * l5) + 1 : Int32).toNatClampNeg : Int32).toNatClampNeg : Int32) = (-1)) → zV G (d + 1) mX12_goFar kc ks 39 [(0, .ref (m)), (1, .int (l1)), (2, .int (l2)), (3, .int (l3)), (4, .int (l4)), (5, .int (l5 + 1))] [] (I10, J, R, K, n) Q)))))))))))))) : zV G (d + 1) mX12_goFar kc ks 39 [(0, .ref (m)), (1, .int (l1)), (2, .int (l2)), (3, .int (l3)), (4, .int (l4)), (5, .int (l5))] [] (I, J, R, K, n) Q := by
  refine zIload 5 5 41 (by decide +kernel) rfl rfl ?_
  refine zBipush 9 9 43 (by decide +kernel) rfl (by decide) ?_
  refine zIcmp_ge 78 121 46 (by decide +kernel) rfl rfl ⟨fun q4 => ?_, fun q4 => ?_⟩
  · replace F := F.1 q4
    refine zIconst 0 0 122 (by decide +kernel) rfl (by decide) ?_
    refine zIstore 5 [(5, .int (0)), (0, .ref (m)), (1, .int (l1)), (2, .int (l2)), (3, .int (l3)), (4, .int (l4))] 124 (by decide +kernel) rfl (by decide) rfl ?_
    exact zLoc [1, 2, 3, 4, 5, 0] _ rfl F
  · replace F := F.2 q4
    refine zAload_n 0 0 47 (by decide +kernel) rfl rfl ?_
    refine gf12_32 61 50 (by decide +kernel) rfl flX12_61 (Mod_0 S0_) (Mod_25 S0_) ?_
    refine zIload 5 5 52 (by decide +kernel) rfl rfl ?_
    refine zCallS mX12_isOpen 358 2 0 0 _ _ 55 [.ref (m + 13), .int (l5)] [] okX12_isOpen mlX12_358 smX12_isOpen (by decide +kernel) rfl rfl (Nat.le_of_ble_eq_true rfl) rfl rfl (zC.mono F ?_)
    rintro _ _ ⟨x5, I6, rfl, rfl, F⟩
    change zV G (d + 1) mX12_goFar kc ks 55 [(0, .ref (m)), (1, .int (l1)), (2, .int (l2)), (3, .int (l3)), (4, .int (l4)), (5, .int (l5))] [.int (x5)] (I6, J, R, K, n) Q
    refine zIf_eq 60 115 58 (by decide +kernel) rfl rfl ⟨fun q7 => ?_, fun q7 => ?_⟩
    · replace F := F.1 q7
      refine zIinc 5 1 5 (l5 + 1) [(5, .int (l5 + 1)), (0, .ref (m)), (1, .int (l1)), (2, .int (l2)), (3, .int (l3)), (4, .int (l4))] 118 (by decide +kernel) rfl rfl (by rfl) (by decide) rfl ?_
      refine zGoto (-79) 39 (by decide +kernel) rfl ?_
      exact zLoc [1, 2, 3, 4, 5, 0] _ rfl F
    · replace F := F.2 q7
      refine zIload_n 2 2 59 (by decide +kernel) rfl rfl ?_
      refine zAload_n 0 0 60 (by decide +kernel) rfl rfl ?_
      refine gf12_32 61 63 (by decide +kernel) rfl flX12_61 (Mod_0 S0_) (Mod_25 S0_) ?_
      refine zIconst 3 3 64 (by decide +kernel) rfl (by decide) ?_
      refine zIload 5 5 66 (by decide +kernel) rfl rfl ?_
      refine zImul 67 (by decide +kernel) rfl ?_
      obtain ⟨w8, F⟩ := F
      refine yIaload 231 68 (by decide +kernel) rfl (Mod_26 S0_) (w8) ?_
      refine zCallS mX12_has 226 2 0 0 _ _ 71 [.int (l2), .int (I6 (m + 13) (3 * l5 : Int32).toNatClampNeg)] [] okX12_has mlX12_226 smX12_has (by decide +kernel) rfl rfl (Nat.le_of_ble_eq_true rfl) rfl rfl (zC.mono F ?_)
      rintro _ _ ⟨x9, I10, rfl, rfl, F⟩
      change zV G (d + 1) mX12_goFar kc ks 71 [(0, .ref (m)), (1, .int (l1)), (2, .int (l2)), (3, .int (l3)), (4, .int (l4)), (5, .int (l5))] [.int (x9)] (I10, J, R, K, n) Q
      refine zIf_eq 44 115 74 (by decide +kernel) rfl rfl ⟨fun q11 => ?_, fun q11 => ?_⟩
      · replace F := F.1 q11
        refine zIinc 5 1 5 (l5 + 1) [(5, .int (l5 + 1)), (0, .ref (m)), (1, .int (l1)), (2, .int (l2)), (3, .int (l3)), (4, .int (l4))] 118 (by decide +kernel) rfl rfl (by rfl) (by decide) rfl ?_
        refine zGoto (-79) 39 (by decide +kernel) rfl ?_
        exact zLoc [1, 2, 3, 4, 5, 0] _ rfl F
      · replace F := F.2 q11
        refine zAload_n 0 0 75 (by decide +kernel) rfl rfl ?_
        refine gf12_45 87 78 (by decide +kernel) rfl flX12_87 (Mod_0 S0_) (Mod_37 S0_) ?_
        refine zAload_n 0 0 79 (by decide +kernel) rfl rfl ?_
        refine gf12_32 61 82 (by decide +kernel) rfl flX12_61 (Mod_0 S0_) (Mod_25 S0_) ?_
        refine zIconst 3 3 83 (by decide +kernel) rfl (by decide) ?_
        refine zIload 5 5 85 (by decide +kernel) rfl rfl ?_
        refine zImul 86 (by decide +kernel) rfl ?_
        refine zIconst 1 1 87 (by decide +kernel) rfl (by decide) ?_
        refine zIadd 88 (by decide +kernel) rfl ?_
        obtain ⟨w12, F⟩ := F
        refine yIaload 231 89 (by decide +kernel) rfl (Mod_26 S0_) (w12) ?_
        obtain ⟨w13, F⟩ := F
        refine yIaload 6 90 (by decide +kernel) rfl (Mod_38 S0_) (w13) ?_
        refine zIconst (-1) (-1) 91 (by decide +kernel) rfl (by decide) ?_
        refine zIcmp_eq 6 97 94 (by decide +kernel) rfl rfl ⟨fun q14 => ?_, fun q14 => ?_⟩
        · replace F := F.1 q14
          refine zIload 4 4 99 (by decide +kernel) rfl rfl ?_
          refine zIconst 1 1 100 (by decide +kernel) rfl (by decide) ?_
          refine zAload_n 0 0 101 (by decide +kernel) rfl rfl ?_
          refine gf12_32 61 104 (by decide +kernel) rfl flX12_61 (Mod_0 S0_) (Mod_25 S0_) ?_
          refine zIconst 3 3 105 (by decide +kernel) rfl (by decide) ?_
          refine zIload 5 5 107 (by decide +kernel) rfl rfl ?_
          refine zImul 108 (by decide +kernel) rfl ?_
          refine zIconst 1 1 109 (by decide +kernel) rfl (by decide) ?_
          refine zIadd 110 (by decide +kernel) rfl ?_
          obtain ⟨w15, F⟩ := F
          refine yIaload 231 111 (by decide +kernel) rfl (Mod_26 S0_) (w15) ?_
          refine zIshl 112 (by decide +kernel) rfl ?_
          refine zIor 113 (by decide +kernel) rfl ?_
          refine zIstore 4 [(4, .int (l4 ||| ((1 : Int32) <<< ((I10 (m + 13) ((3 * l5) + 1 : Int32).toNatClampNeg : Int32) &&& 31)))), (0, .ref (m)), (1, .int (l1)), (2, .int (l2)), (3, .int (l3)), (5, .int (l5))] 115 (by decide +kernel) rfl (by decide) rfl ?_
          refine zIinc 5 1 5 (l5 + 1) [(5, .int (l5 + 1)), (4, .int (l4 ||| ((1 : Int32) <<< ((I10 (m + 13) ((3 * l5) + 1 : Int32).toNatClampNeg : Int32) &&& 31)))), (0, .ref (m)), (1, .int (l1)), (2, .int (l2)), (3, .int (l3))] 118 (by decide +kernel) rfl rfl (by rfl) (by decide) rfl ?_
          refine zGoto (-79) 39 (by decide +kernel) rfl ?_
          exact zLoc [2, 3, 4, 5, 1, 0] _ rfl F
        · replace F := F.2 q14
          refine zGoto 21 115 (by decide +kernel) rfl ?_
          refine zIinc 5 1 5 (l5 + 1) [(5, .int (l5 + 1)), (0, .ref (m)), (1, .int (l1)), (2, .int (l2)), (3, .int (l3)), (4, .int (l4))] 118 (by decide +kernel) rfl rfl (by rfl) (by decide) rfl ?_
          refine zGoto (-79) 39 (by decide +kernel) rfl ?_
          exact zLoc [1, 2, 3, 4, 5, 0] _ rfl F
set_option maxHeartbeats 2000000 in
theorem wX12_goFar_124 {G : zG} {d kc ks : Nat} {I : Nat → Nat → Int32} {J : Nat → Nat → Int64} {R : Nat → Nat → Option Nat} {K : Nat → Nat × Nat} {n : Nat} {Q : Option Value → zH → Prop} (m t c : Nat) (S0_ : hMod G R K n m t c) (l1 l2 l3 l4 l5 : Int32) (F : ((6 ≤ l5 → zV G (d + 1) mX12_goFar kc ks 27 [(0, .ref (m)), (1, .int (l1)), (2, .int (l4)), (3, .int (l3 + 1))] [] (I, J, R, K, n) Q) ∧ (¬ (6 ≤ l5) → zC G d mX12_has 0 0 [.int (l4), .int (l5)] (I, J, R, K, n) (fun r h => ∃ (x17 : Int32) (I18 : Nat → Nat → Int32), r = some (.int x17) ∧ h = (I18, J, R, K, n) ∧ ((x17 = 0 → zV G (d + 1) mX12_goFar kc ks 124 [(0, .ref (m)), (1, .int (l1)), (2, .int (l2)), (3, .int (l3)), (4, .int (l4)), (5, .int (l5 + 1))] [] (I18, J, R, K, n) Q) ∧ (¬ (x17 = 0) → (vp_in l5 6 ∧ ∀ I20 : Nat → Nat → Int32, I20 = zU I18 (m + 19) l5.toNatClampNeg (l3) → zV G (d + 1) mX12_goFar kc ks 124 [(0, .ref (m)), (1, .int (l1)), (2, .int (l2)), (3, .int (l3)), (4, .int (l4)), (5, .int (l5 + 1))] [] (I20, J, R, K, n) Q))))))) : zV G (d + 1) mX12_goFar kc ks 124 [(0, .ref (m)), (1, .int (l1)), (2, .int (l2)), (3, .int (l3)), (4, .int (l4)), (5, .int (l5))] [] (I, J, R, K, n) Q := by
  refine zIload 5 5 126 (by decide +kernel) rfl rfl ?_
  refine zBipush 6 6 128 (by decide +kernel) rfl (by decide) ?_
  refine zIcmp_ge 27 155 131 (by decide +kernel) rfl rfl ⟨fun q16 => ?_, fun q16 => ?_⟩
  · replace F := F.1 q16
    refine zIload 4 4 157 (by decide +kernel) rfl rfl ?_
    refine zIstore_n 2 [(2, .int (l4)), (0, .ref (m)), (1, .int (l1)), (3, .int (l3)), (4, .int (l4)), (5, .int (l5))] 158 (by decide +kernel) rfl (by decide) rfl ?_
    refine zIinc 3 1 3 (l3 + 1) [(3, .int (l3 + 1)), (2, .int (l4)), (0, .ref (m)), (1, .int (l1)), (4, .int (l4)), (5, .int (l5))] 161 (by decide +kernel) rfl rfl (by rfl) (by decide) rfl ?_
    refine zGoto (-134) 27 (by decide +kernel) rfl ?_
    exact zLoc [2, 3, 1, 0] _ rfl F
  · replace F := F.2 q16
    refine zIload 4 4 133 (by decide +kernel) rfl rfl ?_
    refine zIload 5 5 135 (by decide +kernel) rfl rfl ?_
    refine zCallS mX12_has 226 2 0 0 _ _ 138 [.int (l4), .int (l5)] [] okX12_has mlX12_226 smX12_has (by decide +kernel) rfl rfl (Nat.le_of_ble_eq_true rfl) rfl rfl (zC.mono F ?_)
    rintro _ _ ⟨x17, I18, rfl, rfl, F⟩
    change zV G (d + 1) mX12_goFar kc ks 138 [(0, .ref (m)), (1, .int (l1)), (2, .int (l2)), (3, .int (l3)), (4, .int (l4)), (5, .int (l5))] [.int (x17)] (I18, J, R, K, n) Q
    refine zIf_eq 11 149 141 (by decide +kernel) rfl rfl ⟨fun q19 => ?_, fun q19 => ?_⟩
    · replace F := F.1 q19
      refine zIinc 5 1 5 (l5 + 1) [(5, .int (l5 + 1)), (0, .ref (m)), (1, .int (l1)), (2, .int (l2)), (3, .int (l3)), (4, .int (l4))] 152 (by decide +kernel) rfl rfl (by rfl) (by decide) rfl ?_
      refine zGoto (-28) 124 (by decide +kernel) rfl ?_
      exact zLoc [1, 2, 3, 4, 5, 0] _ rfl F
    · replace F := F.2 q19
      refine zAload_n 0 0 142 (by decide +kernel) rfl rfl ?_
      refine gf12_45 87 145 (by decide +kernel) rfl flX12_87 (Mod_0 S0_) (Mod_37 S0_) ?_
      refine zIload 5 5 147 (by decide +kernel) rfl rfl ?_
      refine zIload_n 3 3 148 (by decide +kernel) rfl rfl ?_
      refine yIastore 6 149 (by decide +kernel) rfl (Mod_38 S0_) F.1 ?_
      replace F := F.2 _ rfl
      generalize zU I18 (m + 19) l5.toNatClampNeg (l3) = I20 at F ⊢
      refine zIinc 5 1 5 (l5 + 1) [(5, .int (l5 + 1)), (0, .ref (m)), (1, .int (l1)), (2, .int (l2)), (3, .int (l3)), (4, .int (l4))] 152 (by decide +kernel) rfl rfl (by rfl) (by decide) rfl ?_
      refine zGoto (-28) 124 (by decide +kernel) rfl ?_
      exact zLoc [1, 2, 3, 4, 5, 0] _ rfl F
set_option maxHeartbeats 2000000 in
theorem wX12_ring_0 {G : zG} {d kc ks : Nat} {I : Nat → Nat → Int32} {J : Nat → Nat → Int64} {R : Nat → Nat → Option Nat} {K : Nat → Nat × Nat} {n : Nat} {Q : Option Value → zH → Prop} (m t c : Nat) (S0_ : hMod G R K n m t c) (F : (∀ I1 : Nat → Nat → Int32, I1 = zU I m 0 (0) → zV G (d + 1) mX12_ring kc ks 9 [(0, .ref (m)), (1, .int ((-1))), (2, .int (0))] [] (I1, J, R, K, n) Q)) : zV G (d + 1) mX12_ring kc ks 0 [(0, .ref (m))] [] (I, J, R, K, n) Q := by
  refine zAload_n 0 0 1 (by decide +kernel) rfl rfl ?_
  refine zIconst 0 0 2 (by decide +kernel) rfl (by decide) ?_
  refine pf12_0 93 5 (by decide +kernel) rfl flX12_93 (Mod_0 S0_) ?_
  replace F := F _ rfl
  generalize zU I m 0 (0) = I1 at F ⊢
  refine zIconst (-1) (-1) 6 (by decide +kernel) rfl (by decide) ?_
  refine zIstore_n 1 [(1, .int ((-1))), (0, .ref (m))] 7 (by decide +kernel) rfl (by decide) rfl ?_
  refine zIconst 0 0 8 (by decide +kernel) rfl (by decide) ?_
  refine zIstore_n 2 [(2, .int (0)), (1, .int ((-1))), (0, .ref (m))] 9 (by decide +kernel) rfl (by decide) rfl ?_
  exact zLoc [2, 1, 0] _ rfl F
set_option maxHeartbeats 2000000 in
theorem wX12_ring_9 {G : zG} {d kc ks : Nat} {I : Nat → Nat → Int32} {J : Nat → Nat → Int64} {R : Nat → Nat → Option Nat} {K : Nat → Nat × Nat} {n : Nat} {Q : Option Value → zH → Prop} (m t c : Nat) (S0_ : hMod G R K n m t c) (l1 l2 : Int32) (F : (((I m 26 : Int32) ≤ l2 → Q (some (.int (l1))) (I, J, R, K, n)) ∧ (¬ ((I m 26 : Int32) ≤ l2) → zC G d mX12_goFar 0 0 [.ref (m), .int (l2)] (I, J, R, K, n) (fun r h => ∃ (I3 : Nat → Nat → Int32), r = none ∧ h = (I3, J, R, K, n) ∧ ((vp_in l2 6) ∧ (((I3 (m + 19) l2.toNatClampNeg : Int32) = (-1) → zV G (d + 1) mX12_ring kc ks 9 [(0, .ref (m)), (1, .int (l1)), (2, .int (l2 + 1))] [] (I3, J, R, K, n) Q) ∧ (¬ ((I3 (m + 19) l2.toNatClampNeg : Int32) = (-1)) → ((l1 = (-1) → ((vp_in l2 6) ∧ zV G (d + 1) mX12_ring kc ks 9 [(0, .ref (m)), (1, .int (I3 (m + 19) l2.toNatClampNeg)), (2, .int (l2 + 1))] [] (I3, J, R, K, n) Q)) ∧ (¬ (l1 = (-1)) → ((vp_in l2 6) ∧ ((l1 ≤ (I3 (m + 19) l2.toNatClampNeg : Int32) → zV G (d + 1) mX12_ring kc ks 9 [(0, .ref (m)), (1, .int (l1)), (2, .int (l2 + 1))] [] (I3, J, R, K, n) Q) ∧ (¬ (l1 ≤ (I3 (m + 19) l2.toNatClampNeg : Int32)) → ((vp_in l2 6) ∧ zV G (d + 1) mX12_ring kc ks 9 [(0, .ref (m)), (1, .int (I3 (m + 19) l2.toNatClampNeg)), (2, .int (l2 + 1))] [] (I3, J, R, K, n) Q))))))))))))) : zV G (d + 1) mX12_ring kc ks 9 [(0, .ref (m)), (1, .int (l1)), (2, .int (l2))] [] (I, J, R, K, n) Q := by
  refine zIload_n 2 2 10 (by decide +kernel) rfl rfl ?_
  refine zAload_n 0 0 11 (by decide +kernel) rfl rfl ?_
  refine gf12_26 291 14 (by decide +kernel) rfl flX12_291 (Mod_0 S0_) ?_
  refine zIcmp_ge 46 60 17 (by decide +kernel) rfl rfl ⟨fun q2 => ?_, fun q2 => ?_⟩
  · replace F := F.1 q2
    refine zIload_n 1 1 61 (by decide +kernel) rfl rfl ?_
    exact zIret rfl (by decide +kernel) F
  · replace F := F.2 q2
    refine zAload_n 0 0 18 (by decide +kernel) rfl rfl ?_
    refine zIload_n 2 2 19 (by decide +kernel) rfl rfl ?_
    refine zCallV 12 zcls12 mX12_goFar 464 1 0 0 _ _ 22 [.int (l2)] [] okX12_goFar mlX12_464 imX12_goFar seX12_goFar (by decide +kernel) rfl rfl (Nat.le_of_ble_eq_true rfl) rfl rfl (Mod_0 S0_) (zC.mono F ?_)
    rintro _ _ ⟨I3, rfl, rfl, F⟩
    change zV G (d + 1) mX12_ring kc ks 22 [(0, .ref (m)), (1, .int (l1)), (2, .int (l2))] [] (I3, J, R, K, n) Q
    refine zAload_n 0 0 23 (by decide +kernel) rfl rfl ?_
    refine gf12_45 87 26 (by decide +kernel) rfl flX12_87 (Mod_0 S0_) (Mod_37 S0_) ?_
    refine zIload_n 2 2 27 (by decide +kernel) rfl rfl ?_
    obtain ⟨w4, F⟩ := F
    refine yIaload 6 28 (by decide +kernel) rfl (Mod_38 S0_) (w4) ?_
    refine zIconst (-1) (-1) 29 (by decide +kernel) rfl (by decide) ?_
    refine zIcmp_eq 25 54 32 (by decide +kernel) rfl rfl ⟨fun q5 => ?_, fun q5 => ?_⟩
    · replace F := F.1 q5
      refine zIinc 2 1 2 (l2 + 1) [(2, .int (l2 + 1)), (0, .ref (m)), (1, .int (l1))] 57 (by decide +kernel) rfl rfl (by rfl) (by decide) rfl ?_
      refine zGoto (-48) 9 (by decide +kernel) rfl ?_
      exact zLoc [1, 2, 0] _ rfl F
    · replace F := F.2 q5
      refine zIload_n 1 1 33 (by decide +kernel) rfl rfl ?_
      refine zIconst (-1) (-1) 34 (by decide +kernel) rfl (by decide) ?_
      refine zIcmp_eq 13 47 37 (by decide +kernel) rfl rfl ⟨fun q6 => ?_, fun q6 => ?_⟩
      · replace F := F.1 q6
        refine zAload_n 0 0 48 (by decide +kernel) rfl rfl ?_
        refine gf12_45 87 51 (by decide +kernel) rfl flX12_87 (Mod_0 S0_) (Mod_37 S0_) ?_
        refine zIload_n 2 2 52 (by decide +kernel) rfl rfl ?_
        obtain ⟨w7, F⟩ := F
        refine yIaload 6 53 (by decide +kernel) rfl (Mod_38 S0_) (w7) ?_
        refine zIstore_n 1 [(1, .int (I3 (m + 19) l2.toNatClampNeg)), (0, .ref (m)), (2, .int (l2))] 54 (by decide +kernel) rfl (by decide) rfl ?_
        refine zIinc 2 1 2 (l2 + 1) [(2, .int (l2 + 1)), (1, .int (I3 (m + 19) l2.toNatClampNeg)), (0, .ref (m))] 57 (by decide +kernel) rfl rfl (by rfl) (by decide) rfl ?_
        refine zGoto (-48) 9 (by decide +kernel) rfl ?_
        exact zLoc [2, 1, 0] _ rfl F
      · replace F := F.2 q6
        refine zAload_n 0 0 38 (by decide +kernel) rfl rfl ?_
        refine gf12_45 87 41 (by decide +kernel) rfl flX12_87 (Mod_0 S0_) (Mod_37 S0_) ?_
        refine zIload_n 2 2 42 (by decide +kernel) rfl rfl ?_
        obtain ⟨w8, F⟩ := F
        refine yIaload 6 43 (by decide +kernel) rfl (Mod_38 S0_) (w8) ?_
        refine zIload_n 1 1 44 (by decide +kernel) rfl rfl ?_
        refine zIcmp_ge 10 54 47 (by decide +kernel) rfl rfl ⟨fun q9 => ?_, fun q9 => ?_⟩
        · replace F := F.1 q9
          refine zIinc 2 1 2 (l2 + 1) [(2, .int (l2 + 1)), (0, .ref (m)), (1, .int (l1))] 57 (by decide +kernel) rfl rfl (by rfl) (by decide) rfl ?_
          refine zGoto (-48) 9 (by decide +kernel) rfl ?_
          exact zLoc [1, 2, 0] _ rfl F
        · replace F := F.2 q9
          refine zAload_n 0 0 48 (by decide +kernel) rfl rfl ?_
          refine gf12_45 87 51 (by decide +kernel) rfl flX12_87 (Mod_0 S0_) (Mod_37 S0_) ?_
          refine zIload_n 2 2 52 (by decide +kernel) rfl rfl ?_
          obtain ⟨w10, F⟩ := F
          refine yIaload 6 53 (by decide +kernel) rfl (Mod_38 S0_) (w10) ?_
          refine zIstore_n 1 [(1, .int (I3 (m + 19) l2.toNatClampNeg)), (0, .ref (m)), (2, .int (l2))] 54 (by decide +kernel) rfl (by decide) rfl ?_
          refine zIinc 2 1 2 (l2 + 1) [(2, .int (l2 + 1)), (1, .int (I3 (m + 19) l2.toNatClampNeg)), (0, .ref (m))] 57 (by decide +kernel) rfl rfl (by rfl) (by decide) rfl ?_
          refine zGoto (-48) 9 (by decide +kernel) rfl ?_
          exact zLoc [2, 1, 0] _ rfl F
set_option maxHeartbeats 2000000 in
theorem wX12_chain_0 {G : zG} {d kc ks : Nat} {I : Nat → Nat → Int32} {J : Nat → Nat → Int64} {R : Nat → Nat → Option Nat} {K : Nat → Nat × Nat} {n : Nat} {Q : Option Value → zH → Prop} (m t c : Nat) (S0_ : hMod G R K n m t c) (p1 p2 : Int32) (F : (∀ I1 : Nat → Nat → Int32, I1 = zU I m 0 (0) → zC G d mX12_isFarm 0 0 [.ref (m), .int (p1)] (I1, J, R, K, n) (fun r h => ∃ (x2 : Int32) (I3 : Nat → Nat → Int32), r = some (.int x2) ∧ h = (I3, J, R, K, n) ∧ ((x2 = 0 → Q (some (.int ((-1)))) (I3, J, R, K, n)) ∧ (¬ (x2 = 0) → zC G d mX12_isFarm 0 0 [.ref (m), .int (p2)] (I3, J, R, K, n) (fun r h => ∃ (x5 : Int32) (I6 : Nat → Nat → Int32), r = some (.int x5) ∧ h = (I6, J, R, K, n) ∧ ((x5 = 0 → Q (some (.int ((-1)))) (I6, J, R, K, n)) ∧ (¬ (x5 = 0) → zC G d mX12_goFar 0 0 [.ref (m), .int (p1)] (I6, J, R, K, n) (fun r h => ∃ (I8 : Nat → Nat → Int32), r = none ∧ h = (I8, J, R, K, n) ∧ (((¬ (p1 = p2)) → vp_in p2 6) ∧ Q (some (.int ((if p1 = p2 then 0 else I8 (m + 19) p2.toNatClampNeg)))) (I8, J, R, K, n))))))))))) : zV G (d + 1) mX12_chain kc ks 0 [(0, .ref (m)), (1, .int (p1)), (2, .int (p2))] [] (I, J, R, K, n) Q := by
  refine zAload_n 0 0 1 (by decide +kernel) rfl rfl ?_
  refine zIconst 0 0 2 (by decide +kernel) rfl (by decide) ?_
  refine pf12_0 93 5 (by decide +kernel) rfl flX12_93 (Mod_0 S0_) ?_
  replace F := F _ rfl
  generalize zU I m 0 (0) = I1 at F ⊢
  refine zAload_n 0 0 6 (by decide +kernel) rfl rfl ?_
  refine zIload_n 1 1 7 (by decide +kernel) rfl rfl ?_
  refine zCallV 12 zcls12 mX12_isFarm 306 1 0 0 _ _ 10 [.int (p1)] [] okX12_isFarm mlX12_306 imX12_isFarm seX12_isFarm (by decide +kernel) rfl rfl (Nat.le_of_ble_eq_true rfl) rfl rfl (Mod_0 S0_) (zC.mono F ?_)
  rintro _ _ ⟨x2, I3, rfl, rfl, F⟩
  change zV G (d + 1) mX12_chain kc ks 10 [(0, .ref (m)), (1, .int (p1)), (2, .int (p2))] [.int (x2)] (I3, J, R, K, n) Q
  refine zIf_eq 11 21 13 (by decide +kernel) rfl rfl ⟨fun q4 => ?_, fun q4 => ?_⟩
  · replace F := F.1 q4
    refine zIconst (-1) (-1) 22 (by decide +kernel) rfl (by decide) ?_
    exact zIret rfl (by decide +kernel) F
  · replace F := F.2 q4
    refine zAload_n 0 0 14 (by decide +kernel) rfl rfl ?_
    refine zIload_n 2 2 15 (by decide +kernel) rfl rfl ?_
    refine zCallV 12 zcls12 mX12_isFarm 306 1 0 0 _ _ 18 [.int (p2)] [] okX12_isFarm mlX12_306 imX12_isFarm seX12_isFarm (by decide +kernel) rfl rfl (Nat.le_of_ble_eq_true rfl) rfl rfl (Mod_0 S0_) (zC.mono F ?_)
    rintro _ _ ⟨x5, I6, rfl, rfl, F⟩
    change zV G (d + 1) mX12_chain kc ks 18 [(0, .ref (m)), (1, .int (p1)), (2, .int (p2))] [.int (x5)] (I6, J, R, K, n) Q
    refine zIf_ne 5 23 21 (by decide +kernel) rfl rfl ⟨fun q7 => ?_, fun q7 => ?_⟩
    · replace F := F.2 q7
      refine zAload_n 0 0 24 (by decide +kernel) rfl rfl ?_
      refine zIload_n 1 1 25 (by decide +kernel) rfl rfl ?_
      refine zCallV 12 zcls12 mX12_goFar 464 1 0 0 _ _ 28 [.int (p1)] [] okX12_goFar mlX12_464 imX12_goFar seX12_goFar (by decide +kernel) rfl rfl (Nat.le_of_ble_eq_true rfl) rfl rfl (Mod_0 S0_) (zC.mono F ?_)
      rintro _ _ ⟨I8, rfl, rfl, F⟩
      change zV G (d + 1) mX12_chain kc ks 28 [(0, .ref (m)), (1, .int (p1)), (2, .int (p2))] [] (I8, J, R, K, n) Q
      refine zIload_n 1 1 29 (by decide +kernel) rfl rfl ?_
      refine zIload_n 2 2 30 (by decide +kernel) rfl rfl ?_
      obtain ⟨w10, F⟩ := F
      suffices KK : zV G (d + 1) mX12_chain kc ks 43 [(0, .ref (m)), (1, .int (p1)), (2, .int (p2))] [.int ((if p1 = p2 then 0 else I8 (m + 19) p2.toNatClampNeg))] (I8, J, R, K, n) Q by
        refine zIcmp_ne 7 37 33 (by decide +kernel) rfl rfl ⟨fun q9 => ?_, fun q9 => ?_⟩
        · refine zAload_n 0 0 38 (by decide +kernel) rfl rfl ?_
          refine gf12_45 87 41 (by decide +kernel) rfl flX12_87 (Mod_0 S0_) (Mod_37 S0_) ?_
          refine zIload_n 2 2 42 (by decide +kernel) rfl rfl ?_
          refine yIaload 6 43 (by decide +kernel) rfl (Mod_38 S0_) (w10 q9) ?_
          exact zTop (by rw [if_neg q9]) KK
        · refine zIconst 0 0 34 (by decide +kernel) rfl (by decide) ?_
          refine zGoto 9 43 (by decide +kernel) rfl ?_
          exact zTop (by rw [if_pos q9]) KK
      exact zIret rfl (by decide +kernel) F
    · replace F := F.1 q7
      refine zIconst (-1) (-1) 22 (by decide +kernel) rfl (by decide) ?_
      exact zIret rfl (by decide +kernel) F
set_option maxHeartbeats 2000000 in
theorem wX12_score_0 {G : zG} {d kc ks : Nat} {I : Nat → Nat → Int32} {J : Nat → Nat → Int64} {R : Nat → Nat → Option Nat} {K : Nat → Nat × Nat} {n : Nat} {Q : Option Value → zH → Prop} (m t c : Nat) (S0_ : hMod G R K n m t c) (p1 p2 : Int32) (F : (∀ I1 : Nat → Nat → Int32, I1 = zU I m 0 (0) → zC G d mX12_isFarm 0 0 [.ref (m), .int (p1)] (I1, J, R, K, n) (fun r h => ∃ (x2 : Int32) (I3 : Nat → Nat → Int32), r = some (.int x2) ∧ h = (I3, J, R, K, n) ∧ ((x2 = 0 → Q (some (.int ((-1)))) (I3, J, R, K, n)) ∧ (¬ (x2 = 0) → zC G d mX12_isIn 0 0 [.long (p2.toInt64), .long (0), .long (1)] (I3, J, R, K, n) (fun r h => ∃ (x5 : Int32) (I6 : Nat → Nat → Int32), r = some (.int x5) ∧ h = (I6, J, R, K, n) ∧ ((x5 = 0 → Q (some (.int ((-1)))) (I6, J, R, K, n)) ∧ (¬ (x5 = 0) → zC G d mX12_openOf 0 0 [.ref (m), .int (p1), .int (p2)] (I6, J, R, K, n) (fun r h => ∃ (x8 : Int32) (I9 : Nat → Nat → Int32), r = some (.int x8) ∧ h = (I9, J, R, K, n) ∧ Q (some (.int (x8))) (I9, J, R, K, n)))))))))) : zV G (d + 1) mX12_score kc ks 0 [(0, .ref (m)), (1, .int (p1)), (2, .int (p2))] [] (I, J, R, K, n) Q := by
  refine zAload_n 0 0 1 (by decide +kernel) rfl rfl ?_
  refine zIconst 0 0 2 (by decide +kernel) rfl (by decide) ?_
  refine pf12_0 93 5 (by decide +kernel) rfl flX12_93 (Mod_0 S0_) ?_
  replace F := F _ rfl
  generalize zU I m 0 (0) = I1 at F ⊢
  refine zAload_n 0 0 6 (by decide +kernel) rfl rfl ?_
  refine zIload_n 1 1 7 (by decide +kernel) rfl rfl ?_
  refine zCallV 12 zcls12 mX12_isFarm 306 1 0 0 _ _ 10 [.int (p1)] [] okX12_isFarm mlX12_306 imX12_isFarm seX12_isFarm (by decide +kernel) rfl rfl (Nat.le_of_ble_eq_true rfl) rfl rfl (Mod_0 S0_) (zC.mono F ?_)
  rintro _ _ ⟨x2, I3, rfl, rfl, F⟩
  change zV G (d + 1) mX12_score kc ks 10 [(0, .ref (m)), (1, .int (p1)), (2, .int (p2))] [.int (x2)] (I3, J, R, K, n) Q
  refine zIf_eq 22 32 13 (by decide +kernel) rfl rfl ⟨fun q4 => ?_, fun q4 => ?_⟩
  · replace F := F.1 q4
    refine zIconst (-1) (-1) 33 (by decide +kernel) rfl (by decide) ?_
    exact zIret rfl (by decide +kernel) F
  · replace F := F.2 q4
    refine zIload_n 2 2 14 (by decide +kernel) rfl rfl ?_
    refine zI2l 15 (by decide +kernel) rfl ?_
    refine zLconst 0 0 16 (by decide +kernel) rfl (by decide) ?_
    refine zLconst 1 1 17 (by decide +kernel) rfl (by decide) ?_
    refine zCallS mX12_isIn 214 3 0 0 _ _ 20 [.long (p2.toInt64), .long (0), .long (1)] [] okX12_isIn mlX12_214 smX12_isIn (by decide +kernel) rfl rfl (Nat.le_of_ble_eq_true rfl) rfl rfl (zC.mono F ?_)
    rintro _ _ ⟨x5, I6, rfl, rfl, F⟩
    change zV G (d + 1) mX12_score kc ks 20 [(0, .ref (m)), (1, .int (p1)), (2, .int (p2))] [.int (x5)] (I6, J, R, K, n) Q
    refine zIf_eq 12 32 23 (by decide +kernel) rfl rfl ⟨fun q7 => ?_, fun q7 => ?_⟩
    · replace F := F.1 q7
      refine zIconst (-1) (-1) 33 (by decide +kernel) rfl (by decide) ?_
      exact zIret rfl (by decide +kernel) F
    · replace F := F.2 q7
      refine zAload_n 0 0 24 (by decide +kernel) rfl rfl ?_
      refine zIload_n 1 1 25 (by decide +kernel) rfl rfl ?_
      refine zIload_n 2 2 26 (by decide +kernel) rfl rfl ?_
      refine zCallV 12 zcls12 mX12_openOf 431 2 0 0 _ _ 29 [.int (p1), .int (p2)] [] okX12_openOf mlX12_431 imX12_openOf seX12_openOf (by decide +kernel) rfl rfl (Nat.le_of_ble_eq_true rfl) rfl rfl (Mod_0 S0_) (zC.mono F ?_)
      rintro _ _ ⟨x8, I9, rfl, rfl, F⟩
      change zV G (d + 1) mX12_score kc ks 29 [(0, .ref (m)), (1, .int (p1)), (2, .int (p2))] [.int (x8)] (I9, J, R, K, n) Q
      refine zGoto 4 33 (by decide +kernel) rfl ?_
      exact zIret rfl (by decide +kernel) F
set_option maxHeartbeats 2000000 in
theorem wX12_chooses_0 {G : zG} {d kc ks : Nat} {I : Nat → Nat → Int32} {J : Nat → Nat → Int64} {R : Nat → Nat → Option Nat} {K : Nat → Nat × Nat} {n : Nat} {Q : Option Value → zH → Prop} (m t c : Nat) (S0_ : hMod G R K n m t c) (p1 p2 p3 : Int32) (F : zV G (d + 1) mX12_chooses kc ks 3 [(0, .ref (m)), (1, .int (p1)), (2, .int (p2)), (3, .int (p3)), (4, .int (0))] [] (I, J, R, K, n) Q) : zV G (d + 1) mX12_chooses kc ks 0 [(0, .ref (m)), (1, .int (p1)), (2, .int (p2)), (3, .int (p3))] [] (I, J, R, K, n) Q := by
  refine zIconst 0 0 1 (by decide +kernel) rfl (by decide) ?_
  refine zIstore 4 [(4, .int (0)), (0, .ref (m)), (1, .int (p1)), (2, .int (p2)), (3, .int (p3))] 3 (by decide +kernel) rfl (by decide) rfl ?_
  exact zLoc [1, 2, 3, 4, 0] _ rfl F
set_option maxHeartbeats 2000000 in
theorem wX12_chooses_3 {G : zG} {d kc ks : Nat} {I : Nat → Nat → Int32} {J : Nat → Nat → Int64} {R : Nat → Nat → Option Nat} {K : Nat → Nat × Nat} {n : Nat} {Q : Option Value → zH → Prop} (m t c : Nat) (S0_ : hMod G R K n m t c) (l1 l2 l3 l4 : Int32) (F : ((9 ≤ l4 → ((l3 = 2 → ((vp_in 47 231) ∧ zC G d mX12_bare 0 0 [.ref (m), .ref (m + 14), .int (l1)] (I, J, R, K, n) (fun r h => ∃ (x4 : Int32) (I5 : Nat → Nat → Int32), r = some (.int x4) ∧ h = (I5, J, R, K, n) ∧ zC G d mX12_paints 0 0 [.ref (m + 14), .int (l1), .int ((if ((if (x4 : Int32) < (I (m + 14) (47 : Int32).toNatClampNeg) then x4 else I (m + 14) (47 : Int32).toNatClampNeg) : Int32) < 9 then (if (x4 : Int32) < (I (m + 14) (47 : Int32).toNatClampNeg) then x4 else I (m + 14) (47 : Int32).toNatClampNeg) else 9))] (I5, J, R, K, n) (fun r h => ∃ (I6 : Nat → Nat → Int32), r = none ∧ h = (I6, J, R, K, n) ∧ Q none (I6, J, R, K, n))))) ∧ (¬ (l3 = 2) → Q none (I, J, R, K, n)))) ∧ (¬ (9 ≤ l4) → ((l3 = 1 → zC G d mX12_isOpen 0 0 [.ref (m + 14), .int (l4)] (I, J, R, K, n) (fun r h => ∃ (x13 : Int32) (I14 : Nat → Nat → Int32), r = some (.int x13) ∧ h = (I14, J, R, K, n) ∧ ((x13 = 0 → zV G (d + 1) mX12_chooses kc ks 3 [(0, .ref (m)), (1, .int (l1)), (2, .int (l2)), (3, .int (l3)), (4, .int (l4 + 1))] [] (I14, J, R, K, n) Q) ∧ (¬ (x13 = 0) → ((vp_in (3 * l4) 231) ∧ (((I14 (m + 14) (3 * l4 : Int32).toNatClampNeg : Int32) = l2 → ((vp_in ((3 * l4) + 1) 231) ∧ (((I14 (m + 14) ((3 * l4) + 1 : Int32).toNatClampNeg : Int32) = l1 → zC G d mX12_forgives 0 0 [.ref (m), .ref (m + 14), .int (l4)] (I14, J, R, K, n) (fun r h => ∃ (x20 : Int32) (I21 : Nat → Nat → Int32) (J22 : Nat → Nat → Int64) (R23 : Nat → Nat → Option Nat), r = some (.int x20) ∧ h = (I21, J22, R23, K, n) ∧ ∃ u24 u25 : Nat, hMod G R23 K n m u24 u25 ∧ zV G (d + 1) mX12_chooses kc ks 3 [(0, .ref (m)), (1, .int (l1)), (2, .int (l2)), (3, .int (l3)), (4, .int (l4 + 1))] [] (I21, J22, R23, K, n) Q)) ∧ (¬ ((I14 (m + 14) ((3 * l4) + 1 : Int32).toNatClampNeg : Int32) = l1) → zV G (d + 1) mX12_chooses kc ks 3 [(0, .ref (m)), (1, .int (l1)), (2, .int (l2)), (3, .int (l3)), (4, .int (l4 + 1))] [] (I14, J, R, K, n) Q)))) ∧ (¬ ((I14 (m + 14) (3 * l4 : Int32).toNatClampNeg : Int32) = l2) → zV G (d + 1) mX12_chooses kc ks 3 [(0, .ref (m)), (1, .int (l1)), (2, .int (l2)), (3, .int (l3)), (4, .int (l4 + 1))] [] (I14, J, R, K, n) Q))))))) ∧ (¬ (l3 = 1) → ((l3 = 2 → ((vp_in 47 231) ∧ zC G d mX12_bare 0 0 [.ref (m), .ref (m + 14), .int (l1)] (I, J, R, K, n) (fun r h => ∃ (x10 : Int32) (I11 : Nat → Nat → Int32), r = some (.int x10) ∧ h = (I11, J, R, K, n) ∧ zC G d mX12_paints 0 0 [.ref (m + 14), .int (l1), .int ((if ((if (x10 : Int32) < (I (m + 14) (47 : Int32).toNatClampNeg) then x10 else I (m + 14) (47 : Int32).toNatClampNeg) : Int32) < 9 then (if (x10 : Int32) < (I (m + 14) (47 : Int32).toNatClampNeg) then x10 else I (m + 14) (47 : Int32).toNatClampNeg) else 9))] (I11, J, R, K, n) (fun r h => ∃ (I12 : Nat → Nat → Int32), r = none ∧ h = (I12, J, R, K, n) ∧ Q none (I12, J, R, K, n))))) ∧ (¬ (l3 = 2) → Q none (I, J, R, K, n)))))))) : zV G (d + 1) mX12_chooses kc ks 3 [(0, .ref (m)), (1, .int (l1)), (2, .int (l2)), (3, .int (l3)), (4, .int (l4))] [] (I, J, R, K, n) Q := by
  refine zIload 4 4 5 (by decide +kernel) rfl rfl ?_
  refine zBipush 9 9 7 (by decide +kernel) rfl (by decide) ?_
  refine zIcmp_ge 69 76 10 (by decide +kernel) rfl rfl ⟨fun q1 => ?_, fun q1 => ?_⟩
  · replace F := F.1 q1
    refine zIload_n 3 3 77 (by decide +kernel) rfl rfl ?_
    refine zIconst 2 2 78 (by decide +kernel) rfl (by decide) ?_
    refine zIcmp_ne 35 113 81 (by decide +kernel) rfl rfl ⟨fun q2 => ?_, fun q2 => ?_⟩
    · replace F := F.2 q2
      exact zVret rfl (by decide +kernel) F
    · replace F := F.1 q2
      refine zAload_n 0 0 82 (by decide +kernel) rfl rfl ?_
      refine gf12_33 64 85 (by decide +kernel) rfl flX12_64 (Mod_0 S0_) (Mod_27 S0_) ?_
      refine zIload_n 1 1 86 (by decide +kernel) rfl rfl ?_
      refine zBipush 9 9 88 (by decide +kernel) rfl (by decide) ?_
      refine zAload_n 0 0 89 (by decide +kernel) rfl rfl ?_
      refine gf12_33 64 92 (by decide +kernel) rfl flX12_64 (Mod_0 S0_) (Mod_27 S0_) ?_
      refine zBipush 47 47 94 (by decide +kernel) rfl (by decide) ?_
      obtain ⟨w3, F⟩ := F
      refine yIaload 231 95 (by decide +kernel) rfl (Mod_28 S0_) (w3) ?_
      refine zAload_n 0 0 96 (by decide +kernel) rfl rfl ?_
      refine zAload_n 0 0 97 (by decide +kernel) rfl rfl ?_
      refine gf12_33 64 100 (by decide +kernel) rfl flX12_64 (Mod_0 S0_) (Mod_27 S0_) ?_
      refine zIload_n 1 1 101 (by decide +kernel) rfl rfl ?_
      refine zCallV 12 zcls12 mX12_bare 333 2 0 0 _ _ 104 [.ref (m + 14), .int (l1)] [.int (I (m + 14) (47 : Int32).toNatClampNeg), .int (9), .int (l1), .ref (m + 14)] okX12_bare mlX12_333 imX12_bare seX12_bare (by decide +kernel) rfl rfl (Nat.le_of_ble_eq_true rfl) rfl rfl (Mod_0 S0_) (zC.mono F ?_)
      rintro _ _ ⟨x4, I5, rfl, rfl, F⟩
      change zV G (d + 1) mX12_chooses kc ks 104 [(0, .ref (m)), (1, .int (l1)), (2, .int (l2)), (3, .int (l3)), (4, .int (l4))] [.int (x4), .int (I (m + 14) (47 : Int32).toNatClampNeg), .int (9), .int (l1), .ref (m + 14)] (I5, J, R, K, n) Q
      refine yMin 329 107 (by decide +kernel) rfl mlX12_329 (Nat.le_of_ble_eq_true rfl) ?_
      refine yMin 329 110 (by decide +kernel) rfl mlX12_329 (Nat.le_of_ble_eq_true rfl) ?_
      refine zCallS mX12_paints 374 3 0 0 _ _ 113 [.ref (m + 14), .int (l1), .int ((if ((if (x4 : Int32) < (I (m + 14) (47 : Int32).toNatClampNeg) then x4 else I (m + 14) (47 : Int32).toNatClampNeg) : Int32) < 9 then (if (x4 : Int32) < (I (m + 14) (47 : Int32).toNatClampNeg) then x4 else I (m + 14) (47 : Int32).toNatClampNeg) else 9))] [] okX12_paints mlX12_374 smX12_paints (by decide +kernel) rfl rfl (Nat.le_of_ble_eq_true rfl) rfl rfl (zC.mono F ?_)
      rintro _ _ ⟨I6, rfl, rfl, F⟩
      change zV G (d + 1) mX12_chooses kc ks 113 [(0, .ref (m)), (1, .int (l1)), (2, .int (l2)), (3, .int (l3)), (4, .int (l4))] [] (I6, J, R, K, n) Q
      exact zVret rfl (by decide +kernel) F
  · replace F := F.2 q1
    refine zIload_n 3 3 11 (by decide +kernel) rfl rfl ?_
    refine zIconst 1 1 12 (by decide +kernel) rfl (by decide) ?_
    refine zIcmp_ne 64 76 15 (by decide +kernel) rfl rfl ⟨fun q7 => ?_, fun q7 => ?_⟩
    · replace F := F.2 q7
      refine zIload_n 3 3 77 (by decide +kernel) rfl rfl ?_
      refine zIconst 2 2 78 (by decide +kernel) rfl (by decide) ?_
      refine zIcmp_ne 35 113 81 (by decide +kernel) rfl rfl ⟨fun q8 => ?_, fun q8 => ?_⟩
      · replace F := F.2 q8
        exact zVret rfl (by decide +kernel) F
      · replace F := F.1 q8
        refine zAload_n 0 0 82 (by decide +kernel) rfl rfl ?_
        refine gf12_33 64 85 (by decide +kernel) rfl flX12_64 (Mod_0 S0_) (Mod_27 S0_) ?_
        refine zIload_n 1 1 86 (by decide +kernel) rfl rfl ?_
        refine zBipush 9 9 88 (by decide +kernel) rfl (by decide) ?_
        refine zAload_n 0 0 89 (by decide +kernel) rfl rfl ?_
        refine gf12_33 64 92 (by decide +kernel) rfl flX12_64 (Mod_0 S0_) (Mod_27 S0_) ?_
        refine zBipush 47 47 94 (by decide +kernel) rfl (by decide) ?_
        obtain ⟨w9, F⟩ := F
        refine yIaload 231 95 (by decide +kernel) rfl (Mod_28 S0_) (w9) ?_
        refine zAload_n 0 0 96 (by decide +kernel) rfl rfl ?_
        refine zAload_n 0 0 97 (by decide +kernel) rfl rfl ?_
        refine gf12_33 64 100 (by decide +kernel) rfl flX12_64 (Mod_0 S0_) (Mod_27 S0_) ?_
        refine zIload_n 1 1 101 (by decide +kernel) rfl rfl ?_
        refine zCallV 12 zcls12 mX12_bare 333 2 0 0 _ _ 104 [.ref (m + 14), .int (l1)] [.int (I (m + 14) (47 : Int32).toNatClampNeg), .int (9), .int (l1), .ref (m + 14)] okX12_bare mlX12_333 imX12_bare seX12_bare (by decide +kernel) rfl rfl (Nat.le_of_ble_eq_true rfl) rfl rfl (Mod_0 S0_) (zC.mono F ?_)
        rintro _ _ ⟨x10, I11, rfl, rfl, F⟩
        change zV G (d + 1) mX12_chooses kc ks 104 [(0, .ref (m)), (1, .int (l1)), (2, .int (l2)), (3, .int (l3)), (4, .int (l4))] [.int (x10), .int (I (m + 14) (47 : Int32).toNatClampNeg), .int (9), .int (l1), .ref (m + 14)] (I11, J, R, K, n) Q
        refine yMin 329 107 (by decide +kernel) rfl mlX12_329 (Nat.le_of_ble_eq_true rfl) ?_
        refine yMin 329 110 (by decide +kernel) rfl mlX12_329 (Nat.le_of_ble_eq_true rfl) ?_
        refine zCallS mX12_paints 374 3 0 0 _ _ 113 [.ref (m + 14), .int (l1), .int ((if ((if (x10 : Int32) < (I (m + 14) (47 : Int32).toNatClampNeg) then x10 else I (m + 14) (47 : Int32).toNatClampNeg) : Int32) < 9 then (if (x10 : Int32) < (I (m + 14) (47 : Int32).toNatClampNeg) then x10 else I (m + 14) (47 : Int32).toNatClampNeg) else 9))] [] okX12_paints mlX12_374 smX12_paints (by decide +kernel) rfl rfl (Nat.le_of_ble_eq_true rfl) rfl rfl (zC.mono F ?_)
        rintro _ _ ⟨I12, rfl, rfl, F⟩
        change zV G (d + 1) mX12_chooses kc ks 113 [(0, .ref (m)), (1, .int (l1)), (2, .int (l2)), (3, .int (l3)), (4, .int (l4))] [] (I12, J, R, K, n) Q
        exact zVret rfl (by decide +kernel) F
    · replace F := F.1 q7
      refine zAload_n 0 0 16 (by decide +kernel) rfl rfl ?_
      refine gf12_33 64 19 (by decide +kernel) rfl flX12_64 (Mod_0 S0_) (Mod_27 S0_) ?_
      refine zIload 4 4 21 (by decide +kernel) rfl rfl ?_
      refine zCallS mX12_isOpen 358 2 0 0 _ _ 24 [.ref (m + 14), .int (l4)] [] okX12_isOpen mlX12_358 smX12_isOpen (by decide +kernel) rfl rfl (Nat.le_of_ble_eq_true rfl) rfl rfl (zC.mono F ?_)
      rintro _ _ ⟨x13, I14, rfl, rfl, F⟩
      change zV G (d + 1) mX12_chooses kc ks 24 [(0, .ref (m)), (1, .int (l1)), (2, .int (l2)), (3, .int (l3)), (4, .int (l4))] [.int (x13)] (I14, J, R, K, n) Q
      refine zIf_eq 46 70 27 (by decide +kernel) rfl rfl ⟨fun q15 => ?_, fun q15 => ?_⟩
      · replace F := F.1 q15
        refine zIinc 4 1 4 (l4 + 1) [(4, .int (l4 + 1)), (0, .ref (m)), (1, .int (l1)), (2, .int (l2)), (3, .int (l3))] 73 (by decide +kernel) rfl rfl (by rfl) (by decide) rfl ?_
        refine zGoto (-70) 3 (by decide +kernel) rfl ?_
        exact zLoc [1, 2, 3, 4, 0] _ rfl F
      · replace F := F.2 q15
        refine zAload_n 0 0 28 (by decide +kernel) rfl rfl ?_
        refine gf12_33 64 31 (by decide +kernel) rfl flX12_64 (Mod_0 S0_) (Mod_27 S0_) ?_
        refine zIconst 3 3 32 (by decide +kernel) rfl (by decide) ?_
        refine zIload 4 4 34 (by decide +kernel) rfl rfl ?_
        refine zImul 35 (by decide +kernel) rfl ?_
        obtain ⟨w16, F⟩ := F
        refine yIaload 231 36 (by decide +kernel) rfl (Mod_28 S0_) (w16) ?_
        refine zIload_n 2 2 37 (by decide +kernel) rfl rfl ?_
        refine zIcmp_ne 33 70 40 (by decide +kernel) rfl rfl ⟨fun q17 => ?_, fun q17 => ?_⟩
        · replace F := F.2 q17
          refine zIinc 4 1 4 (l4 + 1) [(4, .int (l4 + 1)), (0, .ref (m)), (1, .int (l1)), (2, .int (l2)), (3, .int (l3))] 73 (by decide +kernel) rfl rfl (by rfl) (by decide) rfl ?_
          refine zGoto (-70) 3 (by decide +kernel) rfl ?_
          exact zLoc [1, 2, 3, 4, 0] _ rfl F
        · replace F := F.1 q17
          refine zAload_n 0 0 41 (by decide +kernel) rfl rfl ?_
          refine gf12_33 64 44 (by decide +kernel) rfl flX12_64 (Mod_0 S0_) (Mod_27 S0_) ?_
          refine zIconst 3 3 45 (by decide +kernel) rfl (by decide) ?_
          refine zIload 4 4 47 (by decide +kernel) rfl rfl ?_
          refine zImul 48 (by decide +kernel) rfl ?_
          refine zIconst 1 1 49 (by decide +kernel) rfl (by decide) ?_
          refine zIadd 50 (by decide +kernel) rfl ?_
          obtain ⟨w18, F⟩ := F
          refine yIaload 231 51 (by decide +kernel) rfl (Mod_28 S0_) (w18) ?_
          refine zIload_n 1 1 52 (by decide +kernel) rfl rfl ?_
          refine zIcmp_eq 6 58 55 (by decide +kernel) rfl rfl ⟨fun q19 => ?_, fun q19 => ?_⟩
          · replace F := F.1 q19
            refine zAload_n 0 0 59 (by decide +kernel) rfl rfl ?_
            refine zAload_n 0 0 60 (by decide +kernel) rfl rfl ?_
            refine gf12_33 64 63 (by decide +kernel) rfl flX12_64 (Mod_0 S0_) (Mod_27 S0_) ?_
            refine zIload 4 4 65 (by decide +kernel) rfl rfl ?_
            refine zCallV 12 zcls12 mX12_forgives 367 2 0 0 _ _ 68 [.ref (m + 14), .int (l4)] [] okX12_forgives mlX12_367 imX12_forgives seX12_forgives (by decide +kernel) rfl rfl (Nat.le_of_ble_eq_true rfl) rfl rfl (Mod_0 S0_) (zC.mono F ?_)
            rintro _ _ ⟨x20, I21, J22, R23, rfl, rfl, F⟩
            change zV G (d + 1) mX12_chooses kc ks 68 [(0, .ref (m)), (1, .int (l1)), (2, .int (l2)), (3, .int (l3)), (4, .int (l4))] [.int (x20)] (I21, J22, R23, K, n) Q
            obtain ⟨u24, u25, S26, F⟩ := F
            refine zIstore 5 [(5, .int (x20)), (0, .ref (m)), (1, .int (l1)), (2, .int (l2)), (3, .int (l3)), (4, .int (l4))] 70 (by decide +kernel) rfl (by decide) rfl ?_
            refine zIinc 4 1 5 (l4 + 1) [(4, .int (l4 + 1)), (5, .int (x20)), (0, .ref (m)), (1, .int (l1)), (2, .int (l2)), (3, .int (l3))] 73 (by decide +kernel) rfl rfl (by rfl) (by decide) rfl ?_
            refine zGoto (-70) 3 (by decide +kernel) rfl ?_
            exact zLoc [2, 3, 4, 5, 0] _ rfl F
          · replace F := F.2 q19
            refine zGoto 15 70 (by decide +kernel) rfl ?_
            refine zIinc 4 1 4 (l4 + 1) [(4, .int (l4 + 1)), (0, .ref (m)), (1, .int (l1)), (2, .int (l2)), (3, .int (l3))] 73 (by decide +kernel) rfl rfl (by rfl) (by decide) rfl ?_
            refine zGoto (-70) 3 (by decide +kernel) rfl ?_
            exact zLoc [1, 2, 3, 4, 0] _ rfl F
set_option maxHeartbeats 2000000 in
theorem wX12_gameOf_0 {G : zG} {d kc ks : Nat} {I : Nat → Nat → Int32} {J : Nat → Nat → Int64} {R : Nat → Nat → Option Nat} {K : Nat → Nat × Nat} {n : Nat} {Q : Option Value → zH → Prop} (m t c : Nat) (S0_ : hMod G R K n m t c) (p1 p2 p3 p4 p5 : Int32) (F : zC G d mX12_copy 0 0 [.ref (m + 13), .ref (m + 14)] (I, J, R, K, n) (fun r h => ∃ (I1 : Nat → Nat → Int32), r = none ∧ h = (I1, J, R, K, n) ∧ zC G d mX12_chooses 0 0 [.ref (m), .int (p1), .int (p2), .int (p3)] (I1, J, R, K, n) (fun r h => ∃ (I2 : Nat → Nat → Int32) (J3 : Nat → Nat → Int64) (R4 : Nat → Nat → Option Nat), r = none ∧ h = (I2, J3, R4, K, n) ∧ ∃ u5 u6 : Nat, hMod G R4 K n m u5 u6 ∧ zC G d mX12_chooses 0 0 [.ref (m), .int (p2), .int (p1), .int (p4)] (I2, J3, R4, K, n) (fun r h => ∃ (I8 : Nat → Nat → Int32) (J9 : Nat → Nat → Int64) (R10 : Nat → Nat → Option Nat), r = none ∧ h = (I8, J9, R10, K, n) ∧ ∃ u11 u12 : Nat, hMod G R10 K n m u11 u12 ∧ zC G d mX12_white 0 0 [.ref (m + 14), .int ((if p5 = 0 then p1 else p2))] (I8, J9, R10, K, n) (fun r h => ∃ (x15 : Int32) (I16 : Nat → Nat → Int32), r = some (.int x15) ∧ h = (I16, J9, R10, K, n) ∧ zC G d mX12_white 0 0 [.ref (m + 13), .int ((if p5 = 0 then p1 else p2))] (I16, J9, R10, K, n) (fun r h => ∃ (x17 : Int32) (I18 : Nat → Nat → Int32), r = some (.int x17) ∧ h = (I18, J9, R10, K, n) ∧ Q (some (.int ((x15 - x17) - (if ((if p5 = 0 then p3 else p4) : Int32) = 2 then 2 else 0)))) (I18, J9, R10, K, n))))))) : zV G (d + 1) mX12_gameOf kc ks 0 [(0, .ref (m)), (1, .int (p1)), (2, .int (p2)), (3, .int (p3)), (4, .int (p4)), (5, .int (p5))] [] (I, J, R, K, n) Q := by
  refine zAload_n 0 0 1 (by decide +kernel) rfl rfl ?_
  refine gf12_32 61 4 (by decide +kernel) rfl flX12_61 (Mod_0 S0_) (Mod_25 S0_) ?_
  refine zAload_n 0 0 5 (by decide +kernel) rfl rfl ?_
  refine gf12_33 64 8 (by decide +kernel) rfl flX12_64 (Mod_0 S0_) (Mod_27 S0_) ?_
  refine zCallS mX12_copy 418 2 0 0 _ _ 11 [.ref (m + 13), .ref (m + 14)] [] okX12_copy mlX12_418 smX12_copy (by decide +kernel) rfl rfl (Nat.le_of_ble_eq_true rfl) rfl rfl (zC.mono F ?_)
  rintro _ _ ⟨I1, rfl, rfl, F⟩
  change zV G (d + 1) mX12_gameOf kc ks 11 [(0, .ref (m)), (1, .int (p1)), (2, .int (p2)), (3, .int (p3)), (4, .int (p4)), (5, .int (p5))] [] (I1, J, R, K, n) Q
  refine zAload_n 0 0 12 (by decide +kernel) rfl rfl ?_
  refine zIload_n 1 1 13 (by decide +kernel) rfl rfl ?_
  refine zIload_n 2 2 14 (by decide +kernel) rfl rfl ?_
  refine zIload_n 3 3 15 (by decide +kernel) rfl rfl ?_
  refine zCallV 12 zcls12 mX12_chooses 467 3 0 0 _ _ 18 [.int (p1), .int (p2), .int (p3)] [] okX12_chooses mlX12_467 imX12_chooses seX12_chooses (by decide +kernel) rfl rfl (Nat.le_of_ble_eq_true rfl) rfl rfl (Mod_0 S0_) (zC.mono F ?_)
  rintro _ _ ⟨I2, J3, R4, rfl, rfl, F⟩
  change zV G (d + 1) mX12_gameOf kc ks 18 [(0, .ref (m)), (1, .int (p1)), (2, .int (p2)), (3, .int (p3)), (4, .int (p4)), (5, .int (p5))] [] (I2, J3, R4, K, n) Q
  obtain ⟨u5, u6, S7, F⟩ := F
  refine zAload_n 0 0 19 (by decide +kernel) rfl rfl ?_
  refine zIload_n 2 2 20 (by decide +kernel) rfl rfl ?_
  refine zIload_n 1 1 21 (by decide +kernel) rfl rfl ?_
  refine zIload 4 4 23 (by decide +kernel) rfl rfl ?_
  refine zCallV 12 zcls12 mX12_chooses 467 3 0 0 _ _ 26 [.int (p2), .int (p1), .int (p4)] [] okX12_chooses mlX12_467 imX12_chooses seX12_chooses (by decide +kernel) rfl rfl (Nat.le_of_ble_eq_true rfl) rfl rfl (Mod_0 S7) (zC.mono F ?_)
  rintro _ _ ⟨I8, J9, R10, rfl, rfl, F⟩
  change zV G (d + 1) mX12_gameOf kc ks 26 [(0, .ref (m)), (1, .int (p1)), (2, .int (p2)), (3, .int (p3)), (4, .int (p4)), (5, .int (p5))] [] (I8, J9, R10, K, n) Q
  obtain ⟨u11, u12, S13, F⟩ := F
  refine zIload 5 5 28 (by decide +kernel) rfl rfl ?_
  suffices KK : zV G (d + 1) mX12_gameOf kc ks 36 [(0, .ref (m)), (1, .int (p1)), (2, .int (p2)), (3, .int (p3)), (4, .int (p4)), (5, .int (p5))] [.int ((if p5 = 0 then p1 else p2))] (I8, J9, R10, K, n) Q by
    refine zIf_ne 7 35 31 (by decide +kernel) rfl rfl ⟨fun q14 => ?_, fun q14 => ?_⟩
    · refine zIload_n 2 2 36 (by decide +kernel) rfl rfl ?_
      exact zTop (by rw [if_neg q14]) KK
    · refine zIload_n 1 1 32 (by decide +kernel) rfl rfl ?_
      refine zGoto 4 36 (by decide +kernel) rfl ?_
      exact zTop (by rw [if_pos q14]) KK
  refine zIstore 6 [(6, .int ((if p5 = 0 then p1 else p2))), (0, .ref (m)), (1, .int (p1)), (2, .int (p2)), (3, .int (p3)), (4, .int (p4)), (5, .int (p5))] 38 (by decide +kernel) rfl (by decide) rfl ?_
  refine zAload_n 0 1 39 (by decide +kernel) rfl rfl ?_
  refine gf12_33 64 42 (by decide +kernel) rfl flX12_64 (Mod_0 S13) (Mod_27 S13) ?_
  refine zIload 6 0 44 (by decide +kernel) rfl rfl ?_
  refine zCallS mX12_white 309 2 0 0 _ _ 47 [.ref (m + 14), .int ((if p5 = 0 then p1 else p2))] [] okX12_white mlX12_309 smX12_white (by decide +kernel) rfl rfl (Nat.le_of_ble_eq_true rfl) rfl rfl (zC.mono F ?_)
  rintro _ _ ⟨x15, I16, rfl, rfl, F⟩
  change zV G (d + 1) mX12_gameOf kc ks 47 [(6, .int ((if p5 = 0 then p1 else p2))), (0, .ref (m)), (1, .int (p1)), (2, .int (p2)), (3, .int (p3)), (4, .int (p4)), (5, .int (p5))] [.int (x15)] (I16, J9, R10, K, n) Q
  refine zAload_n 0 1 48 (by decide +kernel) rfl rfl ?_
  refine gf12_32 61 51 (by decide +kernel) rfl flX12_61 (Mod_0 S13) (Mod_25 S13) ?_
  refine zIload 6 0 53 (by decide +kernel) rfl rfl ?_
  refine zCallS mX12_white 309 2 0 0 _ _ 56 [.ref (m + 13), .int ((if p5 = 0 then p1 else p2))] [.int (x15)] okX12_white mlX12_309 smX12_white (by decide +kernel) rfl rfl (Nat.le_of_ble_eq_true rfl) rfl rfl (zC.mono F ?_)
  rintro _ _ ⟨x17, I18, rfl, rfl, F⟩
  change zV G (d + 1) mX12_gameOf kc ks 56 [(6, .int ((if p5 = 0 then p1 else p2))), (0, .ref (m)), (1, .int (p1)), (2, .int (p2)), (3, .int (p3)), (4, .int (p4)), (5, .int (p5))] [.int (x17), .int (x15)] (I18, J9, R10, K, n) Q
  refine zIsub 57 (by decide +kernel) rfl ?_
  refine zIload 5 6 59 (by decide +kernel) rfl rfl ?_
  suffices KK : zV G (d + 1) mX12_gameOf kc ks 68 [(6, .int ((if p5 = 0 then p1 else p2))), (0, .ref (m)), (1, .int (p1)), (2, .int (p2)), (3, .int (p3)), (4, .int (p4)), (5, .int (p5))] [.int ((if p5 = 0 then p3 else p4)), .int (x15 - x17)] (I18, J9, R10, K, n) Q by
    refine zIf_ne 7 66 62 (by decide +kernel) rfl rfl ⟨fun q19 => ?_, fun q19 => ?_⟩
    · refine zIload 4 5 68 (by decide +kernel) rfl rfl ?_
      exact zTop (by rw [if_neg q19]) KK
    · refine zIload_n 3 4 63 (by decide +kernel) rfl rfl ?_
      refine zGoto 5 68 (by decide +kernel) rfl ?_
      exact zTop (by rw [if_pos q19]) KK
  refine zIconst 2 2 69 (by decide +kernel) rfl (by decide) ?_
  suffices KK : zV G (d + 1) mX12_gameOf kc ks 77 [(6, .int ((if p5 = 0 then p1 else p2))), (0, .ref (m)), (1, .int (p1)), (2, .int (p2)), (3, .int (p3)), (4, .int (p4)), (5, .int (p5))] [.int ((if ((if p5 = 0 then p3 else p4) : Int32) = 2 then 2 else 0)), .int (x15 - x17)] (I18, J9, R10, K, n) Q by
    refine zIcmp_ne 7 76 72 (by decide +kernel) rfl rfl ⟨fun q20 => ?_, fun q20 => ?_⟩
    · refine zIconst 0 0 77 (by decide +kernel) rfl (by decide) ?_
      exact zTop (by rw [if_neg q20]) KK
    · refine zIconst 2 2 73 (by decide +kernel) rfl (by decide) ?_
      refine zGoto 4 77 (by decide +kernel) rfl ?_
      exact zTop (by rw [if_pos q20]) KK
  refine zIsub 78 (by decide +kernel) rfl ?_
  exact zIret rfl (by decide +kernel) F
set_option maxHeartbeats 2000000 in
theorem wX12_game_0 {G : zG} {d kc ks : Nat} {I : Nat → Nat → Int32} {J : Nat → Nat → Int64} {R : Nat → Nat → Option Nat} {K : Nat → Nat × Nat} {n : Nat} {Q : Option Value → zH → Prop} (m t c : Nat) (S0_ : hMod G R K n m t c) (p1 p2 p3 p4 p5 : Int32) (F : (∀ I1 : Nat → Nat → Int32, I1 = zU I m 0 (0) → zC G d mX12_areTwo 0 0 [.ref (m), .int (p1), .int (p2)] (I1, J, R, K, n) (fun r h => ∃ (x2 : Int32) (I3 : Nat → Nat → Int32), r = some (.int x2) ∧ h = (I3, J, R, K, n) ∧ ((x2 = 0 → Q (some (.int ((-1000000)))) (I3, J, R, K, n)) ∧ (¬ (x2 = 0) → zC G d mX12_isIn 0 0 [.long (p3.toInt64), .long (0), .long (2)] (I3, J, R, K, n) (fun r h => ∃ (x5 : Int32) (I6 : Nat → Nat → Int32), r = some (.int x5) ∧ h = (I6, J, R, K, n) ∧ ((x5 = 0 → Q (some (.int ((-1000000)))) (I6, J, R, K, n)) ∧ (¬ (x5 = 0) → zC G d mX12_isIn 0 0 [.long (p4.toInt64), .long (0), .long (2)] (I6, J, R, K, n) (fun r h => ∃ (x8 : Int32) (I9 : Nat → Nat → Int32), r = some (.int x8) ∧ h = (I9, J, R, K, n) ∧ ((x8 = 0 → Q (some (.int ((-1000000)))) (I9, J, R, K, n)) ∧ (¬ (x8 = 0) → zC G d mX12_isIn 0 0 [.long (p5.toInt64), .long (0), .long (1)] (I9, J, R, K, n) (fun r h => ∃ (x11 : Int32) (I12 : Nat → Nat → Int32), r = some (.int x11) ∧ h = (I12, J, R, K, n) ∧ ((x11 = 0 → Q (some (.int ((-1000000)))) (I12, J, R, K, n)) ∧ (¬ (x11 = 0) → zC G d mX12_gameOf 0 0 [.ref (m), .int (p1), .int (p2), .int (p3), .int (p4), .int (p5)] (I12, J, R, K, n) (fun r h => ∃ (x14 : Int32) (I15 : Nat → Nat → Int32) (J16 : Nat → Nat → Int64) (R17 : Nat → Nat → Option Nat), r = some (.int x14) ∧ h = (I15, J16, R17, K, n) ∧ ∃ u18 u19 : Nat, hMod G R17 K n m u18 u19 ∧ Q (some (.int (x14))) (I15, J16, R17, K, n)))))))))))))))) : zV G (d + 1) mX12_game kc ks 0 [(0, .ref (m)), (1, .int (p1)), (2, .int (p2)), (3, .int (p3)), (4, .int (p4)), (5, .int (p5))] [] (I, J, R, K, n) Q := by
  refine zAload_n 0 0 1 (by decide +kernel) rfl rfl ?_
  refine zIconst 0 0 2 (by decide +kernel) rfl (by decide) ?_
  refine pf12_0 93 5 (by decide +kernel) rfl flX12_93 (Mod_0 S0_) ?_
  replace F := F _ rfl
  generalize zU I m 0 (0) = I1 at F ⊢
  refine zAload_n 0 0 6 (by decide +kernel) rfl rfl ?_
  refine zIload_n 1 1 7 (by decide +kernel) rfl rfl ?_
  refine zIload_n 2 2 8 (by decide +kernel) rfl rfl ?_
  refine zCallV 12 zcls12 mX12_areTwo 387 2 0 0 _ _ 11 [.int (p1), .int (p2)] [] okX12_areTwo mlX12_387 imX12_areTwo seX12_areTwo (by decide +kernel) rfl rfl (Nat.le_of_ble_eq_true rfl) rfl rfl (Mod_0 S0_) (zC.mono F ?_)
  rintro _ _ ⟨x2, I3, rfl, rfl, F⟩
  change zV G (d + 1) mX12_game kc ks 11 [(0, .ref (m)), (1, .int (p1)), (2, .int (p2)), (3, .int (p3)), (4, .int (p4)), (5, .int (p5))] [.int (x2)] (I3, J, R, K, n) Q
  refine zIf_eq 53 64 14 (by decide +kernel) rfl rfl ⟨fun q4 => ?_, fun q4 => ?_⟩
  · replace F := F.1 q4
    refine zLdcw 417 (-1000000) 67 (by decide +kernel) rfl kcX12_417 ?_
    exact zIret rfl (by decide +kernel) F
  · replace F := F.2 q4
    refine zIload_n 3 3 15 (by decide +kernel) rfl rfl ?_
    refine zI2l 16 (by decide +kernel) rfl ?_
    refine zLconst 0 0 17 (by decide +kernel) rfl (by decide) ?_
    refine zLdc2 272 2 20 (by decide +kernel) rfl klX12_272 ?_
    refine zCallS mX12_isIn 214 3 0 0 _ _ 23 [.long (p3.toInt64), .long (0), .long (2)] [] okX12_isIn mlX12_214 smX12_isIn (by decide +kernel) rfl rfl (Nat.le_of_ble_eq_true rfl) rfl rfl (zC.mono F ?_)
    rintro _ _ ⟨x5, I6, rfl, rfl, F⟩
    change zV G (d + 1) mX12_game kc ks 23 [(0, .ref (m)), (1, .int (p1)), (2, .int (p2)), (3, .int (p3)), (4, .int (p4)), (5, .int (p5))] [.int (x5)] (I6, J, R, K, n) Q
    refine zIf_eq 41 64 26 (by decide +kernel) rfl rfl ⟨fun q7 => ?_, fun q7 => ?_⟩
    · replace F := F.1 q7
      refine zLdcw 417 (-1000000) 67 (by decide +kernel) rfl kcX12_417 ?_
      exact zIret rfl (by decide +kernel) F
    · replace F := F.2 q7
      refine zIload 4 4 28 (by decide +kernel) rfl rfl ?_
      refine zI2l 29 (by decide +kernel) rfl ?_
      refine zLconst 0 0 30 (by decide +kernel) rfl (by decide) ?_
      refine zLdc2 272 2 33 (by decide +kernel) rfl klX12_272 ?_
      refine zCallS mX12_isIn 214 3 0 0 _ _ 36 [.long (p4.toInt64), .long (0), .long (2)] [] okX12_isIn mlX12_214 smX12_isIn (by decide +kernel) rfl rfl (Nat.le_of_ble_eq_true rfl) rfl rfl (zC.mono F ?_)
      rintro _ _ ⟨x8, I9, rfl, rfl, F⟩
      change zV G (d + 1) mX12_game kc ks 36 [(0, .ref (m)), (1, .int (p1)), (2, .int (p2)), (3, .int (p3)), (4, .int (p4)), (5, .int (p5))] [.int (x8)] (I9, J, R, K, n) Q
      refine zIf_eq 28 64 39 (by decide +kernel) rfl rfl ⟨fun q10 => ?_, fun q10 => ?_⟩
      · replace F := F.1 q10
        refine zLdcw 417 (-1000000) 67 (by decide +kernel) rfl kcX12_417 ?_
        exact zIret rfl (by decide +kernel) F
      · replace F := F.2 q10
        refine zIload 5 5 41 (by decide +kernel) rfl rfl ?_
        refine zI2l 42 (by decide +kernel) rfl ?_
        refine zLconst 0 0 43 (by decide +kernel) rfl (by decide) ?_
        refine zLconst 1 1 44 (by decide +kernel) rfl (by decide) ?_
        refine zCallS mX12_isIn 214 3 0 0 _ _ 47 [.long (p5.toInt64), .long (0), .long (1)] [] okX12_isIn mlX12_214 smX12_isIn (by decide +kernel) rfl rfl (Nat.le_of_ble_eq_true rfl) rfl rfl (zC.mono F ?_)
        rintro _ _ ⟨x11, I12, rfl, rfl, F⟩
        change zV G (d + 1) mX12_game kc ks 47 [(0, .ref (m)), (1, .int (p1)), (2, .int (p2)), (3, .int (p3)), (4, .int (p4)), (5, .int (p5))] [.int (x11)] (I12, J, R, K, n) Q
        refine zIf_eq 17 64 50 (by decide +kernel) rfl rfl ⟨fun q13 => ?_, fun q13 => ?_⟩
        · replace F := F.1 q13
          refine zLdcw 417 (-1000000) 67 (by decide +kernel) rfl kcX12_417 ?_
          exact zIret rfl (by decide +kernel) F
        · replace F := F.2 q13
          refine zAload_n 0 0 51 (by decide +kernel) rfl rfl ?_
          refine zIload_n 1 1 52 (by decide +kernel) rfl rfl ?_
          refine zIload_n 2 2 53 (by decide +kernel) rfl rfl ?_
          refine zIload_n 3 3 54 (by decide +kernel) rfl rfl ?_
          refine zIload 4 4 56 (by decide +kernel) rfl rfl ?_
          refine zIload 5 5 58 (by decide +kernel) rfl rfl ?_
          refine zCallV 12 zcls12 mX12_gameOf 471 5 0 0 _ _ 61 [.int (p1), .int (p2), .int (p3), .int (p4), .int (p5)] [] okX12_gameOf mlX12_471 imX12_gameOf seX12_gameOf (by decide +kernel) rfl rfl (Nat.le_of_ble_eq_true rfl) rfl rfl (Mod_0 S0_) (zC.mono F ?_)
          rintro _ _ ⟨x14, I15, J16, R17, rfl, rfl, F⟩
          change zV G (d + 1) mX12_game kc ks 61 [(0, .ref (m)), (1, .int (p1)), (2, .int (p2)), (3, .int (p3)), (4, .int (p4)), (5, .int (p5))] [.int (x14)] (I15, J16, R17, K, n) Q
          obtain ⟨u18, u19, S20, F⟩ := F
          refine zGoto 6 67 (by decide +kernel) rfl ?_
          exact zIret rfl (by decide +kernel) F
set_option maxHeartbeats 2000000 in
theorem wX12_rests_0 {G : zG} {d kc ks : Nat} {I : Nat → Nat → Int32} {J : Nat → Nat → Int64} {R : Nat → Nat → Option Nat} {K : Nat → Nat × Nat} {n : Nat} {Q : Option Value → zH → Prop} (m t c : Nat) (S0_ : hMod G R K n m t c) (p1 p2 p3 : Int32) (F : (∀ I1 : Nat → Nat → Int32, I1 = zU I m 0 (0) → zC G d mX12_areTwo 0 0 [.ref (m), .int (p1), .int (p2)] (I1, J, R, K, n) (fun r h => ∃ (x2 : Int32) (I3 : Nat → Nat → Int32), r = some (.int x2) ∧ h = (I3, J, R, K, n) ∧ ((x2 = 0 → Q (some (.int ((-1)))) (I3, J, R, K, n)) ∧ (¬ (x2 = 0) → (((-1) ≤ p3 → zV G (d + 1) mX12_rests kc ks 27 [(0, .ref (m)), (1, .int (p1)), (2, .int (p2)), (3, .int (p3)), (4, .int (0)), (5, .int (0))] [] (I3, J, R, K, n) Q) ∧ (¬ ((-1) ≤ p3) → Q (some (.int ((-1)))) (I3, J, R, K, n)))))))) : zV G (d + 1) mX12_rests kc ks 0 [(0, .ref (m)), (1, .int (p1)), (2, .int (p2)), (3, .int (p3))] [] (I, J, R, K, n) Q := by
  refine zAload_n 0 0 1 (by decide +kernel) rfl rfl ?_
  refine zIconst 0 0 2 (by decide +kernel) rfl (by decide) ?_
  refine pf12_0 93 5 (by decide +kernel) rfl flX12_93 (Mod_0 S0_) ?_
  replace F := F _ rfl
  generalize zU I m 0 (0) = I1 at F ⊢
  refine zAload_n 0 0 6 (by decide +kernel) rfl rfl ?_
  refine zIload_n 1 1 7 (by decide +kernel) rfl rfl ?_
  refine zIload_n 2 2 8 (by decide +kernel) rfl rfl ?_
  refine zCallV 12 zcls12 mX12_areTwo 387 2 0 0 _ _ 11 [.int (p1), .int (p2)] [] okX12_areTwo mlX12_387 imX12_areTwo seX12_areTwo (by decide +kernel) rfl rfl (Nat.le_of_ble_eq_true rfl) rfl rfl (Mod_0 S0_) (zC.mono F ?_)
  rintro _ _ ⟨x2, I3, rfl, rfl, F⟩
  change zV G (d + 1) mX12_rests kc ks 11 [(0, .ref (m)), (1, .int (p1)), (2, .int (p2)), (3, .int (p3))] [.int (x2)] (I3, J, R, K, n) Q
  refine zIf_eq 8 19 14 (by decide +kernel) rfl rfl ⟨fun q4 => ?_, fun q4 => ?_⟩
  · replace F := F.1 q4
    refine zIconst (-1) (-1) 20 (by decide +kernel) rfl (by decide) ?_
    exact zIret rfl (by decide +kernel) F
  · replace F := F.2 q4
    refine zIload_n 3 3 15 (by decide +kernel) rfl rfl ?_
    refine zIconst (-1) (-1) 16 (by decide +kernel) rfl (by decide) ?_
    refine zIcmp_ge 5 21 19 (by decide +kernel) rfl rfl ⟨fun q5 => ?_, fun q5 => ?_⟩
    · replace F := F.1 q5
      refine zIconst 0 0 22 (by decide +kernel) rfl (by decide) ?_
      refine zIstore 4 [(4, .int (0)), (0, .ref (m)), (1, .int (p1)), (2, .int (p2)), (3, .int (p3))] 24 (by decide +kernel) rfl (by decide) rfl ?_
      refine zIconst 0 0 25 (by decide +kernel) rfl (by decide) ?_
      refine zIstore 5 [(5, .int (0)), (4, .int (0)), (0, .ref (m)), (1, .int (p1)), (2, .int (p2)), (3, .int (p3))] 27 (by decide +kernel) rfl (by decide) rfl ?_
      exact zLoc [2, 3, 4, 5, 1, 0] _ rfl F
    · replace F := F.2 q5
      refine zIconst (-1) (-1) 20 (by decide +kernel) rfl (by decide) ?_
      exact zIret rfl (by decide +kernel) F
set_option maxHeartbeats 2000000 in
theorem wX12_rests_27 {G : zG} {d kc ks : Nat} {I : Nat → Nat → Int32} {J : Nat → Nat → Int64} {R : Nat → Nat → Option Nat} {K : Nat → Nat × Nat} {n : Nat} {Q : Option Value → zH → Prop} (m t c : Nat) (S0_ : hMod G R K n m t c) (l1 l2 l3 l4 l5 : Int32) (F : ((2 < l5 → Q (some (.int ((if l3 = (-1) then l4 else (-1))))) (I, J, R, K, n)) ∧ (¬ (2 < l5) → zV G (d + 1) mX12_rests kc ks 36 [(0, .ref (m)), (1, .int (l1)), (2, .int (l2)), (3, .int (l3)), (4, .int (l4)), (5, .int (l5)), (6, .int (0))] [] (I, J, R, K, n) Q))) : zV G (d + 1) mX12_rests kc ks 27 [(0, .ref (m)), (1, .int (l1)), (2, .int (l2)), (3, .int (l3)), (4, .int (l4)), (5, .int (l5))] [] (I, J, R, K, n) Q := by
  refine zIload 5 5 29 (by decide +kernel) rfl rfl ?_
  refine zIconst 2 2 30 (by decide +kernel) rfl (by decide) ?_
  refine zIcmp_gt 130 160 33 (by decide +kernel) rfl rfl ⟨fun q6 => ?_, fun q6 => ?_⟩
  · replace F := F.1 q6
    refine zIload_n 3 3 161 (by decide +kernel) rfl rfl ?_
    refine zIconst (-1) (-1) 162 (by decide +kernel) rfl (by decide) ?_
    suffices KK : zV G (d + 1) mX12_rests kc ks 171 [(0, .ref (m)), (1, .int (l1)), (2, .int (l2)), (3, .int (l3)), (4, .int (l4)), (5, .int (l5))] [.int ((if l3 = (-1) then l4 else (-1)))] (I, J, R, K, n) Q by
      refine zIcmp_ne 8 170 165 (by decide +kernel) rfl rfl ⟨fun q7 => ?_, fun q7 => ?_⟩
      · refine zIconst (-1) (-1) 171 (by decide +kernel) rfl (by decide) ?_
        exact zTop (by rw [if_neg q7]) KK
      · refine zIload 4 4 167 (by decide +kernel) rfl rfl ?_
        refine zGoto 4 171 (by decide +kernel) rfl ?_
        exact zTop (by rw [if_pos q7]) KK
    exact zIret rfl (by decide +kernel) F
  · replace F := F.2 q6
    refine zIconst 0 0 34 (by decide +kernel) rfl (by decide) ?_
    refine zIstore 6 [(6, .int (0)), (0, .ref (m)), (1, .int (l1)), (2, .int (l2)), (3, .int (l3)), (4, .int (l4)), (5, .int (l5))] 36 (by decide +kernel) rfl (by decide) rfl ?_
    exact zLoc [1, 2, 3, 4, 5, 6, 0] _ rfl F
set_option maxHeartbeats 2000000 in
theorem wX12_rests_36 {G : zG} {d kc ks : Nat} {I : Nat → Nat → Int32} {J : Nat → Nat → Int64} {R : Nat → Nat → Option Nat} {K : Nat → Nat × Nat} {n : Nat} {Q : Option Value → zH → Prop} (m t c : Nat) (S0_ : hMod G R K n m t c) (l1 l2 l3 l4 l5 l6 : Int32) (F : ((2 < l6 → zV G (d + 1) mX12_rests kc ks 27 [(0, .ref (m)), (1, .int (l1)), (2, .int (l2)), (3, .int (l3)), (4, .int (l4)), (5, .int (l5 + 1))] [] (I, J, R, K, n) Q) ∧ (¬ (2 < l6) → zV G (d + 1) mX12_rests kc ks 48 [(0, .ref (m)), (1, .int (l1)), (2, .int (l2)), (3, .int (l3)), (4, .int (l4)), (5, .int (l5)), (6, .int (l6)), (7, .int (1)), (8, .int (0))] [] (I, J, R, K, n) Q))) : zV G (d + 1) mX12_rests kc ks 36 [(0, .ref (m)), (1, .int (l1)), (2, .int (l2)), (3, .int (l3)), (4, .int (l4)), (5, .int (l5)), (6, .int (l6))] [] (I, J, R, K, n) Q := by
  refine zIload 6 6 38 (by decide +kernel) rfl rfl ?_
  refine zIconst 2 2 39 (by decide +kernel) rfl (by decide) ?_
  refine zIcmp_gt 115 154 42 (by decide +kernel) rfl rfl ⟨fun q8 => ?_, fun q8 => ?_⟩
  · replace F := F.1 q8
    refine zIinc 5 1 5 (l5 + 1) [(5, .int (l5 + 1)), (0, .ref (m)), (1, .int (l1)), (2, .int (l2)), (3, .int (l3)), (4, .int (l4)), (6, .int (l6))] 157 (by decide +kernel) rfl rfl (by rfl) (by decide) rfl ?_
    refine zGoto (-130) 27 (by decide +kernel) rfl ?_
    exact zLoc [1, 2, 3, 4, 5, 0] _ rfl F
  · replace F := F.2 q8
    refine zIconst 1 1 43 (by decide +kernel) rfl (by decide) ?_
    refine zIstore 7 [(7, .int (1)), (0, .ref (m)), (1, .int (l1)), (2, .int (l2)), (3, .int (l3)), (4, .int (l4)), (5, .int (l5)), (6, .int (l6))] 45 (by decide +kernel) rfl (by decide) rfl ?_
    refine zIconst 0 0 46 (by decide +kernel) rfl (by decide) ?_
    refine zIstore 8 [(8, .int (0)), (7, .int (1)), (0, .ref (m)), (1, .int (l1)), (2, .int (l2)), (3, .int (l3)), (4, .int (l4)), (5, .int (l5)), (6, .int (l6))] 48 (by decide +kernel) rfl (by decide) rfl ?_
    exact zLoc [2, 3, 4, 5, 6, 7, 8, 1, 0] _ rfl F
set_option maxHeartbeats 2000000 in
theorem wX12_rests_48 {G : zG} {d kc ks : Nat} {I : Nat → Nat → Int32} {J : Nat → Nat → Int64} {R : Nat → Nat → Option Nat} {K : Nat → Nat × Nat} {n : Nat} {Q : Option Value → zH → Prop} (m t c : Nat) (S0_ : hMod G R K n m t c) (l1 l2 l3 l4 l5 l6 l7 l8 : Int32) (F : ((2 < l8 → ((l7 = 0 → zV G (d + 1) mX12_rests kc ks 36 [(0, .ref (m)), (1, .int (l1)), (2, .int (l2)), (3, .int (l3)), (4, .int (l4)), (5, .int (l5)), (6, .int (l6 + 1))] [] (I, J, R, K, n) Q) ∧ (¬ (l7 = 0) → ((l4 = l3 → Q (some (.int ((10 * l5) + l6))) (I, J, R, K, n)) ∧ (¬ (l4 = l3) → zV G (d + 1) mX12_rests kc ks 36 [(0, .ref (m)), (1, .int (l1)), (2, .int (l2)), (3, .int (l3)), (4, .int (l4 + 1)), (5, .int (l5)), (6, .int (l6 + 1))] [] (I, J, R, K, n) Q))))) ∧ (¬ (2 < l8) → ((l7 = 0 → zV G (d + 1) mX12_rests kc ks 48 [(0, .ref (m)), (1, .int (l1)), (2, .int (l2)), (3, .int (l3)), (4, .int (l4)), (5, .int (l5)), (6, .int (l6)), (7, .int (0)), (8, .int (l8 + 1))] [] (I, J, R, K, n) Q) ∧ (¬ (l7 = 0) → zC G d mX12_gameOf 0 0 [.ref (m), .int (l1), .int (l2), .int (l8), .int (l6), .int (0)] (I, J, R, K, n) (fun r h => ∃ (x13 : Int32) (I14 : Nat → Nat → Int32) (J15 : Nat → Nat → Int64) (R16 : Nat → Nat → Option Nat), r = some (.int x13) ∧ h = (I14, J15, R16, K, n) ∧ ∃ u17 u18 : Nat, hMod G R16 K n m u17 u18 ∧ zC G d mX12_gameOf 0 0 [.ref (m), .int (l1), .int (l2), .int (l5), .int (l6), .int (0)] (I14, J15, R16, K, n) (fun r h => ∃ (x20 : Int32) (I21 : Nat → Nat → Int32) (J22 : Nat → Nat → Int64) (R23 : Nat → Nat → Option Nat), r = some (.int x20) ∧ h = (I21, J22, R23, K, n) ∧ ∃ u24 u25 : Nat, hMod G R23 K n m u24 u25 ∧ ((x20 < x13 → zV G (d + 1) mX12_rests kc ks 48 [(0, .ref (m)), (1, .int (l1)), (2, .int (l2)), (3, .int (l3)), (4, .int (l4)), (5, .int (l5)), (6, .int (l6)), (7, .int (0)), (8, .int (l8 + 1))] [] (I21, J22, R23, K, n) Q) ∧ (¬ (x20 < x13) → zC G d mX12_gameOf 0 0 [.ref (m), .int (l1), .int (l2), .int (l5), .int (l8), .int (1)] (I21, J22, R23, K, n) (fun r h => ∃ (x28 : Int32) (I29 : Nat → Nat → Int32) (J30 : Nat → Nat → Int64) (R31 : Nat → Nat → Option Nat), r = some (.int x28) ∧ h = (I29, J30, R31, K, n) ∧ ∃ u32 u33 : Nat, hMod G R31 K n m u32 u33 ∧ zC G d mX12_gameOf 0 0 [.ref (m), .int (l1), .int (l2), .int (l5), .int (l6), .int (1)] (I29, J30, R31, K, n) (fun r h => ∃ (x35 : Int32) (I36 : Nat → Nat → Int32) (J37 : Nat → Nat → Int64) (R38 : Nat → Nat → Option Nat), r = some (.int x35) ∧ h = (I36, J37, R38, K, n) ∧ ∃ u39 u40 : Nat, hMod G R38 K n m u39 u40 ∧ zV G (d + 1) mX12_rests kc ks 48 [(0, .ref (m)), (1, .int (l1)), (2, .int (l2)), (3, .int (l3)), (4, .int (l4)), (5, .int (l5)), (6, .int (l6)), (7, .int ((if x35 < x28 then 0 else 1))), (8, .int (l8 + 1))] [] (I36, J37, R38, K, n) Q))))))))))) : zV G (d + 1) mX12_rests kc ks 48 [(0, .ref (m)), (1, .int (l1)), (2, .int (l2)), (3, .int (l3)), (4, .int (l4)), (5, .int (l5)), (6, .int (l6)), (7, .int (l7)), (8, .int (l8))] [] (I, J, R, K, n) Q := by
  refine zIload 8 8 50 (by decide +kernel) rfl rfl ?_
  refine zIconst 2 2 51 (by decide +kernel) rfl (by decide) ?_
  refine zIcmp_gt 71 122 54 (by decide +kernel) rfl rfl ⟨fun q9 => ?_, fun q9 => ?_⟩
  · replace F := F.1 q9
    refine zIload 7 7 124 (by decide +kernel) rfl rfl ?_
    refine zIf_ne 6 130 127 (by decide +kernel) rfl rfl ⟨fun q10 => ?_, fun q10 => ?_⟩
    · replace F := F.2 q10
      refine zIload 4 4 132 (by decide +kernel) rfl rfl ?_
      refine zIload_n 3 3 133 (by decide +kernel) rfl rfl ?_
      refine zIcmp_ne 12 145 136 (by decide +kernel) rfl rfl ⟨fun q11 => ?_, fun q11 => ?_⟩
      · replace F := F.2 q11
        refine zIinc 4 1 4 (l4 + 1) [(4, .int (l4 + 1)), (0, .ref (m)), (1, .int (l1)), (2, .int (l2)), (3, .int (l3)), (5, .int (l5)), (6, .int (l6)), (7, .int (l7)), (8, .int (l8))] 148 (by decide +kernel) rfl rfl (by rfl) (by decide) rfl ?_
        refine zIinc 6 1 6 (l6 + 1) [(6, .int (l6 + 1)), (4, .int (l4 + 1)), (0, .ref (m)), (1, .int (l1)), (2, .int (l2)), (3, .int (l3)), (5, .int (l5)), (7, .int (l7)), (8, .int (l8))] 151 (by decide +kernel) rfl rfl (by rfl) (by decide) rfl ?_
        refine zGoto (-115) 36 (by decide +kernel) rfl ?_
        exact zLoc [2, 3, 4, 5, 1, 6, 0] _ rfl F
      · replace F := F.1 q11
        refine zBipush 10 10 138 (by decide +kernel) rfl (by decide) ?_
        refine zIload 5 5 140 (by decide +kernel) rfl rfl ?_
        refine zImul 141 (by decide +kernel) rfl ?_
        refine zIload 6 6 143 (by decide +kernel) rfl rfl ?_
        refine zIadd 144 (by decide +kernel) rfl ?_
        exact zIret rfl (by decide +kernel) F
    · replace F := F.1 q10
      refine zGoto 21 148 (by decide +kernel) rfl ?_
      refine zIinc 6 1 6 (l6 + 1) [(6, .int (l6 + 1)), (0, .ref (m)), (1, .int (l1)), (2, .int (l2)), (3, .int (l3)), (4, .int (l4)), (5, .int (l5)), (7, .int (l7)), (8, .int (l8))] 151 (by decide +kernel) rfl rfl (by rfl) (by decide) rfl ?_
      refine zGoto (-115) 36 (by decide +kernel) rfl ?_
      exact zLoc [1, 2, 3, 4, 5, 6, 0] _ rfl F
  · replace F := F.2 q9
    refine zIload 7 7 56 (by decide +kernel) rfl rfl ?_
    refine zIf_eq 57 113 59 (by decide +kernel) rfl rfl ⟨fun q12 => ?_, fun q12 => ?_⟩
    · replace F := F.1 q12
      refine zIconst 0 0 114 (by decide +kernel) rfl (by decide) ?_
      refine zIstore 7 [(7, .int (0)), (0, .ref (m)), (1, .int (l1)), (2, .int (l2)), (3, .int (l3)), (4, .int (l4)), (5, .int (l5)), (6, .int (l6)), (8, .int (l8))] 116 (by decide +kernel) rfl (by decide) rfl ?_
      refine zIinc 8 1 8 (l8 + 1) [(8, .int (l8 + 1)), (7, .int (0)), (0, .ref (m)), (1, .int (l1)), (2, .int (l2)), (3, .int (l3)), (4, .int (l4)), (5, .int (l5)), (6, .int (l6))] 119 (by decide +kernel) rfl rfl (by rfl) (by decide) rfl ?_
      refine zGoto (-71) 48 (by decide +kernel) rfl ?_
      exact zLoc [2, 3, 4, 5, 6, 7, 8, 1, 0] _ rfl F
    · replace F := F.2 q12
      refine zAload_n 0 0 60 (by decide +kernel) rfl rfl ?_
      refine zIload_n 1 1 61 (by decide +kernel) rfl rfl ?_
      refine zIload_n 2 2 62 (by decide +kernel) rfl rfl ?_
      refine zIload 8 8 64 (by decide +kernel) rfl rfl ?_
      refine zIload 6 6 66 (by decide +kernel) rfl rfl ?_
      refine zIconst 0 0 67 (by decide +kernel) rfl (by decide) ?_
      refine zCallV 12 zcls12 mX12_gameOf 471 5 0 0 _ _ 70 [.int (l1), .int (l2), .int (l8), .int (l6), .int (0)] [] okX12_gameOf mlX12_471 imX12_gameOf seX12_gameOf (by decide +kernel) rfl rfl (Nat.le_of_ble_eq_true rfl) rfl rfl (Mod_0 S0_) (zC.mono F ?_)
      rintro _ _ ⟨x13, I14, J15, R16, rfl, rfl, F⟩
      change zV G (d + 1) mX12_rests kc ks 70 [(0, .ref (m)), (1, .int (l1)), (2, .int (l2)), (3, .int (l3)), (4, .int (l4)), (5, .int (l5)), (6, .int (l6)), (7, .int (l7)), (8, .int (l8))] [.int (x13)] (I14, J15, R16, K, n) Q
      obtain ⟨u17, u18, S19, F⟩ := F
      refine zAload_n 0 0 71 (by decide +kernel) rfl rfl ?_
      refine zIload_n 1 1 72 (by decide +kernel) rfl rfl ?_
      refine zIload_n 2 2 73 (by decide +kernel) rfl rfl ?_
      refine zIload 5 5 75 (by decide +kernel) rfl rfl ?_
      refine zIload 6 6 77 (by decide +kernel) rfl rfl ?_
      refine zIconst 0 0 78 (by decide +kernel) rfl (by decide) ?_
      refine zCallV 12 zcls12 mX12_gameOf 471 5 0 0 _ _ 81 [.int (l1), .int (l2), .int (l5), .int (l6), .int (0)] [.int (x13)] okX12_gameOf mlX12_471 imX12_gameOf seX12_gameOf (by decide +kernel) rfl rfl (Nat.le_of_ble_eq_true rfl) rfl rfl (Mod_0 S19) (zC.mono F ?_)
      rintro _ _ ⟨x20, I21, J22, R23, rfl, rfl, F⟩
      change zV G (d + 1) mX12_rests kc ks 81 [(0, .ref (m)), (1, .int (l1)), (2, .int (l2)), (3, .int (l3)), (4, .int (l4)), (5, .int (l5)), (6, .int (l6)), (7, .int (l7)), (8, .int (l8))] [.int (x20), .int (x13)] (I21, J22, R23, K, n) Q
      obtain ⟨u24, u25, S26, F⟩ := F
      refine zIcmp_gt 32 113 84 (by decide +kernel) rfl rfl ⟨fun q27 => ?_, fun q27 => ?_⟩
      · replace F := F.1 q27
        refine zIconst 0 0 114 (by decide +kernel) rfl (by decide) ?_
        refine zIstore 7 [(7, .int (0)), (0, .ref (m)), (1, .int (l1)), (2, .int (l2)), (3, .int (l3)), (4, .int (l4)), (5, .int (l5)), (6, .int (l6)), (8, .int (l8))] 116 (by decide +kernel) rfl (by decide) rfl ?_
        refine zIinc 8 1 8 (l8 + 1) [(8, .int (l8 + 1)), (7, .int (0)), (0, .ref (m)), (1, .int (l1)), (2, .int (l2)), (3, .int (l3)), (4, .int (l4)), (5, .int (l5)), (6, .int (l6))] 119 (by decide +kernel) rfl rfl (by rfl) (by decide) rfl ?_
        refine zGoto (-71) 48 (by decide +kernel) rfl ?_
        exact zLoc [2, 3, 4, 5, 6, 7, 8, 1, 0] _ rfl F
      · replace F := F.2 q27
        refine zAload_n 0 0 85 (by decide +kernel) rfl rfl ?_
        refine zIload_n 1 1 86 (by decide +kernel) rfl rfl ?_
        refine zIload_n 2 2 87 (by decide +kernel) rfl rfl ?_
        refine zIload 5 5 89 (by decide +kernel) rfl rfl ?_
        refine zIload 8 8 91 (by decide +kernel) rfl rfl ?_
        refine zIconst 1 1 92 (by decide +kernel) rfl (by decide) ?_
        refine zCallV 12 zcls12 mX12_gameOf 471 5 0 0 _ _ 95 [.int (l1), .int (l2), .int (l5), .int (l8), .int (1)] [] okX12_gameOf mlX12_471 imX12_gameOf seX12_gameOf (by decide +kernel) rfl rfl (Nat.le_of_ble_eq_true rfl) rfl rfl (Mod_0 S26) (zC.mono F ?_)
        rintro _ _ ⟨x28, I29, J30, R31, rfl, rfl, F⟩
        change zV G (d + 1) mX12_rests kc ks 95 [(0, .ref (m)), (1, .int (l1)), (2, .int (l2)), (3, .int (l3)), (4, .int (l4)), (5, .int (l5)), (6, .int (l6)), (7, .int (l7)), (8, .int (l8))] [.int (x28)] (I29, J30, R31, K, n) Q
        obtain ⟨u32, u33, S34, F⟩ := F
        refine zAload_n 0 0 96 (by decide +kernel) rfl rfl ?_
        refine zIload_n 1 1 97 (by decide +kernel) rfl rfl ?_
        refine zIload_n 2 2 98 (by decide +kernel) rfl rfl ?_
        refine zIload 5 5 100 (by decide +kernel) rfl rfl ?_
        refine zIload 6 6 102 (by decide +kernel) rfl rfl ?_
        refine zIconst 1 1 103 (by decide +kernel) rfl (by decide) ?_
        refine zCallV 12 zcls12 mX12_gameOf 471 5 0 0 _ _ 106 [.int (l1), .int (l2), .int (l5), .int (l6), .int (1)] [.int (x28)] okX12_gameOf mlX12_471 imX12_gameOf seX12_gameOf (by decide +kernel) rfl rfl (Nat.le_of_ble_eq_true rfl) rfl rfl (Mod_0 S34) (zC.mono F ?_)
        rintro _ _ ⟨x35, I36, J37, R38, rfl, rfl, F⟩
        change zV G (d + 1) mX12_rests kc ks 106 [(0, .ref (m)), (1, .int (l1)), (2, .int (l2)), (3, .int (l3)), (4, .int (l4)), (5, .int (l5)), (6, .int (l6)), (7, .int (l7)), (8, .int (l8))] [.int (x35), .int (x28)] (I36, J37, R38, K, n) Q
        obtain ⟨u39, u40, S41, F⟩ := F
        suffices KK : zV G (d + 1) mX12_rests kc ks 114 [(0, .ref (m)), (1, .int (l1)), (2, .int (l2)), (3, .int (l3)), (4, .int (l4)), (5, .int (l5)), (6, .int (l6)), (7, .int (l7)), (8, .int (l8))] [.int ((if x35 < x28 then 0 else 1))] (I36, J37, R38, K, n) Q by
          refine zIcmp_gt 7 113 109 (by decide +kernel) rfl rfl ⟨fun q42 => ?_, fun q42 => ?_⟩
          · refine zIconst 0 0 114 (by decide +kernel) rfl (by decide) ?_
            exact zTop (by rw [if_pos q42]) KK
          · refine zIconst 1 1 110 (by decide +kernel) rfl (by decide) ?_
            refine zGoto 4 114 (by decide +kernel) rfl ?_
            exact zTop (by rw [if_neg q42]) KK
        refine zIstore 7 [(7, .int ((if x35 < x28 then 0 else 1))), (0, .ref (m)), (1, .int (l1)), (2, .int (l2)), (3, .int (l3)), (4, .int (l4)), (5, .int (l5)), (6, .int (l6)), (8, .int (l8))] 116 (by decide +kernel) rfl (by decide) rfl ?_
        refine zIinc 8 1 8 (l8 + 1) [(8, .int (l8 + 1)), (7, .int ((if x35 < x28 then 0 else 1))), (0, .ref (m)), (1, .int (l1)), (2, .int (l2)), (3, .int (l3)), (4, .int (l4)), (5, .int (l5)), (6, .int (l6))] 119 (by decide +kernel) rfl rfl (by rfl) (by decide) rfl ?_
        refine zGoto (-71) 48 (by decide +kernel) rfl ?_
        exact zLoc [2, 3, 4, 5, 6, 7, 8, 1, 0] _ rfl F
set_option maxHeartbeats 2000000 in
theorem wX12_oddsFrom_0 {G : zG} {d kc ks : Nat} {I : Nat → Nat → Int32} {J : Nat → Nat → Int64} {R : Nat → Nat → Option Nat} {K : Nat → Nat × Nat} {n : Nat} {Q : Option Value → zH → Prop} (m t c : Nat) (S0_ : hMod G R K n m t c) (p1 p2 p3 p4 p5 : Int32) (F : ((p2 = 9 → zC G d mX12_forgivesSet 0 0 [.ref (m), .int (p3)] (I, J, R, K, n) (fun r h => ∃ (x35 : Int32) (I36 : Nat → Nat → Int32) (J37 : Nat → Nat → Int64) (R38 : Nat → Nat → Option Nat), r = some (.int x35) ∧ h = (I36, J37, R38, K, n) ∧ ∃ u39 u40 : Nat, hMod G R38 K n m u39 u40 ∧ zC G d mX12_bare 0 0 [.ref (m), .ref (m + 14), .int (p1)] (I36, J37, R38, K, n) (fun r h => ∃ (x42 : Int32) (I43 : Nat → Nat → Int32), r = some (.int x42) ∧ h = (I43, J37, R38, K, n) ∧ Q (some (.int ((if x42 = 0 then p5 else 0)))) (I43, J37, R38, K, n)))) ∧ (¬ (p2 = 9) → zC G d mX12_isOpen 0 0 [.ref (m + 13), .int (p2)] (I, J, R, K, n) (fun r h => ∃ (x2 : Int32) (I3 : Nat → Nat → Int32), r = some (.int x2) ∧ h = (I3, J, R, K, n) ∧ ((x2 = 0 → zC G d mX12_oddsFrom 0 0 [.ref (m), .int (p1), .int (p2 + 1), .int (p3), .int (p4), .int (p5)] (I3, J, R, K, n) (fun r h => ∃ (x5 : Int32) (I6 : Nat → Nat → Int32) (J7 : Nat → Nat → Int64) (R8 : Nat → Nat → Option Nat), r = some (.int x5) ∧ h = (I6, J7, R8, K, n) ∧ ∃ u9 u10 : Nat, hMod G R8 K n m u9 u10 ∧ Q (some (.int (x5))) (I6, J7, R8, K, n))) ∧ (¬ (x2 = 0) → ((vp_in ((3 * p2) + 1) 231) ∧ (((I3 (m + 13) ((3 * p2) + 1 : Int32).toNatClampNeg : Int32) = p1 → zC G d mX12_oddsFrom 0 0 [.ref (m), .int (p1), .int (p2 + 1), .int (p3 ||| ((1 : Int32) <<< (p2 &&& 31))), .int (p4), .int (((p5.toInt64 * p4.toInt64) / 100 : Int64).toInt32)] (I3, J, R, K, n) (fun r h => ∃ (x14 : Int32) (I15 : Nat → Nat → Int32) (J16 : Nat → Nat → Int64) (R17 : Nat → Nat → Option Nat), r = some (.int x14) ∧ h = (I15, J16, R17, K, n) ∧ ∃ u18 u19 : Nat, hMod G R17 K n m u18 u19 ∧ zC G d mX12_oddsFrom 0 0 [.ref (m), .int (p1), .int (p2 + 1), .int (p3), .int (p4), .int (p5 - (((p5.toInt64 * p4.toInt64) / 100 : Int64).toInt32))] (I15, J16, R17, K, n) (fun r h => ∃ (x21 : Int32) (I22 : Nat → Nat → Int32) (J23 : Nat → Nat → Int64) (R24 : Nat → Nat → Option Nat), r = some (.int x21) ∧ h = (I22, J23, R24, K, n) ∧ ∃ u25 u26 : Nat, hMod G R24 K n m u25 u26 ∧ Q (some (.int (x14 + x21))) (I22, J23, R24, K, n)))) ∧ (¬ ((I3 (m + 13) ((3 * p2) + 1 : Int32).toNatClampNeg : Int32) = p1) → zC G d mX12_oddsFrom 0 0 [.ref (m), .int (p1), .int (p2 + 1), .int (p3), .int (p4), .int (p5)] (I3, J, R, K, n) (fun r h => ∃ (x28 : Int32) (I29 : Nat → Nat → Int32) (J30 : Nat → Nat → Int64) (R31 : Nat → Nat → Option Nat), r = some (.int x28) ∧ h = (I29, J30, R31, K, n) ∧ ∃ u32 u33 : Nat, hMod G R31 K n m u32 u33 ∧ Q (some (.int (x28))) (I29, J30, R31, K, n))))))))))) : zV G (d + 1) mX12_oddsFrom kc ks 0 [(0, .ref (m)), (1, .int (p1)), (2, .int (p2)), (3, .int (p3)), (4, .int (p4)), (5, .int (p5))] [] (I, J, R, K, n) Q := by
  refine zIload_n 2 2 1 (by decide +kernel) rfl rfl ?_
  refine zBipush 9 9 3 (by decide +kernel) rfl (by decide) ?_
  refine zIcmp_ne 29 32 6 (by decide +kernel) rfl rfl ⟨fun q1 => ?_, fun q1 => ?_⟩
  · replace F := F.2 q1
    refine zAload_n 0 0 33 (by decide +kernel) rfl rfl ?_
    refine gf12_32 61 36 (by decide +kernel) rfl flX12_61 (Mod_0 S0_) (Mod_25 S0_) ?_
    refine zIload_n 2 2 37 (by decide +kernel) rfl rfl ?_
    refine zCallS mX12_isOpen 358 2 0 0 _ _ 40 [.ref (m + 13), .int (p2)] [] okX12_isOpen mlX12_358 smX12_isOpen (by decide +kernel) rfl rfl (Nat.le_of_ble_eq_true rfl) rfl rfl (zC.mono F ?_)
    rintro _ _ ⟨x2, I3, rfl, rfl, F⟩
    change zV G (d + 1) mX12_oddsFrom kc ks 40 [(0, .ref (m)), (1, .int (p1)), (2, .int (p2)), (3, .int (p3)), (4, .int (p4)), (5, .int (p5))] [.int (x2)] (I3, J, R, K, n) Q
    refine zIf_eq 17 57 43 (by decide +kernel) rfl rfl ⟨fun q4 => ?_, fun q4 => ?_⟩
    · replace F := F.1 q4
      refine zAload_n 0 0 58 (by decide +kernel) rfl rfl ?_
      refine zIload_n 1 1 59 (by decide +kernel) rfl rfl ?_
      refine zIload_n 2 2 60 (by decide +kernel) rfl rfl ?_
      refine zIconst 1 1 61 (by decide +kernel) rfl (by decide) ?_
      refine zIadd 62 (by decide +kernel) rfl ?_
      refine zIload_n 3 3 63 (by decide +kernel) rfl rfl ?_
      refine zIload 4 4 65 (by decide +kernel) rfl rfl ?_
      refine zIload 5 5 67 (by decide +kernel) rfl rfl ?_
      refine zCallV 12 zcls12 mX12_oddsFrom 475 5 0 0 _ _ 70 [.int (p1), .int (p2 + 1), .int (p3), .int (p4), .int (p5)] [] okX12_oddsFrom mlX12_475 imX12_oddsFrom seX12_oddsFrom (by decide +kernel) rfl rfl (Nat.le_of_ble_eq_true rfl) rfl rfl (Mod_0 S0_) (zC.mono F ?_)
      rintro _ _ ⟨x5, I6, J7, R8, rfl, rfl, F⟩
      change zV G (d + 1) mX12_oddsFrom kc ks 70 [(0, .ref (m)), (1, .int (p1)), (2, .int (p2)), (3, .int (p3)), (4, .int (p4)), (5, .int (p5))] [.int (x5)] (I6, J7, R8, K, n) Q
      obtain ⟨u9, u10, S11, F⟩ := F
      exact zIret rfl (by decide +kernel) F
    · replace F := F.2 q4
      refine zAload_n 0 0 44 (by decide +kernel) rfl rfl ?_
      refine gf12_32 61 47 (by decide +kernel) rfl flX12_61 (Mod_0 S0_) (Mod_25 S0_) ?_
      refine zIconst 3 3 48 (by decide +kernel) rfl (by decide) ?_
      refine zIload_n 2 2 49 (by decide +kernel) rfl rfl ?_
      refine zImul 50 (by decide +kernel) rfl ?_
      refine zIconst 1 1 51 (by decide +kernel) rfl (by decide) ?_
      refine zIadd 52 (by decide +kernel) rfl ?_
      obtain ⟨w12, F⟩ := F
      refine yIaload 231 53 (by decide +kernel) rfl (Mod_26 S0_) (w12) ?_
      refine zIload_n 1 1 54 (by decide +kernel) rfl rfl ?_
      refine zIcmp_eq 17 71 57 (by decide +kernel) rfl rfl ⟨fun q13 => ?_, fun q13 => ?_⟩
      · replace F := F.1 q13
        refine zIload 5 5 73 (by decide +kernel) rfl rfl ?_
        refine zI2l 74 (by decide +kernel) rfl ?_
        refine zIload 4 4 76 (by decide +kernel) rfl rfl ?_
        refine zI2l 77 (by decide +kernel) rfl ?_
        refine zLmul 78 (by decide +kernel) rfl ?_
        refine zLdc2 478 100 81 (by decide +kernel) rfl klX12_478 ?_
        refine zLdiv 82 (by decide +kernel) rfl (by decide) ?_
        refine zL2i 83 (by decide +kernel) rfl ?_
        refine zIstore 6 [(6, .int (((p5.toInt64 * p4.toInt64) / 100 : Int64).toInt32)), (0, .ref (m)), (1, .int (p1)), (2, .int (p2)), (3, .int (p3)), (4, .int (p4)), (5, .int (p5))] 85 (by decide +kernel) rfl (by decide) rfl ?_
        refine zAload_n 0 1 86 (by decide +kernel) rfl rfl ?_
        refine zIload_n 1 2 87 (by decide +kernel) rfl rfl ?_
        refine zIload_n 2 3 88 (by decide +kernel) rfl rfl ?_
        refine zIconst 1 1 89 (by decide +kernel) rfl (by decide) ?_
        refine zIadd 90 (by decide +kernel) rfl ?_
        refine zIload_n 3 4 91 (by decide +kernel) rfl rfl ?_
        refine zIconst 1 1 92 (by decide +kernel) rfl (by decide) ?_
        refine zIload_n 2 3 93 (by decide +kernel) rfl rfl ?_
        refine zIshl 94 (by decide +kernel) rfl ?_
        refine zIor 95 (by decide +kernel) rfl ?_
        refine zIload 4 5 97 (by decide +kernel) rfl rfl ?_
        refine zIload 6 0 99 (by decide +kernel) rfl rfl ?_
        refine zCallV 12 zcls12 mX12_oddsFrom 475 5 0 0 _ _ 102 [.int (p1), .int (p2 + 1), .int (p3 ||| ((1 : Int32) <<< (p2 &&& 31))), .int (p4), .int (((p5.toInt64 * p4.toInt64) / 100 : Int64).toInt32)] [] okX12_oddsFrom mlX12_475 imX12_oddsFrom seX12_oddsFrom (by decide +kernel) rfl rfl (Nat.le_of_ble_eq_true rfl) rfl rfl (Mod_0 S0_) (zC.mono F ?_)
        rintro _ _ ⟨x14, I15, J16, R17, rfl, rfl, F⟩
        change zV G (d + 1) mX12_oddsFrom kc ks 102 [(6, .int (((p5.toInt64 * p4.toInt64) / 100 : Int64).toInt32)), (0, .ref (m)), (1, .int (p1)), (2, .int (p2)), (3, .int (p3)), (4, .int (p4)), (5, .int (p5))] [.int (x14)] (I15, J16, R17, K, n) Q
        obtain ⟨u18, u19, S20, F⟩ := F
        refine zAload_n 0 1 103 (by decide +kernel) rfl rfl ?_
        refine zIload_n 1 2 104 (by decide +kernel) rfl rfl ?_
        refine zIload_n 2 3 105 (by decide +kernel) rfl rfl ?_
        refine zIconst 1 1 106 (by decide +kernel) rfl (by decide) ?_
        refine zIadd 107 (by decide +kernel) rfl ?_
        refine zIload_n 3 4 108 (by decide +kernel) rfl rfl ?_
        refine zIload 4 5 110 (by decide +kernel) rfl rfl ?_
        refine zIload 5 6 112 (by decide +kernel) rfl rfl ?_
        refine zIload 6 0 114 (by decide +kernel) rfl rfl ?_
        refine zIsub 115 (by decide +kernel) rfl ?_
        refine zCallV 12 zcls12 mX12_oddsFrom 475 5 0 0 _ _ 118 [.int (p1), .int (p2 + 1), .int (p3), .int (p4), .int (p5 - (((p5.toInt64 * p4.toInt64) / 100 : Int64).toInt32))] [.int (x14)] okX12_oddsFrom mlX12_475 imX12_oddsFrom seX12_oddsFrom (by decide +kernel) rfl rfl (Nat.le_of_ble_eq_true rfl) rfl rfl (Mod_0 S20) (zC.mono F ?_)
        rintro _ _ ⟨x21, I22, J23, R24, rfl, rfl, F⟩
        change zV G (d + 1) mX12_oddsFrom kc ks 118 [(6, .int (((p5.toInt64 * p4.toInt64) / 100 : Int64).toInt32)), (0, .ref (m)), (1, .int (p1)), (2, .int (p2)), (3, .int (p3)), (4, .int (p4)), (5, .int (p5))] [.int (x21), .int (x14)] (I22, J23, R24, K, n) Q
        obtain ⟨u25, u26, S27, F⟩ := F
        refine zIadd 119 (by decide +kernel) rfl ?_
        exact zIret rfl (by decide +kernel) F
      · replace F := F.2 q13
        refine zAload_n 0 0 58 (by decide +kernel) rfl rfl ?_
        refine zIload_n 1 1 59 (by decide +kernel) rfl rfl ?_
        refine zIload_n 2 2 60 (by decide +kernel) rfl rfl ?_
        refine zIconst 1 1 61 (by decide +kernel) rfl (by decide) ?_
        refine zIadd 62 (by decide +kernel) rfl ?_
        refine zIload_n 3 3 63 (by decide +kernel) rfl rfl ?_
        refine zIload 4 4 65 (by decide +kernel) rfl rfl ?_
        refine zIload 5 5 67 (by decide +kernel) rfl rfl ?_
        refine zCallV 12 zcls12 mX12_oddsFrom 475 5 0 0 _ _ 70 [.int (p1), .int (p2 + 1), .int (p3), .int (p4), .int (p5)] [] okX12_oddsFrom mlX12_475 imX12_oddsFrom seX12_oddsFrom (by decide +kernel) rfl rfl (Nat.le_of_ble_eq_true rfl) rfl rfl (Mod_0 S0_) (zC.mono F ?_)
        rintro _ _ ⟨x28, I29, J30, R31, rfl, rfl, F⟩
        change zV G (d + 1) mX12_oddsFrom kc ks 70 [(0, .ref (m)), (1, .int (p1)), (2, .int (p2)), (3, .int (p3)), (4, .int (p4)), (5, .int (p5))] [.int (x28)] (I29, J30, R31, K, n) Q
        obtain ⟨u32, u33, S34, F⟩ := F
        exact zIret rfl (by decide +kernel) F
  · replace F := F.1 q1
    refine zAload_n 0 0 7 (by decide +kernel) rfl rfl ?_
    refine zIload_n 3 3 8 (by decide +kernel) rfl rfl ?_
    refine zCallV 12 zcls12 mX12_forgivesSet 428 1 0 0 _ _ 11 [.int (p3)] [] okX12_forgivesSet mlX12_428 imX12_forgivesSet seX12_forgivesSet (by decide +kernel) rfl rfl (Nat.le_of_ble_eq_true rfl) rfl rfl (Mod_0 S0_) (zC.mono F ?_)
    rintro _ _ ⟨x35, I36, J37, R38, rfl, rfl, F⟩
    change zV G (d + 1) mX12_oddsFrom kc ks 11 [(0, .ref (m)), (1, .int (p1)), (2, .int (p2)), (3, .int (p3)), (4, .int (p4)), (5, .int (p5))] [.int (x35)] (I36, J37, R38, K, n) Q
    obtain ⟨u39, u40, S41, F⟩ := F
    refine zIstore 6 [(6, .int (x35)), (0, .ref (m)), (1, .int (p1)), (2, .int (p2)), (3, .int (p3)), (4, .int (p4)), (5, .int (p5))] 13 (by decide +kernel) rfl (by decide) rfl ?_
    refine zAload_n 0 1 14 (by decide +kernel) rfl rfl ?_
    refine zAload_n 0 1 15 (by decide +kernel) rfl rfl ?_
    refine gf12_33 64 18 (by decide +kernel) rfl flX12_64 (Mod_0 S41) (Mod_27 S41) ?_
    refine zIload_n 1 2 19 (by decide +kernel) rfl rfl ?_
    refine zCallV 12 zcls12 mX12_bare 333 2 0 0 _ _ 22 [.ref (m + 14), .int (p1)] [] okX12_bare mlX12_333 imX12_bare seX12_bare (by decide +kernel) rfl rfl (Nat.le_of_ble_eq_true rfl) rfl rfl (Mod_0 S41) (zC.mono F ?_)
    rintro _ _ ⟨x42, I43, rfl, rfl, F⟩
    change zV G (d + 1) mX12_oddsFrom kc ks 22 [(6, .int (x35)), (0, .ref (m)), (1, .int (p1)), (2, .int (p2)), (3, .int (p3)), (4, .int (p4)), (5, .int (p5))] [.int (x42)] (I43, J37, R38, K, n) Q
    suffices KK : zV G (d + 1) mX12_oddsFrom kc ks 31 [(6, .int (x35)), (0, .ref (m)), (1, .int (p1)), (2, .int (p2)), (3, .int (p3)), (4, .int (p4)), (5, .int (p5))] [.int ((if x42 = 0 then p5 else 0))] (I43, J37, R38, K, n) Q by
      refine zIf_ne 8 30 25 (by decide +kernel) rfl rfl ⟨fun q44 => ?_, fun q44 => ?_⟩
      · refine zIconst 0 0 31 (by decide +kernel) rfl (by decide) ?_
        exact zTop (by rw [if_neg q44]) KK
      · refine zIload 5 6 27 (by decide +kernel) rfl rfl ?_
        refine zGoto 4 31 (by decide +kernel) rfl ?_
        exact zTop (by rw [if_pos q44]) KK
    exact zIret rfl (by decide +kernel) F
set_option maxHeartbeats 2000000 in
theorem wX12_odds_0 {G : zG} {d kc ks : Nat} {I : Nat → Nat → Int32} {J : Nat → Nat → Int64} {R : Nat → Nat → Option Nat} {K : Nat → Nat × Nat} {n : Nat} {Q : Option Value → zH → Prop} (m t c : Nat) (S0_ : hMod G R K n m t c) (p1 p2 : Int32) (F : (∀ I1 : Nat → Nat → Int32, I1 = zU I m 0 (0) → zC G d mX12_isFarm 0 0 [.ref (m), .int (p1)] (I1, J, R, K, n) (fun r h => ∃ (x2 : Int32) (I3 : Nat → Nat → Int32), r = some (.int x2) ∧ h = (I3, J, R, K, n) ∧ ((x2 = 0 → Q (some (.int ((-1)))) (I3, J, R, K, n)) ∧ (¬ (x2 = 0) → zC G d mX12_isIn 0 0 [.long (p2.toInt64), .long (0), .long (100)] (I3, J, R, K, n) (fun r h => ∃ (x5 : Int32) (I6 : Nat → Nat → Int32), r = some (.int x5) ∧ h = (I6, J, R, K, n) ∧ ((x5 = 0 → Q (some (.int ((-1)))) (I6, J, R, K, n)) ∧ (¬ (x5 = 0) → zC G d mX12_oddsFrom 0 0 [.ref (m), .int (p1), .int (0), .int (0), .int (p2), .int (1000000000)] (I6, J, R, K, n) (fun r h => ∃ (x8 : Int32) (I9 : Nat → Nat → Int32) (J10 : Nat → Nat → Int64) (R11 : Nat → Nat → Option Nat), r = some (.int x8) ∧ h = (I9, J10, R11, K, n) ∧ ∃ u12 u13 : Nat, hMod G R11 K n m u12 u13 ∧ Q (some (.int (x8))) (I9, J10, R11, K, n)))))))))) : zV G (d + 1) mX12_odds kc ks 0 [(0, .ref (m)), (1, .int (p1)), (2, .int (p2))] [] (I, J, R, K, n) Q := by
  refine zAload_n 0 0 1 (by decide +kernel) rfl rfl ?_
  refine zIconst 0 0 2 (by decide +kernel) rfl (by decide) ?_
  refine pf12_0 93 5 (by decide +kernel) rfl flX12_93 (Mod_0 S0_) ?_
  replace F := F _ rfl
  generalize zU I m 0 (0) = I1 at F ⊢
  refine zAload_n 0 0 6 (by decide +kernel) rfl rfl ?_
  refine zIload_n 1 1 7 (by decide +kernel) rfl rfl ?_
  refine zCallV 12 zcls12 mX12_isFarm 306 1 0 0 _ _ 10 [.int (p1)] [] okX12_isFarm mlX12_306 imX12_isFarm seX12_isFarm (by decide +kernel) rfl rfl (Nat.le_of_ble_eq_true rfl) rfl rfl (Mod_0 S0_) (zC.mono F ?_)
  rintro _ _ ⟨x2, I3, rfl, rfl, F⟩
  change zV G (d + 1) mX12_odds kc ks 10 [(0, .ref (m)), (1, .int (p1)), (2, .int (p2))] [.int (x2)] (I3, J, R, K, n) Q
  refine zIf_eq 29 39 13 (by decide +kernel) rfl rfl ⟨fun q4 => ?_, fun q4 => ?_⟩
  · replace F := F.1 q4
    refine zIconst (-1) (-1) 40 (by decide +kernel) rfl (by decide) ?_
    exact zIret rfl (by decide +kernel) F
  · replace F := F.2 q4
    refine zIload_n 2 2 14 (by decide +kernel) rfl rfl ?_
    refine zI2l 15 (by decide +kernel) rfl ?_
    refine zLconst 0 0 16 (by decide +kernel) rfl (by decide) ?_
    refine zLdc2 478 100 19 (by decide +kernel) rfl klX12_478 ?_
    refine zCallS mX12_isIn 214 3 0 0 _ _ 22 [.long (p2.toInt64), .long (0), .long (100)] [] okX12_isIn mlX12_214 smX12_isIn (by decide +kernel) rfl rfl (Nat.le_of_ble_eq_true rfl) rfl rfl (zC.mono F ?_)
    rintro _ _ ⟨x5, I6, rfl, rfl, F⟩
    change zV G (d + 1) mX12_odds kc ks 22 [(0, .ref (m)), (1, .int (p1)), (2, .int (p2))] [.int (x5)] (I6, J, R, K, n) Q
    refine zIf_eq 17 39 25 (by decide +kernel) rfl rfl ⟨fun q7 => ?_, fun q7 => ?_⟩
    · replace F := F.1 q7
      refine zIconst (-1) (-1) 40 (by decide +kernel) rfl (by decide) ?_
      exact zIret rfl (by decide +kernel) F
    · replace F := F.2 q7
      refine zAload_n 0 0 26 (by decide +kernel) rfl rfl ?_
      refine zIload_n 1 1 27 (by decide +kernel) rfl rfl ?_
      refine zIconst 0 0 28 (by decide +kernel) rfl (by decide) ?_
      refine zIconst 0 0 29 (by decide +kernel) rfl (by decide) ?_
      refine zIload_n 2 2 30 (by decide +kernel) rfl rfl ?_
      refine zLdcw 480 1000000000 33 (by decide +kernel) rfl kcX12_480 ?_
      refine zCallV 12 zcls12 mX12_oddsFrom 475 5 0 0 _ _ 36 [.int (p1), .int (0), .int (0), .int (p2), .int (1000000000)] [] okX12_oddsFrom mlX12_475 imX12_oddsFrom seX12_oddsFrom (by decide +kernel) rfl rfl (Nat.le_of_ble_eq_true rfl) rfl rfl (Mod_0 S0_) (zC.mono F ?_)
      rintro _ _ ⟨x8, I9, J10, R11, rfl, rfl, F⟩
      change zV G (d + 1) mX12_odds kc ks 36 [(0, .ref (m)), (1, .int (p1)), (2, .int (p2))] [.int (x8)] (I9, J10, R11, K, n) Q
      obtain ⟨u12, u13, S14, F⟩ := F
      refine zGoto 4 40 (by decide +kernel) rfl ?_
      exact zIret rfl (by decide +kernel) F
set_option maxHeartbeats 2000000 in
theorem wX12_sumOf_0 {G : zG} {d kc ks : Nat} {I : Nat → Nat → Int32} {J : Nat → Nat → Int64} {R : Nat → Nat → Option Nat} {K : Nat → Nat × Nat} {n : Nat} {Q : Option Value → zH → Prop} (m t c : Nat) (S0_ : hMod G R K n m t c) (p1 : Int32) (F : zV G (d + 1) mX12_sumOf kc ks 4 [(0, .ref (m)), (1, .int (p1)), (2, .int (0)), (3, .int (0))] [] (I, J, R, K, n) Q) : zV G (d + 1) mX12_sumOf kc ks 0 [(0, .ref (m)), (1, .int (p1))] [] (I, J, R, K, n) Q := by
  refine zIconst 0 0 1 (by decide +kernel) rfl (by decide) ?_
  refine zIstore_n 2 [(2, .int (0)), (0, .ref (m)), (1, .int (p1))] 2 (by decide +kernel) rfl (by decide) rfl ?_
  refine zIconst 0 0 3 (by decide +kernel) rfl (by decide) ?_
  refine zIstore_n 3 [(3, .int (0)), (2, .int (0)), (0, .ref (m)), (1, .int (p1))] 4 (by decide +kernel) rfl (by decide) rfl ?_
  exact zLoc [2, 3, 1, 0] _ rfl F
set_option maxHeartbeats 2000000 in
theorem wX12_sumOf_4 {G : zG} {d kc ks : Nat} {I : Nat → Nat → Int32} {J : Nat → Nat → Int64} {R : Nat → Nat → Option Nat} {K : Nat → Nat × Nat} {n : Nat} {Q : Option Value → zH → Prop} (m t c : Nat) (S0_ : hMod G R K n m t c) (l1 l2 l3 : Int32) (F : (((I m 26 : Int32) ≤ l3 → Q (some (.int (l2))) (I, J, R, K, n)) ∧ (¬ ((I m 26 : Int32) ≤ l3) → ((vp_in ((27 + (3 * l3)) + l1) 231) ∧ zV G (d + 1) mX12_sumOf kc ks 4 [(0, .ref (m)), (1, .int (l1)), (2, .int (l2 + (I (m + 13) ((27 + (3 * l3)) + l1 : Int32).toNatClampNeg))), (3, .int (l3 + 1))] [] (I, J, R, K, n) Q)))) : zV G (d + 1) mX12_sumOf kc ks 4 [(0, .ref (m)), (1, .int (l1)), (2, .int (l2)), (3, .int (l3))] [] (I, J, R, K, n) Q := by
  refine zIload_n 3 3 5 (by decide +kernel) rfl rfl ?_
  refine zAload_n 0 0 6 (by decide +kernel) rfl rfl ?_
  refine gf12_26 291 9 (by decide +kernel) rfl flX12_291 (Mod_0 S0_) ?_
  refine zIcmp_ge 25 34 12 (by decide +kernel) rfl rfl ⟨fun q1 => ?_, fun q1 => ?_⟩
  · replace F := F.1 q1
    refine zIload_n 2 2 35 (by decide +kernel) rfl rfl ?_
    exact zIret rfl (by decide +kernel) F
  · replace F := F.2 q1
    refine zIload_n 2 2 13 (by decide +kernel) rfl rfl ?_
    refine zAload_n 0 0 14 (by decide +kernel) rfl rfl ?_
    refine gf12_32 61 17 (by decide +kernel) rfl flX12_61 (Mod_0 S0_) (Mod_25 S0_) ?_
    refine zBipush 27 27 19 (by decide +kernel) rfl (by decide) ?_
    refine zIconst 3 3 20 (by decide +kernel) rfl (by decide) ?_
    refine zIload_n 3 3 21 (by decide +kernel) rfl rfl ?_
    refine zImul 22 (by decide +kernel) rfl ?_
    refine zIadd 23 (by decide +kernel) rfl ?_
    refine zIload_n 1 1 24 (by decide +kernel) rfl rfl ?_
    refine zIadd 25 (by decide +kernel) rfl ?_
    obtain ⟨w2, F⟩ := F
    refine yIaload 231 26 (by decide +kernel) rfl (Mod_26 S0_) (w2) ?_
    refine zIadd 27 (by decide +kernel) rfl ?_
    refine zIstore_n 2 [(2, .int (l2 + (I (m + 13) ((27 + (3 * l3)) + l1 : Int32).toNatClampNeg))), (0, .ref (m)), (1, .int (l1)), (3, .int (l3))] 28 (by decide +kernel) rfl (by decide) rfl ?_
    refine zIinc 3 1 3 (l3 + 1) [(3, .int (l3 + 1)), (2, .int (l2 + (I (m + 13) ((27 + (3 * l3)) + l1 : Int32).toNatClampNeg))), (0, .ref (m)), (1, .int (l1))] 31 (by decide +kernel) rfl rfl (by rfl) (by decide) rfl ?_
    refine zGoto (-27) 4 (by decide +kernel) rfl ?_
    exact zLoc [2, 3, 1, 0] _ rfl F
set_option maxHeartbeats 2000000 in
theorem wX12_shares_0 {G : zG} {d kc ks : Nat} {I : Nat → Nat → Int32} {J : Nat → Nat → Int64} {R : Nat → Nat → Option Nat} {K : Nat → Nat × Nat} {n : Nat} {Q : Option Value → zH → Prop} (m t c : Nat) (S0_ : hMod G R K n m t c) (p1 p2 : Int32) (F : (∀ I1 : Nat → Nat → Int32, I1 = zU I m 0 (0) → zC G d mX12_isFarm 0 0 [.ref (m), .int (p1)] (I1, J, R, K, n) (fun r h => ∃ (x2 : Int32) (I3 : Nat → Nat → Int32), r = some (.int x2) ∧ h = (I3, J, R, K, n) ∧ ((x2 = 0 → Q (some (.int ((-1)))) (I3, J, R, K, n)) ∧ (¬ (x2 = 0) → zC G d mX12_isIn 0 0 [.long (p2.toInt64), .long (0), .long (999)] (I3, J, R, K, n) (fun r h => ∃ (x5 : Int32) (I6 : Nat → Nat → Int32), r = some (.int x5) ∧ h = (I6, J, R, K, n) ∧ ((x5 = 0 → Q (some (.int ((-1)))) (I6, J, R, K, n)) ∧ (¬ (x5 = 0) → zC G d mX12_sumOf 0 0 [.ref (m), .int (0)] (I6, J, R, K, n) (fun r h => ∃ (x8 : Int32) (I9 : Nat → Nat → Int32), r = some (.int x8) ∧ h = (I9, J, R, K, n) ∧ (((¬ (x8 = 0)) → vp_in ((27 + (3 * p1)) + 0) 231) ∧ ((¬ (x8 = 0)) → ¬ (x8 : Int32) = 0) ∧ Q (some (.int ((if x8 = 0 then 0 else (p2 * (I9 (m + 13) ((27 + (3 * p1)) + 0 : Int32).toNatClampNeg)) / x8)))) (I9, J, R, K, n))))))))))) : zV G (d + 1) mX12_shares kc ks 0 [(0, .ref (m)), (1, .int (p1)), (2, .int (p2))] [] (I, J, R, K, n) Q := by
  refine zAload_n 0 0 1 (by decide +kernel) rfl rfl ?_
  refine zIconst 0 0 2 (by decide +kernel) rfl (by decide) ?_
  refine pf12_0 93 5 (by decide +kernel) rfl flX12_93 (Mod_0 S0_) ?_
  replace F := F _ rfl
  generalize zU I m 0 (0) = I1 at F ⊢
  refine zAload_n 0 0 6 (by decide +kernel) rfl rfl ?_
  refine zIload_n 1 1 7 (by decide +kernel) rfl rfl ?_
  refine zCallV 12 zcls12 mX12_isFarm 306 1 0 0 _ _ 10 [.int (p1)] [] okX12_isFarm mlX12_306 imX12_isFarm seX12_isFarm (by decide +kernel) rfl rfl (Nat.le_of_ble_eq_true rfl) rfl rfl (Mod_0 S0_) (zC.mono F ?_)
  rintro _ _ ⟨x2, I3, rfl, rfl, F⟩
  change zV G (d + 1) mX12_shares kc ks 10 [(0, .ref (m)), (1, .int (p1)), (2, .int (p2))] [.int (x2)] (I3, J, R, K, n) Q
  refine zIf_eq 15 25 13 (by decide +kernel) rfl rfl ⟨fun q4 => ?_, fun q4 => ?_⟩
  · replace F := F.1 q4
    refine zIconst (-1) (-1) 26 (by decide +kernel) rfl (by decide) ?_
    exact zIret rfl (by decide +kernel) F
  · replace F := F.2 q4
    refine zIload_n 2 2 14 (by decide +kernel) rfl rfl ?_
    refine zI2l 15 (by decide +kernel) rfl ?_
    refine zLconst 0 0 16 (by decide +kernel) rfl (by decide) ?_
    refine zLdc2 481 999 19 (by decide +kernel) rfl klX12_481 ?_
    refine zCallS mX12_isIn 214 3 0 0 _ _ 22 [.long (p2.toInt64), .long (0), .long (999)] [] okX12_isIn mlX12_214 smX12_isIn (by decide +kernel) rfl rfl (Nat.le_of_ble_eq_true rfl) rfl rfl (zC.mono F ?_)
    rintro _ _ ⟨x5, I6, rfl, rfl, F⟩
    change zV G (d + 1) mX12_shares kc ks 22 [(0, .ref (m)), (1, .int (p1)), (2, .int (p2))] [.int (x5)] (I6, J, R, K, n) Q
    refine zIf_ne 5 27 25 (by decide +kernel) rfl rfl ⟨fun q7 => ?_, fun q7 => ?_⟩
    · replace F := F.2 q7
      refine zAload_n 0 0 28 (by decide +kernel) rfl rfl ?_
      refine zIconst 0 0 29 (by decide +kernel) rfl (by decide) ?_
      refine zCallV 12 zcls12 mX12_sumOf 483 1 0 0 _ _ 32 [.int (0)] [] okX12_sumOf mlX12_483 imX12_sumOf seX12_sumOf (by decide +kernel) rfl rfl (Nat.le_of_ble_eq_true rfl) rfl rfl (Mod_0 S0_) (zC.mono F ?_)
      rintro _ _ ⟨x8, I9, rfl, rfl, F⟩
      change zV G (d + 1) mX12_shares kc ks 32 [(0, .ref (m)), (1, .int (p1)), (2, .int (p2))] [.int (x8)] (I9, J, R, K, n) Q
      refine zIstore_n 3 [(3, .int (x8)), (0, .ref (m)), (1, .int (p1)), (2, .int (p2))] 33 (by decide +kernel) rfl (by decide) rfl ?_
      refine zIload_n 3 0 34 (by decide +kernel) rfl rfl ?_
      obtain ⟨w11, F⟩ := F
      obtain ⟨w12, F⟩ := F
      suffices KK : zV G (d + 1) mX12_shares kc ks 58 [(3, .int (x8)), (0, .ref (m)), (1, .int (p1)), (2, .int (p2))] [.int ((if x8 = 0 then 0 else (p2 * (I9 (m + 13) ((27 + (3 * p1)) + 0 : Int32).toNatClampNeg)) / x8))] (I9, J, R, K, n) Q by
        refine zIf_ne 7 41 37 (by decide +kernel) rfl rfl ⟨fun q10 => ?_, fun q10 => ?_⟩
        · refine zIload_n 2 3 42 (by decide +kernel) rfl rfl ?_
          refine zAload_n 0 1 43 (by decide +kernel) rfl rfl ?_
          refine gf12_32 61 46 (by decide +kernel) rfl flX12_61 (Mod_0 S0_) (Mod_25 S0_) ?_
          refine zBipush 27 27 48 (by decide +kernel) rfl (by decide) ?_
          refine zIconst 3 3 49 (by decide +kernel) rfl (by decide) ?_
          refine zIload_n 1 2 50 (by decide +kernel) rfl rfl ?_
          refine zImul 51 (by decide +kernel) rfl ?_
          refine zIadd 52 (by decide +kernel) rfl ?_
          refine zIconst 0 0 53 (by decide +kernel) rfl (by decide) ?_
          refine zIadd 54 (by decide +kernel) rfl ?_
          refine yIaload 231 55 (by decide +kernel) rfl (Mod_26 S0_) (w11 q10) ?_
          refine zImul 56 (by decide +kernel) rfl ?_
          refine zIload_n 3 0 57 (by decide +kernel) rfl rfl ?_
          refine zIdiv 58 (by decide +kernel) rfl (w12 q10) ?_
          exact zTop (by rw [if_neg q10]) KK
        · refine zIconst 0 0 38 (by decide +kernel) rfl (by decide) ?_
          refine zGoto 20 58 (by decide +kernel) rfl ?_
          exact zTop (by rw [if_pos q10]) KK
      exact zIret rfl (by decide +kernel) F
    · replace F := F.1 q7
      refine zIconst (-1) (-1) 26 (by decide +kernel) rfl (by decide) ?_
      exact zIret rfl (by decide +kernel) F
set_option maxHeartbeats 2000000 in
theorem wX12_fades_0 {G : zG} {d kc ks : Nat} {I : Nat → Nat → Int32} {J : Nat → Nat → Int64} {R : Nat → Nat → Option Nat} {K : Nat → Nat × Nat} {n : Nat} {Q : Option Value → zH → Prop} (m t c : Nat) (S0_ : hMod G R K n m t c) (p1 : Int32) (F : (∀ I1 : Nat → Nat → Int32, I1 = zU I m 0 (0) → zC G d mX12_isFarm 0 0 [.ref (m), .int (p1)] (I1, J, R, K, n) (fun r h => ∃ (x2 : Int32) (I3 : Nat → Nat → Int32), r = some (.int x2) ∧ h = (I3, J, R, K, n) ∧ ((x2 = 0 → Q (some (.int ((-1)))) (I3, J, R, K, n)) ∧ (¬ (x2 = 0) → zC G d mX12_copy 0 0 [.ref (m + 13), .ref (m + 14)] (I3, J, R, K, n) (fun r h => ∃ (I5 : Nat → Nat → Int32), r = none ∧ h = (I5, J, R, K, n) ∧ zV G (d + 1) mX12_fades kc ks 28 [(0, .ref (m)), (1, .int (p1)), (2, .int (0))] [] (I5, J, R, K, n) Q)))))) : zV G (d + 1) mX12_fades kc ks 0 [(0, .ref (m)), (1, .int (p1))] [] (I, J, R, K, n) Q := by
  refine zAload_n 0 0 1 (by decide +kernel) rfl rfl ?_
  refine zIconst 0 0 2 (by decide +kernel) rfl (by decide) ?_
  refine pf12_0 93 5 (by decide +kernel) rfl flX12_93 (Mod_0 S0_) ?_
  replace F := F _ rfl
  generalize zU I m 0 (0) = I1 at F ⊢
  refine zAload_n 0 0 6 (by decide +kernel) rfl rfl ?_
  refine zIload_n 1 1 7 (by decide +kernel) rfl rfl ?_
  refine zCallV 12 zcls12 mX12_isFarm 306 1 0 0 _ _ 10 [.int (p1)] [] okX12_isFarm mlX12_306 imX12_isFarm seX12_isFarm (by decide +kernel) rfl rfl (Nat.le_of_ble_eq_true rfl) rfl rfl (Mod_0 S0_) (zC.mono F ?_)
  rintro _ _ ⟨x2, I3, rfl, rfl, F⟩
  change zV G (d + 1) mX12_fades kc ks 10 [(0, .ref (m)), (1, .int (p1))] [.int (x2)] (I3, J, R, K, n) Q
  refine zIf_ne 5 15 13 (by decide +kernel) rfl rfl ⟨fun q4 => ?_, fun q4 => ?_⟩
  · replace F := F.2 q4
    refine zAload_n 0 0 16 (by decide +kernel) rfl rfl ?_
    refine gf12_32 61 19 (by decide +kernel) rfl flX12_61 (Mod_0 S0_) (Mod_25 S0_) ?_
    refine zAload_n 0 0 20 (by decide +kernel) rfl rfl ?_
    refine gf12_33 64 23 (by decide +kernel) rfl flX12_64 (Mod_0 S0_) (Mod_27 S0_) ?_
    refine zCallS mX12_copy 418 2 0 0 _ _ 26 [.ref (m + 13), .ref (m + 14)] [] okX12_copy mlX12_418 smX12_copy (by decide +kernel) rfl rfl (Nat.le_of_ble_eq_true rfl) rfl rfl (zC.mono F ?_)
    rintro _ _ ⟨I5, rfl, rfl, F⟩
    change zV G (d + 1) mX12_fades kc ks 26 [(0, .ref (m)), (1, .int (p1))] [] (I5, J, R, K, n) Q
    refine zIconst 0 0 27 (by decide +kernel) rfl (by decide) ?_
    refine zIstore_n 2 [(2, .int (0)), (0, .ref (m)), (1, .int (p1))] 28 (by decide +kernel) rfl (by decide) rfl ?_
    exact zLoc [1, 2, 0] _ rfl F
  · replace F := F.1 q4
    refine zIconst (-1) (-1) 14 (by decide +kernel) rfl (by decide) ?_
    exact zIret rfl (by decide +kernel) F
set_option maxHeartbeats 2000000 in
theorem wX12_fades_28 {G : zG} {d kc ks : Nat} {I : Nat → Nat → Int32} {J : Nat → Nat → Int64} {R : Nat → Nat → Option Nat} {K : Nat → Nat × Nat} {n : Nat} {Q : Option Value → zH → Prop} (m t c : Nat) (S0_ : hMod G R K n m t c) (l1 l2 : Int32) (F : ((120 < l2 → Q (some (.int ((-1)))) (I, J, R, K, n)) ∧ (¬ (120 < l2) → zC G d mX12_white 0 0 [.ref (m + 14), .int (l1)] (I, J, R, K, n) (fun r h => ∃ (x7 : Int32) (I8 : Nat → Nat → Int32), r = some (.int x7) ∧ h = (I8, J, R, K, n) ∧ ((x7 = 0 → Q (some (.int (l2))) (I8, J, R, K, n)) ∧ (¬ (x7 = 0) → zC G d mX12_wears 0 0 [.ref (m), .ref (m + 14)] (I8, J, R, K, n) (fun r h => ∃ (x10 : Int32) (I11 : Nat → Nat → Int32), r = some (.int x10) ∧ h = (I11, J, R, K, n) ∧ ((vp_in 49 231) ∧ (vp_in 49 231 ∧ ∀ I13 : Nat → Nat → Int32, I13 = zU I11 (m + 14) (49 : Int32).toNatClampNeg ((I11 (m + 14) (49 : Int32).toNatClampNeg) + 1) → zV G (d + 1) mX12_fades kc ks 28 [(0, .ref (m)), (1, .int (l1)), (2, .int (l2 + 1))] [] (I13, J, R, K, n) Q))))))))) : zV G (d + 1) mX12_fades kc ks 28 [(0, .ref (m)), (1, .int (l1)), (2, .int (l2))] [] (I, J, R, K, n) Q := by
  refine zIload_n 2 2 29 (by decide +kernel) rfl rfl ?_
  refine zBipush 120 120 31 (by decide +kernel) rfl (by decide) ?_
  refine zIcmp_gt 42 73 34 (by decide +kernel) rfl rfl ⟨fun q6 => ?_, fun q6 => ?_⟩
  · replace F := F.1 q6
    refine zIconst (-1) (-1) 74 (by decide +kernel) rfl (by decide) ?_
    exact zIret rfl (by decide +kernel) F
  · replace F := F.2 q6
    refine zAload_n 0 0 35 (by decide +kernel) rfl rfl ?_
    refine gf12_33 64 38 (by decide +kernel) rfl flX12_64 (Mod_0 S0_) (Mod_27 S0_) ?_
    refine zIload_n 1 1 39 (by decide +kernel) rfl rfl ?_
    refine zCallS mX12_white 309 2 0 0 _ _ 42 [.ref (m + 14), .int (l1)] [] okX12_white mlX12_309 smX12_white (by decide +kernel) rfl rfl (Nat.le_of_ble_eq_true rfl) rfl rfl (zC.mono F ?_)
    rintro _ _ ⟨x7, I8, rfl, rfl, F⟩
    change zV G (d + 1) mX12_fades kc ks 42 [(0, .ref (m)), (1, .int (l1)), (2, .int (l2))] [.int (x7)] (I8, J, R, K, n) Q
    refine zIf_ne 5 47 45 (by decide +kernel) rfl rfl ⟨fun q9 => ?_, fun q9 => ?_⟩
    · replace F := F.2 q9
      refine zAload_n 0 0 48 (by decide +kernel) rfl rfl ?_
      refine zAload_n 0 0 49 (by decide +kernel) rfl rfl ?_
      refine gf12_33 64 52 (by decide +kernel) rfl flX12_64 (Mod_0 S0_) (Mod_27 S0_) ?_
      refine zCallV 12 zcls12 mX12_wears 344 1 0 0 _ _ 55 [.ref (m + 14)] [] okX12_wears mlX12_344 imX12_wears seX12_wears (by decide +kernel) rfl rfl (Nat.le_of_ble_eq_true rfl) rfl rfl (Mod_0 S0_) (zC.mono F ?_)
      rintro _ _ ⟨x10, I11, rfl, rfl, F⟩
      change zV G (d + 1) mX12_fades kc ks 55 [(0, .ref (m)), (1, .int (l1)), (2, .int (l2))] [.int (x10)] (I11, J, R, K, n) Q
      refine zIstore_n 3 [(3, .int (x10)), (0, .ref (m)), (1, .int (l1)), (2, .int (l2))] 56 (by decide +kernel) rfl (by decide) rfl ?_
      refine zAload_n 0 1 57 (by decide +kernel) rfl rfl ?_
      refine gf12_33 64 60 (by decide +kernel) rfl flX12_64 (Mod_0 S0_) (Mod_27 S0_) ?_
      refine zBipush 49 49 62 (by decide +kernel) rfl (by decide) ?_
      refine zDup2 63 (by decide +kernel) rfl rfl rfl ?_
      obtain ⟨w12, F⟩ := F
      refine yIaload 231 64 (by decide +kernel) rfl (Mod_28 S0_) (w12) ?_
      refine zIconst 1 1 65 (by decide +kernel) rfl (by decide) ?_
      refine zIadd 66 (by decide +kernel) rfl ?_
      refine yIastore 231 67 (by decide +kernel) rfl (Mod_28 S0_) F.1 ?_
      replace F := F.2 _ rfl
      generalize zU I11 (m + 14) (49 : Int32).toNatClampNeg ((I11 (m + 14) (49 : Int32).toNatClampNeg) + 1) = I13 at F ⊢
      refine zIinc 2 1 3 (l2 + 1) [(2, .int (l2 + 1)), (3, .int (x10)), (0, .ref (m)), (1, .int (l1))] 70 (by decide +kernel) rfl rfl (by rfl) (by decide) rfl ?_
      refine zGoto (-42) 28 (by decide +kernel) rfl ?_
      exact zLoc [2, 3, 0] _ rfl F
    · replace F := F.1 q9
      refine zIload_n 2 2 46 (by decide +kernel) rfl rfl ?_
      exact zIret rfl (by decide +kernel) F
set_option maxHeartbeats 2000000 in
theorem wX12_valueOf_0 {G : zG} {d kc ks : Nat} {I : Nat → Nat → Int32} {J : Nat → Nat → Int64} {R : Nat → Nat → Option Nat} {K : Nat → Nat × Nat} {n : Nat} {Q : Option Value → zH → Prop} (m t c : Nat) (S0_ : hMod G R K n m t c) (p1 p2 : Int32) (F : ((p1 = 0 → ((vp_in ((27 + (3 * p2)) + 0) 231) ∧ Q (some (.int (I (m + 13) ((27 + (3 * p2)) + 0 : Int32).toNatClampNeg))) (I, J, R, K, n))) ∧ (p1 = 1 → zC G d mX12_bare 0 0 [.ref (m), .ref (m + 13), .int (p2)] (I, J, R, K, n) (fun r h => ∃ (x4 : Int32) (I5 : Nat → Nat → Int32), r = some (.int x4) ∧ h = (I5, J, R, K, n) ∧ Q (some (.int (x4))) (I5, J, R, K, n))) ∧ (p1 = 2 → ((vp_in ((2 * p2) + 1) 12) ∧ Q (some (.int (I (m + 7) ((2 * p2) + 1 : Int32).toNatClampNeg))) (I, J, R, K, n))) ∧ (p1 = 3 → ((vp_in (2 * p2) 12) ∧ Q (some (.int (I (m + 7) (2 * p2 : Int32).toNatClampNeg))) (I, J, R, K, n))) ∧ (¬ p1 = 0 → ¬ p1 = 1 → ¬ p1 = 2 → ¬ p1 = 3 → zC G d mX12_openOf 0 0 [.ref (m), .int (p2), .int (p1 - 4)] (I, J, R, K, n) (fun r h => ∃ (x10 : Int32) (I11 : Nat → Nat → Int32), r = some (.int x10) ∧ h = (I11, J, R, K, n) ∧ zC G d mJ6_bitCount_0f7a4 0 0 [.int (x10)] (I11, J, R, K, n) (fun r h => ∃ (x12 : Int32), r = some (.int x12) ∧ h = (I11, J, R, K, n) ∧ Q (some (.int (x12))) (I11, J, R, K, n)))))) : zV G (d + 1) mX12_valueOf kc ks 0 [(0, .ref (m)), (1, .int (p1)), (2, .int (p2))] [] (I, J, R, K, n) Q := by
  refine zIload_n 1 1 1 (by decide +kernel) rfl rfl ?_
  by_cases q1 : p1 = 0
  · replace F := F.1 q1
    have zt := zEqT q1 (show (0 : Int32).toInt = 0 by decide)
    refine zTableIn 75 0 3 #[31, 45, 55, 66] 31 31 32 (by decide +kernel) (by omega) (by omega) (by rw [zt]; decide) rfl ?_
    refine zAload_n 0 0 33 (by decide +kernel) rfl rfl ?_
    refine gf12_32 61 36 (by decide +kernel) rfl flX12_61 (Mod_0 S0_) (Mod_25 S0_) ?_
    refine zBipush 27 27 38 (by decide +kernel) rfl (by decide) ?_
    refine zIconst 3 3 39 (by decide +kernel) rfl (by decide) ?_
    refine zIload_n 2 2 40 (by decide +kernel) rfl rfl ?_
    refine zImul 41 (by decide +kernel) rfl ?_
    refine zIadd 42 (by decide +kernel) rfl ?_
    refine zIconst 0 0 43 (by decide +kernel) rfl (by decide) ?_
    refine zIadd 44 (by decide +kernel) rfl ?_
    obtain ⟨w2, F⟩ := F
    refine yIaload 231 45 (by decide +kernel) rfl (Mod_26 S0_) (w2) ?_
    exact zIret rfl (by decide +kernel) F
  · skip
    by_cases q3 : p1 = 1
    · replace F := F.2.1 q3
      have zt := zEqT q3 (show (1 : Int32).toInt = 1 by decide)
      refine zTableIn 75 0 3 #[31, 45, 55, 66] 31 45 46 (by decide +kernel) (by omega) (by omega) (by rw [zt]; decide) rfl ?_
      refine zAload_n 0 0 47 (by decide +kernel) rfl rfl ?_
      refine zAload_n 0 0 48 (by decide +kernel) rfl rfl ?_
      refine gf12_32 61 51 (by decide +kernel) rfl flX12_61 (Mod_0 S0_) (Mod_25 S0_) ?_
      refine zIload_n 2 2 52 (by decide +kernel) rfl rfl ?_
      refine zCallV 12 zcls12 mX12_bare 333 2 0 0 _ _ 55 [.ref (m + 13), .int (p2)] [] okX12_bare mlX12_333 imX12_bare seX12_bare (by decide +kernel) rfl rfl (Nat.le_of_ble_eq_true rfl) rfl rfl (Mod_0 S0_) (zC.mono F ?_)
      rintro _ _ ⟨x4, I5, rfl, rfl, F⟩
      change zV G (d + 1) mX12_valueOf kc ks 55 [(0, .ref (m)), (1, .int (p1)), (2, .int (p2))] [.int (x4)] (I5, J, R, K, n) Q
      exact zIret rfl (by decide +kernel) F
    · skip
      by_cases q6 : p1 = 2
      · replace F := F.2.2.1 q6
        have zt := zEqT q6 (show (2 : Int32).toInt = 2 by decide)
        refine zTableIn 75 0 3 #[31, 45, 55, 66] 31 55 56 (by decide +kernel) (by omega) (by omega) (by rw [zt]; decide) rfl ?_
        refine zAload_n 0 0 57 (by decide +kernel) rfl rfl ?_
        refine gf12_20 43 60 (by decide +kernel) rfl flX12_43 (Mod_0 S0_) (Mod_13 S0_) ?_
        refine zIconst 2 2 61 (by decide +kernel) rfl (by decide) ?_
        refine zIload_n 2 2 62 (by decide +kernel) rfl rfl ?_
        refine zImul 63 (by decide +kernel) rfl ?_
        refine zIconst 1 1 64 (by decide +kernel) rfl (by decide) ?_
        refine zIadd 65 (by decide +kernel) rfl ?_
        obtain ⟨w7, F⟩ := F
        refine yIaload 12 66 (by decide +kernel) rfl (Mod_14 S0_) (w7) ?_
        exact zIret rfl (by decide +kernel) F
      · skip
        by_cases q8 : p1 = 3
        · replace F := F.2.2.2.1 q8
          have zt := zEqT q8 (show (3 : Int32).toInt = 3 by decide)
          refine zTableIn 75 0 3 #[31, 45, 55, 66] 31 66 67 (by decide +kernel) (by omega) (by omega) (by rw [zt]; decide) rfl ?_
          refine zAload_n 0 0 68 (by decide +kernel) rfl rfl ?_
          refine gf12_20 43 71 (by decide +kernel) rfl flX12_43 (Mod_0 S0_) (Mod_13 S0_) ?_
          refine zIconst 2 2 72 (by decide +kernel) rfl (by decide) ?_
          refine zIload_n 2 2 73 (by decide +kernel) rfl rfl ?_
          refine zImul 74 (by decide +kernel) rfl ?_
          obtain ⟨w9, F⟩ := F
          refine yIaload 12 75 (by decide +kernel) rfl (Mod_14 S0_) (w9) ?_
          exact zIret rfl (by decide +kernel) F
        · skip
          replace F := F.2.2.2.2 q1 q3 q6 q8
          have zq1 := zNeT q1 (show (0 : Int32).toInt = 0 by decide)
          have zq3 := zNeT q3 (show (1 : Int32).toInt = 1 by decide)
          have zq6 := zNeT q6 (show (2 : Int32).toInt = 2 by decide)
          have zq8 := zNeT q8 (show (3 : Int32).toInt = 3 by decide)
          refine zTableOut 75 0 3 #[31, 45, 55, 66] 31 76 (by decide +kernel) (by omega) rfl ?_
          refine zAload_n 0 0 77 (by decide +kernel) rfl rfl ?_
          refine zIload_n 2 2 78 (by decide +kernel) rfl rfl ?_
          refine zIload_n 1 1 79 (by decide +kernel) rfl rfl ?_
          refine zIconst 4 4 80 (by decide +kernel) rfl (by decide) ?_
          refine zIsub 81 (by decide +kernel) rfl ?_
          refine zCallV 12 zcls12 mX12_openOf 431 2 0 0 _ _ 84 [.int (p2), .int (p1 - 4)] [] okX12_openOf mlX12_431 imX12_openOf seX12_openOf (by decide +kernel) rfl rfl (Nat.le_of_ble_eq_true rfl) rfl rfl (Mod_0 S0_) (zC.mono F ?_)
          rintro _ _ ⟨x10, I11, rfl, rfl, F⟩
          change zV G (d + 1) mX12_valueOf kc ks 84 [(0, .ref (m)), (1, .int (p1)), (2, .int (p2))] [.int (x10)] (I11, J, R, K, n) Q
          refine zCallS mJ6_bitCount_0f7a4 351 1 0 0 _ _ 87 [.int (x10)] [] okJ6_bitCount_0f7a4 mlX12_351 smJ6_bitCount_0f7a4 (by decide +kernel) rfl rfl (Nat.le_of_ble_eq_true rfl) rfl rfl (zC.mono F ?_)
          rintro _ _ ⟨x12, rfl, rfl, F⟩
          change zV G (d + 1) mX12_valueOf kc ks 87 [(0, .ref (m)), (1, .int (p1)), (2, .int (p2))] [.int (x12)] (I11, J, R, K, n) Q
          exact zIret rfl (by decide +kernel) F
set_option maxHeartbeats 2000000 in
theorem wX12_greatest_0 {G : zG} {d kc ks : Nat} {I : Nat → Nat → Int32} {J : Nat → Nat → Int64} {R : Nat → Nat → Option Nat} {K : Nat → Nat × Nat} {n : Nat} {Q : Option Value → zH → Prop} (m t c : Nat) (S0_ : hMod G R K n m t c) (p1 : Int32) (F : zV G (d + 1) mX12_greatest kc ks 4 [(0, .ref (m)), (1, .int (p1)), (2, .int (0)), (3, .int (1))] [] (I, J, R, K, n) Q) : zV G (d + 1) mX12_greatest kc ks 0 [(0, .ref (m)), (1, .int (p1))] [] (I, J, R, K, n) Q := by
  refine zIconst 0 0 1 (by decide +kernel) rfl (by decide) ?_
  refine zIstore_n 2 [(2, .int (0)), (0, .ref (m)), (1, .int (p1))] 2 (by decide +kernel) rfl (by decide) rfl ?_
  refine zIconst 1 1 3 (by decide +kernel) rfl (by decide) ?_
  refine zIstore_n 3 [(3, .int (1)), (2, .int (0)), (0, .ref (m)), (1, .int (p1))] 4 (by decide +kernel) rfl (by decide) rfl ?_
  exact zLoc [2, 3, 1, 0] _ rfl F
set_option maxHeartbeats 2000000 in
theorem wX12_greatest_4 {G : zG} {d kc ks : Nat} {I : Nat → Nat → Int32} {J : Nat → Nat → Int64} {R : Nat → Nat → Option Nat} {K : Nat → Nat × Nat} {n : Nat} {Q : Option Value → zH → Prop} (m t c : Nat) (S0_ : hMod G R K n m t c) (l1 l2 l3 : Int32) (F : (((I m 26 : Int32) ≤ l3 → Q (some (.int (l2))) (I, J, R, K, n)) ∧ (¬ ((I m 26 : Int32) ≤ l3) → zC G d mX12_valueOf 0 0 [.ref (m), .int (l1), .int (l3)] (I, J, R, K, n) (fun r h => ∃ (x2 : Int32) (I3 : Nat → Nat → Int32), r = some (.int x2) ∧ h = (I3, J, R, K, n) ∧ zC G d mX12_valueOf 0 0 [.ref (m), .int (l1), .int (l2)] (I3, J, R, K, n) (fun r h => ∃ (x4 : Int32) (I5 : Nat → Nat → Int32), r = some (.int x4) ∧ h = (I5, J, R, K, n) ∧ zV G (d + 1) mX12_greatest kc ks 4 [(0, .ref (m)), (1, .int (l1)), (2, .int ((if x2 ≤ x4 then l2 else l3))), (3, .int (l3 + 1))] [] (I5, J, R, K, n) Q))))) : zV G (d + 1) mX12_greatest kc ks 4 [(0, .ref (m)), (1, .int (l1)), (2, .int (l2)), (3, .int (l3))] [] (I, J, R, K, n) Q := by
  refine zIload_n 3 3 5 (by decide +kernel) rfl rfl ?_
  refine zAload_n 0 0 6 (by decide +kernel) rfl rfl ?_
  refine gf12_26 291 9 (by decide +kernel) rfl flX12_291 (Mod_0 S0_) ?_
  refine zIcmp_ge 30 39 12 (by decide +kernel) rfl rfl ⟨fun q1 => ?_, fun q1 => ?_⟩
  · replace F := F.1 q1
    refine zIload_n 2 2 40 (by decide +kernel) rfl rfl ?_
    exact zIret rfl (by decide +kernel) F
  · replace F := F.2 q1
    refine zAload_n 0 0 13 (by decide +kernel) rfl rfl ?_
    refine zIload_n 1 1 14 (by decide +kernel) rfl rfl ?_
    refine zIload_n 3 3 15 (by decide +kernel) rfl rfl ?_
    refine zCallV 12 zcls12 mX12_valueOf 486 2 0 0 _ _ 18 [.int (l1), .int (l3)] [] okX12_valueOf mlX12_486 imX12_valueOf seX12_valueOf (by decide +kernel) rfl rfl (Nat.le_of_ble_eq_true rfl) rfl rfl (Mod_0 S0_) (zC.mono F ?_)
    rintro _ _ ⟨x2, I3, rfl, rfl, F⟩
    change zV G (d + 1) mX12_greatest kc ks 18 [(0, .ref (m)), (1, .int (l1)), (2, .int (l2)), (3, .int (l3))] [.int (x2)] (I3, J, R, K, n) Q
    refine zAload_n 0 0 19 (by decide +kernel) rfl rfl ?_
    refine zIload_n 1 1 20 (by decide +kernel) rfl rfl ?_
    refine zIload_n 2 2 21 (by decide +kernel) rfl rfl ?_
    refine zCallV 12 zcls12 mX12_valueOf 486 2 0 0 _ _ 24 [.int (l1), .int (l2)] [.int (x2)] okX12_valueOf mlX12_486 imX12_valueOf seX12_valueOf (by decide +kernel) rfl rfl (Nat.le_of_ble_eq_true rfl) rfl rfl (Mod_0 S0_) (zC.mono F ?_)
    rintro _ _ ⟨x4, I5, rfl, rfl, F⟩
    change zV G (d + 1) mX12_greatest kc ks 24 [(0, .ref (m)), (1, .int (l1)), (2, .int (l2)), (3, .int (l3))] [.int (x4), .int (x2)] (I5, J, R, K, n) Q
    suffices KK : zV G (d + 1) mX12_greatest kc ks 32 [(0, .ref (m)), (1, .int (l1)), (2, .int (l2)), (3, .int (l3))] [.int ((if x2 ≤ x4 then l2 else l3))] (I5, J, R, K, n) Q by
      refine zIcmp_le 7 31 27 (by decide +kernel) rfl rfl ⟨fun q6 => ?_, fun q6 => ?_⟩
      · refine zIload_n 2 2 32 (by decide +kernel) rfl rfl ?_
        exact zTop (by rw [if_pos q6]) KK
      · refine zIload_n 3 3 28 (by decide +kernel) rfl rfl ?_
        refine zGoto 4 32 (by decide +kernel) rfl ?_
        exact zTop (by rw [if_neg q6]) KK
    refine zIstore_n 2 [(2, .int ((if x2 ≤ x4 then l2 else l3))), (0, .ref (m)), (1, .int (l1)), (3, .int (l3))] 33 (by decide +kernel) rfl (by decide) rfl ?_
    refine zIinc 3 1 3 (l3 + 1) [(3, .int (l3 + 1)), (2, .int ((if x2 ≤ x4 then l2 else l3))), (0, .ref (m)), (1, .int (l1))] 36 (by decide +kernel) rfl rfl (by rfl) (by decide) rfl ?_
    refine zGoto (-32) 4 (by decide +kernel) rfl ?_
    exact zLoc [2, 3, 1, 0] _ rfl F
set_option maxHeartbeats 2000000 in
theorem wX12_heaviest_0 {G : zG} {d kc ks : Nat} {I : Nat → Nat → Int32} {J : Nat → Nat → Int64} {R : Nat → Nat → Option Nat} {K : Nat → Nat × Nat} {n : Nat} {Q : Option Value → zH → Prop} (m t c : Nat) (S0_ : hMod G R K n m t c) (F : zV G (d + 1) mX12_heaviest kc ks 4 [(0, .ref (m)), (1, .int ((-1))), (2, .int (0))] [] (I, J, R, K, n) Q) : zV G (d + 1) mX12_heaviest kc ks 0 [(0, .ref (m))] [] (I, J, R, K, n) Q := by
  refine zIconst (-1) (-1) 1 (by decide +kernel) rfl (by decide) ?_
  refine zIstore_n 1 [(1, .int ((-1))), (0, .ref (m))] 2 (by decide +kernel) rfl (by decide) rfl ?_
  refine zIconst 0 0 3 (by decide +kernel) rfl (by decide) ?_
  refine zIstore_n 2 [(2, .int (0)), (1, .int ((-1))), (0, .ref (m))] 4 (by decide +kernel) rfl (by decide) rfl ?_
  exact zLoc [2, 1, 0] _ rfl F
set_option maxHeartbeats 2000000 in
theorem wX12_heaviest_4 {G : zG} {d kc ks : Nat} {I : Nat → Nat → Int32} {J : Nat → Nat → Int64} {R : Nat → Nat → Option Nat} {K : Nat → Nat × Nat} {n : Nat} {Q : Option Value → zH → Prop} (m t c : Nat) (S0_ : hMod G R K n m t c) (l1 l2 : Int32) (F : ((9 ≤ l2 → Q (some (.int (l1))) (I, J, R, K, n)) ∧ (¬ (9 ≤ l2) → zC G d mX12_isOpen 0 0 [.ref (m + 13), .int (l2)] (I, J, R, K, n) (fun r h => ∃ (x2 : Int32) (I3 : Nat → Nat → Int32), r = some (.int x2) ∧ h = (I3, J, R, K, n) ∧ ((x2 = 0 → zV G (d + 1) mX12_heaviest kc ks 4 [(0, .ref (m)), (1, .int (l1)), (2, .int (l2 + 1))] [] (I3, J, R, K, n) Q) ∧ (¬ (x2 = 0) → ((l1 = (-1) → zV G (d + 1) mX12_heaviest kc ks 4 [(0, .ref (m)), (1, .int (l2)), (2, .int (l2 + 1))] [] (I3, J, R, K, n) Q) ∧ (¬ (l1 = (-1)) → ((vp_in ((3 * l2) + 2) 231) ∧ ((vp_in ((3 * l1) + 2) 231) ∧ (((I3 (m + 13) ((3 * l2) + 2 : Int32).toNatClampNeg : Int32) ≤ (I3 (m + 13) ((3 * l1) + 2 : Int32).toNatClampNeg : Int32) → zV G (d + 1) mX12_heaviest kc ks 4 [(0, .ref (m)), (1, .int (l1)), (2, .int (l2 + 1))] [] (I3, J, R, K, n) Q) ∧ (¬ ((I3 (m + 13) ((3 * l2) + 2 : Int32).toNatClampNeg : Int32) ≤ (I3 (m + 13) ((3 * l1) + 2 : Int32).toNatClampNeg : Int32)) → zV G (d + 1) mX12_heaviest kc ks 4 [(0, .ref (m)), (1, .int (l2)), (2, .int (l2 + 1))] [] (I3, J, R, K, n) Q)))))))))))) : zV G (d + 1) mX12_heaviest kc ks 4 [(0, .ref (m)), (1, .int (l1)), (2, .int (l2))] [] (I, J, R, K, n) Q := by
  refine zIload_n 2 2 5 (by decide +kernel) rfl rfl ?_
  refine zBipush 9 9 7 (by decide +kernel) rfl (by decide) ?_
  refine zIcmp_ge 50 57 10 (by decide +kernel) rfl rfl ⟨fun q1 => ?_, fun q1 => ?_⟩
  · replace F := F.1 q1
    refine zIload_n 1 1 58 (by decide +kernel) rfl rfl ?_
    exact zIret rfl (by decide +kernel) F
  · replace F := F.2 q1
    refine zAload_n 0 0 11 (by decide +kernel) rfl rfl ?_
    refine gf12_32 61 14 (by decide +kernel) rfl flX12_61 (Mod_0 S0_) (Mod_25 S0_) ?_
    refine zIload_n 2 2 15 (by decide +kernel) rfl rfl ?_
    refine zCallS mX12_isOpen 358 2 0 0 _ _ 18 [.ref (m + 13), .int (l2)] [] okX12_isOpen mlX12_358 smX12_isOpen (by decide +kernel) rfl rfl (Nat.le_of_ble_eq_true rfl) rfl rfl (zC.mono F ?_)
    rintro _ _ ⟨x2, I3, rfl, rfl, F⟩
    change zV G (d + 1) mX12_heaviest kc ks 18 [(0, .ref (m)), (1, .int (l1)), (2, .int (l2))] [.int (x2)] (I3, J, R, K, n) Q
    refine zIf_eq 33 51 21 (by decide +kernel) rfl rfl ⟨fun q4 => ?_, fun q4 => ?_⟩
    · replace F := F.1 q4
      refine zIinc 2 1 2 (l2 + 1) [(2, .int (l2 + 1)), (0, .ref (m)), (1, .int (l1))] 54 (by decide +kernel) rfl rfl (by rfl) (by decide) rfl ?_
      refine zGoto (-50) 4 (by decide +kernel) rfl ?_
      exact zLoc [1, 2, 0] _ rfl F
    · replace F := F.2 q4
      refine zIload_n 1 1 22 (by decide +kernel) rfl rfl ?_
      refine zIconst (-1) (-1) 23 (by decide +kernel) rfl (by decide) ?_
      refine zIcmp_eq 26 49 26 (by decide +kernel) rfl rfl ⟨fun q5 => ?_, fun q5 => ?_⟩
      · replace F := F.1 q5
        refine zIload_n 2 2 50 (by decide +kernel) rfl rfl ?_
        refine zIstore_n 1 [(1, .int (l2)), (0, .ref (m)), (2, .int (l2))] 51 (by decide +kernel) rfl (by decide) rfl ?_
        refine zIinc 2 1 2 (l2 + 1) [(2, .int (l2 + 1)), (1, .int (l2)), (0, .ref (m))] 54 (by decide +kernel) rfl rfl (by rfl) (by decide) rfl ?_
        refine zGoto (-50) 4 (by decide +kernel) rfl ?_
        exact zLoc [2, 1, 0] _ rfl F
      · replace F := F.2 q5
        refine zAload_n 0 0 27 (by decide +kernel) rfl rfl ?_
        refine gf12_32 61 30 (by decide +kernel) rfl flX12_61 (Mod_0 S0_) (Mod_25 S0_) ?_
        refine zIconst 3 3 31 (by decide +kernel) rfl (by decide) ?_
        refine zIload_n 2 2 32 (by decide +kernel) rfl rfl ?_
        refine zImul 33 (by decide +kernel) rfl ?_
        refine zIconst 2 2 34 (by decide +kernel) rfl (by decide) ?_
        refine zIadd 35 (by decide +kernel) rfl ?_
        obtain ⟨w6, F⟩ := F
        refine yIaload 231 36 (by decide +kernel) rfl (Mod_26 S0_) (w6) ?_
        refine zAload_n 0 0 37 (by decide +kernel) rfl rfl ?_
        refine gf12_32 61 40 (by decide +kernel) rfl flX12_61 (Mod_0 S0_) (Mod_25 S0_) ?_
        refine zIconst 3 3 41 (by decide +kernel) rfl (by decide) ?_
        refine zIload_n 1 1 42 (by decide +kernel) rfl rfl ?_
        refine zImul 43 (by decide +kernel) rfl ?_
        refine zIconst 2 2 44 (by decide +kernel) rfl (by decide) ?_
        refine zIadd 45 (by decide +kernel) rfl ?_
        obtain ⟨w7, F⟩ := F
        refine yIaload 231 46 (by decide +kernel) rfl (Mod_26 S0_) (w7) ?_
        refine zIcmp_le 5 51 49 (by decide +kernel) rfl rfl ⟨fun q8 => ?_, fun q8 => ?_⟩
        · replace F := F.1 q8
          refine zIinc 2 1 2 (l2 + 1) [(2, .int (l2 + 1)), (0, .ref (m)), (1, .int (l1))] 54 (by decide +kernel) rfl rfl (by rfl) (by decide) rfl ?_
          refine zGoto (-50) 4 (by decide +kernel) rfl ?_
          exact zLoc [1, 2, 0] _ rfl F
        · replace F := F.2 q8
          refine zIload_n 2 2 50 (by decide +kernel) rfl rfl ?_
          refine zIstore_n 1 [(1, .int (l2)), (0, .ref (m)), (2, .int (l2))] 51 (by decide +kernel) rfl (by decide) rfl ?_
          refine zIinc 2 1 2 (l2 + 1) [(2, .int (l2 + 1)), (1, .int (l2)), (0, .ref (m))] 54 (by decide +kernel) rfl rfl (by rfl) (by decide) rfl ?_
          refine zGoto (-50) 4 (by decide +kernel) rfl ?_
          exact zLoc [2, 1, 0] _ rfl F
set_option maxHeartbeats 2000000 in
theorem wX12_needed_0 {G : zG} {d kc ks : Nat} {I : Nat → Nat → Int32} {J : Nat → Nat → Int64} {R : Nat → Nat → Option Nat} {K : Nat → Nat × Nat} {n : Nat} {Q : Option Value → zH → Prop} (m t c : Nat) (S0_ : hMod G R K n m t c) (F : zV G (d + 1) mX12_needed kc ks 4 [(0, .ref (m)), (1, .int (0)), (2, .int (0))] [] (I, J, R, K, n) Q) : zV G (d + 1) mX12_needed kc ks 0 [(0, .ref (m))] [] (I, J, R, K, n) Q := by
  refine zIconst 0 0 1 (by decide +kernel) rfl (by decide) ?_
  refine zIstore_n 1 [(1, .int (0)), (0, .ref (m))] 2 (by decide +kernel) rfl (by decide) rfl ?_
  refine zIconst 0 0 3 (by decide +kernel) rfl (by decide) ?_
  refine zIstore_n 2 [(2, .int (0)), (1, .int (0)), (0, .ref (m))] 4 (by decide +kernel) rfl (by decide) rfl ?_
  exact zLoc [2, 1, 0] _ rfl F
set_option maxHeartbeats 2000000 in
theorem wX12_needed_4 {G : zG} {d kc ks : Nat} {I : Nat → Nat → Int32} {J : Nat → Nat → Int64} {R : Nat → Nat → Option Nat} {K : Nat → Nat × Nat} {n : Nat} {Q : Option Value → zH → Prop} (m t c : Nat) (S0_ : hMod G R K n m t c) (l1 l2 : Int32) (F : (((I m 26 : Int32) ≤ l2 → ((vp_in 47 231) ∧ Q (some (.int ((if (0 : Int32) < (l1 - (I (m + 13) (47 : Int32).toNatClampNeg)) then l1 - (I (m + 13) (47 : Int32).toNatClampNeg) else 0)))) (I, J, R, K, n))) ∧ (¬ ((I m 26 : Int32) ≤ l2) → zC G d mX12_bare 0 0 [.ref (m), .ref (m + 13), .int (l2)] (I, J, R, K, n) (fun r h => ∃ (x3 : Int32) (I4 : Nat → Nat → Int32), r = some (.int x3) ∧ h = (I4, J, R, K, n) ∧ zV G (d + 1) mX12_needed kc ks 4 [(0, .ref (m)), (1, .int (l1 + x3)), (2, .int (l2 + 1))] [] (I4, J, R, K, n) Q)))) : zV G (d + 1) mX12_needed kc ks 4 [(0, .ref (m)), (1, .int (l1)), (2, .int (l2))] [] (I, J, R, K, n) Q := by
  refine zIload_n 2 2 5 (by decide +kernel) rfl rfl ?_
  refine zAload_n 0 0 6 (by decide +kernel) rfl rfl ?_
  refine gf12_26 291 9 (by decide +kernel) rfl flX12_291 (Mod_0 S0_) ?_
  refine zIcmp_ge 21 30 12 (by decide +kernel) rfl rfl ⟨fun q1 => ?_, fun q1 => ?_⟩
  · replace F := F.1 q1
    refine zIconst 0 0 31 (by decide +kernel) rfl (by decide) ?_
    refine zIload_n 1 1 32 (by decide +kernel) rfl rfl ?_
    refine zAload_n 0 0 33 (by decide +kernel) rfl rfl ?_
    refine gf12_32 61 36 (by decide +kernel) rfl flX12_61 (Mod_0 S0_) (Mod_25 S0_) ?_
    refine zBipush 47 47 38 (by decide +kernel) rfl (by decide) ?_
    obtain ⟨w2, F⟩ := F
    refine yIaload 231 39 (by decide +kernel) rfl (Mod_26 S0_) (w2) ?_
    refine zIsub 40 (by decide +kernel) rfl ?_
    refine yMax 331 43 (by decide +kernel) rfl mlX12_331 (Nat.le_of_ble_eq_true rfl) ?_
    exact zIret rfl (by decide +kernel) F
  · replace F := F.2 q1
    refine zIload_n 1 1 13 (by decide +kernel) rfl rfl ?_
    refine zAload_n 0 0 14 (by decide +kernel) rfl rfl ?_
    refine zAload_n 0 0 15 (by decide +kernel) rfl rfl ?_
    refine gf12_32 61 18 (by decide +kernel) rfl flX12_61 (Mod_0 S0_) (Mod_25 S0_) ?_
    refine zIload_n 2 2 19 (by decide +kernel) rfl rfl ?_
    refine zCallV 12 zcls12 mX12_bare 333 2 0 0 _ _ 22 [.ref (m + 13), .int (l2)] [.int (l1)] okX12_bare mlX12_333 imX12_bare seX12_bare (by decide +kernel) rfl rfl (Nat.le_of_ble_eq_true rfl) rfl rfl (Mod_0 S0_) (zC.mono F ?_)
    rintro _ _ ⟨x3, I4, rfl, rfl, F⟩
    change zV G (d + 1) mX12_needed kc ks 22 [(0, .ref (m)), (1, .int (l1)), (2, .int (l2))] [.int (x3), .int (l1)] (I4, J, R, K, n) Q
    refine zIadd 23 (by decide +kernel) rfl ?_
    refine zIstore_n 1 [(1, .int (l1 + x3)), (0, .ref (m)), (2, .int (l2))] 24 (by decide +kernel) rfl (by decide) rfl ?_
    refine zIinc 2 1 2 (l2 + 1) [(2, .int (l2 + 1)), (1, .int (l1 + x3)), (0, .ref (m))] 27 (by decide +kernel) rfl rfl (by rfl) (by decide) rfl ?_
    refine zGoto (-23) 4 (by decide +kernel) rfl ?_
    exact zLoc [2, 1, 0] _ rfl F
set_option maxHeartbeats 2000000 in
theorem wX12_falses_0 {G : zG} {d kc ks : Nat} {I : Nat → Nat → Int32} {J : Nat → Nat → Int64} {R : Nat → Nat → Option Nat} {K : Nat → Nat × Nat} {n : Nat} {Q : Option Value → zH → Prop} (m t c : Nat) (S0_ : hMod G R K n m t c) (F : zV G (d + 1) mX12_falses kc ks 4 [(0, .ref (m)), (1, .int (0)), (2, .int (0))] [] (I, J, R, K, n) Q) : zV G (d + 1) mX12_falses kc ks 0 [(0, .ref (m))] [] (I, J, R, K, n) Q := by
  refine zIconst 0 0 1 (by decide +kernel) rfl (by decide) ?_
  refine zIstore_n 1 [(1, .int (0)), (0, .ref (m))] 2 (by decide +kernel) rfl (by decide) rfl ?_
  refine zIconst 0 0 3 (by decide +kernel) rfl (by decide) ?_
  refine zIstore_n 2 [(2, .int (0)), (1, .int (0)), (0, .ref (m))] 4 (by decide +kernel) rfl (by decide) rfl ?_
  exact zLoc [2, 1, 0] _ rfl F
set_option maxHeartbeats 2000000 in
theorem wX12_falses_4 {G : zG} {d kc ks : Nat} {I : Nat → Nat → Int32} {J : Nat → Nat → Int64} {R : Nat → Nat → Option Nat} {K : Nat → Nat × Nat} {n : Nat} {Q : Option Value → zH → Prop} (m t c : Nat) (S0_ : hMod G R K n m t c) (l1 l2 : Int32) (F : (((I m 26 : Int32) ≤ l2 → Q (some (.int (l1))) (I, J, R, K, n)) ∧ (¬ ((I m 26 : Int32) ≤ l2) → ((vp_in ((27 + (3 * l2)) + 1) 231) ∧ zV G (d + 1) mX12_falses kc ks 4 [(0, .ref (m)), (1, .int (l1 ||| (if (I (m + 13) ((27 + (3 * l2)) + 1 : Int32).toNatClampNeg : Int32) ≤ 0 then 0 else (1 : Int32) <<< (l2 &&& 31)))), (2, .int (l2 + 1))] [] (I, J, R, K, n) Q)))) : zV G (d + 1) mX12_falses kc ks 4 [(0, .ref (m)), (1, .int (l1)), (2, .int (l2))] [] (I, J, R, K, n) Q := by
  refine zIload_n 2 2 5 (by decide +kernel) rfl rfl ?_
  refine zAload_n 0 0 6 (by decide +kernel) rfl rfl ?_
  refine gf12_26 291 9 (by decide +kernel) rfl flX12_291 (Mod_0 S0_) ?_
  refine zIcmp_ge 35 44 12 (by decide +kernel) rfl rfl ⟨fun q1 => ?_, fun q1 => ?_⟩
  · replace F := F.1 q1
    refine zIload_n 1 1 45 (by decide +kernel) rfl rfl ?_
    exact zIret rfl (by decide +kernel) F
  · replace F := F.2 q1
    refine zIload_n 1 1 13 (by decide +kernel) rfl rfl ?_
    refine zAload_n 0 0 14 (by decide +kernel) rfl rfl ?_
    refine gf12_32 61 17 (by decide +kernel) rfl flX12_61 (Mod_0 S0_) (Mod_25 S0_) ?_
    refine zBipush 27 27 19 (by decide +kernel) rfl (by decide) ?_
    refine zIconst 3 3 20 (by decide +kernel) rfl (by decide) ?_
    refine zIload_n 2 2 21 (by decide +kernel) rfl rfl ?_
    refine zImul 22 (by decide +kernel) rfl ?_
    refine zIadd 23 (by decide +kernel) rfl ?_
    refine zIconst 1 1 24 (by decide +kernel) rfl (by decide) ?_
    refine zIadd 25 (by decide +kernel) rfl ?_
    obtain ⟨w2, F⟩ := F
    refine yIaload 231 26 (by decide +kernel) rfl (Mod_26 S0_) (w2) ?_
    suffices KK : zV G (d + 1) mX12_falses kc ks 36 [(0, .ref (m)), (1, .int (l1)), (2, .int (l2))] [.int ((if (I (m + 13) ((27 + (3 * l2)) + 1 : Int32).toNatClampNeg : Int32) ≤ 0 then 0 else (1 : Int32) <<< (l2 &&& 31))), .int (l1)] (I, J, R, K, n) Q by
      refine zIf_le 9 35 29 (by decide +kernel) rfl rfl ⟨fun q3 => ?_, fun q3 => ?_⟩
      · refine zIconst 0 0 36 (by decide +kernel) rfl (by decide) ?_
        exact zTop (by rw [if_pos q3]) KK
      · refine zIconst 1 1 30 (by decide +kernel) rfl (by decide) ?_
        refine zIload_n 2 2 31 (by decide +kernel) rfl rfl ?_
        refine zIshl 32 (by decide +kernel) rfl ?_
        refine zGoto 4 36 (by decide +kernel) rfl ?_
        exact zTop (by rw [if_neg q3]) KK
    refine zIor 37 (by decide +kernel) rfl ?_
    refine zIstore_n 1 [(1, .int (l1 ||| (if (I (m + 13) ((27 + (3 * l2)) + 1 : Int32).toNatClampNeg : Int32) ≤ 0 then 0 else (1 : Int32) <<< (l2 &&& 31)))), (0, .ref (m)), (2, .int (l2))] 38 (by decide +kernel) rfl (by decide) rfl ?_
    refine zIinc 2 1 2 (l2 + 1) [(2, .int (l2 + 1)), (1, .int (l1 ||| (if (I (m + 13) ((27 + (3 * l2)) + 1 : Int32).toNatClampNeg : Int32) ≤ 0 then 0 else (1 : Int32) <<< (l2 &&& 31)))), (0, .ref (m))] 41 (by decide +kernel) rfl rfl (by rfl) (by decide) rfl ?_
    refine zGoto (-37) 4 (by decide +kernel) rfl ?_
    exact zLoc [2, 1, 0] _ rfl F
set_option maxHeartbeats 2000000 in
theorem wX12_all_0 {G : zG} {d kc ks : Nat} {I : Nat → Nat → Int32} {J : Nat → Nat → Int64} {R : Nat → Nat → Option Nat} {K : Nat → Nat × Nat} {n : Nat} {Q : Option Value → zH → Prop} (m t c : Nat) (S0_ : hMod G R K n m t c) (p1 : Int32) (F : (∀ I1 : Nat → Nat → Int32, I1 = zU I m 0 (0) → (((I1 m 26 : Int32) = 0 → Q (some (.int ((-1)))) (I1, J, R, K, n)) ∧ (¬ ((I1 m 26 : Int32) = 0) → ((p1 = 0 → zC G d mX12_greatest 0 0 [.ref (m), .int (p1)] (I1, J, R, K, n) (fun r h => ∃ (x4 : Int32) (I5 : Nat → Nat → Int32), r = some (.int x4) ∧ h = (I5, J, R, K, n) ∧ Q (some (.int (x4))) (I5, J, R, K, n))) ∧ (p1 = 1 → zC G d mX12_greatest 0 0 [.ref (m), .int (p1)] (I1, J, R, K, n) (fun r h => ∃ (x7 : Int32) (I8 : Nat → Nat → Int32), r = some (.int x7) ∧ h = (I8, J, R, K, n) ∧ Q (some (.int (x7))) (I8, J, R, K, n))) ∧ (p1 = 2 → zC G d mX12_greatest 0 0 [.ref (m), .int (p1)] (I1, J, R, K, n) (fun r h => ∃ (x10 : Int32) (I11 : Nat → Nat → Int32), r = some (.int x10) ∧ h = (I11, J, R, K, n) ∧ Q (some (.int (x10))) (I11, J, R, K, n))) ∧ (p1 = 3 → zC G d mX12_greatest 0 0 [.ref (m), .int (p1)] (I1, J, R, K, n) (fun r h => ∃ (x13 : Int32) (I14 : Nat → Nat → Int32), r = some (.int x13) ∧ h = (I14, J, R, K, n) ∧ Q (some (.int (x13))) (I14, J, R, K, n))) ∧ (p1 = 4 → zC G d mX12_greatest 0 0 [.ref (m), .int (p1)] (I1, J, R, K, n) (fun r h => ∃ (x16 : Int32) (I17 : Nat → Nat → Int32), r = some (.int x16) ∧ h = (I17, J, R, K, n) ∧ Q (some (.int (x16))) (I17, J, R, K, n))) ∧ (p1 = 5 → zC G d mX12_greatest 0 0 [.ref (m), .int (p1)] (I1, J, R, K, n) (fun r h => ∃ (x19 : Int32) (I20 : Nat → Nat → Int32), r = some (.int x19) ∧ h = (I20, J, R, K, n) ∧ Q (some (.int (x19))) (I20, J, R, K, n))) ∧ (p1 = 6 → zC G d mX12_heaviest 0 0 [.ref (m)] (I1, J, R, K, n) (fun r h => ∃ (x22 : Int32) (I23 : Nat → Nat → Int32), r = some (.int x22) ∧ h = (I23, J, R, K, n) ∧ Q (some (.int (x22))) (I23, J, R, K, n))) ∧ (p1 = 7 → zC G d mX12_whites 0 0 [.ref (m), .ref (m + 13)] (I1, J, R, K, n) (fun r h => ∃ (x25 : Int32) (I26 : Nat → Nat → Int32), r = some (.int x25) ∧ h = (I26, J, R, K, n) ∧ Q (some (.int (x25))) (I26, J, R, K, n))) ∧ (p1 = 8 → zC G d mX12_falses 0 0 [.ref (m)] (I1, J, R, K, n) (fun r h => ∃ (x28 : Int32) (I29 : Nat → Nat → Int32), r = some (.int x28) ∧ h = (I29, J, R, K, n) ∧ Q (some (.int (x28))) (I29, J, R, K, n))) ∧ (p1 = 9 → zC G d mX12_openOf 0 0 [.ref (m), .int ((-1)), .int (0)] (I1, J, R, K, n) (fun r h => ∃ (x31 : Int32) (I32 : Nat → Nat → Int32), r = some (.int x31) ∧ h = (I32, J, R, K, n) ∧ Q (some (.int (x31))) (I32, J, R, K, n))) ∧ (p1 = 10 → zC G d mX12_needed 0 0 [.ref (m)] (I1, J, R, K, n) (fun r h => ∃ (x34 : Int32) (I35 : Nat → Nat → Int32), r = some (.int x34) ∧ h = (I35, J, R, K, n) ∧ Q (some (.int (x34))) (I35, J, R, K, n))) ∧ (p1 = 11 → zC G d mX12_sumOf 0 0 [.ref (m), .int (0)] (I1, J, R, K, n) (fun r h => ∃ (x37 : Int32) (I38 : Nat → Nat → Int32), r = some (.int x37) ∧ h = (I38, J, R, K, n) ∧ Q (some (.int (x37))) (I38, J, R, K, n))) ∧ (p1 = 12 → zC G d mX12_sumOf 0 0 [.ref (m), .int (1)] (I1, J, R, K, n) (fun r h => ∃ (x40 : Int32) (I41 : Nat → Nat → Int32), r = some (.int x40) ∧ h = (I41, J, R, K, n) ∧ Q (some (.int (x40))) (I41, J, R, K, n))) ∧ (¬ p1 = 0 → ¬ p1 = 1 → ¬ p1 = 2 → ¬ p1 = 3 → ¬ p1 = 4 → ¬ p1 = 5 → ¬ p1 = 6 → ¬ p1 = 7 → ¬ p1 = 8 → ¬ p1 = 9 → ¬ p1 = 10 → ¬ p1 = 11 → ¬ p1 = 12 → Q (some (.int ((-1)))) (I1, J, R, K, n))))))) : zV G (d + 1) mX12_all kc ks 0 [(0, .ref (m)), (1, .int (p1))] [] (I, J, R, K, n) Q := by
  refine zAload_n 0 0 1 (by decide +kernel) rfl rfl ?_
  refine zIconst 0 0 2 (by decide +kernel) rfl (by decide) ?_
  refine pf12_0 93 5 (by decide +kernel) rfl flX12_93 (Mod_0 S0_) ?_
  replace F := F _ rfl
  generalize zU I m 0 (0) = I1 at F ⊢
  refine zAload_n 0 0 6 (by decide +kernel) rfl rfl ?_
  refine gf12_26 291 9 (by decide +kernel) rfl flX12_291 (Mod_0 S0_) ?_
  refine zIf_ne 5 14 12 (by decide +kernel) rfl rfl ⟨fun q2 => ?_, fun q2 => ?_⟩
  · replace F := F.2 q2
    refine zIload_n 1 1 15 (by decide +kernel) rfl rfl ?_
    by_cases q3 : p1 = 0
    · replace F := F.1 q3
      have zt := zEqT q3 (show (0 : Int32).toInt = 0 by decide)
      refine zTableIn 114 0 12 #[65, 65, 65, 65, 65, 65, 71, 76, 85, 90, 97, 102, 108] 65 65 80 (by decide +kernel) (by omega) (by omega) (by rw [zt]; decide) rfl ?_
      refine zAload_n 0 0 81 (by decide +kernel) rfl rfl ?_
      refine zIload_n 1 1 82 (by decide +kernel) rfl rfl ?_
      refine zCallV 12 zcls12 mX12_greatest 489 1 0 0 _ _ 85 [.int (p1)] [] okX12_greatest mlX12_489 imX12_greatest seX12_greatest (by decide +kernel) rfl rfl (Nat.le_of_ble_eq_true rfl) rfl rfl (Mod_0 S0_) (zC.mono F ?_)
      rintro _ _ ⟨x4, I5, rfl, rfl, F⟩
      change zV G (d + 1) mX12_all kc ks 85 [(0, .ref (m)), (1, .int (p1))] [.int (x4)] (I5, J, R, K, n) Q
      exact zIret rfl (by decide +kernel) F
    · skip
      by_cases q6 : p1 = 1
      · replace F := F.2.1 q6
        have zt := zEqT q6 (show (1 : Int32).toInt = 1 by decide)
        refine zTableIn 114 0 12 #[65, 65, 65, 65, 65, 65, 71, 76, 85, 90, 97, 102, 108] 65 65 80 (by decide +kernel) (by omega) (by omega) (by rw [zt]; decide) rfl ?_
        refine zAload_n 0 0 81 (by decide +kernel) rfl rfl ?_
        refine zIload_n 1 1 82 (by decide +kernel) rfl rfl ?_
        refine zCallV 12 zcls12 mX12_greatest 489 1 0 0 _ _ 85 [.int (p1)] [] okX12_greatest mlX12_489 imX12_greatest seX12_greatest (by decide +kernel) rfl rfl (Nat.le_of_ble_eq_true rfl) rfl rfl (Mod_0 S0_) (zC.mono F ?_)
        rintro _ _ ⟨x7, I8, rfl, rfl, F⟩
        change zV G (d + 1) mX12_all kc ks 85 [(0, .ref (m)), (1, .int (p1))] [.int (x7)] (I8, J, R, K, n) Q
        exact zIret rfl (by decide +kernel) F
      · skip
        by_cases q9 : p1 = 2
        · replace F := F.2.2.1 q9
          have zt := zEqT q9 (show (2 : Int32).toInt = 2 by decide)
          refine zTableIn 114 0 12 #[65, 65, 65, 65, 65, 65, 71, 76, 85, 90, 97, 102, 108] 65 65 80 (by decide +kernel) (by omega) (by omega) (by rw [zt]; decide) rfl ?_
          refine zAload_n 0 0 81 (by decide +kernel) rfl rfl ?_
          refine zIload_n 1 1 82 (by decide +kernel) rfl rfl ?_
          refine zCallV 12 zcls12 mX12_greatest 489 1 0 0 _ _ 85 [.int (p1)] [] okX12_greatest mlX12_489 imX12_greatest seX12_greatest (by decide +kernel) rfl rfl (Nat.le_of_ble_eq_true rfl) rfl rfl (Mod_0 S0_) (zC.mono F ?_)
          rintro _ _ ⟨x10, I11, rfl, rfl, F⟩
          change zV G (d + 1) mX12_all kc ks 85 [(0, .ref (m)), (1, .int (p1))] [.int (x10)] (I11, J, R, K, n) Q
          exact zIret rfl (by decide +kernel) F
        · skip
          by_cases q12 : p1 = 3
          · replace F := F.2.2.2.1 q12
            have zt := zEqT q12 (show (3 : Int32).toInt = 3 by decide)
            refine zTableIn 114 0 12 #[65, 65, 65, 65, 65, 65, 71, 76, 85, 90, 97, 102, 108] 65 65 80 (by decide +kernel) (by omega) (by omega) (by rw [zt]; decide) rfl ?_
            refine zAload_n 0 0 81 (by decide +kernel) rfl rfl ?_
            refine zIload_n 1 1 82 (by decide +kernel) rfl rfl ?_
            refine zCallV 12 zcls12 mX12_greatest 489 1 0 0 _ _ 85 [.int (p1)] [] okX12_greatest mlX12_489 imX12_greatest seX12_greatest (by decide +kernel) rfl rfl (Nat.le_of_ble_eq_true rfl) rfl rfl (Mod_0 S0_) (zC.mono F ?_)
            rintro _ _ ⟨x13, I14, rfl, rfl, F⟩
            change zV G (d + 1) mX12_all kc ks 85 [(0, .ref (m)), (1, .int (p1))] [.int (x13)] (I14, J, R, K, n) Q
            exact zIret rfl (by decide +kernel) F
          · skip
            by_cases q15 : p1 = 4
            · replace F := F.2.2.2.2.1 q15
              have zt := zEqT q15 (show (4 : Int32).toInt = 4 by decide)
              refine zTableIn 114 0 12 #[65, 65, 65, 65, 65, 65, 71, 76, 85, 90, 97, 102, 108] 65 65 80 (by decide +kernel) (by omega) (by omega) (by rw [zt]; decide) rfl ?_
              refine zAload_n 0 0 81 (by decide +kernel) rfl rfl ?_
              refine zIload_n 1 1 82 (by decide +kernel) rfl rfl ?_
              refine zCallV 12 zcls12 mX12_greatest 489 1 0 0 _ _ 85 [.int (p1)] [] okX12_greatest mlX12_489 imX12_greatest seX12_greatest (by decide +kernel) rfl rfl (Nat.le_of_ble_eq_true rfl) rfl rfl (Mod_0 S0_) (zC.mono F ?_)
              rintro _ _ ⟨x16, I17, rfl, rfl, F⟩
              change zV G (d + 1) mX12_all kc ks 85 [(0, .ref (m)), (1, .int (p1))] [.int (x16)] (I17, J, R, K, n) Q
              exact zIret rfl (by decide +kernel) F
            · skip
              by_cases q18 : p1 = 5
              · replace F := F.2.2.2.2.2.1 q18
                have zt := zEqT q18 (show (5 : Int32).toInt = 5 by decide)
                refine zTableIn 114 0 12 #[65, 65, 65, 65, 65, 65, 71, 76, 85, 90, 97, 102, 108] 65 65 80 (by decide +kernel) (by omega) (by omega) (by rw [zt]; decide) rfl ?_
                refine zAload_n 0 0 81 (by decide +kernel) rfl rfl ?_
                refine zIload_n 1 1 82 (by decide +kernel) rfl rfl ?_
                refine zCallV 12 zcls12 mX12_greatest 489 1 0 0 _ _ 85 [.int (p1)] [] okX12_greatest mlX12_489 imX12_greatest seX12_greatest (by decide +kernel) rfl rfl (Nat.le_of_ble_eq_true rfl) rfl rfl (Mod_0 S0_) (zC.mono F ?_)
                rintro _ _ ⟨x19, I20, rfl, rfl, F⟩
                change zV G (d + 1) mX12_all kc ks 85 [(0, .ref (m)), (1, .int (p1))] [.int (x19)] (I20, J, R, K, n) Q
                exact zIret rfl (by decide +kernel) F
              · skip
                by_cases q21 : p1 = 6
                · replace F := F.2.2.2.2.2.2.1 q21
                  have zt := zEqT q21 (show (6 : Int32).toInt = 6 by decide)
                  refine zTableIn 114 0 12 #[65, 65, 65, 65, 65, 65, 71, 76, 85, 90, 97, 102, 108] 65 71 86 (by decide +kernel) (by omega) (by omega) (by rw [zt]; decide) rfl ?_
                  refine zAload_n 0 0 87 (by decide +kernel) rfl rfl ?_
                  refine zCallV 12 zcls12 mX12_heaviest 492 0 0 0 _ _ 90 [] [] okX12_heaviest mlX12_492 imX12_heaviest seX12_heaviest (by decide +kernel) rfl rfl (Nat.le_of_ble_eq_true rfl) rfl rfl (Mod_0 S0_) (zC.mono F ?_)
                  rintro _ _ ⟨x22, I23, rfl, rfl, F⟩
                  change zV G (d + 1) mX12_all kc ks 90 [(0, .ref (m)), (1, .int (p1))] [.int (x22)] (I23, J, R, K, n) Q
                  exact zIret rfl (by decide +kernel) F
                · skip
                  by_cases q24 : p1 = 7
                  · replace F := F.2.2.2.2.2.2.2.1 q24
                    have zt := zEqT q24 (show (7 : Int32).toInt = 7 by decide)
                    refine zTableIn 114 0 12 #[65, 65, 65, 65, 65, 65, 71, 76, 85, 90, 97, 102, 108] 65 76 91 (by decide +kernel) (by omega) (by omega) (by rw [zt]; decide) rfl ?_
                    refine zAload_n 0 0 92 (by decide +kernel) rfl rfl ?_
                    refine zAload_n 0 0 93 (by decide +kernel) rfl rfl ?_
                    refine gf12_32 61 96 (by decide +kernel) rfl flX12_61 (Mod_0 S0_) (Mod_25 S0_) ?_
                    refine zCallV 12 zcls12 mX12_whites 348 1 0 0 _ _ 99 [.ref (m + 13)] [] okX12_whites mlX12_348 imX12_whites seX12_whites (by decide +kernel) rfl rfl (Nat.le_of_ble_eq_true rfl) rfl rfl (Mod_0 S0_) (zC.mono F ?_)
                    rintro _ _ ⟨x25, I26, rfl, rfl, F⟩
                    change zV G (d + 1) mX12_all kc ks 99 [(0, .ref (m)), (1, .int (p1))] [.int (x25)] (I26, J, R, K, n) Q
                    exact zIret rfl (by decide +kernel) F
                  · skip
                    by_cases q27 : p1 = 8
                    · replace F := F.2.2.2.2.2.2.2.2.1 q27
                      have zt := zEqT q27 (show (8 : Int32).toInt = 8 by decide)
                      refine zTableIn 114 0 12 #[65, 65, 65, 65, 65, 65, 71, 76, 85, 90, 97, 102, 108] 65 85 100 (by decide +kernel) (by omega) (by omega) (by rw [zt]; decide) rfl ?_
                      refine zAload_n 0 0 101 (by decide +kernel) rfl rfl ?_
                      refine zCallV 12 zcls12 mX12_falses 495 0 0 0 _ _ 104 [] [] okX12_falses mlX12_495 imX12_falses seX12_falses (by decide +kernel) rfl rfl (Nat.le_of_ble_eq_true rfl) rfl rfl (Mod_0 S0_) (zC.mono F ?_)
                      rintro _ _ ⟨x28, I29, rfl, rfl, F⟩
                      change zV G (d + 1) mX12_all kc ks 104 [(0, .ref (m)), (1, .int (p1))] [.int (x28)] (I29, J, R, K, n) Q
                      exact zIret rfl (by decide +kernel) F
                    · skip
                      by_cases q30 : p1 = 9
                      · replace F := F.2.2.2.2.2.2.2.2.2.1 q30
                        have zt := zEqT q30 (show (9 : Int32).toInt = 9 by decide)
                        refine zTableIn 114 0 12 #[65, 65, 65, 65, 65, 65, 71, 76, 85, 90, 97, 102, 108] 65 90 105 (by decide +kernel) (by omega) (by omega) (by rw [zt]; decide) rfl ?_
                        refine zAload_n 0 0 106 (by decide +kernel) rfl rfl ?_
                        refine zIconst (-1) (-1) 107 (by decide +kernel) rfl (by decide) ?_
                        refine zIconst 0 0 108 (by decide +kernel) rfl (by decide) ?_
                        refine zCallV 12 zcls12 mX12_openOf 431 2 0 0 _ _ 111 [.int ((-1)), .int (0)] [] okX12_openOf mlX12_431 imX12_openOf seX12_openOf (by decide +kernel) rfl rfl (Nat.le_of_ble_eq_true rfl) rfl rfl (Mod_0 S0_) (zC.mono F ?_)
                        rintro _ _ ⟨x31, I32, rfl, rfl, F⟩
                        change zV G (d + 1) mX12_all kc ks 111 [(0, .ref (m)), (1, .int (p1))] [.int (x31)] (I32, J, R, K, n) Q
                        exact zIret rfl (by decide +kernel) F
                      · skip
                        by_cases q33 : p1 = 10
                        · replace F := F.2.2.2.2.2.2.2.2.2.2.1 q33
                          have zt := zEqT q33 (show (10 : Int32).toInt = 10 by decide)
                          refine zTableIn 114 0 12 #[65, 65, 65, 65, 65, 65, 71, 76, 85, 90, 97, 102, 108] 65 97 112 (by decide +kernel) (by omega) (by omega) (by rw [zt]; decide) rfl ?_
                          refine zAload_n 0 0 113 (by decide +kernel) rfl rfl ?_
                          refine zCallV 12 zcls12 mX12_needed 498 0 0 0 _ _ 116 [] [] okX12_needed mlX12_498 imX12_needed seX12_needed (by decide +kernel) rfl rfl (Nat.le_of_ble_eq_true rfl) rfl rfl (Mod_0 S0_) (zC.mono F ?_)
                          rintro _ _ ⟨x34, I35, rfl, rfl, F⟩
                          change zV G (d + 1) mX12_all kc ks 116 [(0, .ref (m)), (1, .int (p1))] [.int (x34)] (I35, J, R, K, n) Q
                          exact zIret rfl (by decide +kernel) F
                        · skip
                          by_cases q36 : p1 = 11
                          · replace F := F.2.2.2.2.2.2.2.2.2.2.2.1 q36
                            have zt := zEqT q36 (show (11 : Int32).toInt = 11 by decide)
                            refine zTableIn 114 0 12 #[65, 65, 65, 65, 65, 65, 71, 76, 85, 90, 97, 102, 108] 65 102 117 (by decide +kernel) (by omega) (by omega) (by rw [zt]; decide) rfl ?_
                            refine zAload_n 0 0 118 (by decide +kernel) rfl rfl ?_
                            refine zIconst 0 0 119 (by decide +kernel) rfl (by decide) ?_
                            refine zCallV 12 zcls12 mX12_sumOf 483 1 0 0 _ _ 122 [.int (0)] [] okX12_sumOf mlX12_483 imX12_sumOf seX12_sumOf (by decide +kernel) rfl rfl (Nat.le_of_ble_eq_true rfl) rfl rfl (Mod_0 S0_) (zC.mono F ?_)
                            rintro _ _ ⟨x37, I38, rfl, rfl, F⟩
                            change zV G (d + 1) mX12_all kc ks 122 [(0, .ref (m)), (1, .int (p1))] [.int (x37)] (I38, J, R, K, n) Q
                            exact zIret rfl (by decide +kernel) F
                          · skip
                            by_cases q39 : p1 = 12
                            · replace F := F.2.2.2.2.2.2.2.2.2.2.2.2.1 q39
                              have zt := zEqT q39 (show (12 : Int32).toInt = 12 by decide)
                              refine zTableIn 114 0 12 #[65, 65, 65, 65, 65, 65, 71, 76, 85, 90, 97, 102, 108] 65 108 123 (by decide +kernel) (by omega) (by omega) (by rw [zt]; decide) rfl ?_
                              refine zAload_n 0 0 124 (by decide +kernel) rfl rfl ?_
                              refine zIconst 1 1 125 (by decide +kernel) rfl (by decide) ?_
                              refine zCallV 12 zcls12 mX12_sumOf 483 1 0 0 _ _ 128 [.int (1)] [] okX12_sumOf mlX12_483 imX12_sumOf seX12_sumOf (by decide +kernel) rfl rfl (Nat.le_of_ble_eq_true rfl) rfl rfl (Mod_0 S0_) (zC.mono F ?_)
                              rintro _ _ ⟨x40, I41, rfl, rfl, F⟩
                              change zV G (d + 1) mX12_all kc ks 128 [(0, .ref (m)), (1, .int (p1))] [.int (x40)] (I41, J, R, K, n) Q
                              exact zIret rfl (by decide +kernel) F
                            · skip
                              replace F := F.2.2.2.2.2.2.2.2.2.2.2.2.2 q3 q6 q9 q12 q15 q18 q21 q24 q27 q30 q33 q36 q39
                              have zq3 := zNeT q3 (show (0 : Int32).toInt = 0 by decide)
                              have zq6 := zNeT q6 (show (1 : Int32).toInt = 1 by decide)
                              have zq9 := zNeT q9 (show (2 : Int32).toInt = 2 by decide)
                              have zq12 := zNeT q12 (show (3 : Int32).toInt = 3 by decide)
                              have zq15 := zNeT q15 (show (4 : Int32).toInt = 4 by decide)
                              have zq18 := zNeT q18 (show (5 : Int32).toInt = 5 by decide)
                              have zq21 := zNeT q21 (show (6 : Int32).toInt = 6 by decide)
                              have zq24 := zNeT q24 (show (7 : Int32).toInt = 7 by decide)
                              have zq27 := zNeT q27 (show (8 : Int32).toInt = 8 by decide)
                              have zq30 := zNeT q30 (show (9 : Int32).toInt = 9 by decide)
                              have zq33 := zNeT q33 (show (10 : Int32).toInt = 10 by decide)
                              have zq36 := zNeT q36 (show (11 : Int32).toInt = 11 by decide)
                              have zq39 := zNeT q39 (show (12 : Int32).toInt = 12 by decide)
                              refine zTableOut 114 0 12 #[65, 65, 65, 65, 65, 65, 71, 76, 85, 90, 97, 102, 108] 65 129 (by decide +kernel) (by omega) rfl ?_
                              refine zIconst (-1) (-1) 130 (by decide +kernel) rfl (by decide) ?_
                              exact zIret rfl (by decide +kernel) F
  · replace F := F.1 q2
    refine zIconst (-1) (-1) 13 (by decide +kernel) rfl (by decide) ?_
    exact zIret rfl (by decide +kernel) F
set_option maxHeartbeats 2000000 in
theorem wX12_image_0 {G : zG} {d kc ks : Nat} {I : Nat → Nat → Int32} {J : Nat → Nat → Int64} {R : Nat → Nat → Option Nat} {K : Nat → Nat × Nat} {n : Nat} {Q : Option Value → zH → Prop} (m t c : Nat) (S0_ : hMod G R K n m t c) (F : (∀ I1 : Nat → Nat → Int32, I1 = zU I m 0 (0) → (((I1 m 26 : Int32) = 0 → Q (some (.int ((-1)))) (I1, J, R, K, n)) ∧ (¬ ((I1 m 26 : Int32) = 0) → zV G (d + 1) mX12_image kc ks 16 [(0, .ref (m)), (1, .int (0))] [] (I1, J, R, K, n) Q)))) : zV G (d + 1) mX12_image kc ks 0 [(0, .ref (m))] [] (I, J, R, K, n) Q := by
  refine zAload_n 0 0 1 (by decide +kernel) rfl rfl ?_
  refine zIconst 0 0 2 (by decide +kernel) rfl (by decide) ?_
  refine pf12_0 93 5 (by decide +kernel) rfl flX12_93 (Mod_0 S0_) ?_
  replace F := F _ rfl
  generalize zU I m 0 (0) = I1 at F ⊢
  refine zAload_n 0 0 6 (by decide +kernel) rfl rfl ?_
  refine gf12_26 291 9 (by decide +kernel) rfl flX12_291 (Mod_0 S0_) ?_
  refine zIf_ne 5 14 12 (by decide +kernel) rfl rfl ⟨fun q2 => ?_, fun q2 => ?_⟩
  · replace F := F.2 q2
    refine zIconst 0 0 15 (by decide +kernel) rfl (by decide) ?_
    refine zIstore_n 1 [(1, .int (0)), (0, .ref (m))] 16 (by decide +kernel) rfl (by decide) rfl ?_
    exact zLoc [1, 0] _ rfl F
  · replace F := F.1 q2
    refine zIconst (-1) (-1) 13 (by decide +kernel) rfl (by decide) ?_
    exact zIret rfl (by decide +kernel) F
set_option maxHeartbeats 2000000 in
theorem wX12_image_16 {G : zG} {d kc ks : Nat} {I : Nat → Nat → Int32} {J : Nat → Nat → Int64} {R : Nat → Nat → Option Nat} {K : Nat → Nat × Nat} {n : Nat} {Q : Option Value → zH → Prop} (m t c : Nat) (S0_ : hMod G R K n m t c) (l1 : Int32) (F : ((231 ≤ l1 → (∀ I4 : Nat → Nat → Int32, I4 = zU I m 47 (1) → ((vp_in 49 231) ∧ Q (some (.int (I4 (m + 13) (49 : Int32).toNatClampNeg))) (I4, J, R, K, n)))) ∧ (¬ (231 ≤ l1) → ((vp_in l1 231) ∧ (vp_in l1 231 ∧ ∀ I7 : Nat → Nat → Int32, I7 = zU I (m + 20) l1.toNatClampNeg (I (m + 13) l1.toNatClampNeg) → zV G (d + 1) mX12_image kc ks 16 [(0, .ref (m)), (1, .int (l1 + 1))] [] (I7, J, R, K, n) Q))))) : zV G (d + 1) mX12_image kc ks 16 [(0, .ref (m)), (1, .int (l1))] [] (I, J, R, K, n) Q := by
  refine zIload_n 1 1 17 (by decide +kernel) rfl rfl ?_
  refine zSipush 231 231 20 (by decide +kernel) rfl (by decide) ?_
  refine zIcmp_ge 21 41 23 (by decide +kernel) rfl rfl ⟨fun q3 => ?_, fun q3 => ?_⟩
  · replace F := F.1 q3
    refine zAload_n 0 0 42 (by decide +kernel) rfl rfl ?_
    refine zIconst 1 1 43 (by decide +kernel) rfl (by decide) ?_
    refine pf12_47 303 46 (by decide +kernel) rfl flX12_303 (Or.inr rfl) (Mod_0 S0_) ?_
    replace F := F _ rfl
    generalize zU I m 47 (1) = I4 at F ⊢
    refine zAload_n 0 0 47 (by decide +kernel) rfl rfl ?_
    refine gf12_32 61 50 (by decide +kernel) rfl flX12_61 (Mod_0 S0_) (Mod_25 S0_) ?_
    refine zBipush 49 49 52 (by decide +kernel) rfl (by decide) ?_
    obtain ⟨w5, F⟩ := F
    refine yIaload 231 53 (by decide +kernel) rfl (Mod_26 S0_) (w5) ?_
    exact zIret rfl (by decide +kernel) F
  · replace F := F.2 q3
    refine zAload_n 0 0 24 (by decide +kernel) rfl rfl ?_
    refine gf12_46 90 27 (by decide +kernel) rfl flX12_90 (Mod_0 S0_) (Mod_39 S0_) ?_
    refine zIload_n 1 1 28 (by decide +kernel) rfl rfl ?_
    refine zAload_n 0 0 29 (by decide +kernel) rfl rfl ?_
    refine gf12_32 61 32 (by decide +kernel) rfl flX12_61 (Mod_0 S0_) (Mod_25 S0_) ?_
    refine zIload_n 1 1 33 (by decide +kernel) rfl rfl ?_
    obtain ⟨w6, F⟩ := F
    refine yIaload 231 34 (by decide +kernel) rfl (Mod_26 S0_) (w6) ?_
    refine yIastore 231 35 (by decide +kernel) rfl (Mod_40 S0_) F.1 ?_
    replace F := F.2 _ rfl
    generalize zU I (m + 20) l1.toNatClampNeg (I (m + 13) l1.toNatClampNeg) = I7 at F ⊢
    refine zIinc 1 1 1 (l1 + 1) [(1, .int (l1 + 1)), (0, .ref (m))] 38 (by decide +kernel) rfl rfl (by rfl) (by decide) rfl ?_
    refine zGoto (-22) 16 (by decide +kernel) rfl ?_
    exact zLoc [1, 0] _ rfl F
set_option maxHeartbeats 2000000 in
theorem wX12_back_0 {G : zG} {d kc ks : Nat} {I : Nat → Nat → Int32} {J : Nat → Nat → Int64} {R : Nat → Nat → Option Nat} {K : Nat → Nat × Nat} {n : Nat} {Q : Option Value → zH → Prop} (m t c : Nat) (S0_ : hMod G R K n m t c) (F : (∀ I1 : Nat → Nat → Int32, I1 = zU I m 0 (0) → (((I1 m 47 : Int32) = 0 → Q (some (.int ((-1)))) (I1, J, R, K, n)) ∧ (¬ ((I1 m 47 : Int32) = 0) → zV G (d + 1) mX12_back kc ks 16 [(0, .ref (m)), (1, .int (0))] [] (I1, J, R, K, n) Q)))) : zV G (d + 1) mX12_back kc ks 0 [(0, .ref (m))] [] (I, J, R, K, n) Q := by
  refine zAload_n 0 0 1 (by decide +kernel) rfl rfl ?_
  refine zIconst 0 0 2 (by decide +kernel) rfl (by decide) ?_
  refine pf12_0 93 5 (by decide +kernel) rfl flX12_93 (Mod_0 S0_) ?_
  replace F := F _ rfl
  generalize zU I m 0 (0) = I1 at F ⊢
  refine zAload_n 0 0 6 (by decide +kernel) rfl rfl ?_
  refine gf12_47 303 9 (by decide +kernel) rfl flX12_303 (Mod_0 S0_) ?_
  refine zIf_ne 5 14 12 (by decide +kernel) rfl rfl ⟨fun q2 => ?_, fun q2 => ?_⟩
  · replace F := F.2 q2
    refine zIconst 0 0 15 (by decide +kernel) rfl (by decide) ?_
    refine zIstore_n 1 [(1, .int (0)), (0, .ref (m))] 16 (by decide +kernel) rfl (by decide) rfl ?_
    exact zLoc [1, 0] _ rfl F
  · replace F := F.1 q2
    refine zIconst (-1) (-1) 13 (by decide +kernel) rfl (by decide) ?_
    exact zIret rfl (by decide +kernel) F
set_option maxHeartbeats 2000000 in
theorem wX12_back_16 {G : zG} {d kc ks : Nat} {I : Nat → Nat → Int32} {J : Nat → Nat → Int64} {R : Nat → Nat → Option Nat} {K : Nat → Nat × Nat} {n : Nat} {Q : Option Value → zH → Prop} (m t c : Nat) (S0_ : hMod G R K n m t c) (l1 : Int32) (F : ((231 ≤ l1 → (∀ I4 : Nat → Nat → Int32, I4 = zU I m 39 (0) → ((vp_in 49 231) ∧ Q (some (.int (I4 (m + 13) (49 : Int32).toNatClampNeg))) (I4, J, R, K, n)))) ∧ (¬ (231 ≤ l1) → ((vp_in l1 231) ∧ (vp_in l1 231 ∧ ∀ I7 : Nat → Nat → Int32, I7 = zU I (m + 13) l1.toNatClampNeg (I (m + 20) l1.toNatClampNeg) → zV G (d + 1) mX12_back kc ks 16 [(0, .ref (m)), (1, .int (l1 + 1))] [] (I7, J, R, K, n) Q))))) : zV G (d + 1) mX12_back kc ks 16 [(0, .ref (m)), (1, .int (l1))] [] (I, J, R, K, n) Q := by
  refine zIload_n 1 1 17 (by decide +kernel) rfl rfl ?_
  refine zSipush 231 231 20 (by decide +kernel) rfl (by decide) ?_
  refine zIcmp_ge 21 41 23 (by decide +kernel) rfl rfl ⟨fun q3 => ?_, fun q3 => ?_⟩
  · replace F := F.1 q3
    refine zAload_n 0 0 42 (by decide +kernel) rfl rfl ?_
    refine zIconst 0 0 43 (by decide +kernel) rfl (by decide) ?_
    refine pf12_39 300 46 (by decide +kernel) rfl flX12_300 (Mod_0 S0_) ?_
    replace F := F _ rfl
    generalize zU I m 39 (0) = I4 at F ⊢
    refine zAload_n 0 0 47 (by decide +kernel) rfl rfl ?_
    refine gf12_32 61 50 (by decide +kernel) rfl flX12_61 (Mod_0 S0_) (Mod_25 S0_) ?_
    refine zBipush 49 49 52 (by decide +kernel) rfl (by decide) ?_
    obtain ⟨w5, F⟩ := F
    refine yIaload 231 53 (by decide +kernel) rfl (Mod_26 S0_) (w5) ?_
    exact zIret rfl (by decide +kernel) F
  · replace F := F.2 q3
    refine zAload_n 0 0 24 (by decide +kernel) rfl rfl ?_
    refine gf12_32 61 27 (by decide +kernel) rfl flX12_61 (Mod_0 S0_) (Mod_25 S0_) ?_
    refine zIload_n 1 1 28 (by decide +kernel) rfl rfl ?_
    refine zAload_n 0 0 29 (by decide +kernel) rfl rfl ?_
    refine gf12_46 90 32 (by decide +kernel) rfl flX12_90 (Mod_0 S0_) (Mod_39 S0_) ?_
    refine zIload_n 1 1 33 (by decide +kernel) rfl rfl ?_
    obtain ⟨w6, F⟩ := F
    refine yIaload 231 34 (by decide +kernel) rfl (Mod_40 S0_) (w6) ?_
    refine yIastore 231 35 (by decide +kernel) rfl (Mod_26 S0_) F.1 ?_
    replace F := F.2 _ rfl
    generalize zU I (m + 13) l1.toNatClampNeg (I (m + 20) l1.toNatClampNeg) = I7 at F ⊢
    refine zIinc 1 1 1 (l1 + 1) [(1, .int (l1 + 1)), (0, .ref (m))] 38 (by decide +kernel) rfl rfl (by rfl) (by decide) rfl ?_
    refine zGoto (-22) 16 (by decide +kernel) rfl ?_
    exact zLoc [1, 0] _ rfl F
set_option maxHeartbeats 2000000 in
theorem wX12_count_0 {G : zG} {d kc ks : Nat} {I : Nat → Nat → Int32} {J : Nat → Nat → Int64} {R : Nat → Nat → Option Nat} {K : Nat → Nat × Nat} {n : Nat} {Q : Option Value → zH → Prop} (m t c : Nat) (S0_ : hMod G R K n m t c) (p1 : Int32) (F : (∀ I1 : Nat → Nat → Int32, I1 = zU I m 0 (0) → ((p1 = 0 → Q (some (.int (I1 m 26))) (I1, J, R, K, n)) ∧ (p1 = 1 → Q (some (.int (I1 m 27))) (I1, J, R, K, n)) ∧ (p1 = 2 → Q (some (.int (I1 m 7))) (I1, J, R, K, n)) ∧ (p1 = 3 → Q (some (.int (I1 m 30))) (I1, J, R, K, n)) ∧ (p1 = 4 → Q (some (.int (I1 m 6))) (I1, J, R, K, n)) ∧ (p1 = 5 → Q (some (.int (I1 m 34))) (I1, J, R, K, n)) ∧ (p1 = 6 → ((vp_in 49 231) ∧ Q (some (.int (I1 (m + 13) (49 : Int32).toNatClampNeg))) (I1, J, R, K, n))) ∧ (p1 = 7 → ((vp_in 47 231) ∧ Q (some (.int (I1 (m + 13) (47 : Int32).toNatClampNeg))) (I1, J, R, K, n))) ∧ (p1 = 8 → ((vp_in 48 231) ∧ Q (some (.int (I1 (m + 13) (48 : Int32).toNatClampNeg))) (I1, J, R, K, n))) ∧ (p1 = 9 → ((vp_in 45 231) ∧ Q (some (.int (I1 (m + 13) (45 : Int32).toNatClampNeg))) (I1, J, R, K, n))) ∧ (p1 = 10 → ((vp_in 46 231) ∧ Q (some (.int (I1 (m + 13) (46 : Int32).toNatClampNeg))) (I1, J, R, K, n))) ∧ (p1 = 11 → Q (some (.int (I1 m 35))) (I1, J, R, K, n)) ∧ (p1 = 12 → Q (some (.int (I1 m 44))) (I1, J, R, K, n)) ∧ (p1 = 13 → ((vp_in 50 231) ∧ Q (some (.int (I1 (m + 13) (50 : Int32).toNatClampNeg))) (I1, J, R, K, n))) ∧ (p1 = 14 → Q (some (.int (I1 m 39))) (I1, J, R, K, n)) ∧ (¬ p1 = 0 → ¬ p1 = 1 → ¬ p1 = 2 → ¬ p1 = 3 → ¬ p1 = 4 → ¬ p1 = 5 → ¬ p1 = 6 → ¬ p1 = 7 → ¬ p1 = 8 → ¬ p1 = 9 → ¬ p1 = 10 → ¬ p1 = 11 → ¬ p1 = 12 → ¬ p1 = 13 → ¬ p1 = 14 → Q (some (.int ((-1000000)))) (I1, J, R, K, n))))) : zV G (d + 1) mX12_count kc ks 0 [(0, .ref (m)), (1, .int (p1))] [] (I, J, R, K, n) Q := by
  refine zAload_n 0 0 1 (by decide +kernel) rfl rfl ?_
  refine zIconst 0 0 2 (by decide +kernel) rfl (by decide) ?_
  refine pf12_0 93 5 (by decide +kernel) rfl flX12_93 (Mod_0 S0_) ?_
  replace F := F _ rfl
  generalize zU I m 0 (0) = I1 at F ⊢
  refine zIload_n 1 1 6 (by decide +kernel) rfl rfl ?_
  by_cases q2 : p1 = 0
  · replace F := F.1 q2
    have zt := zEqT q2 (show (0 : Int32).toInt = 0 by decide)
    refine zTableIn 167 0 14 #[74, 79, 84, 89, 94, 99, 104, 112, 120, 128, 136, 144, 149, 154, 162] 74 74 80 (by decide +kernel) (by omega) (by omega) (by rw [zt]; decide) rfl ?_
    refine zAload_n 0 0 81 (by decide +kernel) rfl rfl ?_
    refine gf12_26 291 84 (by decide +kernel) rfl flX12_291 (Mod_0 S0_) ?_
    exact zIret rfl (by decide +kernel) F
  · skip
    by_cases q3 : p1 = 1
    · replace F := F.2.1 q3
      have zt := zEqT q3 (show (1 : Int32).toInt = 1 by decide)
      refine zTableIn 167 0 14 #[74, 79, 84, 89, 94, 99, 104, 112, 120, 128, 136, 144, 149, 154, 162] 74 79 85 (by decide +kernel) (by omega) (by omega) (by rw [zt]; decide) rfl ?_
      refine zAload_n 0 0 86 (by decide +kernel) rfl rfl ?_
      refine gf12_27 294 89 (by decide +kernel) rfl flX12_294 (Mod_0 S0_) ?_
      exact zIret rfl (by decide +kernel) F
    · skip
      by_cases q4 : p1 = 2
      · replace F := F.2.2.1 q4
        have zt := zEqT q4 (show (2 : Int32).toInt = 2 by decide)
        refine zTableIn 167 0 14 #[74, 79, 84, 89, 94, 99, 104, 112, 120, 128, 136, 144, 149, 154, 162] 74 84 90 (by decide +kernel) (by omega) (by omega) (by rw [zt]; decide) rfl ?_
        refine zAload_n 0 0 91 (by decide +kernel) rfl rfl ?_
        refine gf12_7 283 94 (by decide +kernel) rfl flX12_283 (Mod_0 S0_) ?_
        exact zIret rfl (by decide +kernel) F
      · skip
        by_cases q5 : p1 = 3
        · replace F := F.2.2.2.1 q5
          have zt := zEqT q5 (show (3 : Int32).toInt = 3 by decide)
          refine zTableIn 167 0 14 #[74, 79, 84, 89, 94, 99, 104, 112, 120, 128, 136, 144, 149, 154, 162] 74 89 95 (by decide +kernel) (by omega) (by omega) (by rw [zt]; decide) rfl ?_
          refine zAload_n 0 0 96 (by decide +kernel) rfl rfl ?_
          refine gf12_30 286 99 (by decide +kernel) rfl flX12_286 (Mod_0 S0_) ?_
          exact zIret rfl (by decide +kernel) F
        · skip
          by_cases q6 : p1 = 4
          · replace F := F.2.2.2.2.1 q6
            have zt := zEqT q6 (show (4 : Int32).toInt = 4 by decide)
            refine zTableIn 167 0 14 #[74, 79, 84, 89, 94, 99, 104, 112, 120, 128, 136, 144, 149, 154, 162] 74 94 100 (by decide +kernel) (by omega) (by omega) (by rw [zt]; decide) rfl ?_
            refine zAload_n 0 0 101 (by decide +kernel) rfl rfl ?_
            refine gf12_6 106 104 (by decide +kernel) rfl flX12_106 (Mod_0 S0_) ?_
            exact zIret rfl (by decide +kernel) F
          · skip
            by_cases q7 : p1 = 5
            · replace F := F.2.2.2.2.2.1 q7
              have zt := zEqT q7 (show (5 : Int32).toInt = 5 by decide)
              refine zTableIn 167 0 14 #[74, 79, 84, 89, 94, 99, 104, 112, 120, 128, 136, 144, 149, 154, 162] 74 99 105 (by decide +kernel) (by omega) (by omega) (by rw [zt]; decide) rfl ?_
              refine zAload_n 0 0 106 (by decide +kernel) rfl rfl ?_
              refine gf12_34 67 109 (by decide +kernel) rfl flX12_67 (Mod_0 S0_) ?_
              exact zIret rfl (by decide +kernel) F
            · skip
              by_cases q8 : p1 = 6
              · replace F := F.2.2.2.2.2.2.1 q8
                have zt := zEqT q8 (show (6 : Int32).toInt = 6 by decide)
                refine zTableIn 167 0 14 #[74, 79, 84, 89, 94, 99, 104, 112, 120, 128, 136, 144, 149, 154, 162] 74 104 110 (by decide +kernel) (by omega) (by omega) (by rw [zt]; decide) rfl ?_
                refine zAload_n 0 0 111 (by decide +kernel) rfl rfl ?_
                refine gf12_32 61 114 (by decide +kernel) rfl flX12_61 (Mod_0 S0_) (Mod_25 S0_) ?_
                refine zBipush 49 49 116 (by decide +kernel) rfl (by decide) ?_
                obtain ⟨w9, F⟩ := F
                refine yIaload 231 117 (by decide +kernel) rfl (Mod_26 S0_) (w9) ?_
                exact zIret rfl (by decide +kernel) F
              · skip
                by_cases q10 : p1 = 7
                · replace F := F.2.2.2.2.2.2.2.1 q10
                  have zt := zEqT q10 (show (7 : Int32).toInt = 7 by decide)
                  refine zTableIn 167 0 14 #[74, 79, 84, 89, 94, 99, 104, 112, 120, 128, 136, 144, 149, 154, 162] 74 112 118 (by decide +kernel) (by omega) (by omega) (by rw [zt]; decide) rfl ?_
                  refine zAload_n 0 0 119 (by decide +kernel) rfl rfl ?_
                  refine gf12_32 61 122 (by decide +kernel) rfl flX12_61 (Mod_0 S0_) (Mod_25 S0_) ?_
                  refine zBipush 47 47 124 (by decide +kernel) rfl (by decide) ?_
                  obtain ⟨w11, F⟩ := F
                  refine yIaload 231 125 (by decide +kernel) rfl (Mod_26 S0_) (w11) ?_
                  exact zIret rfl (by decide +kernel) F
                · skip
                  by_cases q12 : p1 = 8
                  · replace F := F.2.2.2.2.2.2.2.2.1 q12
                    have zt := zEqT q12 (show (8 : Int32).toInt = 8 by decide)
                    refine zTableIn 167 0 14 #[74, 79, 84, 89, 94, 99, 104, 112, 120, 128, 136, 144, 149, 154, 162] 74 120 126 (by decide +kernel) (by omega) (by omega) (by rw [zt]; decide) rfl ?_
                    refine zAload_n 0 0 127 (by decide +kernel) rfl rfl ?_
                    refine gf12_32 61 130 (by decide +kernel) rfl flX12_61 (Mod_0 S0_) (Mod_25 S0_) ?_
                    refine zBipush 48 48 132 (by decide +kernel) rfl (by decide) ?_
                    obtain ⟨w13, F⟩ := F
                    refine yIaload 231 133 (by decide +kernel) rfl (Mod_26 S0_) (w13) ?_
                    exact zIret rfl (by decide +kernel) F
                  · skip
                    by_cases q14 : p1 = 9
                    · replace F := F.2.2.2.2.2.2.2.2.2.1 q14
                      have zt := zEqT q14 (show (9 : Int32).toInt = 9 by decide)
                      refine zTableIn 167 0 14 #[74, 79, 84, 89, 94, 99, 104, 112, 120, 128, 136, 144, 149, 154, 162] 74 128 134 (by decide +kernel) (by omega) (by omega) (by rw [zt]; decide) rfl ?_
                      refine zAload_n 0 0 135 (by decide +kernel) rfl rfl ?_
                      refine gf12_32 61 138 (by decide +kernel) rfl flX12_61 (Mod_0 S0_) (Mod_25 S0_) ?_
                      refine zBipush 45 45 140 (by decide +kernel) rfl (by decide) ?_
                      obtain ⟨w15, F⟩ := F
                      refine yIaload 231 141 (by decide +kernel) rfl (Mod_26 S0_) (w15) ?_
                      exact zIret rfl (by decide +kernel) F
                    · skip
                      by_cases q16 : p1 = 10
                      · replace F := F.2.2.2.2.2.2.2.2.2.2.1 q16
                        have zt := zEqT q16 (show (10 : Int32).toInt = 10 by decide)
                        refine zTableIn 167 0 14 #[74, 79, 84, 89, 94, 99, 104, 112, 120, 128, 136, 144, 149, 154, 162] 74 136 142 (by decide +kernel) (by omega) (by omega) (by rw [zt]; decide) rfl ?_
                        refine zAload_n 0 0 143 (by decide +kernel) rfl rfl ?_
                        refine gf12_32 61 146 (by decide +kernel) rfl flX12_61 (Mod_0 S0_) (Mod_25 S0_) ?_
                        refine zBipush 46 46 148 (by decide +kernel) rfl (by decide) ?_
                        obtain ⟨w17, F⟩ := F
                        refine yIaload 231 149 (by decide +kernel) rfl (Mod_26 S0_) (w17) ?_
                        exact zIret rfl (by decide +kernel) F
                      · skip
                        by_cases q18 : p1 = 11
                        · replace F := F.2.2.2.2.2.2.2.2.2.2.2.1 q18
                          have zt := zEqT q18 (show (11 : Int32).toInt = 11 by decide)
                          refine zTableIn 167 0 14 #[74, 79, 84, 89, 94, 99, 104, 112, 120, 128, 136, 144, 149, 154, 162] 74 144 150 (by decide +kernel) (by omega) (by omega) (by rw [zt]; decide) rfl ?_
                          refine zAload_n 0 0 151 (by decide +kernel) rfl rfl ?_
                          refine gf12_35 71 154 (by decide +kernel) rfl flX12_71 (Mod_0 S0_) ?_
                          exact zIret rfl (by decide +kernel) F
                        · skip
                          by_cases q19 : p1 = 12
                          · replace F := F.2.2.2.2.2.2.2.2.2.2.2.2.1 q19
                            have zt := zEqT q19 (show (12 : Int32).toInt = 12 by decide)
                            refine zTableIn 167 0 14 #[74, 79, 84, 89, 94, 99, 104, 112, 120, 128, 136, 144, 149, 154, 162] 74 149 155 (by decide +kernel) (by omega) (by omega) (by rw [zt]; decide) rfl ?_
                            refine zAload_n 0 0 156 (by decide +kernel) rfl rfl ?_
                            refine gf12_44 297 159 (by decide +kernel) rfl flX12_297 (Mod_0 S0_) ?_
                            exact zIret rfl (by decide +kernel) F
                          · skip
                            by_cases q20 : p1 = 13
                            · replace F := F.2.2.2.2.2.2.2.2.2.2.2.2.2.1 q20
                              have zt := zEqT q20 (show (13 : Int32).toInt = 13 by decide)
                              refine zTableIn 167 0 14 #[74, 79, 84, 89, 94, 99, 104, 112, 120, 128, 136, 144, 149, 154, 162] 74 154 160 (by decide +kernel) (by omega) (by omega) (by rw [zt]; decide) rfl ?_
                              refine zAload_n 0 0 161 (by decide +kernel) rfl rfl ?_
                              refine gf12_32 61 164 (by decide +kernel) rfl flX12_61 (Mod_0 S0_) (Mod_25 S0_) ?_
                              refine zBipush 50 50 166 (by decide +kernel) rfl (by decide) ?_
                              obtain ⟨w21, F⟩ := F
                              refine yIaload 231 167 (by decide +kernel) rfl (Mod_26 S0_) (w21) ?_
                              exact zIret rfl (by decide +kernel) F
                            · skip
                              by_cases q22 : p1 = 14
                              · replace F := F.2.2.2.2.2.2.2.2.2.2.2.2.2.2.1 q22
                                have zt := zEqT q22 (show (14 : Int32).toInt = 14 by decide)
                                refine zTableIn 167 0 14 #[74, 79, 84, 89, 94, 99, 104, 112, 120, 128, 136, 144, 149, 154, 162] 74 162 168 (by decide +kernel) (by omega) (by omega) (by rw [zt]; decide) rfl ?_
                                refine zAload_n 0 0 169 (by decide +kernel) rfl rfl ?_
                                refine gf12_39 300 172 (by decide +kernel) rfl flX12_300 (Mod_0 S0_) ?_
                                exact zIret rfl (by decide +kernel) F
                              · skip
                                replace F := F.2.2.2.2.2.2.2.2.2.2.2.2.2.2.2 q2 q3 q4 q5 q6 q7 q8 q10 q12 q14 q16 q18 q19 q20 q22
                                have zq2 := zNeT q2 (show (0 : Int32).toInt = 0 by decide)
                                have zq3 := zNeT q3 (show (1 : Int32).toInt = 1 by decide)
                                have zq4 := zNeT q4 (show (2 : Int32).toInt = 2 by decide)
                                have zq5 := zNeT q5 (show (3 : Int32).toInt = 3 by decide)
                                have zq6 := zNeT q6 (show (4 : Int32).toInt = 4 by decide)
                                have zq7 := zNeT q7 (show (5 : Int32).toInt = 5 by decide)
                                have zq8 := zNeT q8 (show (6 : Int32).toInt = 6 by decide)
                                have zq10 := zNeT q10 (show (7 : Int32).toInt = 7 by decide)
                                have zq12 := zNeT q12 (show (8 : Int32).toInt = 8 by decide)
                                have zq14 := zNeT q14 (show (9 : Int32).toInt = 9 by decide)
                                have zq16 := zNeT q16 (show (10 : Int32).toInt = 10 by decide)
                                have zq18 := zNeT q18 (show (11 : Int32).toInt = 11 by decide)
                                have zq19 := zNeT q19 (show (12 : Int32).toInt = 12 by decide)
                                have zq20 := zNeT q20 (show (13 : Int32).toInt = 13 by decide)
                                have zq22 := zNeT q22 (show (14 : Int32).toInt = 14 by decide)
                                refine zTableOut 167 0 14 #[74, 79, 84, 89, 94, 99, 104, 112, 120, 128, 136, 144, 149, 154, 162] 74 173 (by decide +kernel) (by omega) rfl ?_
                                refine zLdcw 417 (-1000000) 176 (by decide +kernel) rfl kcX12_417 ?_
                                exact zIret rfl (by decide +kernel) F
