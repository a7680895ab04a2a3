set_option maxHeartbeats 2000000 in
theorem wX11_feed_0 {G : zG} {d kc ks : Nat} {I : Nat → Nat → Int32} {J : Nat → Nat → Int64} {R : Nat → Nat → Option Nat} {K : Nat → Nat × Nat} {n : Nat} {Q : Option Value → zH → Prop} (x v w q : Nat) (S0_ : hX G R K n x v w q) (p1 p2 p3 p4 p5 : Int32) (F : zC G d mX9_bytesIn 0 0 [.int (p1)] (I, J, R, K, n) (fun r h => ∃ (x1 : Int32) (I2 : Nat → Nat → Int32), r = some (.int x1) ∧ h = (I2, J, R, K, n) ∧ zC G d mX9_bytesIn 0 0 [.int (p2)] (I2, J, R, K, n) (fun r h => ∃ (x3 : Int32) (I4 : Nat → Nat → Int32), r = some (.int x3) ∧ h = (I4, J, R, K, n) ∧ zC G d mX9_bytesIn 0 0 [.int (p3)] (I4, J, R, K, n) (fun r h => ∃ (x5 : Int32) (I6 : Nat → Nat → Int32), r = some (.int x5) ∧ h = (I6, J, R, K, n) ∧ zC G d mX9_bytesIn 0 0 [.int (p4)] (I6, J, R, K, n) (fun r h => ∃ (x7 : Int32) (I8 : Nat → Nat → Int32), r = some (.int x7) ∧ h = (I8, J, R, K, n) ∧ zC G d mX9_bytesIn 0 0 [.int (p5)] (I8, J, R, K, n) (fun r h => ∃ (x9 : Int32) (I10 : Nat → Nat → Int32), r = some (.int x9) ∧ h = (I10, J, R, K, n) ∧ ((((I10 (x + 1) 1) + ((((x1 + x3) + x5) + x7) + x9) : Int32) ≤ 240 → zC G d mX9_append 0 0 [.ref (x + 1), .int (p1)] (I10, J, R, K, n) (fun r h => ∃ (I12 : Nat → Nat → Int32), r = none ∧ h = (I12, J, R, K, n) ∧ zC G d mX9_append 0 0 [.ref (x + 1), .int (p2)] (I12, J, R, K, n) (fun r h => ∃ (I13 : Nat → Nat → Int32), r = none ∧ h = (I13, J, R, K, n) ∧ zC G d mX9_append 0 0 [.ref (x + 1), .int (p3)] (I13, J, R, K, n) (fun r h => ∃ (I14 : Nat → Nat → Int32), r = none ∧ h = (I14, J, R, K, n) ∧ zC G d mX9_append 0 0 [.ref (x + 1), .int (p4)] (I14, J, R, K, n) (fun r h => ∃ (I15 : Nat → Nat → Int32), r = none ∧ h = (I15, J, R, K, n) ∧ zC G d mX9_append 0 0 [.ref (x + 1), .int (p5)] (I15, J, R, K, n) (fun r h => ∃ (I16 : Nat → Nat → Int32), r = none ∧ h = (I16, J, R, K, n) ∧ Q (some (.int (I16 (x + 1) 1))) (I16, J, R, K, n))))))) ∧ (¬ (((I10 (x + 1) 1) + ((((x1 + x3) + x5) + x7) + x9) : Int32) ≤ 240) → Q (some (.int ((-1)))) (I10, J, R, K, n))))))))) : zV G (d + 1) mX11_feed kc ks 0 [(0, .ref (x)), (1, .int (p1)), (2, .int (p2)), (3, .int (p3)), (4, .int (p4)), (5, .int (p5))] [] (I, J, R, K, n) Q := by
  refine zIload_n 1 1 1 (by decide +kernel) rfl rfl ?_
  refine zCallS mX9_bytesIn 115 1 0 0 _ _ 4 [.int (p1)] [] okX9_bytesIn mlX11_115 smX9_bytesIn (by decide +kernel) rfl rfl (Nat.le_of_ble_eq_true rfl) rfl rfl (zC.mono F ?_)
  rintro _ _ ⟨x1, I2, rfl, rfl, F⟩
  change zV G (d + 1) mX11_feed kc ks 4 [(0, .ref (x)), (1, .int (p1)), (2, .int (p2)), (3, .int (p3)), (4, .int (p4)), (5, .int (p5))] [.int (x1)] (I2, J, R, K, n) Q
  refine zIload_n 2 2 5 (by decide +kernel) rfl rfl ?_
  refine zCallS mX9_bytesIn 115 1 0 0 _ _ 8 [.int (p2)] [.int (x1)] okX9_bytesIn mlX11_115 smX9_bytesIn (by decide +kernel) rfl rfl (Nat.le_of_ble_eq_true rfl) rfl rfl (zC.mono F ?_)
  rintro _ _ ⟨x3, I4, rfl, rfl, F⟩
  change zV G (d + 1) mX11_feed kc ks 8 [(0, .ref (x)), (1, .int (p1)), (2, .int (p2)), (3, .int (p3)), (4, .int (p4)), (5, .int (p5))] [.int (x3), .int (x1)] (I4, J, R, K, n) Q
  refine zIadd 9 (by decide +kernel) rfl ?_
  refine zIload_n 3 3 10 (by decide +kernel) rfl rfl ?_
  refine zCallS mX9_bytesIn 115 1 0 0 _ _ 13 [.int (p3)] [.int (x1 + x3)] okX9_bytesIn mlX11_115 smX9_bytesIn (by decide +kernel) rfl rfl (Nat.le_of_ble_eq_true rfl) rfl rfl (zC.mono F ?_)
  rintro _ _ ⟨x5, I6, rfl, rfl, F⟩
  change zV G (d + 1) mX11_feed kc ks 13 [(0, .ref (x)), (1, .int (p1)), (2, .int (p2)), (3, .int (p3)), (4, .int (p4)), (5, .int (p5))] [.int (x5), .int (x1 + x3)] (I6, J, R, K, n) Q
  refine zIadd 14 (by decide +kernel) rfl ?_
  refine zIload 4 4 16 (by decide +kernel) rfl rfl ?_
  refine zCallS mX9_bytesIn 115 1 0 0 _ _ 19 [.int (p4)] [.int ((x1 + x3) + x5)] okX9_bytesIn mlX11_115 smX9_bytesIn (by decide +kernel) rfl rfl (Nat.le_of_ble_eq_true rfl) rfl rfl (zC.mono F ?_)
  rintro _ _ ⟨x7, I8, rfl, rfl, F⟩
  change zV G (d + 1) mX11_feed kc ks 19 [(0, .ref (x)), (1, .int (p1)), (2, .int (p2)), (3, .int (p3)), (4, .int (p4)), (5, .int (p5))] [.int (x7), .int ((x1 + x3) + x5)] (I8, J, R, K, n) Q
  refine zIadd 20 (by decide +kernel) rfl ?_
  refine zIload 5 5 22 (by decide +kernel) rfl rfl ?_
  refine zCallS mX9_bytesIn 115 1 0 0 _ _ 25 [.int (p5)] [.int (((x1 + x3) + x5) + x7)] okX9_bytesIn mlX11_115 smX9_bytesIn (by decide +kernel) rfl rfl (Nat.le_of_ble_eq_true rfl) rfl rfl (zC.mono F ?_)
  rintro _ _ ⟨x9, I10, rfl, rfl, F⟩
  change zV G (d + 1) mX11_feed kc ks 25 [(0, .ref (x)), (1, .int (p1)), (2, .int (p2)), (3, .int (p3)), (4, .int (p4)), (5, .int (p5))] [.int (x9), .int (((x1 + x3) + x5) + x7)] (I10, J, R, K, n) Q
  refine zIadd 26 (by decide +kernel) rfl ?_
  refine zIstore 6 [(6, .int ((((x1 + x3) + x5) + x7) + x9)), (0, .ref (x)), (1, .int (p1)), (2, .int (p2)), (3, .int (p3)), (4, .int (p4)), (5, .int (p5))] 28 (by decide +kernel) rfl (by decide) rfl ?_
  refine zAload_n 0 1 29 (by decide +kernel) rfl rfl ?_
  refine gf11_0 10 32 (by decide +kernel) rfl flX11_10 (X_0 S0_) (X_1 S0_) ?_
  refine gf9_1 119 35 (by decide +kernel) rfl flX11_119 (Tape_0 (X_2 S0_)) ?_
  refine zIload 6 0 37 (by decide +kernel) rfl rfl ?_
  refine zIadd 38 (by decide +kernel) rfl ?_
  refine zSipush 240 240 41 (by decide +kernel) rfl (by decide) ?_
  refine zIcmp_le 5 46 44 (by decide +kernel) rfl rfl ⟨fun q11 => ?_, fun q11 => ?_⟩
  · replace F := F.1 q11
    refine zAload_n 0 1 47 (by decide +kernel) rfl rfl ?_
    refine gf11_0 10 50 (by decide +kernel) rfl flX11_10 (X_0 S0_) (X_1 S0_) ?_
    refine zIload_n 1 2 51 (by decide +kernel) rfl rfl ?_
    refine zCallV 9 zcls9 mX9_append 122 1 0 0 _ _ 54 [.int (p1)] [] okX9_append mlX11_122 imX9_append seX9_append (by decide +kernel) rfl rfl (Nat.le_of_ble_eq_true rfl) rfl rfl (Tape_0 (X_2 S0_)) (zC.mono F ?_)
    rintro _ _ ⟨I12, rfl, rfl, F⟩
    change zV G (d + 1) mX11_feed kc ks 54 [(6, .int ((((x1 + x3) + x5) + x7) + x9)), (0, .ref (x)), (1, .int (p1)), (2, .int (p2)), (3, .int (p3)), (4, .int (p4)), (5, .int (p5))] [] (I12, J, R, K, n) Q
    refine zAload_n 0 1 55 (by decide +kernel) rfl rfl ?_
    refine gf11_0 10 58 (by decide +kernel) rfl flX11_10 (X_0 S0_) (X_1 S0_) ?_
    refine zIload_n 2 3 59 (by decide +kernel) rfl rfl ?_
    refine zCallV 9 zcls9 mX9_append 122 1 0 0 _ _ 62 [.int (p2)] [] okX9_append mlX11_122 imX9_append seX9_append (by decide +kernel) rfl rfl (Nat.le_of_ble_eq_true rfl) rfl rfl (Tape_0 (X_2 S0_)) (zC.mono F ?_)
    rintro _ _ ⟨I13, rfl, rfl, F⟩
    change zV G (d + 1) mX11_feed kc ks 62 [(6, .int ((((x1 + x3) + x5) + x7) + x9)), (0, .ref (x)), (1, .int (p1)), (2, .int (p2)), (3, .int (p3)), (4, .int (p4)), (5, .int (p5))] [] (I13, J, R, K, n) Q
    refine zAload_n 0 1 63 (by decide +kernel) rfl rfl ?_
    refine gf11_0 10 66 (by decide +kernel) rfl flX11_10 (X_0 S0_) (X_1 S0_) ?_
    refine zIload_n 3 4 67 (by decide +kernel) rfl rfl ?_
    refine zCallV 9 zcls9 mX9_append 122 1 0 0 _ _ 70 [.int (p3)] [] okX9_append mlX11_122 imX9_append seX9_append (by decide +kernel) rfl rfl (Nat.le_of_ble_eq_true rfl) rfl rfl (Tape_0 (X_2 S0_)) (zC.mono F ?_)
    rintro _ _ ⟨I14, rfl, rfl, F⟩
    change zV G (d + 1) mX11_feed kc ks 70 [(6, .int ((((x1 + x3) + x5) + x7) + x9)), (0, .ref (x)), (1, .int (p1)), (2, .int (p2)), (3, .int (p3)), (4, .int (p4)), (5, .int (p5))] [] (I14, J, R, K, n) Q
    refine zAload_n 0 1 71 (by decide +kernel) rfl rfl ?_
    refine gf11_0 10 74 (by decide +kernel) rfl flX11_10 (X_0 S0_) (X_1 S0_) ?_
    refine zIload 4 5 76 (by decide +kernel) rfl rfl ?_
    refine zCallV 9 zcls9 mX9_append 122 1 0 0 _ _ 79 [.int (p4)] [] okX9_append mlX11_122 imX9_append seX9_append (by decide +kernel) rfl rfl (Nat.le_of_ble_eq_true rfl) rfl rfl (Tape_0 (X_2 S0_)) (zC.mono F ?_)
    rintro _ _ ⟨I15, rfl, rfl, F⟩
    change zV G (d + 1) mX11_feed kc ks 79 [(6, .int ((((x1 + x3) + x5) + x7) + x9)), (0, .ref (x)), (1, .int (p1)), (2, .int (p2)), (3, .int (p3)), (4, .int (p4)), (5, .int (p5))] [] (I15, J, R, K, n) Q
    refine zAload_n 0 1 80 (by decide +kernel) rfl rfl ?_
    refine gf11_0 10 83 (by decide +kernel) rfl flX11_10 (X_0 S0_) (X_1 S0_) ?_
    refine zIload 5 6 85 (by decide +kernel) rfl rfl ?_
    refine zCallV 9 zcls9 mX9_append 122 1 0 0 _ _ 88 [.int (p5)] [] okX9_append mlX11_122 imX9_append seX9_append (by decide +kernel) rfl rfl (Nat.le_of_ble_eq_true rfl) rfl rfl (Tape_0 (X_2 S0_)) (zC.mono F ?_)
    rintro _ _ ⟨I16, rfl, rfl, F⟩
    change zV G (d + 1) mX11_feed kc ks 88 [(6, .int ((((x1 + x3) + x5) + x7) + x9)), (0, .ref (x)), (1, .int (p1)), (2, .int (p2)), (3, .int (p3)), (4, .int (p4)), (5, .int (p5))] [] (I16, J, R, K, n) Q
    refine zAload_n 0 1 89 (by decide +kernel) rfl rfl ?_
    refine gf11_0 10 92 (by decide +kernel) rfl flX11_10 (X_0 S0_) (X_1 S0_) ?_
    refine gf9_1 119 95 (by decide +kernel) rfl flX11_119 (Tape_0 (X_2 S0_)) ?_
    exact zIret rfl (by decide +kernel) F
  · replace F := F.2 q11
    refine zIconst (-1) (-1) 45 (by decide +kernel) rfl (by decide) ?_
    exact zIret rfl (by decide +kernel) F
set_option maxHeartbeats 2000000 in
theorem wX11_end_0 {G : zG} {d kc ks : Nat} {I : Nat → Nat → Int32} {J : Nat → Nat → Int64} {R : Nat → Nat → Option Nat} {K : Nat → Nat × Nat} {n : Nat} {Q : Option Value → zH → Prop} (x v w q : Nat) (S0_ : hX G R K n x v w q) (p1 : Int32) (F : ((p1 < 0 → Q (some (.int (0))) (I, J, R, K, n)) ∧ (¬ (p1 < 0) → ((p1 ≤ (I (x + 1) 1 : Int32) → (∀ I3 : Nat → Nat → Int32, I3 = zU I (x + 1) 1 (p1) → Q (some (.int (1))) (I3, J, R, K, n))) ∧ (¬ (p1 ≤ (I (x + 1) 1 : Int32)) → Q (some (.int (0))) (I, J, R, K, n)))))) : zV G (d + 1) mX11_end kc ks 0 [(0, .ref (x)), (1, .int (p1))] [] (I, J, R, K, n) Q := by
  refine zIload_n 1 1 1 (by decide +kernel) rfl rfl ?_
  refine zIf_lt 14 15 4 (by decide +kernel) rfl rfl ⟨fun q1 => ?_, fun q1 => ?_⟩
  · replace F := F.1 q1
    refine zIconst 0 0 16 (by decide +kernel) rfl (by decide) ?_
    exact zZret .boolean rfl (zNarZ (Or.inl rfl)) (by decide +kernel) F
  · replace F := F.2 q1
    refine zIload_n 1 1 5 (by decide +kernel) rfl rfl ?_
    refine zAload_n 0 0 6 (by decide +kernel) rfl rfl ?_
    refine gf11_0 10 9 (by decide +kernel) rfl flX11_10 (X_0 S0_) (X_1 S0_) ?_
    refine gf9_1 119 12 (by decide +kernel) rfl flX11_119 (Tape_0 (X_2 S0_)) ?_
    refine zIcmp_le 5 17 15 (by decide +kernel) rfl rfl ⟨fun q2 => ?_, fun q2 => ?_⟩
    · replace F := F.1 q2
      refine zAload_n 0 0 18 (by decide +kernel) rfl rfl ?_
      refine gf11_0 10 21 (by decide +kernel) rfl flX11_10 (X_0 S0_) (X_1 S0_) ?_
      refine zIload_n 1 1 22 (by decide +kernel) rfl rfl ?_
      refine pf9_1 119 25 (by decide +kernel) rfl flX11_119 (Tape_0 (X_2 S0_)) ?_
      replace F := F _ rfl
      generalize zU I (x + 1) 1 (p1) = I3 at F ⊢
      refine zIconst 1 1 26 (by decide +kernel) rfl (by decide) ?_
      exact zZret .boolean rfl (zNarZ (Or.inr rfl)) (by decide +kernel) F
    · replace F := F.2 q2
      refine zIconst 0 0 16 (by decide +kernel) rfl (by decide) ?_
      exact zZret .boolean rfl (zNarZ (Or.inl rfl)) (by decide +kernel) F
set_option maxHeartbeats 2000000 in
theorem wX11_fault_0 {G : zG} {d kc ks : Nat} {I : Nat → Nat → Int32} {J : Nat → Nat → Int64} {R : Nat → Nat → Option Nat} {K : Nat → Nat × Nat} {n : Nat} {Q : Option Value → zH → Prop} (x v w q : Nat) (S0_ : hX G R K n x v w q) (p1 : Int32) (F : ((p1 < 0 → Q (some (.int ((-2)))) (I, J, R, K, n)) ∧ (¬ (p1 < 0) → ((p1 ≤ 2 → zC G d mX11_reads 0 0 [.ref (x), .int (p1)] (I, J, R, K, n) (fun r h => ∃ (x3 : Int32) (I4 : Nat → Nat → Int32) (R5 : Nat → Nat → Option Nat), r = some (.int x3) ∧ h = (I4, J, R5, K, n) ∧ ∃ u6 u7 u8 : Nat, hX G R5 K n x u6 u7 u8 ∧ Q (some (.int ((if x3 = 0 then I4 (x + 1) 2 else (-1))))) (I4, J, R5, K, n))) ∧ (¬ (p1 ≤ 2) → Q (some (.int ((-2)))) (I, J, R, K, n)))))) : zV G (d + 1) mX11_fault kc ks 0 [(0, .ref (x)), (1, .int (p1))] [] (I, J, R, K, n) Q := by
  refine zIload_n 1 1 1 (by decide +kernel) rfl rfl ?_
  refine zIf_lt 8 9 4 (by decide +kernel) rfl rfl ⟨fun q1 => ?_, fun q1 => ?_⟩
  · replace F := F.1 q1
    refine zBipush (-2) (-2) 11 (by decide +kernel) rfl (by decide) ?_
    exact zIret rfl (by decide +kernel) F
  · replace F := F.2 q1
    refine zIload_n 1 1 5 (by decide +kernel) rfl rfl ?_
    refine zIconst 2 2 6 (by decide +kernel) rfl (by decide) ?_
    refine zIcmp_le 6 12 9 (by decide +kernel) rfl rfl ⟨fun q2 => ?_, fun q2 => ?_⟩
    · replace F := F.1 q2
      refine zAload_n 0 0 13 (by decide +kernel) rfl rfl ?_
      refine zIload_n 1 1 14 (by decide +kernel) rfl rfl ?_
      refine zCallV 11 zcls11 mX11_reads 126 1 0 0 _ _ 17 [.int (p1)] [] okX11_reads mlX11_126 imX11_reads seX11_reads (by decide +kernel) rfl rfl (Nat.le_of_ble_eq_true rfl) rfl rfl (X_0 S0_) (zC.mono F ?_)
      rintro _ _ ⟨x3, I4, R5, rfl, rfl, F⟩
      change zV G (d + 1) mX11_fault kc ks 17 [(0, .ref (x)), (1, .int (p1))] [.int (x3)] (I4, J, R5, K, n) Q
      obtain ⟨u6, u7, u8, S9, F⟩ := F
      suffices KK : zV G (d + 1) mX11_fault kc ks 31 [(0, .ref (x)), (1, .int (p1))] [.int ((if x3 = 0 then I4 (x + 1) 2 else (-1)))] (I4, J, R5, K, n) Q by
        refine zIf_eq 7 24 20 (by decide +kernel) rfl rfl ⟨fun q10 => ?_, fun q10 => ?_⟩
        · refine zAload_n 0 0 25 (by decide +kernel) rfl rfl ?_
          refine gf11_0 10 28 (by decide +kernel) rfl flX11_10 (X_0 S9) (X_1 S9) ?_
          refine gf9_2 130 31 (by decide +kernel) rfl flX11_130 (Tape_0 (X_2 S9)) ?_
          exact zTop (by rw [if_pos q10]) KK
        · refine zIconst (-1) (-1) 21 (by decide +kernel) rfl (by decide) ?_
          refine zGoto 10 31 (by decide +kernel) rfl ?_
          exact zTop (by rw [if_neg q10]) KK
      exact zIret rfl (by decide +kernel) F
    · replace F := F.2 q2
      refine zBipush (-2) (-2) 11 (by decide +kernel) rfl (by decide) ?_
      exact zIret rfl (by decide +kernel) F
set_option maxHeartbeats 2000000 in
theorem wX11_text_0 {G : zG} {d kc ks : Nat} {I : Nat → Nat → Int32} {J : Nat → Nat → Int64} {R : Nat → Nat → Option Nat} {K : Nat → Nat × Nat} {n : Nat} {Q : Option Value → zH → Prop} (x v w q : Nat) (S0_ : hX G R K n x v w q) (p1 : Int32) (F : zC G d mX11_hasRoom 0 0 [.ref (x), .int (p1)] (I, J, R, K, n) (fun r h => ∃ (x1 : Int32) (I2 : Nat → Nat → Int32), r = some (.int x1) ∧ h = (I2, J, R, K, n) ∧ ((x1 = 0 → Q (some (.int ((-1)))) (I2, J, R, K, n)) ∧ (¬ (x1 = 0) → zC G d mX11_reads 0 0 [.ref (x), .int (p1)] (I2, J, R, K, n) (fun r h => ∃ (x4 : Int32) (I5 : Nat → Nat → Int32) (R6 : Nat → Nat → Option Nat), r = some (.int x4) ∧ h = (I5, J, R6, K, n) ∧ ∃ u7 u8 u9 : Nat, hX G R6 K n x u7 u8 u9 ∧ ((x4 = 0 → Q (some (.int ((-1)))) (I5, J, R6, K, n)) ∧ (¬ (x4 = 0) → (∀ I12 : Nat → Nat → Int32, I12 = zU I5 (x + 1) 1 (0) → ((p1 = 0 → zC G d mX11_settle 0 0 [.ref (x)] (I12, J, R6, K, n) (fun r h => ∃ (x29 : Int32) (I30 : Nat → Nat → Int32) (R31 : Nat → Nat → Option Nat), r = some (.int x29) ∧ h = (I30, J, R31, K, n) ∧ ∃ u32 u33 u34 : Nat, hX G R31 K n x u32 u33 u34 ∧ Q (some (.int (x29))) (I30, J, R31, K, n))) ∧ (¬ (p1 = 0) → ((p1 = 1 → zC G d mX11_keepLaw 0 0 [.ref (x)] (I12, J, R6, K, n) (fun r h => ∃ (x22 : Int32) (I23 : Nat → Nat → Int32) (R24 : Nat → Nat → Option Nat), r = some (.int x22) ∧ h = (I23, J, R24, K, n) ∧ ∃ u25 u26 u27 : Nat, hX G R24 K n x u25 u26 u27 ∧ Q (some (.int (x22))) (I23, J, R24, K, n))) ∧ (¬ (p1 = 1) → zC G d mX11_keepSpring 0 0 [.ref (x)] (I12, J, R6, K, n) (fun r h => ∃ (x15 : Int32) (I16 : Nat → Nat → Int32) (R17 : Nat → Nat → Option Nat), r = some (.int x15) ∧ h = (I16, J, R17, K, n) ∧ ∃ u18 u19 u20 : Nat, hX G R17 K n x u18 u19 u20 ∧ Q (some (.int (x15))) (I16, J, R17, K, n)))))))))))))) : zV G (d + 1) mX11_text kc ks 0 [(0, .ref (x)), (1, .int (p1))] [] (I, J, R, K, n) Q := by
  refine zAload_n 0 0 1 (by decide +kernel) rfl rfl ?_
  refine zIload_n 1 1 2 (by decide +kernel) rfl rfl ?_
  refine zCallV 11 zcls11 mX11_hasRoom 133 1 0 0 _ _ 5 [.int (p1)] [] okX11_hasRoom mlX11_133 imX11_hasRoom seX11_hasRoom (by decide +kernel) rfl rfl (Nat.le_of_ble_eq_true rfl) rfl rfl (X_0 S0_) (zC.mono F ?_)
  rintro _ _ ⟨x1, I2, rfl, rfl, F⟩
  change zV G (d + 1) mX11_text kc ks 5 [(0, .ref (x)), (1, .int (p1))] [.int (x1)] (I2, J, R, K, n) Q
  refine zIf_eq 11 16 8 (by decide +kernel) rfl rfl ⟨fun q3 => ?_, fun q3 => ?_⟩
  · replace F := F.1 q3
    refine zIconst (-1) (-1) 17 (by decide +kernel) rfl (by decide) ?_
    exact zIret rfl (by decide +kernel) F
  · replace F := F.2 q3
    refine zAload_n 0 0 9 (by decide +kernel) rfl rfl ?_
    refine zIload_n 1 1 10 (by decide +kernel) rfl rfl ?_
    refine zCallV 11 zcls11 mX11_reads 126 1 0 0 _ _ 13 [.int (p1)] [] okX11_reads mlX11_126 imX11_reads seX11_reads (by decide +kernel) rfl rfl (Nat.le_of_ble_eq_true rfl) rfl rfl (X_0 S0_) (zC.mono F ?_)
    rintro _ _ ⟨x4, I5, R6, rfl, rfl, F⟩
    change zV G (d + 1) mX11_text kc ks 13 [(0, .ref (x)), (1, .int (p1))] [.int (x4)] (I5, J, R6, K, n) Q
    obtain ⟨u7, u8, u9, S10, F⟩ := F
    refine zIf_ne 5 18 16 (by decide +kernel) rfl rfl ⟨fun q11 => ?_, fun q11 => ?_⟩
    · replace F := F.2 q11
      refine zAload_n 0 0 19 (by decide +kernel) rfl rfl ?_
      refine gf11_0 10 22 (by decide +kernel) rfl flX11_10 (X_0 S10) (X_1 S10) ?_
      refine zIconst 0 0 23 (by decide +kernel) rfl (by decide) ?_
      refine pf9_1 119 26 (by decide +kernel) rfl flX11_119 (Tape_0 (X_2 S10)) ?_
      replace F := F _ rfl
      generalize zU I5 (x + 1) 1 (0) = I12 at F ⊢
      refine zIload_n 1 1 27 (by decide +kernel) rfl rfl ?_
      refine zIf_ne 8 35 30 (by decide +kernel) rfl rfl ⟨fun q13 => ?_, fun q13 => ?_⟩
      · replace F := F.2 q13
        refine zIload_n 1 1 36 (by decide +kernel) rfl rfl ?_
        refine zIconst 1 1 37 (by decide +kernel) rfl (by decide) ?_
        refine zIcmp_ne 10 47 40 (by decide +kernel) rfl rfl ⟨fun q14 => ?_, fun q14 => ?_⟩
        · replace F := F.2 q14
          refine zAload_n 0 0 48 (by decide +kernel) rfl rfl ?_
          refine zCallV 11 zcls11 mX11_keepSpring 143 0 0 0 _ _ 51 [] [] okX11_keepSpring mlX11_143 imX11_keepSpring seX11_keepSpring (by decide +kernel) rfl rfl (Nat.le_of_ble_eq_true rfl) rfl rfl (X_0 S10) (zC.mono F ?_)
          rintro _ _ ⟨x15, I16, R17, rfl, rfl, F⟩
          change zV G (d + 1) mX11_text kc ks 51 [(0, .ref (x)), (1, .int (p1))] [.int (x15)] (I16, J, R17, K, n) Q
          obtain ⟨u18, u19, u20, S21, F⟩ := F
          exact zIret rfl (by decide +kernel) F
        · replace F := F.1 q14
          refine zAload_n 0 0 41 (by decide +kernel) rfl rfl ?_
          refine zCallV 11 zcls11 mX11_keepLaw 140 0 0 0 _ _ 44 [] [] okX11_keepLaw mlX11_140 imX11_keepLaw seX11_keepLaw (by decide +kernel) rfl rfl (Nat.le_of_ble_eq_true rfl) rfl rfl (X_0 S10) (zC.mono F ?_)
          rintro _ _ ⟨x22, I23, R24, rfl, rfl, F⟩
          change zV G (d + 1) mX11_text kc ks 44 [(0, .ref (x)), (1, .int (p1))] [.int (x22)] (I23, J, R24, K, n) Q
          obtain ⟨u25, u26, u27, S28, F⟩ := F
          refine zGoto 7 51 (by decide +kernel) rfl ?_
          exact zIret rfl (by decide +kernel) F
      · replace F := F.1 q13
        refine zAload_n 0 0 31 (by decide +kernel) rfl rfl ?_
        refine zCallV 11 zcls11 mX11_settle 136 0 0 0 _ _ 34 [] [] okX11_settle mlX11_136 imX11_settle seX11_settle (by decide +kernel) rfl rfl (Nat.le_of_ble_eq_true rfl) rfl rfl (X_0 S10) (zC.mono F ?_)
        rintro _ _ ⟨x29, I30, R31, rfl, rfl, F⟩
        change zV G (d + 1) mX11_text kc ks 34 [(0, .ref (x)), (1, .int (p1))] [.int (x29)] (I30, J, R31, K, n) Q
        obtain ⟨u32, u33, u34, S35, F⟩ := F
        exact zIret rfl (by decide +kernel) F
    · replace F := F.1 q11
      refine zIconst (-1) (-1) 17 (by decide +kernel) rfl (by decide) ?_
      exact zIret rfl (by decide +kernel) F
set_option maxHeartbeats 2000000 in
theorem wX11_wrong_0 {G : zG} {d kc ks : Nat} {I : Nat → Nat → Int32} {J : Nat → Nat → Int64} {R : Nat → Nat → Option Nat} {K : Nat → Nat × Nat} {n : Nat} {Q : Option Value → zH → Prop} (x v w q : Nat) (S0_ : hX G R K n x v w q) (p1 p2 : Int32) (F : zC G d mX8_isOpen 0 0 [.ref (x + 12), .int (p1)] (I, J, R, K, n) (fun r h => ∃ (x1 : Int32) (I2 : Nat → Nat → Int32), r = some (.int x1) ∧ h = (I2, J, R, K, n) ∧ ((x1 = 0 → Q (some (.int ((-1)))) (I2, J, R, K, n)) ∧ (¬ (x1 = 0) → ((p2 = 0 → ((vp_in p1 9) ∧ Q (some (.int (I2 (x + 13) p1.toNatClampNeg))) (I2, J, R, K, n))) ∧ (p2 = 1 → ((vp_in p1 9) ∧ Q (some (.int (I2 (x + 14) p1.toNatClampNeg))) (I2, J, R, K, n))) ∧ (p2 = 2 → ((vp_in p1 9) ∧ Q (some (.int (I2 (x + 15) p1.toNatClampNeg))) (I2, J, R, K, n))) ∧ (p2 = 3 → zC G d mX8_yardsOf 0 0 [.ref (x + 12), .int (p1)] (I2, J, R, K, n) (fun r h => ∃ (x11 : Int32) (I12 : Nat → Nat → Int32), r = some (.int x11) ∧ h = (I12, J, R, K, n) ∧ Q (some (.int (x11))) (I12, J, R, K, n))) ∧ (¬ p2 = 0 → ¬ p2 = 1 → ¬ p2 = 2 → ¬ p2 = 3 → Q (some (.int ((-1)))) (I2, J, R, K, n))))))) : zV G (d + 1) mX11_wrong kc ks 0 [(0, .ref (x)), (1, .int (p1)), (2, .int (p2))] [] (I, J, R, K, n) Q := by
  refine zAload_n 0 0 1 (by decide +kernel) rfl rfl ?_
  refine gf11_2 28 4 (by decide +kernel) rfl flX11_28 (X_0 S0_) (X_4 S0_) ?_
  refine zIload_n 1 1 5 (by decide +kernel) rfl rfl ?_
  refine zCallV 8 zcls8 mX8_isOpen 174 1 0 0 _ _ 8 [.int (p1)] [] okX8_isOpen mlX11_174 imX8_isOpen seX8_isOpen (by decide +kernel) rfl rfl (Nat.le_of_ble_eq_true rfl) rfl rfl (St_0 (Gam_10 (X_15 S0_))) (zC.mono F ?_)
  rintro _ _ ⟨x1, I2, rfl, rfl, F⟩
  change zV G (d + 1) mX11_wrong kc ks 8 [(0, .ref (x)), (1, .int (p1)), (2, .int (p2))] [.int (x1)] (I2, J, R, K, n) Q
  refine zIf_ne 5 13 11 (by decide +kernel) rfl rfl ⟨fun q3 => ?_, fun q3 => ?_⟩
  · replace F := F.2 q3
    refine zIload_n 2 2 14 (by decide +kernel) rfl rfl ?_
    by_cases q4 : p2 = 0
    · replace F := F.1 q4
      have zt := zEqT q4 (show (0 : Int32).toInt = 0 by decide)
      refine zTableIn 69 0 3 #[30, 40, 50, 60] 30 30 44 (by decide +kernel) (by omega) (by omega) (by rw [zt]; decide) rfl ?_
      refine zAload_n 0 0 45 (by decide +kernel) rfl rfl ?_
      refine gf11_2 28 48 (by decide +kernel) rfl flX11_28 (X_0 S0_) (X_4 S0_) ?_
      refine gf8_0 177 51 (by decide +kernel) rfl flX11_177 (St_0 (Gam_10 (X_15 S0_))) (St_1 (Gam_10 (X_15 S0_))) ?_
      refine zIload_n 1 1 52 (by decide +kernel) rfl rfl ?_
      obtain ⟨w5, F⟩ := F
      refine yIaload 9 53 (by decide +kernel) rfl (St_2 (Gam_10 (X_15 S0_))) (w5) ?_
      exact zIret rfl (by decide +kernel) F
    · skip
      by_cases q6 : p2 = 1
      · replace F := F.2.1 q6
        have zt := zEqT q6 (show (1 : Int32).toInt = 1 by decide)
        refine zTableIn 69 0 3 #[30, 40, 50, 60] 30 40 54 (by decide +kernel) (by omega) (by omega) (by rw [zt]; decide) rfl ?_
        refine zAload_n 0 0 55 (by decide +kernel) rfl rfl ?_
        refine gf11_2 28 58 (by decide +kernel) rfl flX11_28 (X_0 S0_) (X_4 S0_) ?_
        refine gf8_1 180 61 (by decide +kernel) rfl flX11_180 (St_0 (Gam_10 (X_15 S0_))) (St_3 (Gam_10 (X_15 S0_))) ?_
        refine zIload_n 1 1 62 (by decide +kernel) rfl rfl ?_
        obtain ⟨w7, F⟩ := F
        refine yIaload 9 63 (by decide +kernel) rfl (St_4 (Gam_10 (X_15 S0_))) (w7) ?_
        exact zIret rfl (by decide +kernel) F
      · skip
        by_cases q8 : p2 = 2
        · replace F := F.2.2.1 q8
          have zt := zEqT q8 (show (2 : Int32).toInt = 2 by decide)
          refine zTableIn 69 0 3 #[30, 40, 50, 60] 30 50 64 (by decide +kernel) (by omega) (by omega) (by rw [zt]; decide) rfl ?_
          refine zAload_n 0 0 65 (by decide +kernel) rfl rfl ?_
          refine gf11_2 28 68 (by decide +kernel) rfl flX11_28 (X_0 S0_) (X_4 S0_) ?_
          refine gf8_2 183 71 (by decide +kernel) rfl flX11_183 (St_0 (Gam_10 (X_15 S0_))) (St_5 (Gam_10 (X_15 S0_))) ?_
          refine zIload_n 1 1 72 (by decide +kernel) rfl rfl ?_
          obtain ⟨w9, F⟩ := F
          refine yIaload 9 73 (by decide +kernel) rfl (St_6 (Gam_10 (X_15 S0_))) (w9) ?_
          exact zIret rfl (by decide +kernel) F
        · skip
          by_cases q10 : p2 = 3
          · replace F := F.2.2.2.1 q10
            have zt := zEqT q10 (show (3 : Int32).toInt = 3 by decide)
            refine zTableIn 69 0 3 #[30, 40, 50, 60] 30 60 74 (by decide +kernel) (by omega) (by omega) (by rw [zt]; decide) rfl ?_
            refine zAload_n 0 0 75 (by decide +kernel) rfl rfl ?_
            refine gf11_2 28 78 (by decide +kernel) rfl flX11_28 (X_0 S0_) (X_4 S0_) ?_
            refine zIload_n 1 1 79 (by decide +kernel) rfl rfl ?_
            refine zCallV 8 zcls8 mX8_yardsOf 186 1 0 0 _ _ 82 [.int (p1)] [] okX8_yardsOf mlX11_186 imX8_yardsOf seX8_yardsOf (by decide +kernel) rfl rfl (Nat.le_of_ble_eq_true rfl) rfl rfl (St_0 (Gam_10 (X_15 S0_))) (zC.mono F ?_)
            rintro _ _ ⟨x11, I12, rfl, rfl, F⟩
            change zV G (d + 1) mX11_wrong kc ks 82 [(0, .ref (x)), (1, .int (p1)), (2, .int (p2))] [.int (x11)] (I12, J, R, K, n) Q
            exact zIret rfl (by decide +kernel) F
          · skip
            replace F := F.2.2.2.2 q4 q6 q8 q10
            have zq4 := zNeT q4 (show (0 : Int32).toInt = 0 by decide)
            have zq6 := zNeT q6 (show (1 : Int32).toInt = 1 by decide)
            have zq8 := zNeT q8 (show (2 : Int32).toInt = 2 by decide)
            have zq10 := zNeT q10 (show (3 : Int32).toInt = 3 by decide)
            refine zTableOut 69 0 3 #[30, 40, 50, 60] 30 83 (by decide +kernel) (by omega) rfl ?_
            refine zIconst (-1) (-1) 84 (by decide +kernel) rfl (by decide) ?_
            exact zIret rfl (by decide +kernel) F
  · replace F := F.1 q3
    refine zIconst (-1) (-1) 12 (by decide +kernel) rfl (by decide) ?_
    exact zIret rfl (by decide +kernel) F
set_option maxHeartbeats 2000000 in
theorem wX11_law_0 {G : zG} {d kc ks : Nat} {I : Nat → Nat → Int32} {J : Nat → Nat → Int64} {R : Nat → Nat → Option Nat} {K : Nat → Nat × Nat} {n : Nat} {Q : Option Value → zH → Prop} (x v w q : Nat) (S0_ : hX G R K n x v w q) (p1 : Int32) (F : ((p1 < (-1) → Q (some (.int (0))) (I, J, R, K, n)) ∧ (¬ (p1 < (-1)) → ((p1 < (I x 13 : Int32) → (∀ I3 : Nat → Nat → Int32, I3 = zU I x 15 (p1) → ((p1 = (-1) → (∀ R11 : Nat → Nat → Option Nat, R11 = zU R (x + 3) 1 (none) → ∃ u12 u13 u14 : Nat, hX G R11 K n x u12 u13 u14 ∧ Q (some (.int (1))) (I3, J, R11, K, n))) ∧ (¬ (p1 = (-1)) → ((vp_in p1 4) ∧ (∀ R6 : Nat → Nat → Option Nat, R6 = zU R (x + 3) 1 (R (x + 99) p1.toNatClampNeg) → ∃ u7 u8 u9 : Nat, hX G R6 K n x u7 u8 u9 ∧ Q (some (.int (1))) (I3, J, R6, K, n))))))) ∧ (¬ (p1 < (I x 13 : Int32)) → Q (some (.int (0))) (I, J, R, K, n)))))) : zV G (d + 1) mX11_law kc ks 0 [(0, .ref (x)), (1, .int (p1))] [] (I, J, R, K, n) Q := by
  refine zIload_n 1 1 1 (by decide +kernel) rfl rfl ?_
  refine zIconst (-1) (-1) 2 (by decide +kernel) rfl (by decide) ?_
  refine zIcmp_lt 11 13 5 (by decide +kernel) rfl rfl ⟨fun q1 => ?_, fun q1 => ?_⟩
  · replace F := F.1 q1
    refine zIconst 0 0 14 (by decide +kernel) rfl (by decide) ?_
    exact zZret .boolean rfl (zNarZ (Or.inl rfl)) (by decide +kernel) F
  · replace F := F.2 q1
    refine zIload_n 1 1 6 (by decide +kernel) rfl rfl ?_
    refine zAload_n 0 0 7 (by decide +kernel) rfl rfl ?_
    refine gf11_13 98 10 (by decide +kernel) rfl flX11_98 (X_0 S0_) ?_
    refine zIcmp_lt 5 15 13 (by decide +kernel) rfl rfl ⟨fun q2 => ?_, fun q2 => ?_⟩
    · replace F := F.1 q2
      refine zAload_n 0 0 16 (by decide +kernel) rfl rfl ?_
      refine zIload_n 1 1 17 (by decide +kernel) rfl rfl ?_
      refine pf11_15 105 20 (by decide +kernel) rfl flX11_105 (X_0 S0_) ?_
      replace F := F _ rfl
      generalize zU I x 15 (p1) = I3 at F ⊢
      refine zAload_n 0 0 21 (by decide +kernel) rfl rfl ?_
      refine gf11_1 19 24 (by decide +kernel) rfl flX11_19 (X_0 S0_) (X_3 S0_) ?_
      refine zIload_n 1 1 25 (by decide +kernel) rfl rfl ?_
      refine zIconst (-1) (-1) 26 (by decide +kernel) rfl (by decide) ?_
      refine zIcmp_ne 7 33 29 (by decide +kernel) rfl rfl ⟨fun q4 => ?_, fun q4 => ?_⟩
      · replace F := F.2 q4
        refine zAload_n 0 0 34 (by decide +kernel) rfl rfl ?_
        refine gf11_9 76 37 (by decide +kernel) rfl flX11_76 (X_0 S0_) (X_18 S0_) ?_
        refine zIload_n 1 1 38 (by decide +kernel) rfl rfl ?_
        obtain ⟨w5, F⟩ := F
        refine yAaloadLn 4 39 (by decide +kernel) rfl (X_19 S0_) (w5) ?_
        refine pf5_1 (v := R (x + 99) p1.toNatClampNeg) 189 42 (by decide +kernel) rfl flX11_189 (Set_0 (X_26 S0_)) ?_
        replace F := F _ rfl
        generalize zU R (x + 3) 1 (R (x + 99) p1.toNatClampNeg) = R6 at F ⊢
        obtain ⟨u7, u8, u9, S10, F⟩ := F
        refine zIconst 1 1 43 (by decide +kernel) rfl (by decide) ?_
        exact zZret .boolean rfl (zNarZ (Or.inr rfl)) (by decide +kernel) F
      · replace F := F.1 q4
        refine zNull 30 (by decide +kernel) rfl ?_
        refine zGoto 9 39 (by decide +kernel) rfl ?_
        refine pf5_1 (v := none) 189 42 (by decide +kernel) rfl flX11_189 (Set_0 (X_26 S0_)) ?_
        replace F := F _ rfl
        generalize zU R (x + 3) 1 (none) = R11 at F ⊢
        obtain ⟨u12, u13, u14, S15, F⟩ := F
        refine zIconst 1 1 43 (by decide +kernel) rfl (by decide) ?_
        exact zZret .boolean rfl (zNarZ (Or.inr rfl)) (by decide +kernel) F
    · replace F := F.2 q2
      refine zIconst 0 0 14 (by decide +kernel) rfl (by decide) ?_
      exact zZret .boolean rfl (zNarZ (Or.inl rfl)) (by decide +kernel) F
set_option maxHeartbeats 2000000 in
theorem wX11_apples_0 {G : zG} {d kc ks : Nat} {I : Nat → Nat → Int32} {J : Nat → Nat → Int64} {R : Nat → Nat → Option Nat} {K : Nat → Nat × Nat} {n : Nat} {Q : Option Value → zH → Prop} (x v w q : Nat) (S0_ : hX G R K n x v w q) (p1 : Int32) (F : ((p1 < 0 → Q (some (.int (0))) (I, J, R, K, n)) ∧ (¬ (p1 < 0) → ((9 < p1 → Q (some (.int (0))) (I, J, R, K, n)) ∧ (¬ (9 < p1) → ((p1 = (I x 16 : Int32) → Q (some (.int (0))) (I, J, R, K, n)) ∧ (¬ (p1 = (I x 16 : Int32)) → (∀ I4 : Nat → Nat → Int32, I4 = zU I x 16 (p1) → Q (some (.int (1))) (I4, J, R, K, n))))))))) : zV G (d + 1) mX11_apples kc ks 0 [(0, .ref (x)), (1, .int (p1))] [] (I, J, R, K, n) Q := by
  refine zIload_n 1 1 1 (by decide +kernel) rfl rfl ?_
  refine zIf_lt 17 18 4 (by decide +kernel) rfl rfl ⟨fun q1 => ?_, fun q1 => ?_⟩
  · replace F := F.1 q1
    refine zIconst 0 0 19 (by decide +kernel) rfl (by decide) ?_
    exact zZret .boolean rfl (zNarZ (Or.inl rfl)) (by decide +kernel) F
  · replace F := F.2 q1
    refine zIload_n 1 1 5 (by decide +kernel) rfl rfl ?_
    refine zBipush 9 9 7 (by decide +kernel) rfl (by decide) ?_
    refine zIcmp_gt 11 18 10 (by decide +kernel) rfl rfl ⟨fun q2 => ?_, fun q2 => ?_⟩
    · replace F := F.1 q2
      refine zIconst 0 0 19 (by decide +kernel) rfl (by decide) ?_
      exact zZret .boolean rfl (zNarZ (Or.inl rfl)) (by decide +kernel) F
    · replace F := F.2 q2
      refine zIload_n 1 1 11 (by decide +kernel) rfl rfl ?_
      refine zAload_n 0 0 12 (by decide +kernel) rfl rfl ?_
      refine gf11_16 108 15 (by decide +kernel) rfl flX11_108 (X_0 S0_) ?_
      refine zIcmp_ne 5 20 18 (by decide +kernel) rfl rfl ⟨fun q3 => ?_, fun q3 => ?_⟩
      · replace F := F.2 q3
        refine zAload_n 0 0 21 (by decide +kernel) rfl rfl ?_
        refine zIload_n 1 1 22 (by decide +kernel) rfl rfl ?_
        refine pf11_16 108 25 (by decide +kernel) rfl flX11_108 (X_0 S0_) ?_
        replace F := F _ rfl
        generalize zU I x 16 (p1) = I4 at F ⊢
        refine zIconst 1 1 26 (by decide +kernel) rfl (by decide) ?_
        exact zZret .boolean rfl (zNarZ (Or.inr rfl)) (by decide +kernel) F
      · replace F := F.1 q3
        refine zIconst 0 0 19 (by decide +kernel) rfl (by decide) ?_
        exact zZret .boolean rfl (zNarZ (Or.inl rfl)) (by decide +kernel) F
set_option maxHeartbeats 2000000 in
theorem wX11_forgive_0 {G : zG} {d kc ks : Nat} {I : Nat → Nat → Int32} {J : Nat → Nat → Int64} {R : Nat → Nat → Option Nat} {K : Nat → Nat × Nat} {n : Nat} {Q : Option Value → zH → Prop} (x v w q : Nat) (S0_ : hX G R K n x v w q) (p1 : Int32) (F : zC G d mX1_prepare 0 0 [.ref (x + 28), .ref (x + 12)] (I, J, R, K, n) (fun r h => ∃ (I1 : Nat → Nat → Int32), r = none ∧ h = (I1, J, R, K, n) ∧ zC G d mX8_pardon 0 0 [.ref (x + 12), .int (p1)] (I1, J, R, K, n) (fun r h => ∃ (x2 : Int32) (I3 : Nat → Nat → Int32), r = some (.int x2) ∧ h = (I3, J, R, K, n) ∧ zC G d mX11_acted 0 0 [.ref (x), .int (x2)] (I3, J, R, K, n) (fun r h => ∃ (x4 : Int32) (I5 : Nat → Nat → Int32), r = some (.int x4) ∧ h = (I5, J, R, K, n) ∧ Q (some (.int (x4))) (I5, J, R, K, n))))) : zV G (d + 1) mX11_forgive kc ks 0 [(0, .ref (x)), (1, .int (p1))] [] (I, J, R, K, n) Q := by
  refine zAload_n 0 0 1 (by decide +kernel) rfl rfl ?_
  refine gf11_4 38 4 (by decide +kernel) rfl flX11_38 (X_0 S0_) (X_8 S0_) ?_
  refine zAload_n 0 0 5 (by decide +kernel) rfl rfl ?_
  refine gf11_2 28 8 (by decide +kernel) rfl flX11_28 (X_0 S0_) (X_4 S0_) ?_
  refine zCallV 1 zcls1 mX1_prepare 193 1 0 0 _ _ 11 [.ref (x + 12)] [] okX1_prepare mlX11_193 imX1_prepare seX1_prepare (by decide +kernel) rfl rfl (Nat.le_of_ble_eq_true rfl) rfl rfl (His_0 (X_9 S0_)) (zC.mono F ?_)
  rintro _ _ ⟨I1, rfl, rfl, F⟩
  change zV G (d + 1) mX11_forgive kc ks 11 [(0, .ref (x)), (1, .int (p1))] [] (I1, J, R, K, n) Q
  refine zAload_n 0 0 12 (by decide +kernel) rfl rfl ?_
  refine zAload_n 0 0 13 (by decide +kernel) rfl rfl ?_
  refine gf11_2 28 16 (by decide +kernel) rfl flX11_28 (X_0 S0_) (X_4 S0_) ?_
  refine zIload_n 1 1 17 (by decide +kernel) rfl rfl ?_
  refine zCallV 8 zcls8 mX8_pardon 196 1 0 0 _ _ 20 [.int (p1)] [.ref (x)] okX8_pardon mlX11_196 imX8_pardon seX8_pardon (by decide +kernel) rfl rfl (Nat.le_of_ble_eq_true rfl) rfl rfl (St_0 (Gam_10 (X_15 S0_))) (zC.mono F ?_)
  rintro _ _ ⟨x2, I3, rfl, rfl, F⟩
  change zV G (d + 1) mX11_forgive kc ks 20 [(0, .ref (x)), (1, .int (p1))] [.int (x2), .ref (x)] (I3, J, R, K, n) Q
  refine zCallV 11 zcls11 mX11_acted 199 1 0 0 _ _ 23 [.int (x2)] [] okX11_acted mlX11_199 imX11_acted seX11_acted (by decide +kernel) rfl rfl (Nat.le_of_ble_eq_true rfl) rfl rfl (X_0 S0_) (zC.mono F ?_)
  rintro _ _ ⟨x4, I5, rfl, rfl, F⟩
  change zV G (d + 1) mX11_forgive kc ks 23 [(0, .ref (x)), (1, .int (p1))] [.int (x4)] (I5, J, R, K, n) Q
  exact zIret rfl (by decide +kernel) F
set_option maxHeartbeats 2000000 in
theorem wX11_paint_0 {G : zG} {d kc ks : Nat} {I : Nat → Nat → Int32} {J : Nat → Nat → Int64} {R : Nat → Nat → Option Nat} {K : Nat → Nat × Nat} {n : Nat} {Q : Option Value → zH → Prop} (x v w q : Nat) (S0_ : hX G R K n x v w q) (p1 p2 : Int32) (F : zC G d mX1_prepare 0 0 [.ref (x + 28), .ref (x + 12)] (I, J, R, K, n) (fun r h => ∃ (I1 : Nat → Nat → Int32), r = none ∧ h = (I1, J, R, K, n) ∧ zC G d mX8_daub 0 0 [.ref (x + 12), .int (p1), .int (p2)] (I1, J, R, K, n) (fun r h => ∃ (x2 : Int32) (I3 : Nat → Nat → Int32), r = some (.int x2) ∧ h = (I3, J, R, K, n) ∧ zC G d mX11_acted 0 0 [.ref (x), .int (x2)] (I3, J, R, K, n) (fun r h => ∃ (x4 : Int32) (I5 : Nat → Nat → Int32), r = some (.int x4) ∧ h = (I5, J, R, K, n) ∧ Q (some (.int (x4))) (I5, J, R, K, n))))) : zV G (d + 1) mX11_paint kc ks 0 [(0, .ref (x)), (1, .int (p1)), (2, .int (p2))] [] (I, J, R, K, n) Q := by
  refine zAload_n 0 0 1 (by decide +kernel) rfl rfl ?_
  refine gf11_4 38 4 (by decide +kernel) rfl flX11_38 (X_0 S0_) (X_8 S0_) ?_
  refine zAload_n 0 0 5 (by decide +kernel) rfl rfl ?_
  refine gf11_2 28 8 (by decide +kernel) rfl flX11_28 (X_0 S0_) (X_4 S0_) ?_
  refine zCallV 1 zcls1 mX1_prepare 193 1 0 0 _ _ 11 [.ref (x + 12)] [] okX1_prepare mlX11_193 imX1_prepare seX1_prepare (by decide +kernel) rfl rfl (Nat.le_of_ble_eq_true rfl) rfl rfl (His_0 (X_9 S0_)) (zC.mono F ?_)
  rintro _ _ ⟨I1, rfl, rfl, F⟩
  change zV G (d + 1) mX11_paint kc ks 11 [(0, .ref (x)), (1, .int (p1)), (2, .int (p2))] [] (I1, J, R, K, n) Q
  refine zAload_n 0 0 12 (by decide +kernel) rfl rfl ?_
  refine zAload_n 0 0 13 (by decide +kernel) rfl rfl ?_
  refine gf11_2 28 16 (by decide +kernel) rfl flX11_28 (X_0 S0_) (X_4 S0_) ?_
  refine zIload_n 1 1 17 (by decide +kernel) rfl rfl ?_
  refine zIload_n 2 2 18 (by decide +kernel) rfl rfl ?_
  refine zCallV 8 zcls8 mX8_daub 202 2 0 0 _ _ 21 [.int (p1), .int (p2)] [.ref (x)] okX8_daub mlX11_202 imX8_daub seX8_daub (by decide +kernel) rfl rfl (Nat.le_of_ble_eq_true rfl) rfl rfl (St_0 (Gam_10 (X_15 S0_))) (zC.mono F ?_)
  rintro _ _ ⟨x2, I3, rfl, rfl, F⟩
  change zV G (d + 1) mX11_paint kc ks 21 [(0, .ref (x)), (1, .int (p1)), (2, .int (p2))] [.int (x2), .ref (x)] (I3, J, R, K, n) Q
  refine zCallV 11 zcls11 mX11_acted 199 1 0 0 _ _ 24 [.int (x2)] [] okX11_acted mlX11_199 imX11_acted seX11_acted (by decide +kernel) rfl rfl (Nat.le_of_ble_eq_true rfl) rfl rfl (X_0 S0_) (zC.mono F ?_)
  rintro _ _ ⟨x4, I5, rfl, rfl, F⟩
  change zV G (d + 1) mX11_paint kc ks 24 [(0, .ref (x)), (1, .int (p1)), (2, .int (p2))] [.int (x4)] (I5, J, R, K, n) Q
  exact zIret rfl (by decide +kernel) F
set_option maxHeartbeats 2000000 in
theorem wX11_inspect_0 {G : zG} {d kc ks : Nat} {I : Nat → Nat → Int32} {J : Nat → Nat → Int64} {R : Nat → Nat → Option Nat} {K : Nat → Nat × Nat} {n : Nat} {Q : Option Value → zH → Prop} (x v w q : Nat) (S0_ : hX G R K n x v w q) (p1 : Int32) (F : zC G d mX1_prepare 0 0 [.ref (x + 28), .ref (x + 12)] (I, J, R, K, n) (fun r h => ∃ (I1 : Nat → Nat → Int32), r = none ∧ h = (I1, J, R, K, n) ∧ zC G d mX8_thumb 0 0 [.ref (x + 12), .int (p1)] (I1, J, R, K, n) (fun r h => ∃ (x2 : Int32) (I3 : Nat → Nat → Int32), r = some (.int x2) ∧ h = (I3, J, R, K, n) ∧ zC G d mX11_acted 0 0 [.ref (x), .int (x2)] (I3, J, R, K, n) (fun r h => ∃ (x4 : Int32) (I5 : Nat → Nat → Int32), r = some (.int x4) ∧ h = (I5, J, R, K, n) ∧ Q (some (.int (x4))) (I5, J, R, K, n))))) : zV G (d + 1) mX11_inspect kc ks 0 [(0, .ref (x)), (1, .int (p1))] [] (I, J, R, K, n) Q := by
  refine zAload_n 0 0 1 (by decide +kernel) rfl rfl ?_
  refine gf11_4 38 4 (by decide +kernel) rfl flX11_38 (X_0 S0_) (X_8 S0_) ?_
  refine zAload_n 0 0 5 (by decide +kernel) rfl rfl ?_
  refine gf11_2 28 8 (by decide +kernel) rfl flX11_28 (X_0 S0_) (X_4 S0_) ?_
  refine zCallV 1 zcls1 mX1_prepare 193 1 0 0 _ _ 11 [.ref (x + 12)] [] okX1_prepare mlX11_193 imX1_prepare seX1_prepare (by decide +kernel) rfl rfl (Nat.le_of_ble_eq_true rfl) rfl rfl (His_0 (X_9 S0_)) (zC.mono F ?_)
  rintro _ _ ⟨I1, rfl, rfl, F⟩
  change zV G (d + 1) mX11_inspect kc ks 11 [(0, .ref (x)), (1, .int (p1))] [] (I1, J, R, K, n) Q
  refine zAload_n 0 0 12 (by decide +kernel) rfl rfl ?_
  refine zAload_n 0 0 13 (by decide +kernel) rfl rfl ?_
  refine gf11_2 28 16 (by decide +kernel) rfl flX11_28 (X_0 S0_) (X_4 S0_) ?_
  refine zIload_n 1 1 17 (by decide +kernel) rfl rfl ?_
  refine zCallV 8 zcls8 mX8_thumb 206 1 0 0 _ _ 20 [.int (p1)] [.ref (x)] okX8_thumb mlX11_206 imX8_thumb seX8_thumb (by decide +kernel) rfl rfl (Nat.le_of_ble_eq_true rfl) rfl rfl (St_0 (Gam_10 (X_15 S0_))) (zC.mono F ?_)
  rintro _ _ ⟨x2, I3, rfl, rfl, F⟩
  change zV G (d + 1) mX11_inspect kc ks 20 [(0, .ref (x)), (1, .int (p1))] [.int (x2), .ref (x)] (I3, J, R, K, n) Q
  refine zCallV 11 zcls11 mX11_acted 199 1 0 0 _ _ 23 [.int (x2)] [] okX11_acted mlX11_199 imX11_acted seX11_acted (by decide +kernel) rfl rfl (Nat.le_of_ble_eq_true rfl) rfl rfl (X_0 S0_) (zC.mono F ?_)
  rintro _ _ ⟨x4, I5, rfl, rfl, F⟩
  change zV G (d + 1) mX11_inspect kc ks 23 [(0, .ref (x)), (1, .int (p1))] [.int (x4)] (I5, J, R, K, n) Q
  exact zIret rfl (by decide +kernel) F
set_option maxHeartbeats 2000000 in
theorem wX11_sin_0 {G : zG} {d kc ks : Nat} {I : Nat → Nat → Int32} {J : Nat → Nat → Int64} {R : Nat → Nat → Option Nat} {K : Nat → Nat × Nat} {n : Nat} {Q : Option Value → zH → Prop} (x v w q : Nat) (S0_ : hX G R K n x v w q) (p1 p2 p3 : Int32) (F : zC G d mX1_prepare 0 0 [.ref (x + 28), .ref (x + 12)] (I, J, R, K, n) (fun r h => ∃ (I1 : Nat → Nat → Int32), r = none ∧ h = (I1, J, R, K, n) ∧ zC G d mX8_offend 0 0 [.ref (x + 12), .int (p1), .int (p2), .int (p3)] (I1, J, R, K, n) (fun r h => ∃ (x2 : Int32) (I3 : Nat → Nat → Int32), r = some (.int x2) ∧ h = (I3, J, R, K, n) ∧ zC G d mX11_acted 0 0 [.ref (x), .int (x2)] (I3, J, R, K, n) (fun r h => ∃ (x4 : Int32) (I5 : Nat → Nat → Int32), r = some (.int x4) ∧ h = (I5, J, R, K, n) ∧ Q (some (.int (x4))) (I5, J, R, K, n))))) : zV G (d + 1) mX11_sin kc ks 0 [(0, .ref (x)), (1, .int (p1)), (2, .int (p2)), (3, .int (p3))] [] (I, J, R, K, n) Q := by
  refine zAload_n 0 0 1 (by decide +kernel) rfl rfl ?_
  refine gf11_4 38 4 (by decide +kernel) rfl flX11_38 (X_0 S0_) (X_8 S0_) ?_
  refine zAload_n 0 0 5 (by decide +kernel) rfl rfl ?_
  refine gf11_2 28 8 (by decide +kernel) rfl flX11_28 (X_0 S0_) (X_4 S0_) ?_
  refine zCallV 1 zcls1 mX1_prepare 193 1 0 0 _ _ 11 [.ref (x + 12)] [] okX1_prepare mlX11_193 imX1_prepare seX1_prepare (by decide +kernel) rfl rfl (Nat.le_of_ble_eq_true rfl) rfl rfl (His_0 (X_9 S0_)) (zC.mono F ?_)
  rintro _ _ ⟨I1, rfl, rfl, F⟩
  change zV G (d + 1) mX11_sin kc ks 11 [(0, .ref (x)), (1, .int (p1)), (2, .int (p2)), (3, .int (p3))] [] (I1, J, R, K, n) Q
  refine zAload_n 0 0 12 (by decide +kernel) rfl rfl ?_
  refine zAload_n 0 0 13 (by decide +kernel) rfl rfl ?_
  refine gf11_2 28 16 (by decide +kernel) rfl flX11_28 (X_0 S0_) (X_4 S0_) ?_
  refine zIload_n 1 1 17 (by decide +kernel) rfl rfl ?_
  refine zIload_n 2 2 18 (by decide +kernel) rfl rfl ?_
  refine zIload_n 3 3 19 (by decide +kernel) rfl rfl ?_
  refine zCallV 8 zcls8 mX8_offend 209 3 0 0 _ _ 22 [.int (p1), .int (p2), .int (p3)] [.ref (x)] okX8_offend mlX11_209 imX8_offend seX8_offend (by decide +kernel) rfl rfl (Nat.le_of_ble_eq_true rfl) rfl rfl (St_0 (Gam_10 (X_15 S0_))) (zC.mono F ?_)
  rintro _ _ ⟨x2, I3, rfl, rfl, F⟩
  change zV G (d + 1) mX11_sin kc ks 22 [(0, .ref (x)), (1, .int (p1)), (2, .int (p2)), (3, .int (p3))] [.int (x2), .ref (x)] (I3, J, R, K, n) Q
  refine zCallV 11 zcls11 mX11_acted 199 1 0 0 _ _ 25 [.int (x2)] [] okX11_acted mlX11_199 imX11_acted seX11_acted (by decide +kernel) rfl rfl (Nat.le_of_ble_eq_true rfl) rfl rfl (X_0 S0_) (zC.mono F ?_)
  rintro _ _ ⟨x4, I5, rfl, rfl, F⟩
  change zV G (d + 1) mX11_sin kc ks 25 [(0, .ref (x)), (1, .int (p1)), (2, .int (p2)), (3, .int (p3))] [.int (x4)] (I5, J, R, K, n) Q
  exact zIret rfl (by decide +kernel) F
set_option maxHeartbeats 2000000 in
theorem wX11_buy_0 {G : zG} {d kc ks : Nat} {I : Nat → Nat → Int32} {J : Nat → Nat → Int64} {R : Nat → Nat → Option Nat} {K : Nat → Nat × Nat} {n : Nat} {Q : Option Value → zH → Prop} (x v w q : Nat) (S0_ : hX G R K n x v w q) (p1 : Int32) (F : zC G d mX11_hasVillage 0 0 [.ref (x)] (I, J, R, K, n) (fun r h => ∃ (x1 : Int32) (I2 : Nat → Nat → Int32), r = some (.int x1) ∧ h = (I2, J, R, K, n) ∧ ((x1 = 0 → Q (some (.int ((-1)))) (I2, J, R, K, n)) ∧ (¬ (x1 = 0) → ((p1 < 1 → Q (some (.int ((-1)))) (I2, J, R, K, n)) ∧ (¬ (p1 < 1) → ((20 < p1 → Q (some (.int ((-1)))) (I2, J, R, K, n)) ∧ (¬ (20 < p1) → (((I2 (x + 12) 9 : Int32) < p1 → Q (some (.int ((-1)))) (I2, J, R, K, n)) ∧ (¬ ((I2 (x + 12) 9 : Int32) < p1) → ((((I2 (x + 12) 8) + p1 : Int32) ≤ 999 → zC G d mX1_prepare 0 0 [.ref (x + 28), .ref (x + 12)] (I2, J, R, K, n) (fun r h => ∃ (I8 : Nat → Nat → Int32), r = none ∧ h = (I8, J, R, K, n) ∧ (∀ I9 : Nat → Nat → Int32, I9 = zU I8 (x + 12) 8 ((I8 (x + 12) 8) + p1) → (∀ I10 : Nat → Nat → Int32, I10 = zU I9 (x + 12) 9 ((I9 (x + 12) 9) - p1) → zC G d mX11_acted 0 0 [.ref (x), .int (I10 (x + 12) 8)] (I10, J, R, K, n) (fun r h => ∃ (x11 : Int32) (I12 : Nat → Nat → Int32), r = some (.int x11) ∧ h = (I12, J, R, K, n) ∧ Q (some (.int (x11))) (I12, J, R, K, n)))))) ∧ (¬ (((I2 (x + 12) 8) + p1 : Int32) ≤ 999) → Q (some (.int ((-1)))) (I2, J, R, K, n))))))))))))) : zV G (d + 1) mX11_buy kc ks 0 [(0, .ref (x)), (1, .int (p1))] [] (I, J, R, K, n) Q := by
  refine zAload_n 0 0 1 (by decide +kernel) rfl rfl ?_
  refine zCallV 11 zcls11 mX11_hasVillage 213 0 0 0 _ _ 4 [] [] okX11_hasVillage mlX11_213 imX11_hasVillage seX11_hasVillage (by decide +kernel) rfl rfl (Nat.le_of_ble_eq_true rfl) rfl rfl (X_0 S0_) (zC.mono F ?_)
  rintro _ _ ⟨x1, I2, rfl, rfl, F⟩
  change zV G (d + 1) mX11_buy kc ks 4 [(0, .ref (x)), (1, .int (p1))] [.int (x1)] (I2, J, R, K, n) Q
  refine zIf_eq 40 44 7 (by decide +kernel) rfl rfl ⟨fun q3 => ?_, fun q3 => ?_⟩
  · replace F := F.1 q3
    refine zIconst (-1) (-1) 45 (by decide +kernel) rfl (by decide) ?_
    exact zIret rfl (by decide +kernel) F
  · replace F := F.2 q3
    refine zIload_n 1 1 8 (by decide +kernel) rfl rfl ?_
    refine zIconst 1 1 9 (by decide +kernel) rfl (by decide) ?_
    refine zIcmp_lt 35 44 12 (by decide +kernel) rfl rfl ⟨fun q4 => ?_, fun q4 => ?_⟩
    · replace F := F.1 q4
      refine zIconst (-1) (-1) 45 (by decide +kernel) rfl (by decide) ?_
      exact zIret rfl (by decide +kernel) F
    · replace F := F.2 q4
      refine zIload_n 1 1 13 (by decide +kernel) rfl rfl ?_
      refine zBipush 20 20 15 (by decide +kernel) rfl (by decide) ?_
      refine zIcmp_gt 29 44 18 (by decide +kernel) rfl rfl ⟨fun q5 => ?_, fun q5 => ?_⟩
      · replace F := F.1 q5
        refine zIconst (-1) (-1) 45 (by decide +kernel) rfl (by decide) ?_
        exact zIret rfl (by decide +kernel) F
      · replace F := F.2 q5
        refine zIload_n 1 1 19 (by decide +kernel) rfl rfl ?_
        refine zAload_n 0 0 20 (by decide +kernel) rfl rfl ?_
        refine gf11_2 28 23 (by decide +kernel) rfl flX11_28 (X_0 S0_) (X_4 S0_) ?_
        refine gf8_9 217 26 (by decide +kernel) rfl flX11_217 (St_0 (Gam_10 (X_15 S0_))) ?_
        refine zIcmp_gt 18 44 29 (by decide +kernel) rfl rfl ⟨fun q6 => ?_, fun q6 => ?_⟩
        · replace F := F.1 q6
          refine zIconst (-1) (-1) 45 (by decide +kernel) rfl (by decide) ?_
          exact zIret rfl (by decide +kernel) F
        · replace F := F.2 q6
          refine zAload_n 0 0 30 (by decide +kernel) rfl rfl ?_
          refine gf11_2 28 33 (by decide +kernel) rfl flX11_28 (X_0 S0_) (X_4 S0_) ?_
          refine gf8_8 220 36 (by decide +kernel) rfl flX11_220 (St_0 (Gam_10 (X_15 S0_))) ?_
          refine zIload_n 1 1 37 (by decide +kernel) rfl rfl ?_
          refine zIadd 38 (by decide +kernel) rfl ?_
          refine zSipush 999 999 41 (by decide +kernel) rfl (by decide) ?_
          refine zIcmp_le 5 46 44 (by decide +kernel) rfl rfl ⟨fun q7 => ?_, fun q7 => ?_⟩
          · replace F := F.1 q7
            refine zAload_n 0 0 47 (by decide +kernel) rfl rfl ?_
            refine gf11_4 38 50 (by decide +kernel) rfl flX11_38 (X_0 S0_) (X_8 S0_) ?_
            refine zAload_n 0 0 51 (by decide +kernel) rfl rfl ?_
            refine gf11_2 28 54 (by decide +kernel) rfl flX11_28 (X_0 S0_) (X_4 S0_) ?_
            refine zCallV 1 zcls1 mX1_prepare 193 1 0 0 _ _ 57 [.ref (x + 12)] [] okX1_prepare mlX11_193 imX1_prepare seX1_prepare (by decide +kernel) rfl rfl (Nat.le_of_ble_eq_true rfl) rfl rfl (His_0 (X_9 S0_)) (zC.mono F ?_)
            rintro _ _ ⟨I8, rfl, rfl, F⟩
            change zV G (d + 1) mX11_buy kc ks 57 [(0, .ref (x)), (1, .int (p1))] [] (I8, J, R, K, n) Q
            refine zAload_n 0 0 58 (by decide +kernel) rfl rfl ?_
            refine gf11_2 28 61 (by decide +kernel) rfl flX11_28 (X_0 S0_) (X_4 S0_) ?_
            refine zDup 62 (by decide +kernel) rfl rfl ?_
            refine gf8_8 220 65 (by decide +kernel) rfl flX11_220 (St_0 (Gam_10 (X_15 S0_))) ?_
            refine zIload_n 1 1 66 (by decide +kernel) rfl rfl ?_
            refine zIadd 67 (by decide +kernel) rfl ?_
            refine pf8_8 220 70 (by decide +kernel) rfl flX11_220 (St_0 (Gam_10 (X_15 S0_))) ?_
            replace F := F _ rfl
            generalize zU I8 (x + 12) 8 ((I8 (x + 12) 8) + p1) = I9 at F ⊢
            refine zAload_n 0 0 71 (by decide +kernel) rfl rfl ?_
            refine gf11_2 28 74 (by decide +kernel) rfl flX11_28 (X_0 S0_) (X_4 S0_) ?_
            refine zDup 75 (by decide +kernel) rfl rfl ?_
            refine gf8_9 217 78 (by decide +kernel) rfl flX11_217 (St_0 (Gam_10 (X_15 S0_))) ?_
            refine zIload_n 1 1 79 (by decide +kernel) rfl rfl ?_
            refine zIsub 80 (by decide +kernel) rfl ?_
            refine pf8_9 217 83 (by decide +kernel) rfl flX11_217 (St_0 (Gam_10 (X_15 S0_))) ?_
            replace F := F _ rfl
            generalize zU I9 (x + 12) 9 ((I9 (x + 12) 9) - p1) = I10 at F ⊢
            refine zAload_n 0 0 84 (by decide +kernel) rfl rfl ?_
            refine zAload_n 0 0 85 (by decide +kernel) rfl rfl ?_
            refine gf11_2 28 88 (by decide +kernel) rfl flX11_28 (X_0 S0_) (X_4 S0_) ?_
            refine gf8_8 220 91 (by decide +kernel) rfl flX11_220 (St_0 (Gam_10 (X_15 S0_))) ?_
            refine zCallV 11 zcls11 mX11_acted 199 1 0 0 _ _ 94 [.int (I10 (x + 12) 8)] [] okX11_acted mlX11_199 imX11_acted seX11_acted (by decide +kernel) rfl rfl (Nat.le_of_ble_eq_true rfl) rfl rfl (X_0 S0_) (zC.mono F ?_)
            rintro _ _ ⟨x11, I12, rfl, rfl, F⟩
            change zV G (d + 1) mX11_buy kc ks 94 [(0, .ref (x)), (1, .int (p1))] [.int (x11)] (I12, J, R, K, n) Q
            exact zIret rfl (by decide +kernel) F
          · replace F := F.2 q7
            refine zIconst (-1) (-1) 45 (by decide +kernel) rfl (by decide) ?_
            exact zIret rfl (by decide +kernel) F
set_option maxHeartbeats 2000000 in
theorem wX11_give_0 {G : zG} {d kc ks : Nat} {I : Nat → Nat → Int32} {J : Nat → Nat → Int64} {R : Nat → Nat → Option Nat} {K : Nat → Nat × Nat} {n : Nat} {Q : Option Value → zH → Prop} (x v w q : Nat) (S0_ : hX G R K n x v w q) (p1 : Int32) (F : zC G d mX11_hasVillage 0 0 [.ref (x)] (I, J, R, K, n) (fun r h => ∃ (x1 : Int32) (I2 : Nat → Nat → Int32), r = some (.int x1) ∧ h = (I2, J, R, K, n) ∧ ((x1 = 0 → Q (some (.int ((-1)))) (I2, J, R, K, n)) ∧ (¬ (x1 = 0) → ((p1 < 1 → Q (some (.int ((-1)))) (I2, J, R, K, n)) ∧ (¬ (p1 < 1) → ((50 < p1 → Q (some (.int ((-1)))) (I2, J, R, K, n)) ∧ (¬ (50 < p1) → ((((I2 (x + 12) 9) + p1 : Int32) ≤ 999 → zC G d mX1_prepare 0 0 [.ref (x + 28), .ref (x + 12)] (I2, J, R, K, n) (fun r h => ∃ (I7 : Nat → Nat → Int32), r = none ∧ h = (I7, J, R, K, n) ∧ (∀ I8 : Nat → Nat → Int32, I8 = zU I7 (x + 12) 9 ((I7 (x + 12) 9) + p1) → zC G d mX11_acted 0 0 [.ref (x), .int (I8 (x + 12) 9)] (I8, J, R, K, n) (fun r h => ∃ (x9 : Int32) (I10 : Nat → Nat → Int32), r = some (.int x9) ∧ h = (I10, J, R, K, n) ∧ Q (some (.int (x9))) (I10, J, R, K, n))))) ∧ (¬ (((I2 (x + 12) 9) + p1 : Int32) ≤ 999) → Q (some (.int ((-1)))) (I2, J, R, K, n))))))))))) : zV G (d + 1) mX11_give kc ks 0 [(0, .ref (x)), (1, .int (p1))] [] (I, J, R, K, n) Q := by
  refine zAload_n 0 0 1 (by decide +kernel) rfl rfl ?_
  refine zCallV 11 zcls11 mX11_hasVillage 213 0 0 0 _ _ 4 [] [] okX11_hasVillage mlX11_213 imX11_hasVillage seX11_hasVillage (by decide +kernel) rfl rfl (Nat.le_of_ble_eq_true rfl) rfl rfl (X_0 S0_) (zC.mono F ?_)
  rintro _ _ ⟨x1, I2, rfl, rfl, F⟩
  change zV G (d + 1) mX11_give kc ks 4 [(0, .ref (x)), (1, .int (p1))] [.int (x1)] (I2, J, R, K, n) Q
  refine zIf_eq 29 33 7 (by decide +kernel) rfl rfl ⟨fun q3 => ?_, fun q3 => ?_⟩
  · replace F := F.1 q3
    refine zIconst (-1) (-1) 34 (by decide +kernel) rfl (by decide) ?_
    exact zIret rfl (by decide +kernel) F
  · replace F := F.2 q3
    refine zIload_n 1 1 8 (by decide +kernel) rfl rfl ?_
    refine zIconst 1 1 9 (by decide +kernel) rfl (by decide) ?_
    refine zIcmp_lt 24 33 12 (by decide +kernel) rfl rfl ⟨fun q4 => ?_, fun q4 => ?_⟩
    · replace F := F.1 q4
      refine zIconst (-1) (-1) 34 (by decide +kernel) rfl (by decide) ?_
      exact zIret rfl (by decide +kernel) F
    · replace F := F.2 q4
      refine zIload_n 1 1 13 (by decide +kernel) rfl rfl ?_
      refine zBipush 50 50 15 (by decide +kernel) rfl (by decide) ?_
      refine zIcmp_gt 18 33 18 (by decide +kernel) rfl rfl ⟨fun q5 => ?_, fun q5 => ?_⟩
      · replace F := F.1 q5
        refine zIconst (-1) (-1) 34 (by decide +kernel) rfl (by decide) ?_
        exact zIret rfl (by decide +kernel) F
      · replace F := F.2 q5
        refine zAload_n 0 0 19 (by decide +kernel) rfl rfl ?_
        refine gf11_2 28 22 (by decide +kernel) rfl flX11_28 (X_0 S0_) (X_4 S0_) ?_
        refine gf8_9 217 25 (by decide +kernel) rfl flX11_217 (St_0 (Gam_10 (X_15 S0_))) ?_
        refine zIload_n 1 1 26 (by decide +kernel) rfl rfl ?_
        refine zIadd 27 (by decide +kernel) rfl ?_
        refine zSipush 999 999 30 (by decide +kernel) rfl (by decide) ?_
        refine zIcmp_le 5 35 33 (by decide +kernel) rfl rfl ⟨fun q6 => ?_, fun q6 => ?_⟩
        · replace F := F.1 q6
          refine zAload_n 0 0 36 (by decide +kernel) rfl rfl ?_
          refine gf11_4 38 39 (by decide +kernel) rfl flX11_38 (X_0 S0_) (X_8 S0_) ?_
          refine zAload_n 0 0 40 (by decide +kernel) rfl rfl ?_
          refine gf11_2 28 43 (by decide +kernel) rfl flX11_28 (X_0 S0_) (X_4 S0_) ?_
          refine zCallV 1 zcls1 mX1_prepare 193 1 0 0 _ _ 46 [.ref (x + 12)] [] okX1_prepare mlX11_193 imX1_prepare seX1_prepare (by decide +kernel) rfl rfl (Nat.le_of_ble_eq_true rfl) rfl rfl (His_0 (X_9 S0_)) (zC.mono F ?_)
          rintro _ _ ⟨I7, rfl, rfl, F⟩
          change zV G (d + 1) mX11_give kc ks 46 [(0, .ref (x)), (1, .int (p1))] [] (I7, J, R, K, n) Q
          refine zAload_n 0 0 47 (by decide +kernel) rfl rfl ?_
          refine gf11_2 28 50 (by decide +kernel) rfl flX11_28 (X_0 S0_) (X_4 S0_) ?_
          refine zDup 51 (by decide +kernel) rfl rfl ?_
          refine gf8_9 217 54 (by decide +kernel) rfl flX11_217 (St_0 (Gam_10 (X_15 S0_))) ?_
          refine zIload_n 1 1 55 (by decide +kernel) rfl rfl ?_
          refine zIadd 56 (by decide +kernel) rfl ?_
          refine pf8_9 217 59 (by decide +kernel) rfl flX11_217 (St_0 (Gam_10 (X_15 S0_))) ?_
          replace F := F _ rfl
          generalize zU I7 (x + 12) 9 ((I7 (x + 12) 9) + p1) = I8 at F ⊢
          refine zAload_n 0 0 60 (by decide +kernel) rfl rfl ?_
          refine zAload_n 0 0 61 (by decide +kernel) rfl rfl ?_
          refine gf11_2 28 64 (by decide +kernel) rfl flX11_28 (X_0 S0_) (X_4 S0_) ?_
          refine gf8_9 217 67 (by decide +kernel) rfl flX11_217 (St_0 (Gam_10 (X_15 S0_))) ?_
          refine zCallV 11 zcls11 mX11_acted 199 1 0 0 _ _ 70 [.int (I8 (x + 12) 9)] [] okX11_acted mlX11_199 imX11_acted seX11_acted (by decide +kernel) rfl rfl (Nat.le_of_ble_eq_true rfl) rfl rfl (X_0 S0_) (zC.mono F ?_)
          rintro _ _ ⟨x9, I10, rfl, rfl, F⟩
          change zV G (d + 1) mX11_give kc ks 70 [(0, .ref (x)), (1, .int (p1))] [.int (x9)] (I10, J, R, K, n) Q
          exact zIret rfl (by decide +kernel) F
        · replace F := F.2 q6
          refine zIconst (-1) (-1) 34 (by decide +kernel) rfl (by decide) ?_
          exact zIret rfl (by decide +kernel) F
set_option maxHeartbeats 2000000 in
theorem wX11_day_0 {G : zG} {d kc ks : Nat} {I : Nat → Nat → Int32} {J : Nat → Nat → Int64} {R : Nat → Nat → Option Nat} {K : Nat → Nat × Nat} {n : Nat} {Q : Option Value → zH → Prop} (x v w q : Nat) (S0_ : hX G R K n x v w q) (F : zC G d mX11_hasVillage 0 0 [.ref (x)] (I, J, R, K, n) (fun r h => ∃ (x1 : Int32) (I2 : Nat → Nat → Int32), r = some (.int x1) ∧ h = (I2, J, R, K, n) ∧ ((x1 = 0 → Q (some (.int ((-1)))) (I2, J, R, K, n)) ∧ (¬ (x1 = 0) → (((I2 (x + 12) 10 : Int32) < 999 → zC G d mX1_prepare 0 0 [.ref (x + 28), .ref (x + 12)] (I2, J, R, K, n) (fun r h => ∃ (I5 : Nat → Nat → Int32), r = none ∧ h = (I5, J, R, K, n) ∧ zC G d mX8_wear 0 0 [.ref (x + 12)] (I5, J, R, K, n) (fun r h => ∃ (I6 : Nat → Nat → Int32), r = none ∧ h = (I6, J, R, K, n) ∧ zC G d mX1_write 0 0 [.ref (x + 28), .ref (x + 12)] (I6, J, R, K, n) (fun r h => ∃ (I7 : Nat → Nat → Int32), r = none ∧ h = (I7, J, R, K, n) ∧ zC G d mX8_whites 0 0 [.ref (x + 12)] (I7, J, R, K, n) (fun r h => ∃ (x8 : Int32) (I9 : Nat → Nat → Int32), r = some (.int x8) ∧ h = (I9, J, R, K, n) ∧ zC G d mJ6_bitCount_0f7a4 0 0 [.int (x8)] (I9, J, R, K, n) (fun r h => ∃ (x10 : Int32), r = some (.int x10) ∧ h = (I9, J, R, K, n) ∧ zC G d mX11_acted 0 0 [.ref (x), .int (x10)] (I9, J, R, K, n) (fun r h => ∃ (x11 : Int32) (I12 : Nat → Nat → Int32), r = some (.int x11) ∧ h = (I12, J, R, K, n) ∧ Q (some (.int (x11))) (I12, J, R, K, n)))))))) ∧ (¬ ((I2 (x + 12) 10 : Int32) < 999) → Q (some (.int ((-1)))) (I2, J, R, K, n))))))) : zV G (d + 1) mX11_day kc ks 0 [(0, .ref (x))] [] (I, J, R, K, n) Q := by
  refine zAload_n 0 0 1 (by decide +kernel) rfl rfl ?_
  refine zCallV 11 zcls11 mX11_hasVillage 213 0 0 0 _ _ 4 [] [] okX11_hasVillage mlX11_213 imX11_hasVillage seX11_hasVillage (by decide +kernel) rfl rfl (Nat.le_of_ble_eq_true rfl) rfl rfl (X_0 S0_) (zC.mono F ?_)
  rintro _ _ ⟨x1, I2, rfl, rfl, F⟩
  change zV G (d + 1) mX11_day kc ks 4 [(0, .ref (x))] [.int (x1)] (I2, J, R, K, n) Q
  refine zIf_eq 16 20 7 (by decide +kernel) rfl rfl ⟨fun q3 => ?_, fun q3 => ?_⟩
  · replace F := F.1 q3
    refine zIconst (-1) (-1) 21 (by decide +kernel) rfl (by decide) ?_
    exact zIret rfl (by decide +kernel) F
  · replace F := F.2 q3
    refine zAload_n 0 0 8 (by decide +kernel) rfl rfl ?_
    refine gf11_2 28 11 (by decide +kernel) rfl flX11_28 (X_0 S0_) (X_4 S0_) ?_
    refine gf8_10 223 14 (by decide +kernel) rfl flX11_223 (St_0 (Gam_10 (X_15 S0_))) ?_
    refine zSipush 999 999 17 (by decide +kernel) rfl (by decide) ?_
    refine zIcmp_lt 5 22 20 (by decide +kernel) rfl rfl ⟨fun q4 => ?_, fun q4 => ?_⟩
    · replace F := F.1 q4
      refine zAload_n 0 0 23 (by decide +kernel) rfl rfl ?_
      refine gf11_4 38 26 (by decide +kernel) rfl flX11_38 (X_0 S0_) (X_8 S0_) ?_
      refine zAload_n 0 0 27 (by decide +kernel) rfl rfl ?_
      refine gf11_2 28 30 (by decide +kernel) rfl flX11_28 (X_0 S0_) (X_4 S0_) ?_
      refine zCallV 1 zcls1 mX1_prepare 193 1 0 0 _ _ 33 [.ref (x + 12)] [] okX1_prepare mlX11_193 imX1_prepare seX1_prepare (by decide +kernel) rfl rfl (Nat.le_of_ble_eq_true rfl) rfl rfl (His_0 (X_9 S0_)) (zC.mono F ?_)
      rintro _ _ ⟨I5, rfl, rfl, F⟩
      change zV G (d + 1) mX11_day kc ks 33 [(0, .ref (x))] [] (I5, J, R, K, n) Q
      refine zAload_n 0 0 34 (by decide +kernel) rfl rfl ?_
      refine gf11_2 28 37 (by decide +kernel) rfl flX11_28 (X_0 S0_) (X_4 S0_) ?_
      refine zCallV 8 zcls8 mX8_wear 226 0 0 0 _ _ 40 [] [] okX8_wear mlX11_226 imX8_wear seX8_wear (by decide +kernel) rfl rfl (Nat.le_of_ble_eq_true rfl) rfl rfl (St_0 (Gam_10 (X_15 S0_))) (zC.mono F ?_)
      rintro _ _ ⟨I6, rfl, rfl, F⟩
      change zV G (d + 1) mX11_day kc ks 40 [(0, .ref (x))] [] (I6, J, R, K, n) Q
      refine zAload_n 0 0 41 (by decide +kernel) rfl rfl ?_
      refine gf11_4 38 44 (by decide +kernel) rfl flX11_38 (X_0 S0_) (X_8 S0_) ?_
      refine zAload_n 0 0 45 (by decide +kernel) rfl rfl ?_
      refine gf11_2 28 48 (by decide +kernel) rfl flX11_28 (X_0 S0_) (X_4 S0_) ?_
      refine zCallV 1 zcls1 mX1_write 229 1 0 0 _ _ 51 [.ref (x + 12)] [] okX1_write mlX11_229 imX1_write seX1_write (by decide +kernel) rfl rfl (Nat.le_of_ble_eq_true rfl) rfl rfl (His_0 (X_9 S0_)) (zC.mono F ?_)
      rintro _ _ ⟨I7, rfl, rfl, F⟩
      change zV G (d + 1) mX11_day kc ks 51 [(0, .ref (x))] [] (I7, J, R, K, n) Q
      refine zAload_n 0 0 52 (by decide +kernel) rfl rfl ?_
      refine zAload_n 0 0 53 (by decide +kernel) rfl rfl ?_
      refine gf11_2 28 56 (by decide +kernel) rfl flX11_28 (X_0 S0_) (X_4 S0_) ?_
      refine zCallV 8 zcls8 mX8_whites 232 0 0 0 _ _ 59 [] [.ref (x)] okX8_whites mlX11_232 imX8_whites seX8_whites (by decide +kernel) rfl rfl (Nat.le_of_ble_eq_true rfl) rfl rfl (St_0 (Gam_10 (X_15 S0_))) (zC.mono F ?_)
      rintro _ _ ⟨x8, I9, rfl, rfl, F⟩
      change zV G (d + 1) mX11_day kc ks 59 [(0, .ref (x))] [.int (x8), .ref (x)] (I9, J, R, K, n) Q
      refine zCallS mJ6_bitCount_0f7a4 235 1 0 0 _ _ 62 [.int (x8)] [.ref (x)] okJ6_bitCount_0f7a4 mlX11_235 smJ6_bitCount_0f7a4 (by decide +kernel) rfl rfl (Nat.le_of_ble_eq_true rfl) rfl rfl (zC.mono F ?_)
      rintro _ _ ⟨x10, rfl, rfl, F⟩
      change zV G (d + 1) mX11_day kc ks 62 [(0, .ref (x))] [.int (x10), .ref (x)] (I9, J, R, K, n) Q
      refine zCallV 11 zcls11 mX11_acted 199 1 0 0 _ _ 65 [.int (x10)] [] okX11_acted mlX11_199 imX11_acted seX11_acted (by decide +kernel) rfl rfl (Nat.le_of_ble_eq_true rfl) rfl rfl (X_0 S0_) (zC.mono F ?_)
      rintro _ _ ⟨x11, I12, rfl, rfl, F⟩
      change zV G (d + 1) mX11_day kc ks 65 [(0, .ref (x))] [.int (x11)] (I12, J, R, K, n) Q
      exact zIret rfl (by decide +kernel) F
    · replace F := F.2 q4
      refine zIconst (-1) (-1) 21 (by decide +kernel) rfl (by decide) ?_
      exact zIret rfl (by decide +kernel) F
set_option maxHeartbeats 2000000 in
theorem wX11_years_0 {G : zG} {d kc ks : Nat} {I : Nat → Nat → Int32} {J : Nat → Nat → Int64} {R : Nat → Nat → Option Nat} {K : Nat → Nat × Nat} {n : Nat} {Q : Option Value → zH → Prop} (x v w q : Nat) (S0_ : hX G R K n x v w q) (p1 : Int32) (p2 : Int64) (F : zC G d mX11_hasVillage 0 0 [.ref (x)] (I, J, R, K, n) (fun r h => ∃ (x1 : Int32) (I2 : Nat → Nat → Int32), r = some (.int x1) ∧ h = (I2, J, R, K, n) ∧ ((x1 = 0 → Q (some (.int ((-1)))) (I2, J, R, K, n)) ∧ (¬ (x1 = 0) → ((p1 < 1 → Q (some (.int ((-1)))) (I2, J, R, K, n)) ∧ (¬ (p1 < 1) → ((30 < p1 → Q (some (.int ((-1)))) (I2, J, R, K, n)) ∧ (¬ (30 < p1) → ((((I2 (x + 12) 10) + p1 : Int32) ≤ 999 → (∀ J7 : Nat → Nat → Int64, J7 = zU J x 17 (p2) → zV G (d + 1) mX11_years kc ks 43 [(0, .ref (x)), (1, .int (p1)), (2, .long (p2)), (4, .int (0))] [] (I2, J7, R, K, n) Q)) ∧ (¬ (((I2 (x + 12) 10) + p1 : Int32) ≤ 999) → Q (some (.int ((-1)))) (I2, J, R, K, n))))))))))) : zV G (d + 1) mX11_years kc ks 0 [(0, .ref (x)), (1, .int (p1)), (2, .long (p2))] [] (I, J, R, K, n) Q := by
  refine zAload_n 0 0 1 (by decide +kernel) rfl rfl ?_
  refine zCallV 11 zcls11 mX11_hasVillage 213 0 0 0 _ _ 4 [] [] okX11_hasVillage mlX11_213 imX11_hasVillage seX11_hasVillage (by decide +kernel) rfl rfl (Nat.le_of_ble_eq_true rfl) rfl rfl (X_0 S0_) (zC.mono F ?_)
  rintro _ _ ⟨x1, I2, rfl, rfl, F⟩
  change zV G (d + 1) mX11_years kc ks 4 [(0, .ref (x)), (1, .int (p1)), (2, .long (p2))] [.int (x1)] (I2, J, R, K, n) Q
  refine zIf_eq 29 33 7 (by decide +kernel) rfl rfl ⟨fun q3 => ?_, fun q3 => ?_⟩
  · replace F := F.1 q3
    refine zIconst (-1) (-1) 34 (by decide +kernel) rfl (by decide) ?_
    exact zIret rfl (by decide +kernel) F
  · replace F := F.2 q3
    refine zIload_n 1 1 8 (by decide +kernel) rfl rfl ?_
    refine zIconst 1 1 9 (by decide +kernel) rfl (by decide) ?_
    refine zIcmp_lt 24 33 12 (by decide +kernel) rfl rfl ⟨fun q4 => ?_, fun q4 => ?_⟩
    · replace F := F.1 q4
      refine zIconst (-1) (-1) 34 (by decide +kernel) rfl (by decide) ?_
      exact zIret rfl (by decide +kernel) F
    · replace F := F.2 q4
      refine zIload_n 1 1 13 (by decide +kernel) rfl rfl ?_
      refine zBipush 30 30 15 (by decide +kernel) rfl (by decide) ?_
      refine zIcmp_gt 18 33 18 (by decide +kernel) rfl rfl ⟨fun q5 => ?_, fun q5 => ?_⟩
      · replace F := F.1 q5
        refine zIconst (-1) (-1) 34 (by decide +kernel) rfl (by decide) ?_
        exact zIret rfl (by decide +kernel) F
      · replace F := F.2 q5
        refine zAload_n 0 0 19 (by decide +kernel) rfl rfl ?_
        refine gf11_2 28 22 (by decide +kernel) rfl flX11_28 (X_0 S0_) (X_4 S0_) ?_
        refine gf8_10 223 25 (by decide +kernel) rfl flX11_223 (St_0 (Gam_10 (X_15 S0_))) ?_
        refine zIload_n 1 1 26 (by decide +kernel) rfl rfl ?_
        refine zIadd 27 (by decide +kernel) rfl ?_
        refine zSipush 999 999 30 (by decide +kernel) rfl (by decide) ?_
        refine zIcmp_le 5 35 33 (by decide +kernel) rfl rfl ⟨fun q6 => ?_, fun q6 => ?_⟩
        · replace F := F.1 q6
          refine zAload_n 0 0 36 (by decide +kernel) rfl rfl ?_
          refine zLload_n 2 2 37 (by decide +kernel) rfl rfl ?_
          refine pf11_17 111 40 (by decide +kernel) rfl flX11_111 (X_0 S0_) ?_
          replace F := F _ rfl
          generalize zU J x 17 (p2) = J7 at F ⊢
          refine zIconst 0 0 41 (by decide +kernel) rfl (by decide) ?_
          refine zIstore 4 [(4, .int (0)), (0, .ref (x)), (1, .int (p1)), (2, .long (p2))] 43 (by decide +kernel) rfl (by decide) rfl ?_
          exact zLoc [1, 2, 3, 0] _ rfl F
        · replace F := F.2 q6
          refine zIconst (-1) (-1) 34 (by decide +kernel) rfl (by decide) ?_
          exact zIret rfl (by decide +kernel) F
set_option maxHeartbeats 2000000 in
theorem wX11_years_43 {G : zG} {d kc ks : Nat} {I : Nat → Nat → Int32} {J : Nat → Nat → Int64} {R : Nat → Nat → Option Nat} {K : Nat → Nat × Nat} {n : Nat} {Q : Option Value → zH → Prop} (x v w q : Nat) (S0_ : hX G R K n x v w q) (l1 l4 : Int32) (l2 : Int64) (F : ((l1 ≤ l4 → Q (some (.int (I (x + 12) 10))) (I, J, R, K, n)) ∧ (¬ (l1 ≤ l4) → zC G d mX1_prepare 0 0 [.ref (x + 28), .ref (x + 12)] (I, J, R, K, n) (fun r h => ∃ (I9 : Nat → Nat → Int32), r = none ∧ h = (I9, J, R, K, n) ∧ zC G d mX11_quarrel 0 0 [.ref (x)] (I9, J, R, K, n) (fun r h => ∃ (I10 : Nat → Nat → Int32) (J11 : Nat → Nat → Int64), r = none ∧ h = (I10, J11, R, K, n) ∧ zC G d mX11_draw 0 0 [.ref (x), .int (9)] (I10, J11, R, K, n) (fun r h => ∃ (x12 : Int32) (I13 : Nat → Nat → Int32) (J14 : Nat → Nat → Int64), r = some (.int x12) ∧ h = (I13, J14, R, K, n) ∧ zC G d mX8_pardon 0 0 [.ref (x + 12), .int (x12)] (I13, J14, R, K, n) (fun r h => ∃ (x15 : Int32) (I16 : Nat → Nat → Int32), r = some (.int x15) ∧ h = (I16, J14, R, K, n) ∧ (∀ I17 : Nat → Nat → Int32, I17 = zU I16 (x + 12) 8 ((if (999 : Int32) < ((I16 (x + 12) 8) + 3) then 999 else (I16 (x + 12) 8) + 3)) → zC G d mX8_wear 0 0 [.ref (x + 12)] (I17, J14, R, K, n) (fun r h => ∃ (I18 : Nat → Nat → Int32), r = none ∧ h = (I18, J14, R, K, n) ∧ zC G d mX1_write 0 0 [.ref (x + 28), .ref (x + 12)] (I18, J14, R, K, n) (fun r h => ∃ (I19 : Nat → Nat → Int32), r = none ∧ h = (I19, J14, R, K, n) ∧ zC G d mX1_close 0 0 [.ref (x + 28)] (I19, J14, R, K, n) (fun r h => ∃ (I20 : Nat → Nat → Int32), r = none ∧ h = (I20, J14, R, K, n) ∧ zV G (d + 1) mX11_years kc ks 43 [(0, .ref (x)), (1, .int (l1)), (2, .long (l2)), (4, .int (l4 + 1))] [] (I20, J14, R, K, n) Q))))))))))) : zV G (d + 1) mX11_years kc ks 43 [(0, .ref (x)), (1, .int (l1)), (2, .long (l2)), (4, .int (l4))] [] (I, J, R, K, n) Q := by
  refine zIload 4 3 45 (by decide +kernel) rfl rfl ?_
  refine zIload_n 1 1 46 (by decide +kernel) rfl rfl ?_
  refine zIcmp_ge 85 131 49 (by decide +kernel) rfl rfl ⟨fun q8 => ?_, fun q8 => ?_⟩
  · replace F := F.1 q8
    refine zAload_n 0 0 132 (by decide +kernel) rfl rfl ?_
    refine gf11_2 28 135 (by decide +kernel) rfl flX11_28 (X_0 S0_) (X_4 S0_) ?_
    refine gf8_10 223 138 (by decide +kernel) rfl flX11_223 (St_0 (Gam_10 (X_15 S0_))) ?_
    exact zIret rfl (by decide +kernel) F
  · replace F := F.2 q8
    refine zAload_n 0 0 50 (by decide +kernel) rfl rfl ?_
    refine gf11_4 38 53 (by decide +kernel) rfl flX11_38 (X_0 S0_) (X_8 S0_) ?_
    refine zAload_n 0 0 54 (by decide +kernel) rfl rfl ?_
    refine gf11_2 28 57 (by decide +kernel) rfl flX11_28 (X_0 S0_) (X_4 S0_) ?_
    refine zCallV 1 zcls1 mX1_prepare 193 1 0 0 _ _ 60 [.ref (x + 12)] [] okX1_prepare mlX11_193 imX1_prepare seX1_prepare (by decide +kernel) rfl rfl (Nat.le_of_ble_eq_true rfl) rfl rfl (His_0 (X_9 S0_)) (zC.mono F ?_)
    rintro _ _ ⟨I9, rfl, rfl, F⟩
    change zV G (d + 1) mX11_years kc ks 60 [(0, .ref (x)), (1, .int (l1)), (2, .long (l2)), (4, .int (l4))] [] (I9, J, R, K, n) Q
    refine zAload_n 0 0 61 (by decide +kernel) rfl rfl ?_
    refine zCallV 11 zcls11 mX11_quarrel 240 0 0 0 _ _ 64 [] [] okX11_quarrel mlX11_240 imX11_quarrel seX11_quarrel (by decide +kernel) rfl rfl (Nat.le_of_ble_eq_true rfl) rfl rfl (X_0 S0_) (zC.mono F ?_)
    rintro _ _ ⟨I10, J11, rfl, rfl, F⟩
    change zV G (d + 1) mX11_years kc ks 64 [(0, .ref (x)), (1, .int (l1)), (2, .long (l2)), (4, .int (l4))] [] (I10, J11, R, K, n) Q
    refine zAload_n 0 0 65 (by decide +kernel) rfl rfl ?_
    refine gf11_2 28 68 (by decide +kernel) rfl flX11_28 (X_0 S0_) (X_4 S0_) ?_
    refine zAload_n 0 0 69 (by decide +kernel) rfl rfl ?_
    refine zBipush 9 9 71 (by decide +kernel) rfl (by decide) ?_
    refine zCallV 11 zcls11 mX11_draw 243 1 0 0 _ _ 74 [.int (9)] [.ref (x + 12)] okX11_draw mlX11_243 imX11_draw seX11_draw (by decide +kernel) rfl rfl (Nat.le_of_ble_eq_true rfl) rfl rfl (X_0 S0_) (zC.mono F ?_)
    rintro _ _ ⟨x12, I13, J14, rfl, rfl, F⟩
    change zV G (d + 1) mX11_years kc ks 74 [(0, .ref (x)), (1, .int (l1)), (2, .long (l2)), (4, .int (l4))] [.int (x12), .ref (x + 12)] (I13, J14, R, K, n) Q
    refine zCallV 8 zcls8 mX8_pardon 196 1 0 0 _ _ 77 [.int (x12)] [] okX8_pardon mlX11_196 imX8_pardon seX8_pardon (by decide +kernel) rfl rfl (Nat.le_of_ble_eq_true rfl) rfl rfl (St_0 (Gam_10 (X_15 S0_))) (zC.mono F ?_)
    rintro _ _ ⟨x15, I16, rfl, rfl, F⟩
    change zV G (d + 1) mX11_years kc ks 77 [(0, .ref (x)), (1, .int (l1)), (2, .long (l2)), (4, .int (l4))] [.int (x15)] (I16, J14, R, K, n) Q
    refine zPop 78 (by decide +kernel) rfl rfl ?_
    refine zAload_n 0 0 79 (by decide +kernel) rfl rfl ?_
    refine gf11_2 28 82 (by decide +kernel) rfl flX11_28 (X_0 S0_) (X_4 S0_) ?_
    refine zAload_n 0 0 83 (by decide +kernel) rfl rfl ?_
    refine gf11_2 28 86 (by decide +kernel) rfl flX11_28 (X_0 S0_) (X_4 S0_) ?_
    refine gf8_8 220 89 (by decide +kernel) rfl flX11_220 (St_0 (Gam_10 (X_15 S0_))) ?_
    refine zIconst 3 3 90 (by decide +kernel) rfl (by decide) ?_
    refine zIadd 91 (by decide +kernel) rfl ?_
    refine zSipush 999 999 94 (by decide +kernel) rfl (by decide) ?_
    refine yMin 246 97 (by decide +kernel) rfl mlX11_246 (Nat.le_of_ble_eq_true rfl) ?_
    refine pf8_8 220 100 (by decide +kernel) rfl flX11_220 (St_0 (Gam_10 (X_15 S0_))) ?_
    replace F := F _ rfl
    generalize zU I16 (x + 12) 8 ((if (999 : Int32) < ((I16 (x + 12) 8) + 3) then 999 else (I16 (x + 12) 8) + 3)) = I17 at F ⊢
    refine zAload_n 0 0 101 (by decide +kernel) rfl rfl ?_
    refine gf11_2 28 104 (by decide +kernel) rfl flX11_28 (X_0 S0_) (X_4 S0_) ?_
    refine zCallV 8 zcls8 mX8_wear 226 0 0 0 _ _ 107 [] [] okX8_wear mlX11_226 imX8_wear seX8_wear (by decide +kernel) rfl rfl (Nat.le_of_ble_eq_true rfl) rfl rfl (St_0 (Gam_10 (X_15 S0_))) (zC.mono F ?_)
    rintro _ _ ⟨I18, rfl, rfl, F⟩
    change zV G (d + 1) mX11_years kc ks 107 [(0, .ref (x)), (1, .int (l1)), (2, .long (l2)), (4, .int (l4))] [] (I18, J14, R, K, n) Q
    refine zAload_n 0 0 108 (by decide +kernel) rfl rfl ?_
    refine gf11_4 38 111 (by decide +kernel) rfl flX11_38 (X_0 S0_) (X_8 S0_) ?_
    refine zAload_n 0 0 112 (by decide +kernel) rfl rfl ?_
    refine gf11_2 28 115 (by decide +kernel) rfl flX11_28 (X_0 S0_) (X_4 S0_) ?_
    refine zCallV 1 zcls1 mX1_write 229 1 0 0 _ _ 118 [.ref (x + 12)] [] okX1_write mlX11_229 imX1_write seX1_write (by decide +kernel) rfl rfl (Nat.le_of_ble_eq_true rfl) rfl rfl (His_0 (X_9 S0_)) (zC.mono F ?_)
    rintro _ _ ⟨I19, rfl, rfl, F⟩
    change zV G (d + 1) mX11_years kc ks 118 [(0, .ref (x)), (1, .int (l1)), (2, .long (l2)), (4, .int (l4))] [] (I19, J14, R, K, n) Q
    refine zAload_n 0 0 119 (by decide +kernel) rfl rfl ?_
    refine gf11_4 38 122 (by decide +kernel) rfl flX11_38 (X_0 S0_) (X_8 S0_) ?_
    refine zCallV 1 zcls1 mX1_close 251 0 0 0 _ _ 125 [] [] okX1_close mlX11_251 imX1_close seX1_close (by decide +kernel) rfl rfl (Nat.le_of_ble_eq_true rfl) rfl rfl (His_0 (X_9 S0_)) (zC.mono F ?_)
    rintro _ _ ⟨I20, rfl, rfl, F⟩
    change zV G (d + 1) mX11_years kc ks 125 [(0, .ref (x)), (1, .int (l1)), (2, .long (l2)), (4, .int (l4))] [] (I20, J14, R, K, n) Q
    refine zIinc 4 1 3 (l4 + 1) [(4, .int (l4 + 1)), (0, .ref (x)), (1, .int (l1)), (2, .long (l2))] 128 (by decide +kernel) rfl rfl (by rfl) (by decide) rfl ?_
    refine zGoto (-85) 43 (by decide +kernel) rfl ?_
    exact zLoc [1, 2, 3, 0] _ rfl F
set_option maxHeartbeats 2000000 in
theorem wX11_undo_0 {G : zG} {d kc ks : Nat} {I : Nat → Nat → Int32} {J : Nat → Nat → Int64} {R : Nat → Nat → Option Nat} {K : Nat → Nat × Nat} {n : Nat} {Q : Option Value → zH → Prop} (x v w q : Nat) (S0_ : hX G R K n x v w q) (F : zC G d mX1_takeBack 0 0 [.ref (x + 28), .ref (x + 12)] (I, J, R, K, n) (fun r h => ∃ (x1 : Int32) (I2 : Nat → Nat → Int32), r = some (.int x1) ∧ h = (I2, J, R, K, n) ∧ Q (some (.int ((if x1 = 0 then (-1) else I2 (x + 28) 0)))) (I2, J, R, K, n))) : zV G (d + 1) mX11_undo kc ks 0 [(0, .ref (x))] [] (I, J, R, K, n) Q := by
  refine zAload_n 0 0 1 (by decide +kernel) rfl rfl ?_
  refine gf11_4 38 4 (by decide +kernel) rfl flX11_38 (X_0 S0_) (X_8 S0_) ?_
  refine zAload_n 0 0 5 (by decide +kernel) rfl rfl ?_
  refine gf11_2 28 8 (by decide +kernel) rfl flX11_28 (X_0 S0_) (X_4 S0_) ?_
  refine zCallV 1 zcls1 mX1_takeBack 254 1 0 0 _ _ 11 [.ref (x + 12)] [] okX1_takeBack mlX11_254 imX1_takeBack seX1_takeBack (by decide +kernel) rfl rfl (Nat.le_of_ble_eq_true rfl) rfl rfl (His_0 (X_9 S0_)) (zC.mono F ?_)
  rintro _ _ ⟨x1, I2, rfl, rfl, F⟩
  change zV G (d + 1) mX11_undo kc ks 11 [(0, .ref (x))] [.int (x1)] (I2, J, R, K, n) Q
  suffices KK : zV G (d + 1) mX11_undo kc ks 25 [(0, .ref (x))] [.int ((if x1 = 0 then (-1) else I2 (x + 28) 0))] (I2, J, R, K, n) Q by
    refine zIf_eq 13 24 14 (by decide +kernel) rfl rfl ⟨fun q3 => ?_, fun q3 => ?_⟩
    · refine zIconst (-1) (-1) 25 (by decide +kernel) rfl (by decide) ?_
      exact zTop (by rw [if_pos q3]) KK
    · refine zAload_n 0 0 15 (by decide +kernel) rfl rfl ?_
      refine gf11_4 38 18 (by decide +kernel) rfl flX11_38 (X_0 S0_) (X_8 S0_) ?_
      refine gf1_0 258 21 (by decide +kernel) rfl flX11_258 (His_0 (X_9 S0_)) ?_
      refine zGoto 4 25 (by decide +kernel) rfl ?_
      exact zTop (by rw [if_neg q3]) KK
  exact zIret rfl (by decide +kernel) F
set_option maxHeartbeats 2000000 in
theorem wX11_log_0 {G : zG} {d kc ks : Nat} {I : Nat → Nat → Int32} {J : Nat → Nat → Int64} {R : Nat → Nat → Option Nat} {K : Nat → Nat × Nat} {n : Nat} {Q : Option Value → zH → Prop} (x v w q : Nat) (S0_ : hX G R K n x v w q) (p1 p2 : Int32) (F : ((p1 < 0 → Q (some (.int ((-1)))) (I, J, R, K, n)) ∧ (¬ (p1 < 0) → zC G d mX1_logLength 0 0 [.ref (x + 12)] (I, J, R, K, n) (fun r h => ∃ (x2 : Int32) (I3 : Nat → Nat → Int32), r = some (.int x2) ∧ h = (I3, J, R, K, n) ∧ ((x2 ≤ p1 → Q (some (.int ((-1)))) (I3, J, R, K, n)) ∧ (¬ (x2 ≤ p1) → ((p2 < 0 → Q (some (.int ((-1)))) (I3, J, R, K, n)) ∧ (¬ (p2 < 0) → ((p2 ≤ 2 → zC G d mX1_logged 0 0 [.ref (x + 28), .int (((I3 (x + 12) 10) - 1) - p1), .int (p2)] (I3, J, R, K, n) (fun r h => ∃ (x7 : Int32) (I8 : Nat → Nat → Int32), r = some (.int x7) ∧ h = (I8, J, R, K, n) ∧ Q (some (.int (x7))) (I8, J, R, K, n))) ∧ (¬ (p2 ≤ 2) → Q (some (.int ((-1)))) (I3, J, R, K, n))))))))))) : zV G (d + 1) mX11_log kc ks 0 [(0, .ref (x)), (1, .int (p1)), (2, .int (p2))] [] (I, J, R, K, n) Q := by
  refine zIload_n 1 1 1 (by decide +kernel) rfl rfl ?_
  refine zIf_lt 23 24 4 (by decide +kernel) rfl rfl ⟨fun q1 => ?_, fun q1 => ?_⟩
  · replace F := F.1 q1
    refine zIconst (-1) (-1) 25 (by decide +kernel) rfl (by decide) ?_
    exact zIret rfl (by decide +kernel) F
  · replace F := F.2 q1
    refine zIload_n 1 1 5 (by decide +kernel) rfl rfl ?_
    refine zAload_n 0 0 6 (by decide +kernel) rfl rfl ?_
    refine gf11_2 28 9 (by decide +kernel) rfl flX11_28 (X_0 S0_) (X_4 S0_) ?_
    refine zCallS mX1_logLength 261 1 0 0 _ _ 12 [.ref (x + 12)] [.int (p1)] okX1_logLength mlX11_261 smX1_logLength (by decide +kernel) rfl rfl (Nat.le_of_ble_eq_true rfl) rfl rfl (zC.mono F ?_)
    rintro _ _ ⟨x2, I3, rfl, rfl, F⟩
    change zV G (d + 1) mX11_log kc ks 12 [(0, .ref (x)), (1, .int (p1)), (2, .int (p2))] [.int (x2), .int (p1)] (I3, J, R, K, n) Q
    refine zIcmp_ge 12 24 15 (by decide +kernel) rfl rfl ⟨fun q4 => ?_, fun q4 => ?_⟩
    · replace F := F.1 q4
      refine zIconst (-1) (-1) 25 (by decide +kernel) rfl (by decide) ?_
      exact zIret rfl (by decide +kernel) F
    · replace F := F.2 q4
      refine zIload_n 2 2 16 (by decide +kernel) rfl rfl ?_
      refine zIf_lt 8 24 19 (by decide +kernel) rfl rfl ⟨fun q5 => ?_, fun q5 => ?_⟩
      · replace F := F.1 q5
        refine zIconst (-1) (-1) 25 (by decide +kernel) rfl (by decide) ?_
        exact zIret rfl (by decide +kernel) F
      · replace F := F.2 q5
        refine zIload_n 2 2 20 (by decide +kernel) rfl rfl ?_
        refine zIconst 2 2 21 (by decide +kernel) rfl (by decide) ?_
        refine zIcmp_le 5 26 24 (by decide +kernel) rfl rfl ⟨fun q6 => ?_, fun q6 => ?_⟩
        · replace F := F.1 q6
          refine zAload_n 0 0 27 (by decide +kernel) rfl rfl ?_
          refine gf11_4 38 30 (by decide +kernel) rfl flX11_38 (X_0 S0_) (X_8 S0_) ?_
          refine zAload_n 0 0 31 (by decide +kernel) rfl rfl ?_
          refine gf11_2 28 34 (by decide +kernel) rfl flX11_28 (X_0 S0_) (X_4 S0_) ?_
          refine gf8_10 223 37 (by decide +kernel) rfl flX11_223 (St_0 (Gam_10 (X_15 S0_))) ?_
          refine zIconst 1 1 38 (by decide +kernel) rfl (by decide) ?_
          refine zIsub 39 (by decide +kernel) rfl ?_
          refine zIload_n 1 1 40 (by decide +kernel) rfl rfl ?_
          refine zIsub 41 (by decide +kernel) rfl ?_
          refine zIload_n 2 2 42 (by decide +kernel) rfl rfl ?_
          refine zCallV 1 zcls1 mX1_logged 265 2 0 0 _ _ 45 [.int (((I3 (x + 12) 10) - 1) - p1), .int (p2)] [] okX1_logged mlX11_265 imX1_logged seX1_logged (by decide +kernel) rfl rfl (Nat.le_of_ble_eq_true rfl) rfl rfl (His_0 (X_9 S0_)) (zC.mono F ?_)
          rintro _ _ ⟨x7, I8, rfl, rfl, F⟩
          change zV G (d + 1) mX11_log kc ks 45 [(0, .ref (x)), (1, .int (p1)), (2, .int (p2))] [.int (x7)] (I8, J, R, K, n) Q
          exact zIret rfl (by decide +kernel) F
        · replace F := F.2 q6
          refine zIconst (-1) (-1) 25 (by decide +kernel) rfl (by decide) ?_
          exact zIret rfl (by decide +kernel) F
set_option maxHeartbeats 2000000 in
theorem wX11_step_0 {G : zG} {d kc ks : Nat} {I : Nat → Nat → Int32} {J : Nat → Nat → Int64} {R : Nat → Nat → Option Nat} {K : Nat → Nat × Nat} {n : Nat} {Q : Option Value → zH → Prop} (x v w q : Nat) (S0_ : hX G R K n x v w q) (p1 p2 p3 : Int32) (F : zC G d mX11_isSpring 0 0 [.ref (x), .int (p1)] (I, J, R, K, n) (fun r h => ∃ (x1 : Int32) (I2 : Nat → Nat → Int32), r = some (.int x1) ∧ h = (I2, J, R, K, n) ∧ ((x1 = 0 → Q (some (.int ((-1000000)))) (I2, J, R, K, n)) ∧ (¬ (x1 = 0) → ((p2 < 0 → Q (some (.int ((-1000000)))) (I2, J, R, K, n)) ∧ (¬ (p2 < 0) → ((vp_in p1 4) ∧ ∃ b6 : Nat, R (x + 100) p1.toNatClampNeg = some b6 ∧ hSpr G R K n b6 ∧ ((p2 < (I2 b6 3 : Int32) → ((p3 = 0 → ((vp_in p1 4) ∧ ∃ b10 : Nat, R (x + 100) p1.toNatClampNeg = some b10 ∧ hSpr G R K n b10 ∧ ((vp_in p2 16) ∧ Q (some (.int (I2 (b10 + 1) p2.toNatClampNeg))) (I2, J, R, K, n)))) ∧ (p3 = 1 → ((vp_in p1 4) ∧ ∃ b14 : Nat, R (x + 100) p1.toNatClampNeg = some b14 ∧ hSpr G R K n b14 ∧ ((vp_in p2 16) ∧ Q (some (.int (I2 (b14 + 2) p2.toNatClampNeg))) (I2, J, R, K, n)))) ∧ (p3 = 2 → ((vp_in p1 4) ∧ ∃ b18 : Nat, R (x + 100) p1.toNatClampNeg = some b18 ∧ hSpr G R K n b18 ∧ ((vp_in p2 16) ∧ Q (some (.int (I2 (b18 + 3) p2.toNatClampNeg))) (I2, J, R, K, n)))) ∧ (¬ p3 = 0 → ¬ p3 = 1 → ¬ p3 = 2 → Q (some (.int ((-1000000)))) (I2, J, R, K, n)))) ∧ (¬ (p2 < (I2 b6 3 : Int32)) → Q (some (.int ((-1000000)))) (I2, J, R, K, n)))))))))) : zV G (d + 1) mX11_step kc ks 0 [(0, .ref (x)), (1, .int (p1)), (2, .int (p2)), (3, .int (p3))] [] (I, J, R, K, n) Q := by
  refine zAload_n 0 0 1 (by decide +kernel) rfl rfl ?_
  refine zIload_n 1 1 2 (by decide +kernel) rfl rfl ?_
  refine zCallV 11 zcls11 mX11_isSpring 268 1 0 0 _ _ 5 [.int (p1)] [] okX11_isSpring mlX11_268 imX11_isSpring seX11_isSpring (by decide +kernel) rfl rfl (Nat.le_of_ble_eq_true rfl) rfl rfl (X_0 S0_) (zC.mono F ?_)
  rintro _ _ ⟨x1, I2, rfl, rfl, F⟩
  change zV G (d + 1) mX11_step kc ks 5 [(0, .ref (x)), (1, .int (p1)), (2, .int (p2)), (3, .int (p3))] [.int (x1)] (I2, J, R, K, n) Q
  refine zIf_eq 20 25 8 (by decide +kernel) rfl rfl ⟨fun q3 => ?_, fun q3 => ?_⟩
  · replace F := F.1 q3
    refine zLdcw 272 (-1000000) 28 (by decide +kernel) rfl kcX11_272 ?_
    exact zIret rfl (by decide +kernel) F
  · replace F := F.2 q3
    refine zIload_n 2 2 9 (by decide +kernel) rfl rfl ?_
    refine zIf_lt 16 25 12 (by decide +kernel) rfl rfl ⟨fun q4 => ?_, fun q4 => ?_⟩
    · replace F := F.1 q4
      refine zLdcw 272 (-1000000) 28 (by decide +kernel) rfl kcX11_272 ?_
      exact zIret rfl (by decide +kernel) F
    · replace F := F.2 q4
      refine zIload_n 2 2 13 (by decide +kernel) rfl rfl ?_
      refine zAload_n 0 0 14 (by decide +kernel) rfl rfl ?_
      refine gf11_10 82 17 (by decide +kernel) rfl flX11_82 (X_0 S0_) (X_20 S0_) ?_
      refine zIload_n 1 1 18 (by decide +kernel) rfl rfl ?_
      obtain ⟨w5, F⟩ := F
      obtain ⟨b6, eb6, Sb6, F⟩ := F
      refine yAaloadS 4 19 (by decide +kernel) rfl (X_21 S0_) (w5) eb6 ?_
      refine gf7_3 271 22 (by decide +kernel) rfl flX11_271 (Spr_0 Sb6) ?_
      refine zIcmp_lt 7 29 25 (by decide +kernel) rfl rfl ⟨fun q7 => ?_, fun q7 => ?_⟩
      · replace F := F.1 q7
        refine zIload_n 3 3 30 (by decide +kernel) rfl rfl ?_
        by_cases q8 : p3 = 0
        · replace F := F.1 q8
          have zt := zEqT q8 (show (0 : Int32).toInt = 0 by decide)
          refine zTableIn 62 0 2 #[26, 38, 50] 26 26 56 (by decide +kernel) (by omega) (by omega) (by rw [zt]; decide) rfl ?_
          refine zAload_n 0 0 57 (by decide +kernel) rfl rfl ?_
          refine gf11_10 82 60 (by decide +kernel) rfl flX11_82 (X_0 S0_) (X_20 S0_) ?_
          refine zIload_n 1 1 61 (by decide +kernel) rfl rfl ?_
          obtain ⟨w9, F⟩ := F
          obtain ⟨b10, eb10, Sb10, F⟩ := F
          refine yAaloadS 4 62 (by decide +kernel) rfl (X_21 S0_) (w9) eb10 ?_
          refine gf7_0 273 65 (by decide +kernel) rfl flX11_273 (Spr_0 Sb10) (Spr_1 Sb10) ?_
          refine zIload_n 2 2 66 (by decide +kernel) rfl rfl ?_
          obtain ⟨w11, F⟩ := F
          refine yIaload 16 67 (by decide +kernel) rfl (Spr_2 Sb10) (w11) ?_
          exact zIret rfl (by decide +kernel) F
        · skip
          by_cases q12 : p3 = 1
          · replace F := F.2.1 q12
            have zt := zEqT q12 (show (1 : Int32).toInt = 1 by decide)
            refine zTableIn 62 0 2 #[26, 38, 50] 26 38 68 (by decide +kernel) (by omega) (by omega) (by rw [zt]; decide) rfl ?_
            refine zAload_n 0 0 69 (by decide +kernel) rfl rfl ?_
            refine gf11_10 82 72 (by decide +kernel) rfl flX11_82 (X_0 S0_) (X_20 S0_) ?_
            refine zIload_n 1 1 73 (by decide +kernel) rfl rfl ?_
            obtain ⟨w13, F⟩ := F
            obtain ⟨b14, eb14, Sb14, F⟩ := F
            refine yAaloadS 4 74 (by decide +kernel) rfl (X_21 S0_) (w13) eb14 ?_
            refine gf7_1 276 77 (by decide +kernel) rfl flX11_276 (Spr_0 Sb14) (Spr_3 Sb14) ?_
            refine zIload_n 2 2 78 (by decide +kernel) rfl rfl ?_
            obtain ⟨w15, F⟩ := F
            refine yIaload 16 79 (by decide +kernel) rfl (Spr_4 Sb14) (w15) ?_
            exact zIret rfl (by decide +kernel) F
          · skip
            by_cases q16 : p3 = 2
            · replace F := F.2.2.1 q16
              have zt := zEqT q16 (show (2 : Int32).toInt = 2 by decide)
              refine zTableIn 62 0 2 #[26, 38, 50] 26 50 80 (by decide +kernel) (by omega) (by omega) (by rw [zt]; decide) rfl ?_
              refine zAload_n 0 0 81 (by decide +kernel) rfl rfl ?_
              refine gf11_10 82 84 (by decide +kernel) rfl flX11_82 (X_0 S0_) (X_20 S0_) ?_
              refine zIload_n 1 1 85 (by decide +kernel) rfl rfl ?_
              obtain ⟨w17, F⟩ := F
              obtain ⟨b18, eb18, Sb18, F⟩ := F
              refine yAaloadS 4 86 (by decide +kernel) rfl (X_21 S0_) (w17) eb18 ?_
              refine gf7_2 279 89 (by decide +kernel) rfl flX11_279 (Spr_0 Sb18) (Spr_5 Sb18) ?_
              refine zIload_n 2 2 90 (by decide +kernel) rfl rfl ?_
              obtain ⟨w19, F⟩ := F
              refine yIaload 16 91 (by decide +kernel) rfl (Spr_6 Sb18) (w19) ?_
              exact zIret rfl (by decide +kernel) F
            · skip
              replace F := F.2.2.2 q8 q12 q16
              have zq8 := zNeT q8 (show (0 : Int32).toInt = 0 by decide)
              have zq12 := zNeT q12 (show (1 : Int32).toInt = 1 by decide)
              have zq16 := zNeT q16 (show (2 : Int32).toInt = 2 by decide)
              refine zTableOut 62 0 2 #[26, 38, 50] 26 92 (by decide +kernel) (by omega) rfl ?_
              refine zLdcw 272 (-1000000) 95 (by decide +kernel) rfl kcX11_272 ?_
              exact zIret rfl (by decide +kernel) F
      · replace F := F.2 q7
        refine zLdcw 272 (-1000000) 28 (by decide +kernel) rfl kcX11_272 ?_
        exact zIret rfl (by decide +kernel) F
set_option maxHeartbeats 2000000 in
theorem wX11_run_0 {G : zG} {d kc ks : Nat} {I : Nat → Nat → Int32} {J : Nat → Nat → Int64} {R : Nat → Nat → Option Nat} {K : Nat → Nat × Nat} {n : Nat} {Q : Option Value → zH → Prop} (x v w q : Nat) (S0_ : hX G R K n x v w q) (p1 p2 : Int32) (F : zC G d mX11_hasVillage 0 0 [.ref (x)] (I, J, R, K, n) (fun r h => ∃ (x1 : Int32) (I2 : Nat → Nat → Int32), r = some (.int x1) ∧ h = (I2, J, R, K, n) ∧ ((x1 = 0 → Q (some (.int ((-1000000)))) (I2, J, R, K, n)) ∧ (¬ (x1 = 0) → zC G d mX11_isSpring 0 0 [.ref (x), .int (p1)] (I2, J, R, K, n) (fun r h => ∃ (x4 : Int32) (I5 : Nat → Nat → Int32), r = some (.int x4) ∧ h = (I5, J, R, K, n) ∧ ((x4 = 0 → Q (some (.int ((-1000000)))) (I5, J, R, K, n)) ∧ (¬ (x4 = 0) → ((p2 < 0 → Q (some (.int ((-1000000)))) (I5, J, R, K, n)) ∧ (¬ (p2 < 0) → ((p2 ≤ 1 → zC G d mX8_copyFrom 0 0 [.ref (x + 20), .ref (x + 12)] (I5, J, R, K, n) (fun r h => ∃ (I9 : Nat → Nat → Int32), r = none ∧ h = (I9, J, R, K, n) ∧ ((vp_in p1 4) ∧ ∃ b11 : Nat, R (x + 100) p1.toNatClampNeg = some b11 ∧ hSpr G R K n b11 ∧ zV G (d + 1) mX11_run kc ks 52 [(0, .ref (x)), (1, .int (p1)), (2, .int (p2)), (3, .ref (b11)), (4, .int (0)), (5, .int (0))] [] (I9, J, R, K, n) Q))) ∧ (¬ (p2 ≤ 1) → Q (some (.int ((-1000000)))) (I5, J, R, K, n)))))))))))) : zV G (d + 1) mX11_run kc ks 0 [(0, .ref (x)), (1, .int (p1)), (2, .int (p2))] [] (I, J, R, K, n) Q := by
  refine zAload_n 0 0 1 (by decide +kernel) rfl rfl ?_
  refine zCallV 11 zcls11 mX11_hasVillage 213 0 0 0 _ _ 4 [] [] okX11_hasVillage mlX11_213 imX11_hasVillage seX11_hasVillage (by decide +kernel) rfl rfl (Nat.le_of_ble_eq_true rfl) rfl rfl (X_0 S0_) (zC.mono F ?_)
  rintro _ _ ⟨x1, I2, rfl, rfl, F⟩
  change zV G (d + 1) mX11_run kc ks 4 [(0, .ref (x)), (1, .int (p1)), (2, .int (p2))] [.int (x1)] (I2, J, R, K, n) Q
  refine zIf_eq 20 24 7 (by decide +kernel) rfl rfl ⟨fun q3 => ?_, fun q3 => ?_⟩
  · replace F := F.1 q3
    refine zLdcw 272 (-1000000) 27 (by decide +kernel) rfl kcX11_272 ?_
    exact zIret rfl (by decide +kernel) F
  · replace F := F.2 q3
    refine zAload_n 0 0 8 (by decide +kernel) rfl rfl ?_
    refine zIload_n 1 1 9 (by decide +kernel) rfl rfl ?_
    refine zCallV 11 zcls11 mX11_isSpring 268 1 0 0 _ _ 12 [.int (p1)] [] okX11_isSpring mlX11_268 imX11_isSpring seX11_isSpring (by decide +kernel) rfl rfl (Nat.le_of_ble_eq_true rfl) rfl rfl (X_0 S0_) (zC.mono F ?_)
    rintro _ _ ⟨x4, I5, rfl, rfl, F⟩
    change zV G (d + 1) mX11_run kc ks 12 [(0, .ref (x)), (1, .int (p1)), (2, .int (p2))] [.int (x4)] (I5, J, R, K, n) Q
    refine zIf_eq 12 24 15 (by decide +kernel) rfl rfl ⟨fun q6 => ?_, fun q6 => ?_⟩
    · replace F := F.1 q6
      refine zLdcw 272 (-1000000) 27 (by decide +kernel) rfl kcX11_272 ?_
      exact zIret rfl (by decide +kernel) F
    · replace F := F.2 q6
      refine zIload_n 2 2 16 (by decide +kernel) rfl rfl ?_
      refine zIf_lt 8 24 19 (by decide +kernel) rfl rfl ⟨fun q7 => ?_, fun q7 => ?_⟩
      · replace F := F.1 q7
        refine zLdcw 272 (-1000000) 27 (by decide +kernel) rfl kcX11_272 ?_
        exact zIret rfl (by decide +kernel) F
      · replace F := F.2 q7
        refine zIload_n 2 2 20 (by decide +kernel) rfl rfl ?_
        refine zIconst 1 1 21 (by decide +kernel) rfl (by decide) ?_
        refine zIcmp_le 7 28 24 (by decide +kernel) rfl rfl ⟨fun q8 => ?_, fun q8 => ?_⟩
        · replace F := F.1 q8
          refine zAload_n 0 0 29 (by decide +kernel) rfl rfl ?_
          refine gf11_3 32 32 (by decide +kernel) rfl flX11_32 (X_0 S0_) (X_6 S0_) ?_
          refine zAload_n 0 0 33 (by decide +kernel) rfl rfl ?_
          refine gf11_2 28 36 (by decide +kernel) rfl flX11_28 (X_0 S0_) (X_4 S0_) ?_
          refine zCallV 8 zcls8 mX8_copyFrom 282 1 0 0 _ _ 39 [.ref (x + 12)] [] okX8_copyFrom mlX11_282 imX8_copyFrom seX8_copyFrom (by decide +kernel) rfl rfl (Nat.le_of_ble_eq_true rfl) rfl rfl (St_0 (Gam_12 (X_15 S0_))) (zC.mono F ?_)
          rintro _ _ ⟨I9, rfl, rfl, F⟩
          change zV G (d + 1) mX11_run kc ks 39 [(0, .ref (x)), (1, .int (p1)), (2, .int (p2))] [] (I9, J, R, K, n) Q
          refine zAload_n 0 0 40 (by decide +kernel) rfl rfl ?_
          refine gf11_10 82 43 (by decide +kernel) rfl flX11_82 (X_0 S0_) (X_20 S0_) ?_
          refine zIload_n 1 1 44 (by decide +kernel) rfl rfl ?_
          obtain ⟨w10, F⟩ := F
          obtain ⟨b11, eb11, Sb11, F⟩ := F
          refine yAaloadS 4 45 (by decide +kernel) rfl (X_21 S0_) (w10) eb11 ?_
          refine zAstore_n 3 [(3, .ref (b11)), (0, .ref (x)), (1, .int (p1)), (2, .int (p2))] 46 (by decide +kernel) rfl (by decide) rfl ?_
          refine zIconst 0 0 47 (by decide +kernel) rfl (by decide) ?_
          refine zIstore 4 [(4, .int (0)), (3, .ref (b11)), (0, .ref (x)), (1, .int (p1)), (2, .int (p2))] 49 (by decide +kernel) rfl (by decide) rfl ?_
          refine zIconst 0 0 50 (by decide +kernel) rfl (by decide) ?_
          refine zIstore 5 [(5, .int (0)), (4, .int (0)), (3, .ref (b11)), (0, .ref (x)), (1, .int (p1)), (2, .int (p2))] 52 (by decide +kernel) rfl (by decide) rfl ?_
          exact zLoc [3, 4, 5, 2, 1, 0] _ rfl F
        · replace F := F.2 q8
          refine zLdcw 272 (-1000000) 27 (by decide +kernel) rfl kcX11_272 ?_
          exact zIret rfl (by decide +kernel) F
set_option maxHeartbeats 2000000 in
theorem wX11_run_52 {G : zG} {d kc ks : Nat} {I : Nat → Nat → Int32} {J : Nat → Nat → Int64} {R : Nat → Nat → Option Nat} {K : Nat → Nat × Nat} {n : Nat} {Q : Option Value → zH → Prop} (x v w q b11 : Nat) (S0_ : hX G R K n x v w q) (Sb11 : hSpr G R K n b11) (l1 l2 l4 l5 : Int32) (F : (((I b11 3 : Int32) ≤ l5 → Q (some (.int ((if l2 = 0 then (-1) else l4)))) (I, J, R, K, n)) ∧ (¬ ((I b11 3 : Int32) ≤ l5) → zC G d mX8_take 0 0 [.ref (x + 20), .ref (b11), .int (l5)] (I, J, R, K, n) (fun r h => ∃ (x14 : Int32) (I15 : Nat → Nat → Int32), r = some (.int x14) ∧ h = (I15, J, R, K, n) ∧ ((x14 = (-1) → Q (some (.int ((if l2 = 0 then l5 else l4)))) (I15, J, R, K, n)) ∧ (¬ (x14 = (-1)) → zV G (d + 1) mX11_run kc ks 52 [(0, .ref (x)), (1, .int (l1)), (2, .int (l2)), (3, .ref (b11)), (4, .int (l4 + x14)), (5, .int (l5 + 1))] [] (I15, J, R, K, n) Q)))))) : zV G (d + 1) mX11_run kc ks 52 [(0, .ref (x)), (1, .int (l1)), (2, .int (l2)), (3, .ref (b11)), (4, .int (l4)), (5, .int (l5))] [] (I, J, R, K, n) Q := by
  refine zIload 5 5 54 (by decide +kernel) rfl rfl ?_
  refine zAload_n 3 3 55 (by decide +kernel) rfl rfl ?_
  refine gf7_3 271 58 (by decide +kernel) rfl flX11_271 (Spr_0 Sb11) ?_
  refine zIcmp_ge 46 104 61 (by decide +kernel) rfl rfl ⟨fun q12 => ?_, fun q12 => ?_⟩
  · replace F := F.1 q12
    refine zIload_n 2 2 105 (by decide +kernel) rfl rfl ?_
    suffices KK : zV G (d + 1) mX11_run kc ks 114 [(0, .ref (x)), (1, .int (l1)), (2, .int (l2)), (3, .ref (b11)), (4, .int (l4)), (5, .int (l5))] [.int ((if l2 = 0 then (-1) else l4))] (I, J, R, K, n) Q by
      refine zIf_ne 7 112 108 (by decide +kernel) rfl rfl ⟨fun q13 => ?_, fun q13 => ?_⟩
      · refine zIload 4 4 114 (by decide +kernel) rfl rfl ?_
        exact zTop (by rw [if_neg q13]) KK
      · refine zIconst (-1) (-1) 109 (by decide +kernel) rfl (by decide) ?_
        refine zGoto 5 114 (by decide +kernel) rfl ?_
        exact zTop (by rw [if_pos q13]) KK
    exact zIret rfl (by decide +kernel) F
  · replace F := F.2 q12
    refine zAload_n 0 0 62 (by decide +kernel) rfl rfl ?_
    refine gf11_3 32 65 (by decide +kernel) rfl flX11_32 (X_0 S0_) (X_6 S0_) ?_
    refine zAload_n 3 3 66 (by decide +kernel) rfl rfl ?_
    refine zIload 5 5 68 (by decide +kernel) rfl rfl ?_
    refine zCallV 8 zcls8 mX8_take 285 2 0 0 _ _ 71 [.ref (b11), .int (l5)] [] okX8_take mlX11_285 imX8_take seX8_take (by decide +kernel) rfl rfl (Nat.le_of_ble_eq_true rfl) rfl rfl (St_0 (Gam_12 (X_15 S0_))) (zC.mono F ?_)
    rintro _ _ ⟨x14, I15, rfl, rfl, F⟩
    change zV G (d + 1) mX11_run kc ks 71 [(0, .ref (x)), (1, .int (l1)), (2, .int (l2)), (3, .ref (b11)), (4, .int (l4)), (5, .int (l5))] [.int (x14)] (I15, J, R, K, n) Q
    refine zIstore 6 [(6, .int (x14)), (0, .ref (x)), (1, .int (l1)), (2, .int (l2)), (3, .ref (b11)), (4, .int (l4)), (5, .int (l5))] 73 (by decide +kernel) rfl (by decide) rfl ?_
    refine zIload 6 0 75 (by decide +kernel) rfl rfl ?_
    refine zIconst (-1) (-1) 76 (by decide +kernel) rfl (by decide) ?_
    refine zIcmp_ne 15 91 79 (by decide +kernel) rfl rfl ⟨fun q16 => ?_, fun q16 => ?_⟩
    · replace F := F.2 q16
      refine zIload 4 5 93 (by decide +kernel) rfl rfl ?_
      refine zIload 6 0 95 (by decide +kernel) rfl rfl ?_
      refine zIadd 96 (by decide +kernel) rfl ?_
      refine zIstore 4 [(4, .int (l4 + x14)), (6, .int (x14)), (0, .ref (x)), (1, .int (l1)), (2, .int (l2)), (3, .ref (b11)), (5, .int (l5))] 98 (by decide +kernel) rfl (by decide) rfl ?_
      refine zIinc 5 1 6 (l5 + 1) [(5, .int (l5 + 1)), (4, .int (l4 + x14)), (6, .int (x14)), (0, .ref (x)), (1, .int (l1)), (2, .int (l2)), (3, .ref (b11))] 101 (by decide +kernel) rfl rfl (by rfl) (by decide) rfl ?_
      refine zGoto (-49) 52 (by decide +kernel) rfl ?_
      exact zLoc [3, 4, 5, 6, 1, 0] _ rfl F
    · replace F := F.1 q16
      refine zIload_n 2 3 80 (by decide +kernel) rfl rfl ?_
      suffices KK : zV G (d + 1) mX11_run kc ks 90 [(6, .int (x14)), (0, .ref (x)), (1, .int (l1)), (2, .int (l2)), (3, .ref (b11)), (4, .int (l4)), (5, .int (l5))] [.int ((if l2 = 0 then l5 else l4))] (I15, J, R, K, n) Q by
        refine zIf_ne 8 88 83 (by decide +kernel) rfl rfl ⟨fun q17 => ?_, fun q17 => ?_⟩
        · refine zIload 4 5 90 (by decide +kernel) rfl rfl ?_
          exact zTop (by rw [if_neg q17]) KK
        · refine zIload 5 6 85 (by decide +kernel) rfl rfl ?_
          refine zGoto 5 90 (by decide +kernel) rfl ?_
          exact zTop (by rw [if_pos q17]) KK
      exact zIret rfl (by decide +kernel) F
set_option maxHeartbeats 2000000 in
theorem wX11_perform_0 {G : zG} {d kc ks : Nat} {I : Nat → Nat → Int32} {J : Nat → Nat → Int64} {R : Nat → Nat → Option Nat} {K : Nat → Nat × Nat} {n : Nat} {Q : Option Value → zH → Prop} (x v w q : Nat) (S0_ : hX G R K n x v w q) (p1 : Int32) (F : zC G d mX11_hasVillage 0 0 [.ref (x)] (I, J, R, K, n) (fun r h => ∃ (x1 : Int32) (I2 : Nat → Nat → Int32), r = some (.int x1) ∧ h = (I2, J, R, K, n) ∧ ((x1 = 0 → Q (some (.int ((-1)))) (I2, J, R, K, n)) ∧ (¬ (x1 = 0) → zC G d mX11_isSpring 0 0 [.ref (x), .int (p1)] (I2, J, R, K, n) (fun r h => ∃ (x4 : Int32) (I5 : Nat → Nat → Int32), r = some (.int x4) ∧ h = (I5, J, R, K, n) ∧ ((x4 = 0 → Q (some (.int ((-1)))) (I5, J, R, K, n)) ∧ (¬ (x4 = 0) → ((vp_in p1 4) ∧ ∃ b8 : Nat, R (x + 100) p1.toNatClampNeg = some b8 ∧ hSpr G R K n b8 ∧ zV G (d + 1) mX11_perform kc ks 26 [(0, .ref (x)), (1, .int (p1)), (2, .ref (b8)), (3, .int (0))] [] (I5, J, R, K, n) Q)))))))) : zV G (d + 1) mX11_perform kc ks 0 [(0, .ref (x)), (1, .int (p1))] [] (I, J, R, K, n) Q := by
  refine zAload_n 0 0 1 (by decide +kernel) rfl rfl ?_
  refine zCallV 11 zcls11 mX11_hasVillage 213 0 0 0 _ _ 4 [] [] okX11_hasVillage mlX11_213 imX11_hasVillage seX11_hasVillage (by decide +kernel) rfl rfl (Nat.le_of_ble_eq_true rfl) rfl rfl (X_0 S0_) (zC.mono F ?_)
  rintro _ _ ⟨x1, I2, rfl, rfl, F⟩
  change zV G (d + 1) mX11_perform kc ks 4 [(0, .ref (x)), (1, .int (p1))] [.int (x1)] (I2, J, R, K, n) Q
  refine zIf_eq 11 15 7 (by decide +kernel) rfl rfl ⟨fun q3 => ?_, fun q3 => ?_⟩
  · replace F := F.1 q3
    refine zIconst (-1) (-1) 16 (by decide +kernel) rfl (by decide) ?_
    exact zIret rfl (by decide +kernel) F
  · replace F := F.2 q3
    refine zAload_n 0 0 8 (by decide +kernel) rfl rfl ?_
    refine zIload_n 1 1 9 (by decide +kernel) rfl rfl ?_
    refine zCallV 11 zcls11 mX11_isSpring 268 1 0 0 _ _ 12 [.int (p1)] [] okX11_isSpring mlX11_268 imX11_isSpring seX11_isSpring (by decide +kernel) rfl rfl (Nat.le_of_ble_eq_true rfl) rfl rfl (X_0 S0_) (zC.mono F ?_)
    rintro _ _ ⟨x4, I5, rfl, rfl, F⟩
    change zV G (d + 1) mX11_perform kc ks 12 [(0, .ref (x)), (1, .int (p1))] [.int (x4)] (I5, J, R, K, n) Q
    refine zIf_ne 5 17 15 (by decide +kernel) rfl rfl ⟨fun q6 => ?_, fun q6 => ?_⟩
    · replace F := F.2 q6
      refine zAload_n 0 0 18 (by decide +kernel) rfl rfl ?_
      refine gf11_10 82 21 (by decide +kernel) rfl flX11_82 (X_0 S0_) (X_20 S0_) ?_
      refine zIload_n 1 1 22 (by decide +kernel) rfl rfl ?_
      obtain ⟨w7, F⟩ := F
      obtain ⟨b8, eb8, Sb8, F⟩ := F
      refine yAaloadS 4 23 (by decide +kernel) rfl (X_21 S0_) (w7) eb8 ?_
      refine zAstore_n 2 [(2, .ref (b8)), (0, .ref (x)), (1, .int (p1))] 24 (by decide +kernel) rfl (by decide) rfl ?_
      refine zIconst 0 0 25 (by decide +kernel) rfl (by decide) ?_
      refine zIstore_n 3 [(3, .int (0)), (2, .ref (b8)), (0, .ref (x)), (1, .int (p1))] 26 (by decide +kernel) rfl (by decide) rfl ?_
      exact zLoc [2, 3, 1, 0] _ rfl F
    · replace F := F.1 q6
      refine zIconst (-1) (-1) 16 (by decide +kernel) rfl (by decide) ?_
      exact zIret rfl (by decide +kernel) F
set_option maxHeartbeats 2000000 in
theorem wX11_perform_26 {G : zG} {d kc ks : Nat} {I : Nat → Nat → Int32} {J : Nat → Nat → Int64} {R : Nat → Nat → Option Nat} {K : Nat → Nat × Nat} {n : Nat} {Q : Option Value → zH → Prop} (x v w q b8 : Nat) (S0_ : hX G R K n x v w q) (Sb8 : hSpr G R K n b8) (l1 l3 : Int32) (F : (((I b8 3 : Int32) ≤ l3 → Q (some (.int (I b8 3))) (I, J, R, K, n)) ∧ (¬ ((I b8 3 : Int32) ≤ l3) → zC G d mX1_prepare 0 0 [.ref (x + 28), .ref (x + 12)] (I, J, R, K, n) (fun r h => ∃ (I10 : Nat → Nat → Int32), r = none ∧ h = (I10, J, R, K, n) ∧ zC G d mX8_take 0 0 [.ref (x + 12), .ref (b8), .int (l3)] (I10, J, R, K, n) (fun r h => ∃ (x11 : Int32) (I12 : Nat → Nat → Int32), r = some (.int x11) ∧ h = (I12, J, R, K, n) ∧ ((x11 = (-1) → Q (some (.int (l3))) (I12, J, R, K, n)) ∧ (¬ (x11 = (-1)) → ((vp_in l3 16) ∧ (((I12 (b8 + 1) l3.toNatClampNeg : Int32) = 3 → zC G d mX1_write 0 0 [.ref (x + 28), .ref (x + 12)] (I12, J, R, K, n) (fun r h => ∃ (I17 : Nat → Nat → Int32), r = none ∧ h = (I17, J, R, K, n) ∧ zC G d mX1_close 0 0 [.ref (x + 28)] (I17, J, R, K, n) (fun r h => ∃ (I18 : Nat → Nat → Int32), r = none ∧ h = (I18, J, R, K, n) ∧ zV G (d + 1) mX11_perform kc ks 26 [(0, .ref (x)), (1, .int (l1)), (2, .ref (b8)), (3, .int (l3 + 1))] [] (I18, J, R, K, n) Q))) ∧ (¬ ((I12 (b8 + 1) l3.toNatClampNeg : Int32) = 3) → zC G d mX1_close 0 0 [.ref (x + 28)] (I12, J, R, K, n) (fun r h => ∃ (I16 : Nat → Nat → Int32), r = none ∧ h = (I16, J, R, K, n) ∧ zV G (d + 1) mX11_perform kc ks 26 [(0, .ref (x)), (1, .int (l1)), (2, .ref (b8)), (3, .int (l3 + 1))] [] (I16, J, R, K, n) Q))))))))))) : zV G (d + 1) mX11_perform kc ks 26 [(0, .ref (x)), (1, .int (l1)), (2, .ref (b8)), (3, .int (l3))] [] (I, J, R, K, n) Q := by
  refine zIload_n 3 3 27 (by decide +kernel) rfl rfl ?_
  refine zAload_n 2 2 28 (by decide +kernel) rfl rfl ?_
  refine gf7_3 271 31 (by decide +kernel) rfl flX11_271 (Spr_0 Sb8) ?_
  refine zIcmp_ge 63 94 34 (by decide +kernel) rfl rfl ⟨fun q9 => ?_, fun q9 => ?_⟩
  · replace F := F.1 q9
    refine zAload_n 2 2 95 (by decide +kernel) rfl rfl ?_
    refine gf7_3 271 98 (by decide +kernel) rfl flX11_271 (Spr_0 Sb8) ?_
    exact zIret rfl (by decide +kernel) F
  · replace F := F.2 q9
    refine zAload_n 0 0 35 (by decide +kernel) rfl rfl ?_
    refine gf11_4 38 38 (by decide +kernel) rfl flX11_38 (X_0 S0_) (X_8 S0_) ?_
    refine zAload_n 0 0 39 (by decide +kernel) rfl rfl ?_
    refine gf11_2 28 42 (by decide +kernel) rfl flX11_28 (X_0 S0_) (X_4 S0_) ?_
    refine zCallV 1 zcls1 mX1_prepare 193 1 0 0 _ _ 45 [.ref (x + 12)] [] okX1_prepare mlX11_193 imX1_prepare seX1_prepare (by decide +kernel) rfl rfl (Nat.le_of_ble_eq_true rfl) rfl rfl (His_0 (X_9 S0_)) (zC.mono F ?_)
    rintro _ _ ⟨I10, rfl, rfl, F⟩
    change zV G (d + 1) mX11_perform kc ks 45 [(0, .ref (x)), (1, .int (l1)), (2, .ref (b8)), (3, .int (l3))] [] (I10, J, R, K, n) Q
    refine zAload_n 0 0 46 (by decide +kernel) rfl rfl ?_
    refine gf11_2 28 49 (by decide +kernel) rfl flX11_28 (X_0 S0_) (X_4 S0_) ?_
    refine zAload_n 2 2 50 (by decide +kernel) rfl rfl ?_
    refine zIload_n 3 3 51 (by decide +kernel) rfl rfl ?_
    refine zCallV 8 zcls8 mX8_take 285 2 0 0 _ _ 54 [.ref (b8), .int (l3)] [] okX8_take mlX11_285 imX8_take seX8_take (by decide +kernel) rfl rfl (Nat.le_of_ble_eq_true rfl) rfl rfl (St_0 (Gam_10 (X_15 S0_))) (zC.mono F ?_)
    rintro _ _ ⟨x11, I12, rfl, rfl, F⟩
    change zV G (d + 1) mX11_perform kc ks 54 [(0, .ref (x)), (1, .int (l1)), (2, .ref (b8)), (3, .int (l3))] [.int (x11)] (I12, J, R, K, n) Q
    refine zIconst (-1) (-1) 55 (by decide +kernel) rfl (by decide) ?_
    refine zIcmp_ne 5 60 58 (by decide +kernel) rfl rfl ⟨fun q13 => ?_, fun q13 => ?_⟩
    · replace F := F.2 q13
      refine zAload_n 2 2 61 (by decide +kernel) rfl rfl ?_
      refine gf7_0 273 64 (by decide +kernel) rfl flX11_273 (Spr_0 Sb8) (Spr_1 Sb8) ?_
      refine zIload_n 3 3 65 (by decide +kernel) rfl rfl ?_
      obtain ⟨w14, F⟩ := F
      refine yIaload 16 66 (by decide +kernel) rfl (Spr_2 Sb8) (w14) ?_
      refine zIconst 3 3 67 (by decide +kernel) rfl (by decide) ?_
      refine zIcmp_ne 14 81 70 (by decide +kernel) rfl rfl ⟨fun q15 => ?_, fun q15 => ?_⟩
      · replace F := F.2 q15
        refine zAload_n 0 0 82 (by decide +kernel) rfl rfl ?_
        refine gf11_4 38 85 (by decide +kernel) rfl flX11_38 (X_0 S0_) (X_8 S0_) ?_
        refine zCallV 1 zcls1 mX1_close 251 0 0 0 _ _ 88 [] [] okX1_close mlX11_251 imX1_close seX1_close (by decide +kernel) rfl rfl (Nat.le_of_ble_eq_true rfl) rfl rfl (His_0 (X_9 S0_)) (zC.mono F ?_)
        rintro _ _ ⟨I16, rfl, rfl, F⟩
        change zV G (d + 1) mX11_perform kc ks 88 [(0, .ref (x)), (1, .int (l1)), (2, .ref (b8)), (3, .int (l3))] [] (I16, J, R, K, n) Q
        refine zIinc 3 1 3 (l3 + 1) [(3, .int (l3 + 1)), (0, .ref (x)), (1, .int (l1)), (2, .ref (b8))] 91 (by decide +kernel) rfl rfl (by rfl) (by decide) rfl ?_
        refine zGoto (-65) 26 (by decide +kernel) rfl ?_
        exact zLoc [1, 2, 3, 0] _ rfl F
      · replace F := F.1 q15
        refine zAload_n 0 0 71 (by decide +kernel) rfl rfl ?_
        refine gf11_4 38 74 (by decide +kernel) rfl flX11_38 (X_0 S0_) (X_8 S0_) ?_
        refine zAload_n 0 0 75 (by decide +kernel) rfl rfl ?_
        refine gf11_2 28 78 (by decide +kernel) rfl flX11_28 (X_0 S0_) (X_4 S0_) ?_
        refine zCallV 1 zcls1 mX1_write 229 1 0 0 _ _ 81 [.ref (x + 12)] [] okX1_write mlX11_229 imX1_write seX1_write (by decide +kernel) rfl rfl (Nat.le_of_ble_eq_true rfl) rfl rfl (His_0 (X_9 S0_)) (zC.mono F ?_)
        rintro _ _ ⟨I17, rfl, rfl, F⟩
        change zV G (d + 1) mX11_perform kc ks 81 [(0, .ref (x)), (1, .int (l1)), (2, .ref (b8)), (3, .int (l3))] [] (I17, J, R, K, n) Q
        refine zAload_n 0 0 82 (by decide +kernel) rfl rfl ?_
        refine gf11_4 38 85 (by decide +kernel) rfl flX11_38 (X_0 S0_) (X_8 S0_) ?_
        refine zCallV 1 zcls1 mX1_close 251 0 0 0 _ _ 88 [] [] okX1_close mlX11_251 imX1_close seX1_close (by decide +kernel) rfl rfl (Nat.le_of_ble_eq_true rfl) rfl rfl (His_0 (X_9 S0_)) (zC.mono F ?_)
        rintro _ _ ⟨I18, rfl, rfl, F⟩
        change zV G (d + 1) mX11_perform kc ks 88 [(0, .ref (x)), (1, .int (l1)), (2, .ref (b8)), (3, .int (l3))] [] (I18, J, R, K, n) Q
        refine zIinc 3 1 3 (l3 + 1) [(3, .int (l3 + 1)), (0, .ref (x)), (1, .int (l1)), (2, .ref (b8))] 91 (by decide +kernel) rfl rfl (by rfl) (by decide) rfl ?_
        refine zGoto (-65) 26 (by decide +kernel) rfl ?_
        exact zLoc [1, 2, 3, 0] _ rfl F
    · replace F := F.1 q13
      refine zIload_n 3 3 59 (by decide +kernel) rfl rfl ?_
      exact zIret rfl (by decide +kernel) F
set_option maxHeartbeats 2000000 in
theorem wX11_least_0 {G : zG} {d kc ks : Nat} {I : Nat → Nat → Int32} {J : Nat → Nat → Int64} {R : Nat → Nat → Option Nat} {K : Nat → Nat × Nat} {n : Nat} {Q : Option Value → zH → Prop} (x v w q : Nat) (S0_ : hX G R K n x v w q) (p1 p2 : Int32) (F : zC G d mX11_isFarm 0 0 [.ref (x), .int (p1)] (I, J, R, K, n) (fun r h => ∃ (x1 : Int32) (I2 : Nat → Nat → Int32), r = some (.int x1) ∧ h = (I2, J, R, K, n) ∧ ((x1 = 0 → Q (some (.int ((-1)))) (I2, J, R, K, n)) ∧ (¬ (x1 = 0) → ((p2 < 0 → Q (some (.int ((-1)))) (I2, J, R, K, n)) ∧ (¬ (p2 < 0) → ((p2 ≤ 1 → zC G d mX8_copyFrom 0 0 [.ref (x + 20), .ref (x + 12)] (I2, J, R, K, n) (fun r h => ∃ (I6 : Nat → Nat → Int32), r = none ∧ h = (I6, J, R, K, n) ∧ zC G d mX8_doneTo 0 0 [.ref (x + 20), .int (p1)] (I6, J, R, K, n) (fun r h => ∃ (x7 : Int32) (I8 : Nat → Nat → Int32), r = some (.int x7) ∧ h = (I8, J, R, K, n) ∧ zC G d mX4_whiten 0 0 [.ref (x + 80), .int (x7), .int ((1 : Int32) <<< (p1 &&& 31))] (I8, J, R, K, n) (fun r h => ∃ (I9 : Nat → Nat → Int32), r = none ∧ h = (I9, J, R, K, n) ∧ Q (some (.int ((if p2 = 0 then I9 (x + 80) 0 else I9 (x + 80) 1)))) (I9, J, R, K, n))))) ∧ (¬ (p2 ≤ 1) → Q (some (.int ((-1)))) (I2, J, R, K, n))))))))) : zV G (d + 1) mX11_least kc ks 0 [(0, .ref (x)), (1, .int (p1)), (2, .int (p2))] [] (I, J, R, K, n) Q := by
  refine zAload_n 0 0 1 (by decide +kernel) rfl rfl ?_
  refine zIload_n 1 1 2 (by decide +kernel) rfl rfl ?_
  refine zCallV 11 zcls11 mX11_isFarm 146 1 0 0 _ _ 5 [.int (p1)] [] okX11_isFarm mlX11_146 imX11_isFarm seX11_isFarm (by decide +kernel) rfl rfl (Nat.le_of_ble_eq_true rfl) rfl rfl (X_0 S0_) (zC.mono F ?_)
  rintro _ _ ⟨x1, I2, rfl, rfl, F⟩
  change zV G (d + 1) mX11_least kc ks 5 [(0, .ref (x)), (1, .int (p1)), (2, .int (p2))] [.int (x1)] (I2, J, R, K, n) Q
  refine zIf_eq 12 17 8 (by decide +kernel) rfl rfl ⟨fun q3 => ?_, fun q3 => ?_⟩
  · replace F := F.1 q3
    refine zIconst (-1) (-1) 18 (by decide +kernel) rfl (by decide) ?_
    exact zIret rfl (by decide +kernel) F
  · replace F := F.2 q3
    refine zIload_n 2 2 9 (by decide +kernel) rfl rfl ?_
    refine zIf_lt 8 17 12 (by decide +kernel) rfl rfl ⟨fun q4 => ?_, fun q4 => ?_⟩
    · replace F := F.1 q4
      refine zIconst (-1) (-1) 18 (by decide +kernel) rfl (by decide) ?_
      exact zIret rfl (by decide +kernel) F
    · replace F := F.2 q4
      refine zIload_n 2 2 13 (by decide +kernel) rfl rfl ?_
      refine zIconst 1 1 14 (by decide +kernel) rfl (by decide) ?_
      refine zIcmp_le 5 19 17 (by decide +kernel) rfl rfl ⟨fun q5 => ?_, fun q5 => ?_⟩
      · replace F := F.1 q5
        refine zAload_n 0 0 20 (by decide +kernel) rfl rfl ?_
        refine gf11_3 32 23 (by decide +kernel) rfl flX11_32 (X_0 S0_) (X_6 S0_) ?_
        refine zAload_n 0 0 24 (by decide +kernel) rfl rfl ?_
        refine gf11_2 28 27 (by decide +kernel) rfl flX11_28 (X_0 S0_) (X_4 S0_) ?_
        refine zCallV 8 zcls8 mX8_copyFrom 282 1 0 0 _ _ 30 [.ref (x + 12)] [] okX8_copyFrom mlX11_282 imX8_copyFrom seX8_copyFrom (by decide +kernel) rfl rfl (Nat.le_of_ble_eq_true rfl) rfl rfl (St_0 (Gam_12 (X_15 S0_))) (zC.mono F ?_)
        rintro _ _ ⟨I6, rfl, rfl, F⟩
        change zV G (d + 1) mX11_least kc ks 30 [(0, .ref (x)), (1, .int (p1)), (2, .int (p2))] [] (I6, J, R, K, n) Q
        refine zAload_n 0 0 31 (by decide +kernel) rfl rfl ?_
        refine gf11_5 47 34 (by decide +kernel) rfl flX11_47 (X_0 S0_) (X_10 S0_) ?_
        refine zAload_n 0 0 35 (by decide +kernel) rfl rfl ?_
        refine gf11_3 32 38 (by decide +kernel) rfl flX11_32 (X_0 S0_) (X_6 S0_) ?_
        refine zIload_n 1 1 39 (by decide +kernel) rfl rfl ?_
        refine zCallV 8 zcls8 mX8_doneTo 289 1 0 0 _ _ 42 [.int (p1)] [.ref (x + 80)] okX8_doneTo mlX11_289 imX8_doneTo seX8_doneTo (by decide +kernel) rfl rfl (Nat.le_of_ble_eq_true rfl) rfl rfl (St_0 (Gam_12 (X_15 S0_))) (zC.mono F ?_)
        rintro _ _ ⟨x7, I8, rfl, rfl, F⟩
        change zV G (d + 1) mX11_least kc ks 42 [(0, .ref (x)), (1, .int (p1)), (2, .int (p2))] [.int (x7), .ref (x + 80)] (I8, J, R, K, n) Q
        refine zIconst 1 1 43 (by decide +kernel) rfl (by decide) ?_
        refine zIload_n 1 1 44 (by decide +kernel) rfl rfl ?_
        refine zIshl 45 (by decide +kernel) rfl ?_
        refine zCallV 4 zcls4 mX4_whiten 292 2 0 0 _ _ 48 [.int (x7), .int ((1 : Int32) <<< (p1 &&& 31))] [] okX4_whiten mlX11_292 imX4_whiten seX4_whiten (by decide +kernel) rfl rfl (Nat.le_of_ble_eq_true rfl) rfl rfl (Sea_0 (X_11 S0_)) (zC.mono F ?_)
        rintro _ _ ⟨I9, rfl, rfl, F⟩
        change zV G (d + 1) mX11_least kc ks 48 [(0, .ref (x)), (1, .int (p1)), (2, .int (p2))] [] (I9, J, R, K, n) Q
        refine zIload_n 2 2 49 (by decide +kernel) rfl rfl ?_
        suffices KK : zV G (d + 1) mX11_least kc ks 69 [(0, .ref (x)), (1, .int (p1)), (2, .int (p2))] [.int ((if p2 = 0 then I9 (x + 80) 0 else I9 (x + 80) 1))] (I9, J, R, K, n) Q by
          refine zIf_ne 13 62 52 (by decide +kernel) rfl rfl ⟨fun q10 => ?_, fun q10 => ?_⟩
          · refine zAload_n 0 0 63 (by decide +kernel) rfl rfl ?_
            refine gf11_5 47 66 (by decide +kernel) rfl flX11_47 (X_0 S0_) (X_10 S0_) ?_
            refine gf4_1 299 69 (by decide +kernel) rfl flX11_299 (Sea_0 (X_11 S0_)) ?_
            exact zTop (by rw [if_neg q10]) KK
          · refine zAload_n 0 0 53 (by decide +kernel) rfl rfl ?_
            refine gf11_5 47 56 (by decide +kernel) rfl flX11_47 (X_0 S0_) (X_10 S0_) ?_
            refine gf4_0 296 59 (by decide +kernel) rfl flX11_296 (Sea_0 (X_11 S0_)) ?_
            refine zGoto 10 69 (by decide +kernel) rfl ?_
            exact zTop (by rw [if_pos q10]) KK
        exact zIret rfl (by decide +kernel) F
      · replace F := F.2 q5
        refine zIconst (-1) (-1) 18 (by decide +kernel) rfl (by decide) ?_
        exact zIret rfl (by decide +kernel) F
set_option maxHeartbeats 2000000 in
theorem wX11_every_0 {G : zG} {d kc ks : Nat} {I : Nat → Nat → Int32} {J : Nat → Nat → Int64} {R : Nat → Nat → Option Nat} {K : Nat → Nat × Nat} {n : Nat} {Q : Option Value → zH → Prop} (x v w q : Nat) (S0_ : hX G R K n x v w q) (p1 : Int32) (F : zC G d mX11_hasVillage 0 0 [.ref (x)] (I, J, R, K, n) (fun r h => ∃ (x1 : Int32) (I2 : Nat → Nat → Int32), r = some (.int x1) ∧ h = (I2, J, R, K, n) ∧ ((x1 = 0 → Q (some (.int ((-1)))) (I2, J, R, K, n)) ∧ (¬ (x1 = 0) → ((p1 < 0 → Q (some (.int ((-1)))) (I2, J, R, K, n)) ∧ (¬ (p1 < 0) → ((p1 ≤ 1 → zC G d mX8_copyFrom 0 0 [.ref (x + 20), .ref (x + 12)] (I2, J, R, K, n) (fun r h => ∃ (I6 : Nat → Nat → Int32), r = none ∧ h = (I6, J, R, K, n) ∧ zC G d mX8_opens 0 0 [.ref (x + 20)] (I6, J, R, K, n) (fun r h => ∃ (x7 : Int32) (I8 : Nat → Nat → Int32), r = some (.int x7) ∧ h = (I8, J, R, K, n) ∧ zC G d mX4_whiten 0 0 [.ref (x + 80), .int (x7), .int (((1 : Int32) <<< ((I8 v 5 : Int32) &&& 31)) - 1)] (I8, J, R, K, n) (fun r h => ∃ (I9 : Nat → Nat → Int32), r = none ∧ h = (I9, J, R, K, n) ∧ Q (some (.int ((if p1 = 0 then I9 (x + 80) 0 else I9 (x + 80) 1)))) (I9, J, R, K, n))))) ∧ (¬ (p1 ≤ 1) → Q (some (.int ((-1)))) (I2, J, R, K, n))))))))) : zV G (d + 1) mX11_every kc ks 0 [(0, .ref (x)), (1, .int (p1))] [] (I, J, R, K, n) Q := by
  refine zAload_n 0 0 1 (by decide +kernel) rfl rfl ?_
  refine zCallV 11 zcls11 mX11_hasVillage 213 0 0 0 _ _ 4 [] [] okX11_hasVillage mlX11_213 imX11_hasVillage seX11_hasVillage (by decide +kernel) rfl rfl (Nat.le_of_ble_eq_true rfl) rfl rfl (X_0 S0_) (zC.mono F ?_)
  rintro _ _ ⟨x1, I2, rfl, rfl, F⟩
  change zV G (d + 1) mX11_every kc ks 4 [(0, .ref (x)), (1, .int (p1))] [.int (x1)] (I2, J, R, K, n) Q
  refine zIf_eq 12 16 7 (by decide +kernel) rfl rfl ⟨fun q3 => ?_, fun q3 => ?_⟩
  · replace F := F.1 q3
    refine zIconst (-1) (-1) 17 (by decide +kernel) rfl (by decide) ?_
    exact zIret rfl (by decide +kernel) F
  · replace F := F.2 q3
    refine zIload_n 1 1 8 (by decide +kernel) rfl rfl ?_
    refine zIf_lt 8 16 11 (by decide +kernel) rfl rfl ⟨fun q4 => ?_, fun q4 => ?_⟩
    · replace F := F.1 q4
      refine zIconst (-1) (-1) 17 (by decide +kernel) rfl (by decide) ?_
      exact zIret rfl (by decide +kernel) F
    · replace F := F.2 q4
      refine zIload_n 1 1 12 (by decide +kernel) rfl rfl ?_
      refine zIconst 1 1 13 (by decide +kernel) rfl (by decide) ?_
      refine zIcmp_le 5 18 16 (by decide +kernel) rfl rfl ⟨fun q5 => ?_, fun q5 => ?_⟩
      · replace F := F.1 q5
        refine zAload_n 0 0 19 (by decide +kernel) rfl rfl ?_
        refine gf11_3 32 22 (by decide +kernel) rfl flX11_32 (X_0 S0_) (X_6 S0_) ?_
        refine zAload_n 0 0 23 (by decide +kernel) rfl rfl ?_
        refine gf11_2 28 26 (by decide +kernel) rfl flX11_28 (X_0 S0_) (X_4 S0_) ?_
        refine zCallV 8 zcls8 mX8_copyFrom 282 1 0 0 _ _ 29 [.ref (x + 12)] [] okX8_copyFrom mlX11_282 imX8_copyFrom seX8_copyFrom (by decide +kernel) rfl rfl (Nat.le_of_ble_eq_true rfl) rfl rfl (St_0 (Gam_12 (X_15 S0_))) (zC.mono F ?_)
        rintro _ _ ⟨I6, rfl, rfl, F⟩
        change zV G (d + 1) mX11_every kc ks 29 [(0, .ref (x)), (1, .int (p1))] [] (I6, J, R, K, n) Q
        refine zAload_n 0 0 30 (by decide +kernel) rfl rfl ?_
        refine gf11_5 47 33 (by decide +kernel) rfl flX11_47 (X_0 S0_) (X_10 S0_) ?_
        refine zAload_n 0 0 34 (by decide +kernel) rfl rfl ?_
        refine gf11_3 32 37 (by decide +kernel) rfl flX11_32 (X_0 S0_) (X_6 S0_) ?_
        refine zCallV 8 zcls8 mX8_opens 300 0 0 0 _ _ 40 [] [.ref (x + 80)] okX8_opens mlX11_300 imX8_opens seX8_opens (by decide +kernel) rfl rfl (Nat.le_of_ble_eq_true rfl) rfl rfl (St_0 (Gam_12 (X_15 S0_))) (zC.mono F ?_)
        rintro _ _ ⟨x7, I8, rfl, rfl, F⟩
        change zV G (d + 1) mX11_every kc ks 40 [(0, .ref (x)), (1, .int (p1))] [.int (x7), .ref (x + 80)] (I8, J, R, K, n) Q
        refine zIconst 1 1 41 (by decide +kernel) rfl (by decide) ?_
        refine zAload_n 0 0 42 (by decide +kernel) rfl rfl ?_
        refine gf11_1 19 45 (by decide +kernel) rfl flX11_19 (X_0 S0_) (X_3 S0_) ?_
        refine gf5_0 152 48 (by decide +kernel) rfl flX11_152 (Set_0 (X_26 S0_)) (Set_1 (X_26 S0_)) ?_
        refine gf10_5 303 51 (by decide +kernel) rfl flX11_303 (Vil_0 (Set_2 (X_26 S0_))) ?_
        refine zIshl 52 (by decide +kernel) rfl ?_
        refine zIconst 1 1 53 (by decide +kernel) rfl (by decide) ?_
        refine zIsub 54 (by decide +kernel) rfl ?_
        refine zCallV 4 zcls4 mX4_whiten 292 2 0 0 _ _ 57 [.int (x7), .int (((1 : Int32) <<< ((I8 v 5 : Int32) &&& 31)) - 1)] [] okX4_whiten mlX11_292 imX4_whiten seX4_whiten (by decide +kernel) rfl rfl (Nat.le_of_ble_eq_true rfl) rfl rfl (Sea_0 (X_11 S0_)) (zC.mono F ?_)
        rintro _ _ ⟨I9, rfl, rfl, F⟩
        change zV G (d + 1) mX11_every kc ks 57 [(0, .ref (x)), (1, .int (p1))] [] (I9, J, R, K, n) Q
        refine zIload_n 1 1 58 (by decide +kernel) rfl rfl ?_
        suffices KK : zV G (d + 1) mX11_every kc ks 78 [(0, .ref (x)), (1, .int (p1))] [.int ((if p1 = 0 then I9 (x + 80) 0 else I9 (x + 80) 1))] (I9, J, R, K, n) Q by
          refine zIf_ne 13 71 61 (by decide +kernel) rfl rfl ⟨fun q10 => ?_, fun q10 => ?_⟩
          · refine zAload_n 0 0 72 (by decide +kernel) rfl rfl ?_
            refine gf11_5 47 75 (by decide +kernel) rfl flX11_47 (X_0 S0_) (X_10 S0_) ?_
            refine gf4_1 299 78 (by decide +kernel) rfl flX11_299 (Sea_0 (X_11 S0_)) ?_
            exact zTop (by rw [if_neg q10]) KK
          · refine zAload_n 0 0 62 (by decide +kernel) rfl rfl ?_
            refine gf11_5 47 65 (by decide +kernel) rfl flX11_47 (X_0 S0_) (X_10 S0_) ?_
            refine gf4_0 296 68 (by decide +kernel) rfl flX11_296 (Sea_0 (X_11 S0_)) ?_
            refine zGoto 10 78 (by decide +kernel) rfl ?_
            exact zTop (by rw [if_pos q10]) KK
        exact zIret rfl (by decide +kernel) F
      · replace F := F.2 q5
        refine zIconst (-1) (-1) 17 (by decide +kernel) rfl (by decide) ?_
        exact zIret rfl (by decide +kernel) F
set_option maxHeartbeats 2000000 in
theorem wX11_richest_0 {G : zG} {d kc ks : Nat} {I : Nat → Nat → Int32} {J : Nat → Nat → Int64} {R : Nat → Nat → Option Nat} {K : Nat → Nat × Nat} {n : Nat} {Q : Option Value → zH → Prop} (x v w q : Nat) (S0_ : hX G R K n x v w q) (p1 p2 : Int32) (F : zC G d mX11_hasVillage 0 0 [.ref (x)] (I, J, R, K, n) (fun r h => ∃ (x1 : Int32) (I2 : Nat → Nat → Int32), r = some (.int x1) ∧ h = (I2, J, R, K, n) ∧ ((x1 = 0 → Q (some (.int ((-1)))) (I2, J, R, K, n)) ∧ (¬ (x1 = 0) → ((p1 < 0 → Q (some (.int ((-1)))) (I2, J, R, K, n)) ∧ (¬ (p1 < 0) → ((9 < p1 → Q (some (.int ((-1)))) (I2, J, R, K, n)) ∧ (¬ (9 < p1) → ((p2 < 0 → Q (some (.int ((-1)))) (I2, J, R, K, n)) ∧ (¬ (p2 < 0) → ((p2 ≤ 1 → zC G d mX8_copyFrom 0 0 [.ref (x + 20), .ref (x + 12)] (I2, J, R, K, n) (fun r h => ∃ (I8 : Nat → Nat → Int32), r = none ∧ h = (I8, J, R, K, n) ∧ zC G d mX4_enrich 0 0 [.ref (x + 80), .int (p1)] (I8, J, R, K, n) (fun r h => ∃ (I9 : Nat → Nat → Int32), r = none ∧ h = (I9, J, R, K, n) ∧ Q (some (.int ((if p2 = 0 then I9 (x + 80) 0 else I9 (x + 80) 2)))) (I9, J, R, K, n)))) ∧ (¬ (p2 ≤ 1) → Q (some (.int ((-1)))) (I2, J, R, K, n))))))))))))) : zV G (d + 1) mX11_richest kc ks 0 [(0, .ref (x)), (1, .int (p1)), (2, .int (p2))] [] (I, J, R, K, n) Q := by
  refine zAload_n 0 0 1 (by decide +kernel) rfl rfl ?_
  refine zCallV 11 zcls11 mX11_hasVillage 213 0 0 0 _ _ 4 [] [] okX11_hasVillage mlX11_213 imX11_hasVillage seX11_hasVillage (by decide +kernel) rfl rfl (Nat.le_of_ble_eq_true rfl) rfl rfl (X_0 S0_) (zC.mono F ?_)
  rintro _ _ ⟨x1, I2, rfl, rfl, F⟩
  change zV G (d + 1) mX11_richest kc ks 4 [(0, .ref (x)), (1, .int (p1)), (2, .int (p2))] [.int (x1)] (I2, J, R, K, n) Q
  refine zIf_eq 22 26 7 (by decide +kernel) rfl rfl ⟨fun q3 => ?_, fun q3 => ?_⟩
  · replace F := F.1 q3
    refine zIconst (-1) (-1) 27 (by decide +kernel) rfl (by decide) ?_
    exact zIret rfl (by decide +kernel) F
  · replace F := F.2 q3
    refine zIload_n 1 1 8 (by decide +kernel) rfl rfl ?_
    refine zIf_lt 18 26 11 (by decide +kernel) rfl rfl ⟨fun q4 => ?_, fun q4 => ?_⟩
    · replace F := F.1 q4
      refine zIconst (-1) (-1) 27 (by decide +kernel) rfl (by decide) ?_
      exact zIret rfl (by decide +kernel) F
    · replace F := F.2 q4
      refine zIload_n 1 1 12 (by decide +kernel) rfl rfl ?_
      refine zBipush 9 9 14 (by decide +kernel) rfl (by decide) ?_
      refine zIcmp_gt 12 26 17 (by decide +kernel) rfl rfl ⟨fun q5 => ?_, fun q5 => ?_⟩
      · replace F := F.1 q5
        refine zIconst (-1) (-1) 27 (by decide +kernel) rfl (by decide) ?_
        exact zIret rfl (by decide +kernel) F
      · replace F := F.2 q5
        refine zIload_n 2 2 18 (by decide +kernel) rfl rfl ?_
        refine zIf_lt 8 26 21 (by decide +kernel) rfl rfl ⟨fun q6 => ?_, fun q6 => ?_⟩
        · replace F := F.1 q6
          refine zIconst (-1) (-1) 27 (by decide +kernel) rfl (by decide) ?_
          exact zIret rfl (by decide +kernel) F
        · replace F := F.2 q6
          refine zIload_n 2 2 22 (by decide +kernel) rfl rfl ?_
          refine zIconst 1 1 23 (by decide +kernel) rfl (by decide) ?_
          refine zIcmp_le 5 28 26 (by decide +kernel) rfl rfl ⟨fun q7 => ?_, fun q7 => ?_⟩
          · replace F := F.1 q7
            refine zAload_n 0 0 29 (by decide +kernel) rfl rfl ?_
            refine gf11_3 32 32 (by decide +kernel) rfl flX11_32 (X_0 S0_) (X_6 S0_) ?_
            refine zAload_n 0 0 33 (by decide +kernel) rfl rfl ?_
            refine gf11_2 28 36 (by decide +kernel) rfl flX11_28 (X_0 S0_) (X_4 S0_) ?_
            refine zCallV 8 zcls8 mX8_copyFrom 282 1 0 0 _ _ 39 [.ref (x + 12)] [] okX8_copyFrom mlX11_282 imX8_copyFrom seX8_copyFrom (by decide +kernel) rfl rfl (Nat.le_of_ble_eq_true rfl) rfl rfl (St_0 (Gam_12 (X_15 S0_))) (zC.mono F ?_)
            rintro _ _ ⟨I8, rfl, rfl, F⟩
            change zV G (d + 1) mX11_richest kc ks 39 [(0, .ref (x)), (1, .int (p1)), (2, .int (p2))] [] (I8, J, R, K, n) Q
            refine zAload_n 0 0 40 (by decide +kernel) rfl rfl ?_
            refine gf11_5 47 43 (by decide +kernel) rfl flX11_47 (X_0 S0_) (X_10 S0_) ?_
            refine zIload_n 1 1 44 (by decide +kernel) rfl rfl ?_
            refine zCallV 4 zcls4 mX4_enrich 306 1 0 0 _ _ 47 [.int (p1)] [] okX4_enrich mlX11_306 imX4_enrich seX4_enrich (by decide +kernel) rfl rfl (Nat.le_of_ble_eq_true rfl) rfl rfl (Sea_0 (X_11 S0_)) (zC.mono F ?_)
            rintro _ _ ⟨I9, rfl, rfl, F⟩
            change zV G (d + 1) mX11_richest kc ks 47 [(0, .ref (x)), (1, .int (p1)), (2, .int (p2))] [] (I9, J, R, K, n) Q
            refine zIload_n 2 2 48 (by decide +kernel) rfl rfl ?_
            suffices KK : zV G (d + 1) mX11_richest kc ks 68 [(0, .ref (x)), (1, .int (p1)), (2, .int (p2))] [.int ((if p2 = 0 then I9 (x + 80) 0 else I9 (x + 80) 2))] (I9, J, R, K, n) Q by
              refine zIf_ne 13 61 51 (by decide +kernel) rfl rfl ⟨fun q10 => ?_, fun q10 => ?_⟩
              · refine zAload_n 0 0 62 (by decide +kernel) rfl rfl ?_
                refine gf11_5 47 65 (by decide +kernel) rfl flX11_47 (X_0 S0_) (X_10 S0_) ?_
                refine gf4_2 309 68 (by decide +kernel) rfl flX11_309 (Sea_0 (X_11 S0_)) ?_
                exact zTop (by rw [if_neg q10]) KK
              · refine zAload_n 0 0 52 (by decide +kernel) rfl rfl ?_
                refine gf11_5 47 55 (by decide +kernel) rfl flX11_47 (X_0 S0_) (X_10 S0_) ?_
                refine gf4_0 296 58 (by decide +kernel) rfl flX11_296 (Sea_0 (X_11 S0_)) ?_
                refine zGoto 10 68 (by decide +kernel) rfl ?_
                exact zTop (by rw [if_pos q10]) KK
            exact zIret rfl (by decide +kernel) F
          · replace F := F.2 q7
            refine zIconst (-1) (-1) 27 (by decide +kernel) rfl (by decide) ?_
            exact zIret rfl (by decide +kernel) F
set_option maxHeartbeats 2000000 in
theorem wX11_pairs_0 {G : zG} {d kc ks : Nat} {I : Nat → Nat → Int32} {J : Nat → Nat → Int64} {R : Nat → Nat → Option Nat} {K : Nat → Nat × Nat} {n : Nat} {Q : Option Value → zH → Prop} (x v w q : Nat) (S0_ : hX G R K n x v w q) (p1 : Int32) (F : zC G d mX11_hasVillage 0 0 [.ref (x)] (I, J, R, K, n) (fun r h => ∃ (x1 : Int32) (I2 : Nat → Nat → Int32), r = some (.int x1) ∧ h = (I2, J, R, K, n) ∧ ((x1 = 0 → Q (some (.int ((-1)))) (I2, J, R, K, n)) ∧ (¬ (x1 = 0) → ((p1 < 0 → Q (some (.int ((-1)))) (I2, J, R, K, n)) ∧ (¬ (p1 < 0) → ((p1 ≤ 1 → zC G d mX8_copyFrom 0 0 [.ref (x + 20), .ref (x + 12)] (I2, J, R, K, n) (fun r h => ∃ (I6 : Nat → Nat → Int32), r = none ∧ h = (I6, J, R, K, n) ∧ zC G d mX4_pairUp 0 0 [.ref (x + 80)] (I6, J, R, K, n) (fun r h => ∃ (I7 : Nat → Nat → Int32), r = none ∧ h = (I7, J, R, K, n) ∧ Q (some (.int ((if p1 = 0 then I7 (x + 80) 0 else I7 (x + 80) 2)))) (I7, J, R, K, n)))) ∧ (¬ (p1 ≤ 1) → Q (some (.int ((-1)))) (I2, J, R, K, n))))))))) : zV G (d + 1) mX11_pairs kc ks 0 [(0, .ref (x)), (1, .int (p1))] [] (I, J, R, K, n) Q := by
  refine zAload_n 0 0 1 (by decide +kernel) rfl rfl ?_
  refine zCallV 11 zcls11 mX11_hasVillage 213 0 0 0 _ _ 4 [] [] okX11_hasVillage mlX11_213 imX11_hasVillage seX11_hasVillage (by decide +kernel) rfl rfl (Nat.le_of_ble_eq_true rfl) rfl rfl (X_0 S0_) (zC.mono F ?_)
  rintro _ _ ⟨x1, I2, rfl, rfl, F⟩
  change zV G (d + 1) mX11_pairs kc ks 4 [(0, .ref (x)), (1, .int (p1))] [.int (x1)] (I2, J, R, K, n) Q
  refine zIf_eq 12 16 7 (by decide +kernel) rfl rfl ⟨fun q3 => ?_, fun q3 => ?_⟩
  · replace F := F.1 q3
    refine zIconst (-1) (-1) 17 (by decide +kernel) rfl (by decide) ?_
    exact zIret rfl (by decide +kernel) F
  · replace F := F.2 q3
    refine zIload_n 1 1 8 (by decide +kernel) rfl rfl ?_
    refine zIf_lt 8 16 11 (by decide +kernel) rfl rfl ⟨fun q4 => ?_, fun q4 => ?_⟩
    · replace F := F.1 q4
      refine zIconst (-1) (-1) 17 (by decide +kernel) rfl (by decide) ?_
      exact zIret rfl (by decide +kernel) F
    · replace F := F.2 q4
      refine zIload_n 1 1 12 (by decide +kernel) rfl rfl ?_
      refine zIconst 1 1 13 (by decide +kernel) rfl (by decide) ?_
      refine zIcmp_le 5 18 16 (by decide +kernel) rfl rfl ⟨fun q5 => ?_, fun q5 => ?_⟩
      · replace F := F.1 q5
        refine zAload_n 0 0 19 (by decide +kernel) rfl rfl ?_
        refine gf11_3 32 22 (by decide +kernel) rfl flX11_32 (X_0 S0_) (X_6 S0_) ?_
        refine zAload_n 0 0 23 (by decide +kernel) rfl rfl ?_
        refine gf11_2 28 26 (by decide +kernel) rfl flX11_28 (X_0 S0_) (X_4 S0_) ?_
        refine zCallV 8 zcls8 mX8_copyFrom 282 1 0 0 _ _ 29 [.ref (x + 12)] [] okX8_copyFrom mlX11_282 imX8_copyFrom seX8_copyFrom (by decide +kernel) rfl rfl (Nat.le_of_ble_eq_true rfl) rfl rfl (St_0 (Gam_12 (X_15 S0_))) (zC.mono F ?_)
        rintro _ _ ⟨I6, rfl, rfl, F⟩
        change zV G (d + 1) mX11_pairs kc ks 29 [(0, .ref (x)), (1, .int (p1))] [] (I6, J, R, K, n) Q
        refine zAload_n 0 0 30 (by decide +kernel) rfl rfl ?_
        refine gf11_5 47 33 (by decide +kernel) rfl flX11_47 (X_0 S0_) (X_10 S0_) ?_
        refine zCallV 4 zcls4 mX4_pairUp 311 0 0 0 _ _ 36 [] [] okX4_pairUp mlX11_311 imX4_pairUp seX4_pairUp (by decide +kernel) rfl rfl (Nat.le_of_ble_eq_true rfl) rfl rfl (Sea_0 (X_11 S0_)) (zC.mono F ?_)
        rintro _ _ ⟨I7, rfl, rfl, F⟩
        change zV G (d + 1) mX11_pairs kc ks 36 [(0, .ref (x)), (1, .int (p1))] [] (I7, J, R, K, n) Q
        refine zIload_n 1 1 37 (by decide +kernel) rfl rfl ?_
        suffices KK : zV G (d + 1) mX11_pairs kc ks 57 [(0, .ref (x)), (1, .int (p1))] [.int ((if p1 = 0 then I7 (x + 80) 0 else I7 (x + 80) 2))] (I7, J, R, K, n) Q by
          refine zIf_ne 13 50 40 (by decide +kernel) rfl rfl ⟨fun q8 => ?_, fun q8 => ?_⟩
          · refine zAload_n 0 0 51 (by decide +kernel) rfl rfl ?_
            refine gf11_5 47 54 (by decide +kernel) rfl flX11_47 (X_0 S0_) (X_10 S0_) ?_
            refine gf4_2 309 57 (by decide +kernel) rfl flX11_309 (Sea_0 (X_11 S0_)) ?_
            exact zTop (by rw [if_neg q8]) KK
          · refine zAload_n 0 0 41 (by decide +kernel) rfl rfl ?_
            refine gf11_5 47 44 (by decide +kernel) rfl flX11_47 (X_0 S0_) (X_10 S0_) ?_
            refine gf4_0 296 47 (by decide +kernel) rfl flX11_296 (Sea_0 (X_11 S0_)) ?_
            refine zGoto 10 57 (by decide +kernel) rfl ?_
            exact zTop (by rw [if_pos q8]) KK
        exact zIret rfl (by decide +kernel) F
      · replace F := F.2 q5
        refine zIconst (-1) (-1) 17 (by decide +kernel) rfl (by decide) ?_
        exact zIret rfl (by decide +kernel) F
set_option maxHeartbeats 2000000 in
theorem wX11_seen_0 {G : zG} {d kc ks : Nat} {I : Nat → Nat → Int32} {J : Nat → Nat → Int64} {R : Nat → Nat → Option Nat} {K : Nat → Nat × Nat} {n : Nat} {Q : Option Value → zH → Prop} (x v w q : Nat) (S0_ : hX G R K n x v w q) (p1 p2 p3 : Int32) (F : zC G d mX11_isTold 0 0 [.ref (x), .int (p1)] (I, J, R, K, n) (fun r h => ∃ (x1 : Int32) (I2 : Nat → Nat → Int32), r = some (.int x1) ∧ h = (I2, J, R, K, n) ∧ ((x1 = 0 → Q (some (.int ((-1)))) (I2, J, R, K, n)) ∧ (¬ (x1 = 0) → ((p2 < 0 → Q (some (.int ((-1)))) (I2, J, R, K, n)) ∧ (¬ (p2 < 0) → ((40 < p2 → Q (some (.int ((-1)))) (I2, J, R, K, n)) ∧ (¬ (40 < p2) → (((I2 (x + 82) 0 : Int32) < 10 → zC G d mX6_add 0 0 [.ref (x + 82), .int (p1), .int (p2), .int (p3)] (I2, J, R, K, n) (fun r h => ∃ (I7 : Nat → Nat → Int32), r = none ∧ h = (I7, J, R, K, n) ∧ Q (some (.int (I7 (x + 82) 0))) (I7, J, R, K, n))) ∧ (¬ ((I2 (x + 82) 0 : Int32) < 10) → Q (some (.int ((-1)))) (I2, J, R, K, n))))))))))) : zV G (d + 1) mX11_seen kc ks 0 [(0, .ref (x)), (1, .int (p1)), (2, .int (p2)), (3, .int (p3))] [] (I, J, R, K, n) Q := by
  refine zAload_n 0 0 1 (by decide +kernel) rfl rfl ?_
  refine zIload_n 1 1 2 (by decide +kernel) rfl rfl ?_
  refine zCallV 11 zcls11 mX11_isTold 314 1 0 0 _ _ 5 [.int (p1)] [] okX11_isTold mlX11_314 imX11_isTold seX11_isTold (by decide +kernel) rfl rfl (Nat.le_of_ble_eq_true rfl) rfl rfl (X_0 S0_) (zC.mono F ?_)
  rintro _ _ ⟨x1, I2, rfl, rfl, F⟩
  change zV G (d + 1) mX11_seen kc ks 5 [(0, .ref (x)), (1, .int (p1)), (2, .int (p2)), (3, .int (p3))] [.int (x1)] (I2, J, R, K, n) Q
  refine zIf_eq 25 30 8 (by decide +kernel) rfl rfl ⟨fun q3 => ?_, fun q3 => ?_⟩
  · replace F := F.1 q3
    refine zIconst (-1) (-1) 31 (by decide +kernel) rfl (by decide) ?_
    exact zIret rfl (by decide +kernel) F
  · replace F := F.2 q3
    refine zIload_n 2 2 9 (by decide +kernel) rfl rfl ?_
    refine zIf_lt 21 30 12 (by decide +kernel) rfl rfl ⟨fun q4 => ?_, fun q4 => ?_⟩
    · replace F := F.1 q4
      refine zIconst (-1) (-1) 31 (by decide +kernel) rfl (by decide) ?_
      exact zIret rfl (by decide +kernel) F
    · replace F := F.2 q4
      refine zIload_n 2 2 13 (by decide +kernel) rfl rfl ?_
      refine zBipush 40 40 15 (by decide +kernel) rfl (by decide) ?_
      refine zIcmp_gt 15 30 18 (by decide +kernel) rfl rfl ⟨fun q5 => ?_, fun q5 => ?_⟩
      · replace F := F.1 q5
        refine zIconst (-1) (-1) 31 (by decide +kernel) rfl (by decide) ?_
        exact zIret rfl (by decide +kernel) F
      · replace F := F.2 q5
        refine zAload_n 0 0 19 (by decide +kernel) rfl rfl ?_
        refine gf11_6 54 22 (by decide +kernel) rfl flX11_54 (X_0 S0_) (X_12 S0_) ?_
        refine gf6_0 317 25 (by decide +kernel) rfl flX11_317 (Sig_0 (X_13 S0_)) ?_
        refine zBipush 10 10 27 (by decide +kernel) rfl (by decide) ?_
        refine zIcmp_lt 5 32 30 (by decide +kernel) rfl rfl ⟨fun q6 => ?_, fun q6 => ?_⟩
        · replace F := F.1 q6
          refine zAload_n 0 0 33 (by decide +kernel) rfl rfl ?_
          refine gf11_6 54 36 (by decide +kernel) rfl flX11_54 (X_0 S0_) (X_12 S0_) ?_
          refine zIload_n 1 1 37 (by decide +kernel) rfl rfl ?_
          refine zIload_n 2 2 38 (by decide +kernel) rfl rfl ?_
          refine zIload_n 3 3 39 (by decide +kernel) rfl rfl ?_
          refine zCallV 6 zcls6 mX6_add 318 3 0 0 _ _ 42 [.int (p1), .int (p2), .int (p3)] [] okX6_add mlX11_318 imX6_add seX6_add (by decide +kernel) rfl rfl (Nat.le_of_ble_eq_true rfl) rfl rfl (Sig_0 (X_13 S0_)) (zC.mono F ?_)
          rintro _ _ ⟨I7, rfl, rfl, F⟩
          change zV G (d + 1) mX11_seen kc ks 42 [(0, .ref (x)), (1, .int (p1)), (2, .int (p2)), (3, .int (p3))] [] (I7, J, R, K, n) Q
          refine zAload_n 0 0 43 (by decide +kernel) rfl rfl ?_
          refine gf11_6 54 46 (by decide +kernel) rfl flX11_54 (X_0 S0_) (X_12 S0_) ?_
          refine gf6_0 317 49 (by decide +kernel) rfl flX11_317 (Sig_0 (X_13 S0_)) ?_
          exact zIret rfl (by decide +kernel) F
        · replace F := F.2 q6
          refine zIconst (-1) (-1) 31 (by decide +kernel) rfl (by decide) ?_
          exact zIret rfl (by decide +kernel) F
set_option maxHeartbeats 2000000 in
theorem wX11_weights_0 {G : zG} {d kc ks : Nat} {I : Nat → Nat → Int32} {J : Nat → Nat → Int64} {R : Nat → Nat → Option Nat} {K : Nat → Nat × Nat} {n : Nat} {Q : Option Value → zH → Prop} (x v w q : Nat) (S0_ : hX G R K n x v w q) (p1 p2 : Int32) (F : zC G d mX11_isTold 0 0 [.ref (x), .int (p1)] (I, J, R, K, n) (fun r h => ∃ (x1 : Int32) (I2 : Nat → Nat → Int32), r = some (.int x1) ∧ h = (I2, J, R, K, n) ∧ ((x1 = 0 → Q (some (.int ((-1)))) (I2, J, R, K, n)) ∧ (¬ (x1 = 0) → zC G d mX6_fitting 0 0 [.ref (x + 82), .int (p1)] (I2, J, R, K, n) (fun r h => ∃ (x4 : Int32) (I5 : Nat → Nat → Int32), r = some (.int x4) ∧ h = (I5, J, R, K, n) ∧ ((p2 = (-1) → zC G d mJ6_bitCount_0f7a4 0 0 [.int (x4)] (I5, J, R, K, n) (fun r h => ∃ (x9 : Int32), r = some (.int x9) ∧ h = (I5, J, R, K, n) ∧ Q (some (.int (x9))) (I5, J, R, K, n))) ∧ (¬ (p2 = (-1)) → zC G d mX11_bitAt 0 0 [.int (x4), .int (p2)] (I5, J, R, K, n) (fun r h => ∃ (x7 : Int32) (I8 : Nat → Nat → Int32), r = some (.int x7) ∧ h = (I8, J, R, K, n) ∧ Q (some (.int (x7))) (I8, J, R, K, n))))))))) : zV G (d + 1) mX11_weights kc ks 0 [(0, .ref (x)), (1, .int (p1)), (2, .int (p2))] [] (I, J, R, K, n) Q := by
  refine zAload_n 0 0 1 (by decide +kernel) rfl rfl ?_
  refine zIload_n 1 1 2 (by decide +kernel) rfl rfl ?_
  refine zCallV 11 zcls11 mX11_isTold 314 1 0 0 _ _ 5 [.int (p1)] [] okX11_isTold mlX11_314 imX11_isTold seX11_isTold (by decide +kernel) rfl rfl (Nat.le_of_ble_eq_true rfl) rfl rfl (X_0 S0_) (zC.mono F ?_)
  rintro _ _ ⟨x1, I2, rfl, rfl, F⟩
  change zV G (d + 1) mX11_weights kc ks 5 [(0, .ref (x)), (1, .int (p1)), (2, .int (p2))] [.int (x1)] (I2, J, R, K, n) Q
  refine zIf_ne 5 10 8 (by decide +kernel) rfl rfl ⟨fun q3 => ?_, fun q3 => ?_⟩
  · replace F := F.2 q3
    refine zAload_n 0 0 11 (by decide +kernel) rfl rfl ?_
    refine gf11_6 54 14 (by decide +kernel) rfl flX11_54 (X_0 S0_) (X_12 S0_) ?_
    refine zIload_n 1 1 15 (by decide +kernel) rfl rfl ?_
    refine zCallV 6 zcls6 mX6_fitting 322 1 0 0 _ _ 18 [.int (p1)] [] okX6_fitting mlX11_322 imX6_fitting seX6_fitting (by decide +kernel) rfl rfl (Nat.le_of_ble_eq_true rfl) rfl rfl (Sig_0 (X_13 S0_)) (zC.mono F ?_)
    rintro _ _ ⟨x4, I5, rfl, rfl, F⟩
    change zV G (d + 1) mX11_weights kc ks 18 [(0, .ref (x)), (1, .int (p1)), (2, .int (p2))] [.int (x4)] (I5, J, R, K, n) Q
    refine zIstore_n 3 [(3, .int (x4)), (0, .ref (x)), (1, .int (p1)), (2, .int (p2))] 19 (by decide +kernel) rfl (by decide) rfl ?_
    refine zIload_n 2 3 20 (by decide +kernel) rfl rfl ?_
    refine zIconst (-1) (-1) 21 (by decide +kernel) rfl (by decide) ?_
    refine zIcmp_ne 10 31 24 (by decide +kernel) rfl rfl ⟨fun q6 => ?_, fun q6 => ?_⟩
    · replace F := F.2 q6
      refine zIload_n 3 0 32 (by decide +kernel) rfl rfl ?_
      refine zIload_n 2 3 33 (by decide +kernel) rfl rfl ?_
      refine zCallS mX11_bitAt 325 2 0 0 _ _ 36 [.int (x4), .int (p2)] [] okX11_bitAt mlX11_325 smX11_bitAt (by decide +kernel) rfl rfl (Nat.le_of_ble_eq_true rfl) rfl rfl (zC.mono F ?_)
      rintro _ _ ⟨x7, I8, rfl, rfl, F⟩
      change zV G (d + 1) mX11_weights kc ks 36 [(3, .int (x4)), (0, .ref (x)), (1, .int (p1)), (2, .int (p2))] [.int (x7)] (I8, J, R, K, n) Q
      exact zIret rfl (by decide +kernel) F
    · replace F := F.1 q6
      refine zIload_n 3 0 25 (by decide +kernel) rfl rfl ?_
      refine zCallS mJ6_bitCount_0f7a4 235 1 0 0 _ _ 28 [.int (x4)] [] okJ6_bitCount_0f7a4 mlX11_235 smJ6_bitCount_0f7a4 (by decide +kernel) rfl rfl (Nat.le_of_ble_eq_true rfl) rfl rfl (zC.mono F ?_)
      rintro _ _ ⟨x9, rfl, rfl, F⟩
      change zV G (d + 1) mX11_weights kc ks 28 [(3, .int (x4)), (0, .ref (x)), (1, .int (p1)), (2, .int (p2))] [.int (x9)] (I5, J, R, K, n) Q
      refine zGoto 8 36 (by decide +kernel) rfl ?_
      exact zIret rfl (by decide +kernel) F
  · replace F := F.1 q3
    refine zIconst (-1) (-1) 9 (by decide +kernel) rfl (by decide) ?_
    exact zIret rfl (by decide +kernel) F
set_option maxHeartbeats 2000000 in
theorem wX11_ask_0 {G : zG} {d kc ks : Nat} {I : Nat → Nat → Int32} {J : Nat → Nat → Int64} {R : Nat → Nat → Option Nat} {K : Nat → Nat × Nat} {n : Nat} {Q : Option Value → zH → Prop} (x v w q : Nat) (S0_ : hX G R K n x v w q) (p1 : Int32) (F : zC G d mX11_isTold 0 0 [.ref (x), .int (p1)] (I, J, R, K, n) (fun r h => ∃ (x1 : Int32) (I2 : Nat → Nat → Int32), r = some (.int x1) ∧ h = (I2, J, R, K, n) ∧ ((x1 = 0 → Q (some (.int ((-1)))) (I2, J, R, K, n)) ∧ (¬ (x1 = 0) → zC G d mX6_bestMark 0 0 [.ref (x + 82), .int (p1)] (I2, J, R, K, n) (fun r h => ∃ (x4 : Int32) (I5 : Nat → Nat → Int32), r = some (.int x4) ∧ h = (I5, J, R, K, n) ∧ Q (some (.int (x4))) (I5, J, R, K, n)))))) : zV G (d + 1) mX11_ask kc ks 0 [(0, .ref (x)), (1, .int (p1))] [] (I, J, R, K, n) Q := by
  refine zAload_n 0 0 1 (by decide +kernel) rfl rfl ?_
  refine zIload_n 1 1 2 (by decide +kernel) rfl rfl ?_
  refine zCallV 11 zcls11 mX11_isTold 314 1 0 0 _ _ 5 [.int (p1)] [] okX11_isTold mlX11_314 imX11_isTold seX11_isTold (by decide +kernel) rfl rfl (Nat.le_of_ble_eq_true rfl) rfl rfl (X_0 S0_) (zC.mono F ?_)
  rintro _ _ ⟨x1, I2, rfl, rfl, F⟩
  change zV G (d + 1) mX11_ask kc ks 5 [(0, .ref (x)), (1, .int (p1))] [.int (x1)] (I2, J, R, K, n) Q
  refine zIf_eq 14 19 8 (by decide +kernel) rfl rfl ⟨fun q3 => ?_, fun q3 => ?_⟩
  · replace F := F.1 q3
    refine zIconst (-1) (-1) 20 (by decide +kernel) rfl (by decide) ?_
    exact zIret rfl (by decide +kernel) F
  · replace F := F.2 q3
    refine zAload_n 0 0 9 (by decide +kernel) rfl rfl ?_
    refine gf11_6 54 12 (by decide +kernel) rfl flX11_54 (X_0 S0_) (X_12 S0_) ?_
    refine zIload_n 1 1 13 (by decide +kernel) rfl rfl ?_
    refine zCallV 6 zcls6 mX6_bestMark 328 1 0 0 _ _ 16 [.int (p1)] [] okX6_bestMark mlX11_328 imX6_bestMark seX6_bestMark (by decide +kernel) rfl rfl (Nat.le_of_ble_eq_true rfl) rfl rfl (Sig_0 (X_13 S0_)) (zC.mono F ?_)
    rintro _ _ ⟨x4, I5, rfl, rfl, F⟩
    change zV G (d + 1) mX11_ask kc ks 16 [(0, .ref (x)), (1, .int (p1))] [.int (x4)] (I5, J, R, K, n) Q
    refine zGoto 4 20 (by decide +kernel) rfl ?_
    exact zIret rfl (by decide +kernel) F
set_option maxHeartbeats 2000000 in
theorem wX11_ring_0 {G : zG} {d kc ks : Nat} {I : Nat → Nat → Int32} {J : Nat → Nat → Int64} {R : Nat → Nat → Option Nat} {K : Nat → Nat × Nat} {n : Nat} {Q : Option Value → zH → Prop} (x v w q : Nat) (S0_ : hX G R K n x v w q) (F : zV G (d + 1) mX11_ring kc ks 4 [(0, .ref (x)), (1, .int ((-1))), (2, .int (0))] [] (I, J, R, K, n) Q) : zV G (d + 1) mX11_ring kc ks 0 [(0, .ref (x))] [] (I, J, R, K, n) Q := by
  refine zIconst (-1) (-1) 1 (by decide +kernel) rfl (by decide) ?_
  refine zIstore_n 1 [(1, .int ((-1))), (0, .ref (x))] 2 (by decide +kernel) rfl (by decide) rfl ?_
  refine zIconst 0 0 3 (by decide +kernel) rfl (by decide) ?_
  refine zIstore_n 2 [(2, .int (0)), (1, .int ((-1))), (0, .ref (x))] 4 (by decide +kernel) rfl (by decide) rfl ?_
  exact zLoc [2, 1, 0] _ rfl F
set_option maxHeartbeats 2000000 in
theorem wX11_ring_4 {G : zG} {d kc ks : Nat} {I : Nat → Nat → Int32} {J : Nat → Nat → Int64} {R : Nat → Nat → Option Nat} {K : Nat → Nat × Nat} {n : Nat} {Q : Option Value → zH → Prop} (x v w q : Nat) (S0_ : hX G R K n x v w q) (l1 l2 : Int32) (F : (((I v 5 : Int32) ≤ l2 → Q (some (.int (l1))) (I, J, R, K, n)) ∧ (¬ ((I v 5 : Int32) ≤ l2) → zC G d mX8_reachedFrom 0 0 [.ref (x + 12), .int ((1 : Int32) <<< (l2 &&& 31))] (I, J, R, K, n) (fun r h => ∃ (x2 : Int32) (I3 : Nat → Nat → Int32), r = some (.int x2) ∧ h = (I3, J, R, K, n) ∧ zC G d mX8_links 0 0 [.ref (x + 12), .int (x2), .int (l2)] (I3, J, R, K, n) (fun r h => ∃ (x4 : Int32) (I5 : Nat → Nat → Int32), r = some (.int x4) ∧ h = (I5, J, R, K, n) ∧ ((x4 = (-1) → zV G (d + 1) mX11_ring kc ks 4 [(0, .ref (x)), (1, .int (l1)), (2, .int (l2 + 1))] [] (I5, J, R, K, n) Q) ∧ (¬ (x4 = (-1)) → ((l1 = (-1) → zV G (d + 1) mX11_ring kc ks 4 [(0, .ref (x)), (1, .int (x4 + 1)), (2, .int (l2 + 1))] [] (I5, J, R, K, n) Q) ∧ (¬ (l1 = (-1)) → ((l1 ≤ (x4 + 1 : Int32) → zV G (d + 1) mX11_ring kc ks 4 [(0, .ref (x)), (1, .int (l1)), (2, .int (l2 + 1))] [] (I5, J, R, K, n) Q) ∧ (¬ (l1 ≤ (x4 + 1 : Int32)) → zV G (d + 1) mX11_ring kc ks 4 [(0, .ref (x)), (1, .int (x4 + 1)), (2, .int (l2 + 1))] [] (I5, J, R, K, n) Q))))))))))) : zV G (d + 1) mX11_ring kc ks 4 [(0, .ref (x)), (1, .int (l1)), (2, .int (l2))] [] (I, J, R, K, n) Q := by
  refine zIload_n 2 2 5 (by decide +kernel) rfl rfl ?_
  refine zAload_n 0 0 6 (by decide +kernel) rfl rfl ?_
  refine gf11_1 19 9 (by decide +kernel) rfl flX11_19 (X_0 S0_) (X_3 S0_) ?_
  refine gf5_0 152 12 (by decide +kernel) rfl flX11_152 (Set_0 (X_26 S0_)) (Set_1 (X_26 S0_)) ?_
  refine gf10_5 303 15 (by decide +kernel) rfl flX11_303 (Vil_0 (Set_2 (X_26 S0_))) ?_
  refine zIcmp_ge 49 64 18 (by decide +kernel) rfl rfl ⟨fun q1 => ?_, fun q1 => ?_⟩
  · replace F := F.1 q1
    refine zIload_n 1 1 65 (by decide +kernel) rfl rfl ?_
    exact zIret rfl (by decide +kernel) F
  · replace F := F.2 q1
    refine zAload_n 0 0 19 (by decide +kernel) rfl rfl ?_
    refine gf11_2 28 22 (by decide +kernel) rfl flX11_28 (X_0 S0_) (X_4 S0_) ?_
    refine zAload_n 0 0 23 (by decide +kernel) rfl rfl ?_
    refine gf11_2 28 26 (by decide +kernel) rfl flX11_28 (X_0 S0_) (X_4 S0_) ?_
    refine zIconst 1 1 27 (by decide +kernel) rfl (by decide) ?_
    refine zIload_n 2 2 28 (by decide +kernel) rfl rfl ?_
    refine zIshl 29 (by decide +kernel) rfl ?_
    refine zCallV 8 zcls8 mX8_reachedFrom 331 1 0 0 _ _ 32 [.int ((1 : Int32) <<< (l2 &&& 31))] [.ref (x + 12)] okX8_reachedFrom mlX11_331 imX8_reachedFrom seX8_reachedFrom (by decide +kernel) rfl rfl (Nat.le_of_ble_eq_true rfl) rfl rfl (St_0 (Gam_10 (X_15 S0_))) (zC.mono F ?_)
    rintro _ _ ⟨x2, I3, rfl, rfl, F⟩
    change zV G (d + 1) mX11_ring kc ks 32 [(0, .ref (x)), (1, .int (l1)), (2, .int (l2))] [.int (x2), .ref (x + 12)] (I3, J, R, K, n) Q
    refine zIload_n 2 2 33 (by decide +kernel) rfl rfl ?_
    refine zCallV 8 zcls8 mX8_links 334 2 0 0 _ _ 36 [.int (x2), .int (l2)] [] okX8_links mlX11_334 imX8_links seX8_links (by decide +kernel) rfl rfl (Nat.le_of_ble_eq_true rfl) rfl rfl (St_0 (Gam_10 (X_15 S0_))) (zC.mono F ?_)
    rintro _ _ ⟨x4, I5, rfl, rfl, F⟩
    change zV G (d + 1) mX11_ring kc ks 36 [(0, .ref (x)), (1, .int (l1)), (2, .int (l2))] [.int (x4)] (I5, J, R, K, n) Q
    refine zIstore_n 3 [(3, .int (x4)), (0, .ref (x)), (1, .int (l1)), (2, .int (l2))] 37 (by decide +kernel) rfl (by decide) rfl ?_
    refine zIload_n 3 0 38 (by decide +kernel) rfl rfl ?_
    refine zIconst (-1) (-1) 39 (by decide +kernel) rfl (by decide) ?_
    refine zIcmp_eq 19 58 42 (by decide +kernel) rfl rfl ⟨fun q6 => ?_, fun q6 => ?_⟩
    · replace F := F.1 q6
      refine zIinc 2 1 3 (l2 + 1) [(2, .int (l2 + 1)), (3, .int (x4)), (0, .ref (x)), (1, .int (l1))] 61 (by decide +kernel) rfl rfl (by rfl) (by decide) rfl ?_
      refine zGoto (-57) 4 (by decide +kernel) rfl ?_
      exact zLoc [2, 3, 0] _ rfl F
    · replace F := F.2 q6
      refine zIload_n 1 2 43 (by decide +kernel) rfl rfl ?_
      refine zIconst (-1) (-1) 44 (by decide +kernel) rfl (by decide) ?_
      refine zIcmp_eq 10 54 47 (by decide +kernel) rfl rfl ⟨fun q7 => ?_, fun q7 => ?_⟩
      · replace F := F.1 q7
        refine zIload_n 3 0 55 (by decide +kernel) rfl rfl ?_
        refine zIconst 1 1 56 (by decide +kernel) rfl (by decide) ?_
        refine zIadd 57 (by decide +kernel) rfl ?_
        refine zIstore_n 1 [(1, .int (x4 + 1)), (3, .int (x4)), (0, .ref (x)), (2, .int (l2))] 58 (by decide +kernel) rfl (by decide) rfl ?_
        refine zIinc 2 1 3 (l2 + 1) [(2, .int (l2 + 1)), (1, .int (x4 + 1)), (3, .int (x4)), (0, .ref (x))] 61 (by decide +kernel) rfl rfl (by rfl) (by decide) rfl ?_
        refine zGoto (-57) 4 (by decide +kernel) rfl ?_
        exact zLoc [3, 1, 0] _ rfl F
      · replace F := F.2 q7
        refine zIload_n 3 0 48 (by decide +kernel) rfl rfl ?_
        refine zIconst 1 1 49 (by decide +kernel) rfl (by decide) ?_
        refine zIadd 50 (by decide +kernel) rfl ?_
        refine zIload_n 1 2 51 (by decide +kernel) rfl rfl ?_
        refine zIcmp_ge 7 58 54 (by decide +kernel) rfl rfl ⟨fun q8 => ?_, fun q8 => ?_⟩
        · replace F := F.1 q8
          refine zIinc 2 1 3 (l2 + 1) [(2, .int (l2 + 1)), (3, .int (x4)), (0, .ref (x)), (1, .int (l1))] 61 (by decide +kernel) rfl rfl (by rfl) (by decide) rfl ?_
          refine zGoto (-57) 4 (by decide +kernel) rfl ?_
          exact zLoc [2, 3, 0] _ rfl F
        · replace F := F.2 q8
          refine zIload_n 3 0 55 (by decide +kernel) rfl rfl ?_
          refine zIconst 1 1 56 (by decide +kernel) rfl (by decide) ?_
          refine zIadd 57 (by decide +kernel) rfl ?_
          refine zIstore_n 1 [(1, .int (x4 + 1)), (3, .int (x4)), (0, .ref (x)), (2, .int (l2))] 58 (by decide +kernel) rfl (by decide) rfl ?_
          refine zIinc 2 1 3 (l2 + 1) [(2, .int (l2 + 1)), (1, .int (x4 + 1)), (3, .int (x4)), (0, .ref (x))] 61 (by decide +kernel) rfl rfl (by rfl) (by decide) rfl ?_
          refine zGoto (-57) 4 (by decide +kernel) rfl ?_
          exact zLoc [3, 1, 0] _ rfl F
set_option maxHeartbeats 2000000 in
theorem wX11_chain_0 {G : zG} {d kc ks : Nat} {I : Nat → Nat → Int32} {J : Nat → Nat → Int64} {R : Nat → Nat → Option Nat} {K : Nat → Nat × Nat} {n : Nat} {Q : Option Value → zH → Prop} (x v w q : Nat) (S0_ : hX G R K n x v w q) (p1 p2 : Int32) (F : zC G d mX11_isFarm 0 0 [.ref (x), .int (p1)] (I, J, R, K, n) (fun r h => ∃ (x1 : Int32) (I2 : Nat → Nat → Int32), r = some (.int x1) ∧ h = (I2, J, R, K, n) ∧ ((x1 = 0 → Q (some (.int ((-1)))) (I2, J, R, K, n)) ∧ (¬ (x1 = 0) → zC G d mX11_isFarm 0 0 [.ref (x), .int (p2)] (I2, J, R, K, n) (fun r h => ∃ (x4 : Int32) (I5 : Nat → Nat → Int32), r = some (.int x4) ∧ h = (I5, J, R, K, n) ∧ ((x4 = 0 → Q (some (.int ((-1)))) (I5, J, R, K, n)) ∧ (¬ (x4 = 0) → zC G d mX8_links 0 0 [.ref (x + 12), .int ((1 : Int32) <<< (p1 &&& 31)), .int (p2)] (I5, J, R, K, n) (fun r h => ∃ (x7 : Int32) (I8 : Nat → Nat → Int32), r = some (.int x7) ∧ h = (I8, J, R, K, n) ∧ Q (some (.int (x7))) (I8, J, R, K, n))))))))) : zV G (d + 1) mX11_chain kc ks 0 [(0, .ref (x)), (1, .int (p1)), (2, .int (p2))] [] (I, J, R, K, n) Q := by
  refine zAload_n 0 0 1 (by decide +kernel) rfl rfl ?_
  refine zIload_n 1 1 2 (by decide +kernel) rfl rfl ?_
  refine zCallV 11 zcls11 mX11_isFarm 146 1 0 0 _ _ 5 [.int (p1)] [] okX11_isFarm mlX11_146 imX11_isFarm seX11_isFarm (by decide +kernel) rfl rfl (Nat.le_of_ble_eq_true rfl) rfl rfl (X_0 S0_) (zC.mono F ?_)
  rintro _ _ ⟨x1, I2, rfl, rfl, F⟩
  change zV G (d + 1) mX11_chain kc ks 5 [(0, .ref (x)), (1, .int (p1)), (2, .int (p2))] [.int (x1)] (I2, J, R, K, n) Q
  refine zIf_eq 25 30 8 (by decide +kernel) rfl rfl ⟨fun q3 => ?_, fun q3 => ?_⟩
  · replace F := F.1 q3
    refine zIconst (-1) (-1) 31 (by decide +kernel) rfl (by decide) ?_
    exact zIret rfl (by decide +kernel) F
  · replace F := F.2 q3
    refine zAload_n 0 0 9 (by decide +kernel) rfl rfl ?_
    refine zIload_n 2 2 10 (by decide +kernel) rfl rfl ?_
    refine zCallV 11 zcls11 mX11_isFarm 146 1 0 0 _ _ 13 [.int (p2)] [] okX11_isFarm mlX11_146 imX11_isFarm seX11_isFarm (by decide +kernel) rfl rfl (Nat.le_of_ble_eq_true rfl) rfl rfl (X_0 S0_) (zC.mono F ?_)
    rintro _ _ ⟨x4, I5, rfl, rfl, F⟩
    change zV G (d + 1) mX11_chain kc ks 13 [(0, .ref (x)), (1, .int (p1)), (2, .int (p2))] [.int (x4)] (I5, J, R, K, n) Q
    refine zIf_eq 17 30 16 (by decide +kernel) rfl rfl ⟨fun q6 => ?_, fun q6 => ?_⟩
    · replace F := F.1 q6
      refine zIconst (-1) (-1) 31 (by decide +kernel) rfl (by decide) ?_
      exact zIret rfl (by decide +kernel) F
    · replace F := F.2 q6
      refine zAload_n 0 0 17 (by decide +kernel) rfl rfl ?_
      refine gf11_2 28 20 (by decide +kernel) rfl flX11_28 (X_0 S0_) (X_4 S0_) ?_
      refine zIconst 1 1 21 (by decide +kernel) rfl (by decide) ?_
      refine zIload_n 1 1 22 (by decide +kernel) rfl rfl ?_
      refine zIshl 23 (by decide +kernel) rfl ?_
      refine zIload_n 2 2 24 (by decide +kernel) rfl rfl ?_
      refine zCallV 8 zcls8 mX8_links 334 2 0 0 _ _ 27 [.int ((1 : Int32) <<< (p1 &&& 31)), .int (p2)] [] okX8_links mlX11_334 imX8_links seX8_links (by decide +kernel) rfl rfl (Nat.le_of_ble_eq_true rfl) rfl rfl (St_0 (Gam_10 (X_15 S0_))) (zC.mono F ?_)
      rintro _ _ ⟨x7, I8, rfl, rfl, F⟩
      change zV G (d + 1) mX11_chain kc ks 27 [(0, .ref (x)), (1, .int (p1)), (2, .int (p2))] [.int (x7)] (I8, J, R, K, n) Q
      refine zGoto 4 31 (by decide +kernel) rfl ?_
      exact zIret rfl (by decide +kernel) F
set_option maxHeartbeats 2000000 in
theorem wX11_score_0 {G : zG} {d kc ks : Nat} {I : Nat → Nat → Int32} {J : Nat → Nat → Int64} {R : Nat → Nat → Option Nat} {K : Nat → Nat × Nat} {n : Nat} {Q : Option Value → zH → Prop} (x v w q : Nat) (S0_ : hX G R K n x v w q) (p1 p2 : Int32) (F : zC G d mX11_isFarm 0 0 [.ref (x), .int (p1)] (I, J, R, K, n) (fun r h => ∃ (x1 : Int32) (I2 : Nat → Nat → Int32), r = some (.int x1) ∧ h = (I2, J, R, K, n) ∧ ((x1 = 0 → Q (some (.int ((-1)))) (I2, J, R, K, n)) ∧ (¬ (x1 = 0) → ((p2 < 0 → Q (some (.int ((-1)))) (I2, J, R, K, n)) ∧ (¬ (p2 < 0) → ((p2 ≤ 1 → ((p2 = 0 → zC G d mX8_doneBy 0 0 [.ref (x + 12), .int (p1)] (I2, J, R, K, n) (fun r h => ∃ (x9 : Int32) (I10 : Nat → Nat → Int32), r = some (.int x9) ∧ h = (I10, J, R, K, n) ∧ Q (some (.int (x9))) (I10, J, R, K, n))) ∧ (¬ (p2 = 0) → zC G d mX8_doneTo 0 0 [.ref (x + 12), .int (p1)] (I2, J, R, K, n) (fun r h => ∃ (x7 : Int32) (I8 : Nat → Nat → Int32), r = some (.int x7) ∧ h = (I8, J, R, K, n) ∧ Q (some (.int (x7))) (I8, J, R, K, n))))) ∧ (¬ (p2 ≤ 1) → Q (some (.int ((-1)))) (I2, J, R, K, n))))))))) : zV G (d + 1) mX11_score kc ks 0 [(0, .ref (x)), (1, .int (p1)), (2, .int (p2))] [] (I, J, R, K, n) Q := by
  refine zAload_n 0 0 1 (by decide +kernel) rfl rfl ?_
  refine zIload_n 1 1 2 (by decide +kernel) rfl rfl ?_
  refine zCallV 11 zcls11 mX11_isFarm 146 1 0 0 _ _ 5 [.int (p1)] [] okX11_isFarm mlX11_146 imX11_isFarm seX11_isFarm (by decide +kernel) rfl rfl (Nat.le_of_ble_eq_true rfl) rfl rfl (X_0 S0_) (zC.mono F ?_)
  rintro _ _ ⟨x1, I2, rfl, rfl, F⟩
  change zV G (d + 1) mX11_score kc ks 5 [(0, .ref (x)), (1, .int (p1)), (2, .int (p2))] [.int (x1)] (I2, J, R, K, n) Q
  refine zIf_eq 12 17 8 (by decide +kernel) rfl rfl ⟨fun q3 => ?_, fun q3 => ?_⟩
  · replace F := F.1 q3
    refine zIconst (-1) (-1) 18 (by decide +kernel) rfl (by decide) ?_
    exact zIret rfl (by decide +kernel) F
  · replace F := F.2 q3
    refine zIload_n 2 2 9 (by decide +kernel) rfl rfl ?_
    refine zIf_lt 8 17 12 (by decide +kernel) rfl rfl ⟨fun q4 => ?_, fun q4 => ?_⟩
    · replace F := F.1 q4
      refine zIconst (-1) (-1) 18 (by decide +kernel) rfl (by decide) ?_
      exact zIret rfl (by decide +kernel) F
    · replace F := F.2 q4
      refine zIload_n 2 2 13 (by decide +kernel) rfl rfl ?_
      refine zIconst 1 1 14 (by decide +kernel) rfl (by decide) ?_
      refine zIcmp_le 5 19 17 (by decide +kernel) rfl rfl ⟨fun q5 => ?_, fun q5 => ?_⟩
      · replace F := F.1 q5
        refine zIload_n 2 2 20 (by decide +kernel) rfl rfl ?_
        refine zIf_ne 14 34 23 (by decide +kernel) rfl rfl ⟨fun q6 => ?_, fun q6 => ?_⟩
        · replace F := F.2 q6
          refine zAload_n 0 0 35 (by decide +kernel) rfl rfl ?_
          refine gf11_2 28 38 (by decide +kernel) rfl flX11_28 (X_0 S0_) (X_4 S0_) ?_
          refine zIload_n 1 1 39 (by decide +kernel) rfl rfl ?_
          refine zCallV 8 zcls8 mX8_doneTo 289 1 0 0 _ _ 42 [.int (p1)] [] okX8_doneTo mlX11_289 imX8_doneTo seX8_doneTo (by decide +kernel) rfl rfl (Nat.le_of_ble_eq_true rfl) rfl rfl (St_0 (Gam_10 (X_15 S0_))) (zC.mono F ?_)
          rintro _ _ ⟨x7, I8, rfl, rfl, F⟩
          change zV G (d + 1) mX11_score kc ks 42 [(0, .ref (x)), (1, .int (p1)), (2, .int (p2))] [.int (x7)] (I8, J, R, K, n) Q
          exact zIret rfl (by decide +kernel) F
        · replace F := F.1 q6
          refine zAload_n 0 0 24 (by decide +kernel) rfl rfl ?_
          refine gf11_2 28 27 (by decide +kernel) rfl flX11_28 (X_0 S0_) (X_4 S0_) ?_
          refine zIload_n 1 1 28 (by decide +kernel) rfl rfl ?_
          refine zCallV 8 zcls8 mX8_doneBy 337 1 0 0 _ _ 31 [.int (p1)] [] okX8_doneBy mlX11_337 imX8_doneBy seX8_doneBy (by decide +kernel) rfl rfl (Nat.le_of_ble_eq_true rfl) rfl rfl (St_0 (Gam_10 (X_15 S0_))) (zC.mono F ?_)
          rintro _ _ ⟨x9, I10, rfl, rfl, F⟩
          change zV G (d + 1) mX11_score kc ks 31 [(0, .ref (x)), (1, .int (p1)), (2, .int (p2))] [.int (x9)] (I10, J, R, K, n) Q
          refine zGoto 11 42 (by decide +kernel) rfl ?_
          exact zIret rfl (by decide +kernel) F
      · replace F := F.2 q5
        refine zIconst (-1) (-1) 18 (by decide +kernel) rfl (by decide) ?_
        exact zIret rfl (by decide +kernel) F
set_option maxHeartbeats 2000000 in
theorem wX11_game_0 {G : zG} {d kc ks : Nat} {I : Nat → Nat → Int32} {J : Nat → Nat → Int64} {R : Nat → Nat → Option Nat} {K : Nat → Nat × Nat} {n : Nat} {Q : Option Value → zH → Prop} (x v w q : Nat) (S0_ : hX G R K n x v w q) (p1 p2 p3 p4 p5 : Int32) (F : zC G d mX11_isFarm 0 0 [.ref (x), .int (p1)] (I, J, R, K, n) (fun r h => ∃ (x1 : Int32) (I2 : Nat → Nat → Int32), r = some (.int x1) ∧ h = (I2, J, R, K, n) ∧ ((x1 = 0 → Q (some (.int ((-1000000)))) (I2, J, R, K, n)) ∧ (¬ (x1 = 0) → zC G d mX11_isFarm 0 0 [.ref (x), .int (p2)] (I2, J, R, K, n) (fun r h => ∃ (x4 : Int32) (I5 : Nat → Nat → Int32), r = some (.int x4) ∧ h = (I5, J, R, K, n) ∧ ((x4 = 0 → Q (some (.int ((-1000000)))) (I5, J, R, K, n)) ∧ (¬ (x4 = 0) → ((p1 = p2 → Q (some (.int ((-1000000)))) (I5, J, R, K, n)) ∧ (¬ (p1 = p2) → ((p5 < 0 → Q (some (.int ((-1000000)))) (I5, J, R, K, n)) ∧ (¬ (p5 < 0) → ((p5 ≤ 1 → ((p3 < 0 → Q (some (.int ((-1000000)))) (I5, J, R, K, n)) ∧ (¬ (p3 < 0) → ((3 ≤ p3 → Q (some (.int ((-1000000)))) (I5, J, R, K, n)) ∧ (¬ (3 ≤ p3) → ((p4 < 0 → Q (some (.int ((-1000000)))) (I5, J, R, K, n)) ∧ (¬ (p4 < 0) → ((p4 < 3 → zC G d mX0_play 0 0 [.ref (x + 87), .int (p1), .int (p2), .int (p3), .int (p4)] (I5, J, R, K, n) (fun r h => ∃ (I14 : Nat → Nat → Int32), r = none ∧ h = (I14, J, R, K, n) ∧ (((¬ (p5 = 0)) → vp_in p3 3) ∧ ((¬ (p5 = 0)) → vp_in p4 3) ∧ ((p5 = 0) → vp_in p3 3) ∧ ((p5 = 0) → vp_in p4 3) ∧ Q (some (.int ((if p5 = 0 then I14 (x + 89 + p3.toNatClampNeg) p4.toNatClampNeg else I14 (x + 93 + p3.toNatClampNeg) p4.toNatClampNeg)))) (I14, J, R, K, n)))) ∧ (¬ (p4 < 3) → Q (some (.int ((-1000000)))) (I5, J, R, K, n)))))))))) ∧ (¬ (p5 ≤ 1) → Q (some (.int ((-1000000)))) (I5, J, R, K, n)))))))))))))) : zV G (d + 1) mX11_game kc ks 0 [(0, .ref (x)), (1, .int (p1)), (2, .int (p2)), (3, .int (p3)), (4, .int (p4)), (5, .int (p5))] [] (I, J, R, K, n) Q := by
  refine zAload_n 0 0 1 (by decide +kernel) rfl rfl ?_
  refine zIload_n 1 1 2 (by decide +kernel) rfl rfl ?_
  refine zCallV 11 zcls11 mX11_isFarm 146 1 0 0 _ _ 5 [.int (p1)] [] okX11_isFarm mlX11_146 imX11_isFarm seX11_isFarm (by decide +kernel) rfl rfl (Nat.le_of_ble_eq_true rfl) rfl rfl (X_0 S0_) (zC.mono F ?_)
  rintro _ _ ⟨x1, I2, rfl, rfl, F⟩
  change zV G (d + 1) mX11_game kc ks 5 [(0, .ref (x)), (1, .int (p1)), (2, .int (p2)), (3, .int (p3)), (4, .int (p4)), (5, .int (p5))] [.int (x1)] (I2, J, R, K, n) Q
  refine zIf_eq 27 32 8 (by decide +kernel) rfl rfl ⟨fun q3 => ?_, fun q3 => ?_⟩
  · replace F := F.1 q3
    refine zLdcw 272 (-1000000) 35 (by decide +kernel) rfl kcX11_272 ?_
    exact zIret rfl (by decide +kernel) F
  · replace F := F.2 q3
    refine zAload_n 0 0 9 (by decide +kernel) rfl rfl ?_
    refine zIload_n 2 2 10 (by decide +kernel) rfl rfl ?_
    refine zCallV 11 zcls11 mX11_isFarm 146 1 0 0 _ _ 13 [.int (p2)] [] okX11_isFarm mlX11_146 imX11_isFarm seX11_isFarm (by decide +kernel) rfl rfl (Nat.le_of_ble_eq_true rfl) rfl rfl (X_0 S0_) (zC.mono F ?_)
    rintro _ _ ⟨x4, I5, rfl, rfl, F⟩
    change zV G (d + 1) mX11_game kc ks 13 [(0, .ref (x)), (1, .int (p1)), (2, .int (p2)), (3, .int (p3)), (4, .int (p4)), (5, .int (p5))] [.int (x4)] (I5, J, R, K, n) Q
    refine zIf_eq 19 32 16 (by decide +kernel) rfl rfl ⟨fun q6 => ?_, fun q6 => ?_⟩
    · replace F := F.1 q6
      refine zLdcw 272 (-1000000) 35 (by decide +kernel) rfl kcX11_272 ?_
      exact zIret rfl (by decide +kernel) F
    · replace F := F.2 q6
      refine zIload_n 1 1 17 (by decide +kernel) rfl rfl ?_
      refine zIload_n 2 2 18 (by decide +kernel) rfl rfl ?_
      refine zIcmp_eq 14 32 21 (by decide +kernel) rfl rfl ⟨fun q7 => ?_, fun q7 => ?_⟩
      · replace F := F.1 q7
        refine zLdcw 272 (-1000000) 35 (by decide +kernel) rfl kcX11_272 ?_
        exact zIret rfl (by decide +kernel) F
      · replace F := F.2 q7
        refine zIload 5 5 23 (by decide +kernel) rfl rfl ?_
        refine zIf_lt 9 32 26 (by decide +kernel) rfl rfl ⟨fun q8 => ?_, fun q8 => ?_⟩
        · replace F := F.1 q8
          refine zLdcw 272 (-1000000) 35 (by decide +kernel) rfl kcX11_272 ?_
          exact zIret rfl (by decide +kernel) F
        · replace F := F.2 q8
          refine zIload 5 5 28 (by decide +kernel) rfl rfl ?_
          refine zIconst 1 1 29 (by decide +kernel) rfl (by decide) ?_
          refine zIcmp_le 7 36 32 (by decide +kernel) rfl rfl ⟨fun q9 => ?_, fun q9 => ?_⟩
          · replace F := F.1 q9
            refine zIload_n 3 3 37 (by decide +kernel) rfl rfl ?_
            refine zIf_lt 19 56 40 (by decide +kernel) rfl rfl ⟨fun q10 => ?_, fun q10 => ?_⟩
            · replace F := F.1 q10
              refine zLdcw 272 (-1000000) 59 (by decide +kernel) rfl kcX11_272 ?_
              exact zIret rfl (by decide +kernel) F
            · replace F := F.2 q10
              refine zIload_n 3 3 41 (by decide +kernel) rfl rfl ?_
              refine zIconst 3 3 42 (by decide +kernel) rfl (by decide) ?_
              refine zIcmp_ge 14 56 45 (by decide +kernel) rfl rfl ⟨fun q11 => ?_, fun q11 => ?_⟩
              · replace F := F.1 q11
                refine zLdcw 272 (-1000000) 59 (by decide +kernel) rfl kcX11_272 ?_
                exact zIret rfl (by decide +kernel) F
              · replace F := F.2 q11
                refine zIload 4 4 47 (by decide +kernel) rfl rfl ?_
                refine zIf_lt 9 56 50 (by decide +kernel) rfl rfl ⟨fun q12 => ?_, fun q12 => ?_⟩
                · replace F := F.1 q12
                  refine zLdcw 272 (-1000000) 59 (by decide +kernel) rfl kcX11_272 ?_
                  exact zIret rfl (by decide +kernel) F
                · replace F := F.2 q12
                  refine zIload 4 4 52 (by decide +kernel) rfl rfl ?_
                  refine zIconst 3 3 53 (by decide +kernel) rfl (by decide) ?_
                  refine zIcmp_lt 7 60 56 (by decide +kernel) rfl rfl ⟨fun q13 => ?_, fun q13 => ?_⟩
                  · replace F := F.1 q13
                    refine zAload_n 0 0 61 (by decide +kernel) rfl rfl ?_
                    refine gf11_7 63 64 (by decide +kernel) rfl flX11_63 (X_0 S0_) (X_14 S0_) ?_
                    refine zIload_n 1 1 65 (by decide +kernel) rfl rfl ?_
                    refine zIload_n 2 2 66 (by decide +kernel) rfl rfl ?_
                    refine zIload_n 3 3 67 (by decide +kernel) rfl rfl ?_
                    refine zIload 4 4 69 (by decide +kernel) rfl rfl ?_
                    refine zCallV 0 zcls0 mX0_play 340 4 0 0 _ _ 72 [.int (p1), .int (p2), .int (p3), .int (p4)] [] okX0_play mlX11_340 imX0_play seX0_play (by decide +kernel) rfl rfl (Nat.le_of_ble_eq_true rfl) rfl rfl (Gam_0 (X_15 S0_)) (zC.mono F ?_)
                    rintro _ _ ⟨I14, rfl, rfl, F⟩
                    change zV G (d + 1) mX11_game kc ks 72 [(0, .ref (x)), (1, .int (p1)), (2, .int (p2)), (3, .int (p3)), (4, .int (p4)), (5, .int (p5))] [] (I14, J, R, K, n) Q
                    refine zIload 5 5 74 (by decide +kernel) rfl rfl ?_
                    obtain ⟨w16, F⟩ := F
                    obtain ⟨w17, F⟩ := F
                    obtain ⟨w18, F⟩ := F
                    obtain ⟨w19, F⟩ := F
                    suffices KK : zV G (d + 1) mX11_game kc ks 104 [(0, .ref (x)), (1, .int (p1)), (2, .int (p2)), (3, .int (p3)), (4, .int (p4)), (5, .int (p5))] [.int ((if p5 = 0 then I14 (x + 89 + p3.toNatClampNeg) p4.toNatClampNeg else I14 (x + 93 + p3.toNatClampNeg) p4.toNatClampNeg))] (I14, J, R, K, n) Q by
                      refine zIf_ne 18 92 77 (by decide +kernel) rfl rfl ⟨fun q15 => ?_, fun q15 => ?_⟩
                      · refine zAload_n 0 0 93 (by decide +kernel) rfl rfl ?_
                        refine gf11_7 63 96 (by decide +kernel) rfl flX11_63 (X_0 S0_) (X_14 S0_) ?_
                        refine gf0_1 348 99 (by decide +kernel) rfl flX11_348 (Gam_0 (X_15 S0_)) (Gam_4 (X_15 S0_)) ?_
                        refine zIload_n 3 3 100 (by decide +kernel) rfl rfl ?_
                        refine yAaloadG 3 101 (by decide +kernel) rfl (Gam_5 (X_15 S0_)) (w16 q15) ((Gam_6 (X_15 S0_)) _ (zInLt (w16 q15))).1 ?_
                        refine zIload 4 4 103 (by decide +kernel) rfl rfl ?_
                        refine yIaload 3 104 (by decide +kernel) rfl ((Gam_6 (X_15 S0_)) _ (zInLt (w16 q15))).2 (w17 q15) ?_
                        exact zTop (by rw [if_neg q15]) KK
                      · refine zAload_n 0 0 78 (by decide +kernel) rfl rfl ?_
                        refine gf11_7 63 81 (by decide +kernel) rfl flX11_63 (X_0 S0_) (X_14 S0_) ?_
                        refine gf0_0 344 84 (by decide +kernel) rfl flX11_344 (Gam_0 (X_15 S0_)) (Gam_1 (X_15 S0_)) ?_
                        refine zIload_n 3 3 85 (by decide +kernel) rfl rfl ?_
                        refine yAaloadG 3 86 (by decide +kernel) rfl (Gam_2 (X_15 S0_)) (w18 q15) ((Gam_3 (X_15 S0_)) _ (zInLt (w18 q15))).1 ?_
                        refine zIload 4 4 88 (by decide +kernel) rfl rfl ?_
                        refine yIaload 3 89 (by decide +kernel) rfl ((Gam_3 (X_15 S0_)) _ (zInLt (w18 q15))).2 (w19 q15) ?_
                        refine zGoto 15 104 (by decide +kernel) rfl ?_
                        exact zTop (by rw [if_pos q15]) KK
                    exact zIret rfl (by decide +kernel) F
                  · replace F := F.2 q13
                    refine zLdcw 272 (-1000000) 59 (by decide +kernel) rfl kcX11_272 ?_
                    exact zIret rfl (by decide +kernel) F
          · replace F := F.2 q9
            refine zLdcw 272 (-1000000) 35 (by decide +kernel) rfl kcX11_272 ?_
            exact zIret rfl (by decide +kernel) F
set_option maxHeartbeats 2000000 in
theorem wX11_rests_0 {G : zG} {d kc ks : Nat} {I : Nat → Nat → Int32} {J : Nat → Nat → Int64} {R : Nat → Nat → Option Nat} {K : Nat → Nat × Nat} {n : Nat} {Q : Option Value → zH → Prop} (x v w q : Nat) (S0_ : hX G R K n x v w q) (p1 p2 p3 : Int32) (F : zC G d mX11_isFarm 0 0 [.ref (x), .int (p1)] (I, J, R, K, n) (fun r h => ∃ (x1 : Int32) (I2 : Nat → Nat → Int32), r = some (.int x1) ∧ h = (I2, J, R, K, n) ∧ ((x1 = 0 → Q (some (.int ((-1)))) (I2, J, R, K, n)) ∧ (¬ (x1 = 0) → zC G d mX11_isFarm 0 0 [.ref (x), .int (p2)] (I2, J, R, K, n) (fun r h => ∃ (x4 : Int32) (I5 : Nat → Nat → Int32), r = some (.int x4) ∧ h = (I5, J, R, K, n) ∧ ((x4 = 0 → Q (some (.int ((-1)))) (I5, J, R, K, n)) ∧ (¬ (x4 = 0) → ((p1 = p2 → Q (some (.int ((-1)))) (I5, J, R, K, n)) ∧ (¬ (p1 = p2) → zC G d mX0_findRests 0 0 [.ref (x + 87), .int (p1), .int (p2)] (I5, J, R, K, n) (fun r h => ∃ (I8 : Nat → Nat → Int32), r = none ∧ h = (I8, J, R, K, n) ∧ ((p3 = (-1) → Q (some (.int (I8 (x + 87) 3))) (I8, J, R, K, n)) ∧ (¬ (p3 = (-1)) → (((¬ (p3 < 0)) → (¬ ((I8 (x + 87) 3 : Int32) ≤ p3)) → vp_in p3 9) ∧ Q (some (.int ((if p3 < 0 then (-1) else (if (I8 (x + 87) 3 : Int32) ≤ p3 then (-1) else I8 (x + 96) p3.toNatClampNeg))))) (I8, J, R, K, n)))))))))))))) : zV G (d + 1) mX11_rests kc ks 0 [(0, .ref (x)), (1, .int (p1)), (2, .int (p2)), (3, .int (p3))] [] (I, J, R, K, n) Q := by
  refine zAload_n 0 0 1 (by decide +kernel) rfl rfl ?_
  refine zIload_n 1 1 2 (by decide +kernel) rfl rfl ?_
  refine zCallV 11 zcls11 mX11_isFarm 146 1 0 0 _ _ 5 [.int (p1)] [] okX11_isFarm mlX11_146 imX11_isFarm seX11_isFarm (by decide +kernel) rfl rfl (Nat.le_of_ble_eq_true rfl) rfl rfl (X_0 S0_) (zC.mono F ?_)
  rintro _ _ ⟨x1, I2, rfl, rfl, F⟩
  change zV G (d + 1) mX11_rests kc ks 5 [(0, .ref (x)), (1, .int (p1)), (2, .int (p2)), (3, .int (p3))] [.int (x1)] (I2, J, R, K, n) Q
  refine zIf_eq 16 21 8 (by decide +kernel) rfl rfl ⟨fun q3 => ?_, fun q3 => ?_⟩
  · replace F := F.1 q3
    refine zIconst (-1) (-1) 22 (by decide +kernel) rfl (by decide) ?_
    exact zIret rfl (by decide +kernel) F
  · replace F := F.2 q3
    refine zAload_n 0 0 9 (by decide +kernel) rfl rfl ?_
    refine zIload_n 2 2 10 (by decide +kernel) rfl rfl ?_
    refine zCallV 11 zcls11 mX11_isFarm 146 1 0 0 _ _ 13 [.int (p2)] [] okX11_isFarm mlX11_146 imX11_isFarm seX11_isFarm (by decide +kernel) rfl rfl (Nat.le_of_ble_eq_true rfl) rfl rfl (X_0 S0_) (zC.mono F ?_)
    rintro _ _ ⟨x4, I5, rfl, rfl, F⟩
    change zV G (d + 1) mX11_rests kc ks 13 [(0, .ref (x)), (1, .int (p1)), (2, .int (p2)), (3, .int (p3))] [.int (x4)] (I5, J, R, K, n) Q
    refine zIf_eq 8 21 16 (by decide +kernel) rfl rfl ⟨fun q6 => ?_, fun q6 => ?_⟩
    · replace F := F.1 q6
      refine zIconst (-1) (-1) 22 (by decide +kernel) rfl (by decide) ?_
      exact zIret rfl (by decide +kernel) F
    · replace F := F.2 q6
      refine zIload_n 1 1 17 (by decide +kernel) rfl rfl ?_
      refine zIload_n 2 2 18 (by decide +kernel) rfl rfl ?_
      refine zIcmp_ne 5 23 21 (by decide +kernel) rfl rfl ⟨fun q7 => ?_, fun q7 => ?_⟩
      · replace F := F.2 q7
        refine zAload_n 0 0 24 (by decide +kernel) rfl rfl ?_
        refine gf11_7 63 27 (by decide +kernel) rfl flX11_63 (X_0 S0_) (X_14 S0_) ?_
        refine zIload_n 1 1 28 (by decide +kernel) rfl rfl ?_
        refine zIload_n 2 2 29 (by decide +kernel) rfl rfl ?_
        refine zCallV 0 zcls0 mX0_findRests 351 2 0 0 _ _ 32 [.int (p1), .int (p2)] [] okX0_findRests mlX11_351 imX0_findRests seX0_findRests (by decide +kernel) rfl rfl (Nat.le_of_ble_eq_true rfl) rfl rfl (Gam_0 (X_15 S0_)) (zC.mono F ?_)
        rintro _ _ ⟨I8, rfl, rfl, F⟩
        change zV G (d + 1) mX11_rests kc ks 32 [(0, .ref (x)), (1, .int (p1)), (2, .int (p2)), (3, .int (p3))] [] (I8, J, R, K, n) Q
        refine zIload_n 3 3 33 (by decide +kernel) rfl rfl ?_
        refine zIconst (-1) (-1) 34 (by decide +kernel) rfl (by decide) ?_
        refine zIcmp_ne 11 45 37 (by decide +kernel) rfl rfl ⟨fun q9 => ?_, fun q9 => ?_⟩
        · replace F := F.2 q9
          refine zIload_n 3 3 46 (by decide +kernel) rfl rfl ?_
          obtain ⟨w12, F⟩ := F
          suffices KK : zV G (d + 1) mX11_rests kc ks 73 [(0, .ref (x)), (1, .int (p1)), (2, .int (p2)), (3, .int (p3))] [.int ((if p3 < 0 then (-1) else (if (I8 (x + 87) 3 : Int32) ≤ p3 then (-1) else I8 (x + 96) p3.toNatClampNeg)))] (I8, J, R, K, n) Q by
            refine zIf_lt 26 72 49 (by decide +kernel) rfl rfl ⟨fun q10 => ?_, fun q10 => ?_⟩
            · refine zIconst (-1) (-1) 73 (by decide +kernel) rfl (by decide) ?_
              exact zTop (by rw [if_pos q10]) KK
            · refine zIload_n 3 3 50 (by decide +kernel) rfl rfl ?_
              refine zAload_n 0 0 51 (by decide +kernel) rfl rfl ?_
              refine gf11_7 63 54 (by decide +kernel) rfl flX11_63 (X_0 S0_) (X_14 S0_) ?_
              refine gf0_3 354 57 (by decide +kernel) rfl flX11_354 (Gam_0 (X_15 S0_)) ?_
              refine zIcmp_ge 15 72 60 (by decide +kernel) rfl rfl ⟨fun q11 => ?_, fun q11 => ?_⟩
              · refine zIconst (-1) (-1) 73 (by decide +kernel) rfl (by decide) ?_
                exact zTop (by rw [if_neg q10, if_pos q11]) KK
              · refine zAload_n 0 0 61 (by decide +kernel) rfl rfl ?_
                refine gf11_7 63 64 (by decide +kernel) rfl flX11_63 (X_0 S0_) (X_14 S0_) ?_
                refine gf0_2 357 67 (by decide +kernel) rfl flX11_357 (Gam_0 (X_15 S0_)) (Gam_7 (X_15 S0_)) ?_
                refine zIload_n 3 3 68 (by decide +kernel) rfl rfl ?_
                refine yIaload 9 69 (by decide +kernel) rfl (Gam_8 (X_15 S0_)) (w12 q10 q11) ?_
                refine zGoto 4 73 (by decide +kernel) rfl ?_
                exact zTop (by rw [if_neg q10, if_neg q11]) KK
          exact zIret rfl (by decide +kernel) F
        · replace F := F.1 q9
          refine zAload_n 0 0 38 (by decide +kernel) rfl rfl ?_
          refine gf11_7 63 41 (by decide +kernel) rfl flX11_63 (X_0 S0_) (X_14 S0_) ?_
          refine gf0_3 354 44 (by decide +kernel) rfl flX11_354 (Gam_0 (X_15 S0_)) ?_
          exact zIret rfl (by decide +kernel) F
      · replace F := F.1 q7
        refine zIconst (-1) (-1) 22 (by decide +kernel) rfl (by decide) ?_
        exact zIret rfl (by decide +kernel) F
set_option maxHeartbeats 2000000 in
theorem wX11_odds_0 {G : zG} {d kc ks : Nat} {I : Nat → Nat → Int32} {J : Nat → Nat → Int64} {R : Nat → Nat → Option Nat} {K : Nat → Nat × Nat} {n : Nat} {Q : Option Value → zH → Prop} (x v w q : Nat) (S0_ : hX G R K n x v w q) (p1 p2 : Int32) (F : zC G d mX11_isFarm 0 0 [.ref (x), .int (p1)] (I, J, R, K, n) (fun r h => ∃ (x1 : Int32) (I2 : Nat → Nat → Int32), r = some (.int x1) ∧ h = (I2, J, R, K, n) ∧ ((x1 = 0 → Q (some (.int ((-1)))) (I2, J, R, K, n)) ∧ (¬ (x1 = 0) → ((p2 < 0 → Q (some (.int ((-1)))) (I2, J, R, K, n)) ∧ (¬ (p2 < 0) → ((p2 ≤ 100 → zC G d mX8_copyFrom 0 0 [.ref (x + 20), .ref (x + 12)] (I2, J, R, K, n) (fun r h => ∃ (I6 : Nat → Nat → Int32), r = none ∧ h = (I6, J, R, K, n) ∧ zC G d mX4_whiteOdds 0 0 [.ref (x + 80), .int (p1), .int (p2)] (I6, J, R, K, n) (fun r h => ∃ (x7 : Int32) (I8 : Nat → Nat → Int32), r = some (.int x7) ∧ h = (I8, J, R, K, n) ∧ Q (some (.int (x7))) (I8, J, R, K, n)))) ∧ (¬ (p2 ≤ 100) → Q (some (.int ((-1)))) (I2, J, R, K, n))))))))) : zV G (d + 1) mX11_odds kc ks 0 [(0, .ref (x)), (1, .int (p1)), (2, .int (p2))] [] (I, J, R, K, n) Q := by
  refine zAload_n 0 0 1 (by decide +kernel) rfl rfl ?_
  refine zIload_n 1 1 2 (by decide +kernel) rfl rfl ?_
  refine zCallV 11 zcls11 mX11_isFarm 146 1 0 0 _ _ 5 [.int (p1)] [] okX11_isFarm mlX11_146 imX11_isFarm seX11_isFarm (by decide +kernel) rfl rfl (Nat.le_of_ble_eq_true rfl) rfl rfl (X_0 S0_) (zC.mono F ?_)
  rintro _ _ ⟨x1, I2, rfl, rfl, F⟩
  change zV G (d + 1) mX11_odds kc ks 5 [(0, .ref (x)), (1, .int (p1)), (2, .int (p2))] [.int (x1)] (I2, J, R, K, n) Q
  refine zIf_eq 13 18 8 (by decide +kernel) rfl rfl ⟨fun q3 => ?_, fun q3 => ?_⟩
  · replace F := F.1 q3
    refine zIconst (-1) (-1) 19 (by decide +kernel) rfl (by decide) ?_
    exact zIret rfl (by decide +kernel) F
  · replace F := F.2 q3
    refine zIload_n 2 2 9 (by decide +kernel) rfl rfl ?_
    refine zIf_lt 9 18 12 (by decide +kernel) rfl rfl ⟨fun q4 => ?_, fun q4 => ?_⟩
    · replace F := F.1 q4
      refine zIconst (-1) (-1) 19 (by decide +kernel) rfl (by decide) ?_
      exact zIret rfl (by decide +kernel) F
    · replace F := F.2 q4
      refine zIload_n 2 2 13 (by decide +kernel) rfl rfl ?_
      refine zBipush 100 100 15 (by decide +kernel) rfl (by decide) ?_
      refine zIcmp_le 5 20 18 (by decide +kernel) rfl rfl ⟨fun q5 => ?_, fun q5 => ?_⟩
      · replace F := F.1 q5
        refine zAload_n 0 0 21 (by decide +kernel) rfl rfl ?_
        refine gf11_3 32 24 (by decide +kernel) rfl flX11_32 (X_0 S0_) (X_6 S0_) ?_
        refine zAload_n 0 0 25 (by decide +kernel) rfl rfl ?_
        refine gf11_2 28 28 (by decide +kernel) rfl flX11_28 (X_0 S0_) (X_4 S0_) ?_
        refine zCallV 8 zcls8 mX8_copyFrom 282 1 0 0 _ _ 31 [.ref (x + 12)] [] okX8_copyFrom mlX11_282 imX8_copyFrom seX8_copyFrom (by decide +kernel) rfl rfl (Nat.le_of_ble_eq_true rfl) rfl rfl (St_0 (Gam_12 (X_15 S0_))) (zC.mono F ?_)
        rintro _ _ ⟨I6, rfl, rfl, F⟩
        change zV G (d + 1) mX11_odds kc ks 31 [(0, .ref (x)), (1, .int (p1)), (2, .int (p2))] [] (I6, J, R, K, n) Q
        refine zAload_n 0 0 32 (by decide +kernel) rfl rfl ?_
        refine gf11_5 47 35 (by decide +kernel) rfl flX11_47 (X_0 S0_) (X_10 S0_) ?_
        refine zIload_n 1 1 36 (by decide +kernel) rfl rfl ?_
        refine zIload_n 2 2 37 (by decide +kernel) rfl rfl ?_
        refine zCallV 4 zcls4 mX4_whiteOdds 360 2 0 0 _ _ 40 [.int (p1), .int (p2)] [] okX4_whiteOdds mlX11_360 imX4_whiteOdds seX4_whiteOdds (by decide +kernel) rfl rfl (Nat.le_of_ble_eq_true rfl) rfl rfl (Sea_0 (X_11 S0_)) (zC.mono F ?_)
        rintro _ _ ⟨x7, I8, rfl, rfl, F⟩
        change zV G (d + 1) mX11_odds kc ks 40 [(0, .ref (x)), (1, .int (p1)), (2, .int (p2))] [.int (x7)] (I8, J, R, K, n) Q
        exact zIret rfl (by decide +kernel) F
      · replace F := F.2 q5
        refine zIconst (-1) (-1) 19 (by decide +kernel) rfl (by decide) ?_
        exact zIret rfl (by decide +kernel) F
set_option maxHeartbeats 2000000 in
theorem wX11_shares_0 {G : zG} {d kc ks : Nat} {I : Nat → Nat → Int32} {J : Nat → Nat → Int64} {R : Nat → Nat → Option Nat} {K : Nat → Nat × Nat} {n : Nat} {Q : Option Value → zH → Prop} (x v w q : Nat) (S0_ : hX G R K n x v w q) (p1 p2 : Int32) (F : zC G d mX11_isFarm 0 0 [.ref (x), .int (p1)] (I, J, R, K, n) (fun r h => ∃ (x1 : Int32) (I2 : Nat → Nat → Int32), r = some (.int x1) ∧ h = (I2, J, R, K, n) ∧ ((x1 = 0 → Q (some (.int ((-1)))) (I2, J, R, K, n)) ∧ (¬ (x1 = 0) → ((p2 < 0 → Q (some (.int ((-1)))) (I2, J, R, K, n)) ∧ (¬ (p2 < 0) → ((p2 ≤ 999 → zC G d mX11_sum 0 0 [.ref (x + 16)] (I2, J, R, K, n) (fun r h => ∃ (x6 : Int32) (I7 : Nat → Nat → Int32), r = some (.int x6) ∧ h = (I7, J, R, K, n) ∧ (((¬ (x6 = 0)) → vp_in p1 6) ∧ ((¬ (x6 = 0)) → ¬ (x6 : Int32) = 0) ∧ Q (some (.int ((if x6 = 0 then 0 else (p2 * (I7 (x + 16) p1.toNatClampNeg)) / x6)))) (I7, J, R, K, n)))) ∧ (¬ (p2 ≤ 999) → Q (some (.int ((-1)))) (I2, J, R, K, n))))))))) : zV G (d + 1) mX11_shares kc ks 0 [(0, .ref (x)), (1, .int (p1)), (2, .int (p2))] [] (I, J, R, K, n) Q := by
  refine zAload_n 0 0 1 (by decide +kernel) rfl rfl ?_
  refine zIload_n 1 1 2 (by decide +kernel) rfl rfl ?_
  refine zCallV 11 zcls11 mX11_isFarm 146 1 0 0 _ _ 5 [.int (p1)] [] okX11_isFarm mlX11_146 imX11_isFarm seX11_isFarm (by decide +kernel) rfl rfl (Nat.le_of_ble_eq_true rfl) rfl rfl (X_0 S0_) (zC.mono F ?_)
  rintro _ _ ⟨x1, I2, rfl, rfl, F⟩
  change zV G (d + 1) mX11_shares kc ks 5 [(0, .ref (x)), (1, .int (p1)), (2, .int (p2))] [.int (x1)] (I2, J, R, K, n) Q
  refine zIf_eq 14 19 8 (by decide +kernel) rfl rfl ⟨fun q3 => ?_, fun q3 => ?_⟩
  · replace F := F.1 q3
    refine zIconst (-1) (-1) 20 (by decide +kernel) rfl (by decide) ?_
    exact zIret rfl (by decide +kernel) F
  · replace F := F.2 q3
    refine zIload_n 2 2 9 (by decide +kernel) rfl rfl ?_
    refine zIf_lt 10 19 12 (by decide +kernel) rfl rfl ⟨fun q4 => ?_, fun q4 => ?_⟩
    · replace F := F.1 q4
      refine zIconst (-1) (-1) 20 (by decide +kernel) rfl (by decide) ?_
      exact zIret rfl (by decide +kernel) F
    · replace F := F.2 q4
      refine zIload_n 2 2 13 (by decide +kernel) rfl rfl ?_
      refine zSipush 999 999 16 (by decide +kernel) rfl (by decide) ?_
      refine zIcmp_le 5 21 19 (by decide +kernel) rfl rfl ⟨fun q5 => ?_, fun q5 => ?_⟩
      · replace F := F.1 q5
        refine zAload_n 0 0 22 (by decide +kernel) rfl rfl ?_
        refine gf11_2 28 25 (by decide +kernel) rfl flX11_28 (X_0 S0_) (X_4 S0_) ?_
        refine gf8_3 162 28 (by decide +kernel) rfl flX11_162 (St_0 (Gam_10 (X_15 S0_))) (St_7 (Gam_10 (X_15 S0_))) ?_
        refine zCallS mX11_sum 363 1 0 0 _ _ 31 [.ref (x + 16)] [] okX11_sum mlX11_363 smX11_sum (by decide +kernel) rfl rfl (Nat.le_of_ble_eq_true rfl) rfl rfl (zC.mono F ?_)
        rintro _ _ ⟨x6, I7, rfl, rfl, F⟩
        change zV G (d + 1) mX11_shares kc ks 31 [(0, .ref (x)), (1, .int (p1)), (2, .int (p2))] [.int (x6)] (I7, J, R, K, n) Q
        refine zIstore_n 3 [(3, .int (x6)), (0, .ref (x)), (1, .int (p1)), (2, .int (p2))] 32 (by decide +kernel) rfl (by decide) rfl ?_
        refine zIload_n 3 0 33 (by decide +kernel) rfl rfl ?_
        obtain ⟨w9, F⟩ := F
        obtain ⟨w10, F⟩ := F
        suffices KK : zV G (d + 1) mX11_shares kc ks 53 [(3, .int (x6)), (0, .ref (x)), (1, .int (p1)), (2, .int (p2))] [.int ((if x6 = 0 then 0 else (p2 * (I7 (x + 16) p1.toNatClampNeg)) / x6))] (I7, J, R, K, n) Q by
          refine zIf_ne 7 40 36 (by decide +kernel) rfl rfl ⟨fun q8 => ?_, fun q8 => ?_⟩
          · refine zIload_n 2 3 41 (by decide +kernel) rfl rfl ?_
            refine zAload_n 0 1 42 (by decide +kernel) rfl rfl ?_
            refine gf11_2 28 45 (by decide +kernel) rfl flX11_28 (X_0 S0_) (X_4 S0_) ?_
            refine gf8_3 162 48 (by decide +kernel) rfl flX11_162 (St_0 (Gam_10 (X_15 S0_))) (St_7 (Gam_10 (X_15 S0_))) ?_
            refine zIload_n 1 2 49 (by decide +kernel) rfl rfl ?_
            refine yIaload 6 50 (by decide +kernel) rfl (St_8 (Gam_10 (X_15 S0_))) (w9 q8) ?_
            refine zImul 51 (by decide +kernel) rfl ?_
            refine zIload_n 3 0 52 (by decide +kernel) rfl rfl ?_
            refine zIdiv 53 (by decide +kernel) rfl (w10 q8) ?_
            exact zTop (by rw [if_neg q8]) KK
          · refine zIconst 0 0 37 (by decide +kernel) rfl (by decide) ?_
            refine zGoto 16 53 (by decide +kernel) rfl ?_
            exact zTop (by rw [if_pos q8]) KK
        exact zIret rfl (by decide +kernel) F
      · replace F := F.2 q5
        refine zIconst (-1) (-1) 20 (by decide +kernel) rfl (by decide) ?_
        exact zIret rfl (by decide +kernel) F
set_option maxHeartbeats 2000000 in
theorem wX11_fades_0 {G : zG} {d kc ks : Nat} {I : Nat → Nat → Int32} {J : Nat → Nat → Int64} {R : Nat → Nat → Option Nat} {K : Nat → Nat × Nat} {n : Nat} {Q : Option Value → zH → Prop} (x v w q : Nat) (S0_ : hX G R K n x v w q) (p1 : Int32) (F : zC G d mX11_isFarm 0 0 [.ref (x), .int (p1)] (I, J, R, K, n) (fun r h => ∃ (x1 : Int32) (I2 : Nat → Nat → Int32), r = some (.int x1) ∧ h = (I2, J, R, K, n) ∧ ((x1 = 0 → Q (some (.int ((-1)))) (I2, J, R, K, n)) ∧ (¬ (x1 = 0) → zC G d mX8_copyFrom 0 0 [.ref (x + 20), .ref (x + 12)] (I2, J, R, K, n) (fun r h => ∃ (I4 : Nat → Nat → Int32), r = none ∧ h = (I4, J, R, K, n) ∧ zV G (d + 1) mX11_fades kc ks 23 [(0, .ref (x)), (1, .int (p1)), (2, .int (0))] [] (I4, J, R, K, n) Q))))) : zV G (d + 1) mX11_fades kc ks 0 [(0, .ref (x)), (1, .int (p1))] [] (I, J, R, K, n) Q := by
  refine zAload_n 0 0 1 (by decide +kernel) rfl rfl ?_
  refine zIload_n 1 1 2 (by decide +kernel) rfl rfl ?_
  refine zCallV 11 zcls11 mX11_isFarm 146 1 0 0 _ _ 5 [.int (p1)] [] okX11_isFarm mlX11_146 imX11_isFarm seX11_isFarm (by decide +kernel) rfl rfl (Nat.le_of_ble_eq_true rfl) rfl rfl (X_0 S0_) (zC.mono F ?_)
  rintro _ _ ⟨x1, I2, rfl, rfl, F⟩
  change zV G (d + 1) mX11_fades kc ks 5 [(0, .ref (x)), (1, .int (p1))] [.int (x1)] (I2, J, R, K, n) Q
  refine zIf_ne 5 10 8 (by decide +kernel) rfl rfl ⟨fun q3 => ?_, fun q3 => ?_⟩
  · replace F := F.2 q3
    refine zAload_n 0 0 11 (by decide +kernel) rfl rfl ?_
    refine gf11_3 32 14 (by decide +kernel) rfl flX11_32 (X_0 S0_) (X_6 S0_) ?_
    refine zAload_n 0 0 15 (by decide +kernel) rfl rfl ?_
    refine gf11_2 28 18 (by decide +kernel) rfl flX11_28 (X_0 S0_) (X_4 S0_) ?_
    refine zCallV 8 zcls8 mX8_copyFrom 282 1 0 0 _ _ 21 [.ref (x + 12)] [] okX8_copyFrom mlX11_282 imX8_copyFrom seX8_copyFrom (by decide +kernel) rfl rfl (Nat.le_of_ble_eq_true rfl) rfl rfl (St_0 (Gam_12 (X_15 S0_))) (zC.mono F ?_)
    rintro _ _ ⟨I4, rfl, rfl, F⟩
    change zV G (d + 1) mX11_fades kc ks 21 [(0, .ref (x)), (1, .int (p1))] [] (I4, J, R, K, n) Q
    refine zIconst 0 0 22 (by decide +kernel) rfl (by decide) ?_
    refine zIstore_n 2 [(2, .int (0)), (0, .ref (x)), (1, .int (p1))] 23 (by decide +kernel) rfl (by decide) rfl ?_
    exact zLoc [1, 2, 0] _ rfl F
  · replace F := F.1 q3
    refine zIconst (-1) (-1) 9 (by decide +kernel) rfl (by decide) ?_
    exact zIret rfl (by decide +kernel) F
set_option maxHeartbeats 2000000 in
theorem wX11_fades_23 {G : zG} {d kc ks : Nat} {I : Nat → Nat → Int32} {J : Nat → Nat → Int64} {R : Nat → Nat → Option Nat} {K : Nat → Nat × Nat} {n : Nat} {Q : Option Value → zH → Prop} (x v w q : Nat) (S0_ : hX G R K n x v w q) (l1 l2 : Int32) (F : ((120 < l2 → Q (some (.int ((-1)))) (I, J, R, K, n)) ∧ (¬ (120 < l2) → zC G d mX8_whiteYards 0 0 [.ref (x + 20), .int (l1)] (I, J, R, K, n) (fun r h => ∃ (x6 : Int32) (I7 : Nat → Nat → Int32), r = some (.int x6) ∧ h = (I7, J, R, K, n) ∧ ((x6 = 0 → Q (some (.int (l2))) (I7, J, R, K, n)) ∧ (¬ (x6 = 0) → zC G d mX8_wear 0 0 [.ref (x + 20)] (I7, J, R, K, n) (fun r h => ∃ (I9 : Nat → Nat → Int32), r = none ∧ h = (I9, J, R, K, n) ∧ zV G (d + 1) mX11_fades kc ks 23 [(0, .ref (x)), (1, .int (l1)), (2, .int (l2 + 1))] [] (I9, J, R, K, n) Q))))))) : zV G (d + 1) mX11_fades kc ks 23 [(0, .ref (x)), (1, .int (l1)), (2, .int (l2))] [] (I, J, R, K, n) Q := by
  refine zIload_n 2 2 24 (by decide +kernel) rfl rfl ?_
  refine zBipush 120 120 26 (by decide +kernel) rfl (by decide) ?_
  refine zIcmp_gt 29 55 29 (by decide +kernel) rfl rfl ⟨fun q5 => ?_, fun q5 => ?_⟩
  · replace F := F.1 q5
    refine zIconst (-1) (-1) 56 (by decide +kernel) rfl (by decide) ?_
    exact zIret rfl (by decide +kernel) F
  · replace F := F.2 q5
    refine zAload_n 0 0 30 (by decide +kernel) rfl rfl ?_
    refine gf11_3 32 33 (by decide +kernel) rfl flX11_32 (X_0 S0_) (X_6 S0_) ?_
    refine zIload_n 1 1 34 (by decide +kernel) rfl rfl ?_
    refine zCallV 8 zcls8 mX8_whiteYards 367 1 0 0 _ _ 37 [.int (l1)] [] okX8_whiteYards mlX11_367 imX8_whiteYards seX8_whiteYards (by decide +kernel) rfl rfl (Nat.le_of_ble_eq_true rfl) rfl rfl (St_0 (Gam_12 (X_15 S0_))) (zC.mono F ?_)
    rintro _ _ ⟨x6, I7, rfl, rfl, F⟩
    change zV G (d + 1) mX11_fades kc ks 37 [(0, .ref (x)), (1, .int (l1)), (2, .int (l2))] [.int (x6)] (I7, J, R, K, n) Q
    refine zIf_ne 5 42 40 (by decide +kernel) rfl rfl ⟨fun q8 => ?_, fun q8 => ?_⟩
    · replace F := F.2 q8
      refine zAload_n 0 0 43 (by decide +kernel) rfl rfl ?_
      refine gf11_3 32 46 (by decide +kernel) rfl flX11_32 (X_0 S0_) (X_6 S0_) ?_
      refine zCallV 8 zcls8 mX8_wear 226 0 0 0 _ _ 49 [] [] okX8_wear mlX11_226 imX8_wear seX8_wear (by decide +kernel) rfl rfl (Nat.le_of_ble_eq_true rfl) rfl rfl (St_0 (Gam_12 (X_15 S0_))) (zC.mono F ?_)
      rintro _ _ ⟨I9, rfl, rfl, F⟩
      change zV G (d + 1) mX11_fades kc ks 49 [(0, .ref (x)), (1, .int (l1)), (2, .int (l2))] [] (I9, J, R, K, n) Q
      refine zIinc 2 1 2 (l2 + 1) [(2, .int (l2 + 1)), (0, .ref (x)), (1, .int (l1))] 52 (by decide +kernel) rfl rfl (by rfl) (by decide) rfl ?_
      refine zGoto (-29) 23 (by decide +kernel) rfl ?_
      exact zLoc [1, 2, 0] _ rfl F
    · replace F := F.1 q8
      refine zIload_n 2 2 41 (by decide +kernel) rfl rfl ?_
      exact zIret rfl (by decide +kernel) F
set_option maxHeartbeats 2000000 in
theorem wX11_all_0 {G : zG} {d kc ks : Nat} {I : Nat → Nat → Int32} {J : Nat → Nat → Int64} {R : Nat → Nat → Option Nat} {K : Nat → Nat × Nat} {n : Nat} {Q : Option Value → zH → Prop} (x v w q : Nat) (S0_ : hX G R K n x v w q) (p1 : Int32) (F : zC G d mX11_hasVillage 0 0 [.ref (x)] (I, J, R, K, n) (fun r h => ∃ (x1 : Int32) (I2 : Nat → Nat → Int32), r = some (.int x1) ∧ h = (I2, J, R, K, n) ∧ ((x1 = 0 → Q (some (.int ((-1)))) (I2, J, R, K, n)) ∧ (¬ (x1 = 0) → ((0 ≤ p1 → ((5 < p1 → ((p1 = 6 → zC G d mX11_heaviestPlace 0 0 [.ref (x)] (I2, J, R, K, n) (fun r h => ∃ (x7 : Int32) (I8 : Nat → Nat → Int32), r = some (.int x7) ∧ h = (I8, J, R, K, n) ∧ Q (some (.int (x7))) (I8, J, R, K, n))) ∧ (p1 = 7 → zC G d mX8_whites 0 0 [.ref (x + 12)] (I2, J, R, K, n) (fun r h => ∃ (x10 : Int32) (I11 : Nat → Nat → Int32), r = some (.int x10) ∧ h = (I11, J, R, K, n) ∧ Q (some (.int (x10))) (I11, J, R, K, n))) ∧ (p1 = 8 → zC G d mX8_falseFarms 0 0 [.ref (x + 12)] (I2, J, R, K, n) (fun r h => ∃ (x13 : Int32) (I14 : Nat → Nat → Int32), r = some (.int x13) ∧ h = (I14, J, R, K, n) ∧ Q (some (.int (x13))) (I14, J, R, K, n))) ∧ (p1 = 9 → zC G d mX8_opens 0 0 [.ref (x + 12)] (I2, J, R, K, n) (fun r h => ∃ (x16 : Int32) (I17 : Nat → Nat → Int32), r = some (.int x16) ∧ h = (I17, J, R, K, n) ∧ Q (some (.int (x16))) (I17, J, R, K, n))) ∧ (p1 = 10 → zC G d mX8_bareInAll 0 0 [.ref (x + 12)] (I2, J, R, K, n) (fun r h => ∃ (x19 : Int32) (I20 : Nat → Nat → Int32), r = some (.int x19) ∧ h = (I20, J, R, K, n) ∧ Q (some (.int ((if (x19 - (I20 (x + 12) 8) : Int32) < 0 then 0 else x19 - (I20 (x + 12) 8))))) (I20, J, R, K, n))) ∧ (p1 = 11 → zC G d mX11_sum 0 0 [.ref (x + 16)] (I2, J, R, K, n) (fun r h => ∃ (x22 : Int32) (I23 : Nat → Nat → Int32), r = some (.int x22) ∧ h = (I23, J, R, K, n) ∧ Q (some (.int (x22))) (I23, J, R, K, n))) ∧ (p1 = 12 → zC G d mX11_sum 0 0 [.ref (x + 17)] (I2, J, R, K, n) (fun r h => ∃ (x25 : Int32) (I26 : Nat → Nat → Int32), r = some (.int x25) ∧ h = (I26, J, R, K, n) ∧ Q (some (.int (x25))) (I26, J, R, K, n))) ∧ (¬ p1 = 6 → ¬ p1 = 7 → ¬ p1 = 8 → ¬ p1 = 9 → ¬ p1 = 10 → ¬ p1 = 11 → ¬ p1 = 12 → Q (some (.int ((-1)))) (I2, J, R, K, n)))) ∧ (¬ (5 < p1) → zC G d mX11_foremost 0 0 [.ref (x), .int (p1)] (I2, J, R, K, n) (fun r h => ∃ (x27 : Int32) (I28 : Nat → Nat → Int32), r = some (.int x27) ∧ h = (I28, J, R, K, n) ∧ Q (some (.int (x27))) (I28, J, R, K, n))))) ∧ (¬ (0 ≤ p1) → Q (some (.int ((-1)))) (I2, J, R, K, n))))))) : zV G (d + 1) mX11_all kc ks 0 [(0, .ref (x)), (1, .int (p1))] [] (I, J, R, K, n) Q := by
  refine zAload_n 0 0 1 (by decide +kernel) rfl rfl ?_
  refine zCallV 11 zcls11 mX11_hasVillage 213 0 0 0 _ _ 4 [] [] okX11_hasVillage mlX11_213 imX11_hasVillage seX11_hasVillage (by decide +kernel) rfl rfl (Nat.le_of_ble_eq_true rfl) rfl rfl (X_0 S0_) (zC.mono F ?_)
  rintro _ _ ⟨x1, I2, rfl, rfl, F⟩
  change zV G (d + 1) mX11_all kc ks 4 [(0, .ref (x)), (1, .int (p1))] [.int (x1)] (I2, J, R, K, n) Q
  refine zIf_eq 7 11 7 (by decide +kernel) rfl rfl ⟨fun q3 => ?_, fun q3 => ?_⟩
  · replace F := F.1 q3
    refine zIconst (-1) (-1) 12 (by decide +kernel) rfl (by decide) ?_
    exact zIret rfl (by decide +kernel) F
  · replace F := F.2 q3
    refine zIload_n 1 1 8 (by decide +kernel) rfl rfl ?_
    refine zIf_ge 5 13 11 (by decide +kernel) rfl rfl ⟨fun q4 => ?_, fun q4 => ?_⟩
    · replace F := F.1 q4
      refine zIload_n 1 1 14 (by decide +kernel) rfl rfl ?_
      refine zIconst 5 5 15 (by decide +kernel) rfl (by decide) ?_
      refine zIcmp_gt 9 24 18 (by decide +kernel) rfl rfl ⟨fun q5 => ?_, fun q5 => ?_⟩
      · replace F := F.1 q5
        refine zIload_n 1 1 25 (by decide +kernel) rfl rfl ?_
        by_cases q6 : p1 = 6
        · replace F := F.1 q6
          have zt := zEqT q6 (show (6 : Int32).toInt = 6 by decide)
          refine zTableIn 114 6 12 #[43, 48, 56, 64, 72, 92, 103] 43 43 68 (by decide +kernel) (by omega) (by omega) (by rw [zt]; decide) rfl ?_
          refine zAload_n 0 0 69 (by decide +kernel) rfl rfl ?_
          refine zCallV 11 zcls11 mX11_heaviestPlace 373 0 0 0 _ _ 72 [] [] okX11_heaviestPlace mlX11_373 imX11_heaviestPlace seX11_heaviestPlace (by decide +kernel) rfl rfl (Nat.le_of_ble_eq_true rfl) rfl rfl (X_0 S0_) (zC.mono F ?_)
          rintro _ _ ⟨x7, I8, rfl, rfl, F⟩
          change zV G (d + 1) mX11_all kc ks 72 [(0, .ref (x)), (1, .int (p1))] [.int (x7)] (I8, J, R, K, n) Q
          exact zIret rfl (by decide +kernel) F
        · skip
          by_cases q9 : p1 = 7
          · replace F := F.2.1 q9
            have zt := zEqT q9 (show (7 : Int32).toInt = 7 by decide)
            refine zTableIn 114 6 12 #[43, 48, 56, 64, 72, 92, 103] 43 48 73 (by decide +kernel) (by omega) (by omega) (by rw [zt]; decide) rfl ?_
            refine zAload_n 0 0 74 (by decide +kernel) rfl rfl ?_
            refine gf11_2 28 77 (by decide +kernel) rfl flX11_28 (X_0 S0_) (X_4 S0_) ?_
            refine zCallV 8 zcls8 mX8_whites 232 0 0 0 _ _ 80 [] [] okX8_whites mlX11_232 imX8_whites seX8_whites (by decide +kernel) rfl rfl (Nat.le_of_ble_eq_true rfl) rfl rfl (St_0 (Gam_10 (X_15 S0_))) (zC.mono F ?_)
            rintro _ _ ⟨x10, I11, rfl, rfl, F⟩
            change zV G (d + 1) mX11_all kc ks 80 [(0, .ref (x)), (1, .int (p1))] [.int (x10)] (I11, J, R, K, n) Q
            exact zIret rfl (by decide +kernel) F
          · skip
            by_cases q12 : p1 = 8
            · replace F := F.2.2.1 q12
              have zt := zEqT q12 (show (8 : Int32).toInt = 8 by decide)
              refine zTableIn 114 6 12 #[43, 48, 56, 64, 72, 92, 103] 43 56 81 (by decide +kernel) (by omega) (by omega) (by rw [zt]; decide) rfl ?_
              refine zAload_n 0 0 82 (by decide +kernel) rfl rfl ?_
              refine gf11_2 28 85 (by decide +kernel) rfl flX11_28 (X_0 S0_) (X_4 S0_) ?_
              refine zCallV 8 zcls8 mX8_falseFarms 376 0 0 0 _ _ 88 [] [] okX8_falseFarms mlX11_376 imX8_falseFarms seX8_falseFarms (by decide +kernel) rfl rfl (Nat.le_of_ble_eq_true rfl) rfl rfl (St_0 (Gam_10 (X_15 S0_))) (zC.mono F ?_)
              rintro _ _ ⟨x13, I14, rfl, rfl, F⟩
              change zV G (d + 1) mX11_all kc ks 88 [(0, .ref (x)), (1, .int (p1))] [.int (x13)] (I14, J, R, K, n) Q
              exact zIret rfl (by decide +kernel) F
            · skip
              by_cases q15 : p1 = 9
              · replace F := F.2.2.2.1 q15
                have zt := zEqT q15 (show (9 : Int32).toInt = 9 by decide)
                refine zTableIn 114 6 12 #[43, 48, 56, 64, 72, 92, 103] 43 64 89 (by decide +kernel) (by omega) (by omega) (by rw [zt]; decide) rfl ?_
                refine zAload_n 0 0 90 (by decide +kernel) rfl rfl ?_
                refine gf11_2 28 93 (by decide +kernel) rfl flX11_28 (X_0 S0_) (X_4 S0_) ?_
                refine zCallV 8 zcls8 mX8_opens 300 0 0 0 _ _ 96 [] [] okX8_opens mlX11_300 imX8_opens seX8_opens (by decide +kernel) rfl rfl (Nat.le_of_ble_eq_true rfl) rfl rfl (St_0 (Gam_10 (X_15 S0_))) (zC.mono F ?_)
                rintro _ _ ⟨x16, I17, rfl, rfl, F⟩
                change zV G (d + 1) mX11_all kc ks 96 [(0, .ref (x)), (1, .int (p1))] [.int (x16)] (I17, J, R, K, n) Q
                exact zIret rfl (by decide +kernel) F
              · skip
                by_cases q18 : p1 = 10
                · replace F := F.2.2.2.2.1 q18
                  have zt := zEqT q18 (show (10 : Int32).toInt = 10 by decide)
                  refine zTableIn 114 6 12 #[43, 48, 56, 64, 72, 92, 103] 43 72 97 (by decide +kernel) (by omega) (by omega) (by rw [zt]; decide) rfl ?_
                  refine zAload_n 0 0 98 (by decide +kernel) rfl rfl ?_
                  refine gf11_2 28 101 (by decide +kernel) rfl flX11_28 (X_0 S0_) (X_4 S0_) ?_
                  refine zCallV 8 zcls8 mX8_bareInAll 379 0 0 0 _ _ 104 [] [] okX8_bareInAll mlX11_379 imX8_bareInAll seX8_bareInAll (by decide +kernel) rfl rfl (Nat.le_of_ble_eq_true rfl) rfl rfl (St_0 (Gam_10 (X_15 S0_))) (zC.mono F ?_)
                  rintro _ _ ⟨x19, I20, rfl, rfl, F⟩
                  change zV G (d + 1) mX11_all kc ks 104 [(0, .ref (x)), (1, .int (p1))] [.int (x19)] (I20, J, R, K, n) Q
                  refine zAload_n 0 0 105 (by decide +kernel) rfl rfl ?_
                  refine gf11_2 28 108 (by decide +kernel) rfl flX11_28 (X_0 S0_) (X_4 S0_) ?_
                  refine gf8_8 220 111 (by decide +kernel) rfl flX11_220 (St_0 (Gam_10 (X_15 S0_))) ?_
                  refine zIsub 112 (by decide +kernel) rfl ?_
                  refine zIconst 0 0 113 (by decide +kernel) rfl (by decide) ?_
                  refine yMax 382 116 (by decide +kernel) rfl mlX11_382 (Nat.le_of_ble_eq_true rfl) ?_
                  exact zIret rfl (by decide +kernel) F
                · skip
                  by_cases q21 : p1 = 11
                  · replace F := F.2.2.2.2.2.1 q21
                    have zt := zEqT q21 (show (11 : Int32).toInt = 11 by decide)
                    refine zTableIn 114 6 12 #[43, 48, 56, 64, 72, 92, 103] 43 92 117 (by decide +kernel) (by omega) (by omega) (by rw [zt]; decide) rfl ?_
                    refine zAload_n 0 0 118 (by decide +kernel) rfl rfl ?_
                    refine gf11_2 28 121 (by decide +kernel) rfl flX11_28 (X_0 S0_) (X_4 S0_) ?_
                    refine gf8_3 162 124 (by decide +kernel) rfl flX11_162 (St_0 (Gam_10 (X_15 S0_))) (St_7 (Gam_10 (X_15 S0_))) ?_
                    refine zCallS mX11_sum 363 1 0 0 _ _ 127 [.ref (x + 16)] [] okX11_sum mlX11_363 smX11_sum (by decide +kernel) rfl rfl (Nat.le_of_ble_eq_true rfl) rfl rfl (zC.mono F ?_)
                    rintro _ _ ⟨x22, I23, rfl, rfl, F⟩
                    change zV G (d + 1) mX11_all kc ks 127 [(0, .ref (x)), (1, .int (p1))] [.int (x22)] (I23, J, R, K, n) Q
                    exact zIret rfl (by decide +kernel) F
                  · skip
                    by_cases q24 : p1 = 12
                    · replace F := F.2.2.2.2.2.2.1 q24
                      have zt := zEqT q24 (show (12 : Int32).toInt = 12 by decide)
                      refine zTableIn 114 6 12 #[43, 48, 56, 64, 72, 92, 103] 43 103 128 (by decide +kernel) (by omega) (by omega) (by rw [zt]; decide) rfl ?_
                      refine zAload_n 0 0 129 (by decide +kernel) rfl rfl ?_
                      refine gf11_2 28 132 (by decide +kernel) rfl flX11_28 (X_0 S0_) (X_4 S0_) ?_
                      refine gf8_4 165 135 (by decide +kernel) rfl flX11_165 (St_0 (Gam_10 (X_15 S0_))) (St_9 (Gam_10 (X_15 S0_))) ?_
                      refine zCallS mX11_sum 363 1 0 0 _ _ 138 [.ref (x + 17)] [] okX11_sum mlX11_363 smX11_sum (by decide +kernel) rfl rfl (Nat.le_of_ble_eq_true rfl) rfl rfl (zC.mono F ?_)
                      rintro _ _ ⟨x25, I26, rfl, rfl, F⟩
                      change zV G (d + 1) mX11_all kc ks 138 [(0, .ref (x)), (1, .int (p1))] [.int (x25)] (I26, J, R, K, n) Q
                      exact zIret rfl (by decide +kernel) F
                    · skip
                      replace F := F.2.2.2.2.2.2.2 q6 q9 q12 q15 q18 q21 q24
                      have zq6 := zNeT q6 (show (6 : Int32).toInt = 6 by decide)
                      have zq9 := zNeT q9 (show (7 : Int32).toInt = 7 by decide)
                      have zq12 := zNeT q12 (show (8 : Int32).toInt = 8 by decide)
                      have zq15 := zNeT q15 (show (9 : Int32).toInt = 9 by decide)
                      have zq18 := zNeT q18 (show (10 : Int32).toInt = 10 by decide)
                      have zq21 := zNeT q21 (show (11 : Int32).toInt = 11 by decide)
                      have zq24 := zNeT q24 (show (12 : Int32).toInt = 12 by decide)
                      refine zTableOut 114 6 12 #[43, 48, 56, 64, 72, 92, 103] 43 139 (by decide +kernel) (by omega) rfl ?_
                      refine zIconst (-1) (-1) 140 (by decide +kernel) rfl (by decide) ?_
                      exact zIret rfl (by decide +kernel) F
      · replace F := F.2 q5
        refine zAload_n 0 0 19 (by decide +kernel) rfl rfl ?_
        refine zIload_n 1 1 20 (by decide +kernel) rfl rfl ?_
        refine zCallV 11 zcls11 mX11_foremost 370 1 0 0 _ _ 23 [.int (p1)] [] okX11_foremost mlX11_370 imX11_foremost seX11_foremost (by decide +kernel) rfl rfl (Nat.le_of_ble_eq_true rfl) rfl rfl (X_0 S0_) (zC.mono F ?_)
        rintro _ _ ⟨x27, I28, rfl, rfl, F⟩
        change zV G (d + 1) mX11_all kc ks 23 [(0, .ref (x)), (1, .int (p1))] [.int (x27)] (I28, J, R, K, n) Q
        exact zIret rfl (by decide +kernel) F
    · replace F := F.2 q4
      refine zIconst (-1) (-1) 12 (by decide +kernel) rfl (by decide) ?_
      exact zIret rfl (by decide +kernel) F
set_option maxHeartbeats 2000000 in
theorem wX11_image_0 {G : zG} {d kc ks : Nat} {I : Nat → Nat → Int32} {J : Nat → Nat → Int64} {R : Nat → Nat → Option Nat} {K : Nat → Nat × Nat} {n : Nat} {Q : Option Value → zH → Prop} (x v w q : Nat) (S0_ : hX G R K n x v w q) (F : zC G d mX11_hasVillage 0 0 [.ref (x)] (I, J, R, K, n) (fun r h => ∃ (x1 : Int32) (I2 : Nat → Nat → Int32), r = some (.int x1) ∧ h = (I2, J, R, K, n) ∧ ((x1 = 0 → Q (some (.int ((-1)))) (I2, J, R, K, n)) ∧ (¬ (x1 = 0) → zC G d mX1_portray 0 0 [.ref (x + 28), .ref (x + 12)] (I2, J, R, K, n) (fun r h => ∃ (I4 : Nat → Nat → Int32), r = none ∧ h = (I4, J, R, K, n) ∧ Q (some (.int (I4 (x + 12) 10))) (I4, J, R, K, n)))))) : zV G (d + 1) mX11_image kc ks 0 [(0, .ref (x))] [] (I, J, R, K, n) Q := by
  refine zAload_n 0 0 1 (by decide +kernel) rfl rfl ?_
  refine zCallV 11 zcls11 mX11_hasVillage 213 0 0 0 _ _ 4 [] [] okX11_hasVillage mlX11_213 imX11_hasVillage seX11_hasVillage (by decide +kernel) rfl rfl (Nat.le_of_ble_eq_true rfl) rfl rfl (X_0 S0_) (zC.mono F ?_)
  rintro _ _ ⟨x1, I2, rfl, rfl, F⟩
  change zV G (d + 1) mX11_image kc ks 4 [(0, .ref (x))] [.int (x1)] (I2, J, R, K, n) Q
  refine zIf_ne 5 9 7 (by decide +kernel) rfl rfl ⟨fun q3 => ?_, fun q3 => ?_⟩
  · replace F := F.2 q3
    refine zAload_n 0 0 10 (by decide +kernel) rfl rfl ?_
    refine gf11_4 38 13 (by decide +kernel) rfl flX11_38 (X_0 S0_) (X_8 S0_) ?_
    refine zAload_n 0 0 14 (by decide +kernel) rfl rfl ?_
    refine gf11_2 28 17 (by decide +kernel) rfl flX11_28 (X_0 S0_) (X_4 S0_) ?_
    refine zCallV 1 zcls1 mX1_portray 385 1 0 0 _ _ 20 [.ref (x + 12)] [] okX1_portray mlX11_385 imX1_portray seX1_portray (by decide +kernel) rfl rfl (Nat.le_of_ble_eq_true rfl) rfl rfl (His_0 (X_9 S0_)) (zC.mono F ?_)
    rintro _ _ ⟨I4, rfl, rfl, F⟩
    change zV G (d + 1) mX11_image kc ks 20 [(0, .ref (x))] [] (I4, J, R, K, n) Q
    refine zAload_n 0 0 21 (by decide +kernel) rfl rfl ?_
    refine gf11_2 28 24 (by decide +kernel) rfl flX11_28 (X_0 S0_) (X_4 S0_) ?_
    refine gf8_10 223 27 (by decide +kernel) rfl flX11_223 (St_0 (Gam_10 (X_15 S0_))) ?_
    exact zIret rfl (by decide +kernel) F
  · replace F := F.1 q3
    refine zIconst (-1) (-1) 8 (by decide +kernel) rfl (by decide) ?_
    exact zIret rfl (by decide +kernel) F
set_option maxHeartbeats 2000000 in
theorem wX11_back_0 {G : zG} {d kc ks : Nat} {I : Nat → Nat → Int32} {J : Nat → Nat → Int64} {R : Nat → Nat → Option Nat} {K : Nat → Nat × Nat} {n : Nat} {Q : Option Value → zH → Prop} (x v w q : Nat) (S0_ : hX G R K n x v w q) (F : zC G d mX1_restore 0 0 [.ref (x + 28), .ref (x + 12)] (I, J, R, K, n) (fun r h => ∃ (x1 : Int32) (I2 : Nat → Nat → Int32), r = some (.int x1) ∧ h = (I2, J, R, K, n) ∧ Q (some (.int ((if x1 = 0 then (-1) else I2 (x + 12) 10)))) (I2, J, R, K, n))) : zV G (d + 1) mX11_back kc ks 0 [(0, .ref (x))] [] (I, J, R, K, n) Q := by
  refine zAload_n 0 0 1 (by decide +kernel) rfl rfl ?_
  refine gf11_4 38 4 (by decide +kernel) rfl flX11_38 (X_0 S0_) (X_8 S0_) ?_
  refine zAload_n 0 0 5 (by decide +kernel) rfl rfl ?_
  refine gf11_2 28 8 (by decide +kernel) rfl flX11_28 (X_0 S0_) (X_4 S0_) ?_
  refine zCallV 1 zcls1 mX1_restore 388 1 0 0 _ _ 11 [.ref (x + 12)] [] okX1_restore mlX11_388 imX1_restore seX1_restore (by decide +kernel) rfl rfl (Nat.le_of_ble_eq_true rfl) rfl rfl (His_0 (X_9 S0_)) (zC.mono F ?_)
  rintro _ _ ⟨x1, I2, rfl, rfl, F⟩
  change zV G (d + 1) mX11_back kc ks 11 [(0, .ref (x))] [.int (x1)] (I2, J, R, K, n) Q
  suffices KK : zV G (d + 1) mX11_back kc ks 25 [(0, .ref (x))] [.int ((if x1 = 0 then (-1) else I2 (x + 12) 10))] (I2, J, R, K, n) Q by
    refine zIf_eq 13 24 14 (by decide +kernel) rfl rfl ⟨fun q3 => ?_, fun q3 => ?_⟩
    · refine zIconst (-1) (-1) 25 (by decide +kernel) rfl (by decide) ?_
      exact zTop (by rw [if_pos q3]) KK
    · refine zAload_n 0 0 15 (by decide +kernel) rfl rfl ?_
      refine gf11_2 28 18 (by decide +kernel) rfl flX11_28 (X_0 S0_) (X_4 S0_) ?_
      refine gf8_10 223 21 (by decide +kernel) rfl flX11_223 (St_0 (Gam_10 (X_15 S0_))) ?_
      refine zGoto 4 25 (by decide +kernel) rfl ?_
      exact zTop (by rw [if_neg q3]) KK
  exact zIret rfl (by decide +kernel) F
set_option maxHeartbeats 2000000 in
theorem wX11_count_0 {G : zG} {d kc ks : Nat} {I : Nat → Nat → Int32} {J : Nat → Nat → Int64} {R : Nat → Nat → Option Nat} {K : Nat → Nat × Nat} {n : Nat} {Q : Option Value → zH → Prop} (x v w q : Nat) (S0_ : hX G R K n x v w q) (p1 : Int32) (F : ((p1 = 0 → Q (some (.int (I v 5))) (I, J, R, K, n)) ∧ (p1 = 1 → Q (some (.int (I v 6))) (I, J, R, K, n)) ∧ (p1 = 2 → Q (some (.int (I x 13))) (I, J, R, K, n)) ∧ (p1 = 3 → Q (some (.int (I x 14))) (I, J, R, K, n)) ∧ (p1 = 4 → Q (some (.int (I (x + 1) 1))) (I, J, R, K, n)) ∧ (p1 = 5 → Q (some (.int (I x 15))) (I, J, R, K, n)) ∧ (p1 = 6 → Q (some (.int (I (x + 12) 10))) (I, J, R, K, n)) ∧ (p1 = 7 → Q (some (.int (I (x + 12) 8))) (I, J, R, K, n)) ∧ (p1 = 8 → Q (some (.int (I (x + 12) 9))) (I, J, R, K, n)) ∧ (p1 = 9 → Q (some (.int (I (x + 12) 6))) (I, J, R, K, n)) ∧ (p1 = 10 → Q (some (.int (I (x + 12) 7))) (I, J, R, K, n)) ∧ (p1 = 11 → Q (some (.int (I x 16))) (I, J, R, K, n)) ∧ (p1 = 12 → Q (some (.int (I (x + 82) 0))) (I, J, R, K, n)) ∧ (p1 = 13 → zC G d mX1_logLength 0 0 [.ref (x + 12)] (I, J, R, K, n) (fun r h => ∃ (x15 : Int32) (I16 : Nat → Nat → Int32), r = some (.int x15) ∧ h = (I16, J, R, K, n) ∧ Q (some (.int (x15))) (I16, J, R, K, n))) ∧ (p1 = 14 → Q (some (.int (I (x + 28) 0))) (I, J, R, K, n)) ∧ (¬ p1 = 0 → ¬ p1 = 1 → ¬ p1 = 2 → ¬ p1 = 3 → ¬ p1 = 4 → ¬ p1 = 5 → ¬ p1 = 6 → ¬ p1 = 7 → ¬ p1 = 8 → ¬ p1 = 9 → ¬ p1 = 10 → ¬ p1 = 11 → ¬ p1 = 12 → ¬ p1 = 13 → ¬ p1 = 14 → Q (some (.int ((-1000000)))) (I, J, R, K, n)))) : zV G (d + 1) mX11_count kc ks 0 [(0, .ref (x)), (1, .int (p1))] [] (I, J, R, K, n) Q := by
  refine zIload_n 1 1 1 (by decide +kernel) rfl rfl ?_
  by_cases q1 : p1 = 0
  · replace F := F.1 q1
    have zt := zEqT q1 (show (0 : Int32).toInt = 0 by decide)
    refine zTableIn 189 0 14 #[75, 86, 97, 102, 107, 115, 120, 128, 136, 144, 152, 160, 165, 173, 181] 75 75 76 (by decide +kernel) (by omega) (by omega) (by rw [zt]; decide) rfl ?_
    refine zAload_n 0 0 77 (by decide +kernel) rfl rfl ?_
    refine gf11_1 19 80 (by decide +kernel) rfl flX11_19 (X_0 S0_) (X_3 S0_) ?_
    refine gf5_0 152 83 (by decide +kernel) rfl flX11_152 (Set_0 (X_26 S0_)) (Set_1 (X_26 S0_)) ?_
    refine gf10_5 303 86 (by decide +kernel) rfl flX11_303 (Vil_0 (Set_2 (X_26 S0_))) ?_
    exact zIret rfl (by decide +kernel) F
  · skip
    by_cases q2 : p1 = 1
    · replace F := F.2.1 q2
      have zt := zEqT q2 (show (1 : Int32).toInt = 1 by decide)
      refine zTableIn 189 0 14 #[75, 86, 97, 102, 107, 115, 120, 128, 136, 144, 152, 160, 165, 173, 181] 75 86 87 (by decide +kernel) (by omega) (by omega) (by rw [zt]; decide) rfl ?_
      refine zAload_n 0 0 88 (by decide +kernel) rfl rfl ?_
      refine gf11_1 19 91 (by decide +kernel) rfl flX11_19 (X_0 S0_) (X_3 S0_) ?_
      refine gf5_0 152 94 (by decide +kernel) rfl flX11_152 (Set_0 (X_26 S0_)) (Set_1 (X_26 S0_)) ?_
      refine gf10_6 391 97 (by decide +kernel) rfl flX11_391 (Vil_0 (Set_2 (X_26 S0_))) ?_
      exact zIret rfl (by decide +kernel) F
    · skip
      by_cases q3 : p1 = 2
      · replace F := F.2.2.1 q3
        have zt := zEqT q3 (show (2 : Int32).toInt = 2 by decide)
        refine zTableIn 189 0 14 #[75, 86, 97, 102, 107, 115, 120, 128, 136, 144, 152, 160, 165, 173, 181] 75 97 98 (by decide +kernel) (by omega) (by omega) (by rw [zt]; decide) rfl ?_
        refine zAload_n 0 0 99 (by decide +kernel) rfl rfl ?_
        refine gf11_13 98 102 (by decide +kernel) rfl flX11_98 (X_0 S0_) ?_
        exact zIret rfl (by decide +kernel) F
      · skip
        by_cases q4 : p1 = 3
        · replace F := F.2.2.2.1 q4
          have zt := zEqT q4 (show (3 : Int32).toInt = 3 by decide)
          refine zTableIn 189 0 14 #[75, 86, 97, 102, 107, 115, 120, 128, 136, 144, 152, 160, 165, 173, 181] 75 102 103 (by decide +kernel) (by omega) (by omega) (by rw [zt]; decide) rfl ?_
          refine zAload_n 0 0 104 (by decide +kernel) rfl rfl ?_
          refine gf11_14 102 107 (by decide +kernel) rfl flX11_102 (X_0 S0_) ?_
          exact zIret rfl (by decide +kernel) F
        · skip
          by_cases q5 : p1 = 4
          · replace F := F.2.2.2.2.1 q5
            have zt := zEqT q5 (show (4 : Int32).toInt = 4 by decide)
            refine zTableIn 189 0 14 #[75, 86, 97, 102, 107, 115, 120, 128, 136, 144, 152, 160, 165, 173, 181] 75 107 108 (by decide +kernel) (by omega) (by omega) (by rw [zt]; decide) rfl ?_
            refine zAload_n 0 0 109 (by decide +kernel) rfl rfl ?_
            refine gf11_0 10 112 (by decide +kernel) rfl flX11_10 (X_0 S0_) (X_1 S0_) ?_
            refine gf9_1 119 115 (by decide +kernel) rfl flX11_119 (Tape_0 (X_2 S0_)) ?_
            exact zIret rfl (by decide +kernel) F
          · skip
            by_cases q6 : p1 = 5
            · replace F := F.2.2.2.2.2.1 q6
              have zt := zEqT q6 (show (5 : Int32).toInt = 5 by decide)
              refine zTableIn 189 0 14 #[75, 86, 97, 102, 107, 115, 120, 128, 136, 144, 152, 160, 165, 173, 181] 75 115 116 (by decide +kernel) (by omega) (by omega) (by rw [zt]; decide) rfl ?_
              refine zAload_n 0 0 117 (by decide +kernel) rfl rfl ?_
              refine gf11_15 105 120 (by decide +kernel) rfl flX11_105 (X_0 S0_) ?_
              exact zIret rfl (by decide +kernel) F
            · skip
              by_cases q7 : p1 = 6
              · replace F := F.2.2.2.2.2.2.1 q7
                have zt := zEqT q7 (show (6 : Int32).toInt = 6 by decide)
                refine zTableIn 189 0 14 #[75, 86, 97, 102, 107, 115, 120, 128, 136, 144, 152, 160, 165, 173, 181] 75 120 121 (by decide +kernel) (by omega) (by omega) (by rw [zt]; decide) rfl ?_
                refine zAload_n 0 0 122 (by decide +kernel) rfl rfl ?_
                refine gf11_2 28 125 (by decide +kernel) rfl flX11_28 (X_0 S0_) (X_4 S0_) ?_
                refine gf8_10 223 128 (by decide +kernel) rfl flX11_223 (St_0 (Gam_10 (X_15 S0_))) ?_
                exact zIret rfl (by decide +kernel) F
              · skip
                by_cases q8 : p1 = 7
                · replace F := F.2.2.2.2.2.2.2.1 q8
                  have zt := zEqT q8 (show (7 : Int32).toInt = 7 by decide)
                  refine zTableIn 189 0 14 #[75, 86, 97, 102, 107, 115, 120, 128, 136, 144, 152, 160, 165, 173, 181] 75 128 129 (by decide +kernel) (by omega) (by omega) (by rw [zt]; decide) rfl ?_
                  refine zAload_n 0 0 130 (by decide +kernel) rfl rfl ?_
                  refine gf11_2 28 133 (by decide +kernel) rfl flX11_28 (X_0 S0_) (X_4 S0_) ?_
                  refine gf8_8 220 136 (by decide +kernel) rfl flX11_220 (St_0 (Gam_10 (X_15 S0_))) ?_
                  exact zIret rfl (by decide +kernel) F
                · skip
                  by_cases q9 : p1 = 8
                  · replace F := F.2.2.2.2.2.2.2.2.1 q9
                    have zt := zEqT q9 (show (8 : Int32).toInt = 8 by decide)
                    refine zTableIn 189 0 14 #[75, 86, 97, 102, 107, 115, 120, 128, 136, 144, 152, 160, 165, 173, 181] 75 136 137 (by decide +kernel) (by omega) (by omega) (by rw [zt]; decide) rfl ?_
                    refine zAload_n 0 0 138 (by decide +kernel) rfl rfl ?_
                    refine gf11_2 28 141 (by decide +kernel) rfl flX11_28 (X_0 S0_) (X_4 S0_) ?_
                    refine gf8_9 217 144 (by decide +kernel) rfl flX11_217 (St_0 (Gam_10 (X_15 S0_))) ?_
                    exact zIret rfl (by decide +kernel) F
                  · skip
                    by_cases q10 : p1 = 9
                    · replace F := F.2.2.2.2.2.2.2.2.2.1 q10
                      have zt := zEqT q10 (show (9 : Int32).toInt = 9 by decide)
                      refine zTableIn 189 0 14 #[75, 86, 97, 102, 107, 115, 120, 128, 136, 144, 152, 160, 165, 173, 181] 75 144 145 (by decide +kernel) (by omega) (by omega) (by rw [zt]; decide) rfl ?_
                      refine zAload_n 0 0 146 (by decide +kernel) rfl rfl ?_
                      refine gf11_2 28 149 (by decide +kernel) rfl flX11_28 (X_0 S0_) (X_4 S0_) ?_
                      refine gf8_6 394 152 (by decide +kernel) rfl flX11_394 (St_0 (Gam_10 (X_15 S0_))) ?_
                      exact zIret rfl (by decide +kernel) F
                    · skip
                      by_cases q11 : p1 = 10
                      · replace F := F.2.2.2.2.2.2.2.2.2.2.1 q11
                        have zt := zEqT q11 (show (10 : Int32).toInt = 10 by decide)
                        refine zTableIn 189 0 14 #[75, 86, 97, 102, 107, 115, 120, 128, 136, 144, 152, 160, 165, 173, 181] 75 152 153 (by decide +kernel) (by omega) (by omega) (by rw [zt]; decide) rfl ?_
                        refine zAload_n 0 0 154 (by decide +kernel) rfl rfl ?_
                        refine gf11_2 28 157 (by decide +kernel) rfl flX11_28 (X_0 S0_) (X_4 S0_) ?_
                        refine gf8_7 397 160 (by decide +kernel) rfl flX11_397 (St_0 (Gam_10 (X_15 S0_))) ?_
                        exact zIret rfl (by decide +kernel) F
                      · skip
                        by_cases q12 : p1 = 11
                        · replace F := F.2.2.2.2.2.2.2.2.2.2.2.1 q12
                          have zt := zEqT q12 (show (11 : Int32).toInt = 11 by decide)
                          refine zTableIn 189 0 14 #[75, 86, 97, 102, 107, 115, 120, 128, 136, 144, 152, 160, 165, 173, 181] 75 160 161 (by decide +kernel) (by omega) (by omega) (by rw [zt]; decide) rfl ?_
                          refine zAload_n 0 0 162 (by decide +kernel) rfl rfl ?_
                          refine gf11_16 108 165 (by decide +kernel) rfl flX11_108 (X_0 S0_) ?_
                          exact zIret rfl (by decide +kernel) F
                        · skip
                          by_cases q13 : p1 = 12
                          · replace F := F.2.2.2.2.2.2.2.2.2.2.2.2.1 q13
                            have zt := zEqT q13 (show (12 : Int32).toInt = 12 by decide)
                            refine zTableIn 189 0 14 #[75, 86, 97, 102, 107, 115, 120, 128, 136, 144, 152, 160, 165, 173, 181] 75 165 166 (by decide +kernel) (by omega) (by omega) (by rw [zt]; decide) rfl ?_
                            refine zAload_n 0 0 167 (by decide +kernel) rfl rfl ?_
                            refine gf11_6 54 170 (by decide +kernel) rfl flX11_54 (X_0 S0_) (X_12 S0_) ?_
                            refine gf6_0 317 173 (by decide +kernel) rfl flX11_317 (Sig_0 (X_13 S0_)) ?_
                            exact zIret rfl (by decide +kernel) F
                          · skip
                            by_cases q14 : p1 = 13
                            · replace F := F.2.2.2.2.2.2.2.2.2.2.2.2.2.1 q14
                              have zt := zEqT q14 (show (13 : Int32).toInt = 13 by decide)
                              refine zTableIn 189 0 14 #[75, 86, 97, 102, 107, 115, 120, 128, 136, 144, 152, 160, 165, 173, 181] 75 173 174 (by decide +kernel) (by omega) (by omega) (by rw [zt]; decide) rfl ?_
                              refine zAload_n 0 0 175 (by decide +kernel) rfl rfl ?_
                              refine gf11_2 28 178 (by decide +kernel) rfl flX11_28 (X_0 S0_) (X_4 S0_) ?_
                              refine zCallS mX1_logLength 261 1 0 0 _ _ 181 [.ref (x + 12)] [] okX1_logLength mlX11_261 smX1_logLength (by decide +kernel) rfl rfl (Nat.le_of_ble_eq_true rfl) rfl rfl (zC.mono F ?_)
                              rintro _ _ ⟨x15, I16, rfl, rfl, F⟩
                              change zV G (d + 1) mX11_count kc ks 181 [(0, .ref (x)), (1, .int (p1))] [.int (x15)] (I16, J, R, K, n) Q
                              exact zIret rfl (by decide +kernel) F
                            · skip
                              by_cases q17 : p1 = 14
                              · replace F := F.2.2.2.2.2.2.2.2.2.2.2.2.2.2.1 q17
                                have zt := zEqT q17 (show (14 : Int32).toInt = 14 by decide)
                                refine zTableIn 189 0 14 #[75, 86, 97, 102, 107, 115, 120, 128, 136, 144, 152, 160, 165, 173, 181] 75 181 182 (by decide +kernel) (by omega) (by omega) (by rw [zt]; decide) rfl ?_
                                refine zAload_n 0 0 183 (by decide +kernel) rfl rfl ?_
                                refine gf11_4 38 186 (by decide +kernel) rfl flX11_38 (X_0 S0_) (X_8 S0_) ?_
                                refine gf1_0 258 189 (by decide +kernel) rfl flX11_258 (His_0 (X_9 S0_)) ?_
                                exact zIret rfl (by decide +kernel) F
                              · skip
                                replace F := F.2.2.2.2.2.2.2.2.2.2.2.2.2.2.2 q1 q2 q3 q4 q5 q6 q7 q8 q9 q10 q11 q12 q13 q14 q17
                                have zq1 := zNeT q1 (show (0 : Int32).toInt = 0 by decide)
                                have zq2 := zNeT q2 (show (1 : Int32).toInt = 1 by decide)
                                have zq3 := zNeT q3 (show (2 : Int32).toInt = 2 by decide)
                                have zq4 := zNeT q4 (show (3 : Int32).toInt = 3 by decide)
                                have zq5 := zNeT q5 (show (4 : Int32).toInt = 4 by decide)
                                have zq6 := zNeT q6 (show (5 : Int32).toInt = 5 by decide)
                                have zq7 := zNeT q7 (show (6 : Int32).toInt = 6 by decide)
                                have zq8 := zNeT q8 (show (7 : Int32).toInt = 7 by decide)
                                have zq9 := zNeT q9 (show (8 : Int32).toInt = 8 by decide)
                                have zq10 := zNeT q10 (show (9 : Int32).toInt = 9 by decide)
                                have zq11 := zNeT q11 (show (10 : Int32).toInt = 10 by decide)
                                have zq12 := zNeT q12 (show (11 : Int32).toInt = 11 by decide)
                                have zq13 := zNeT q13 (show (12 : Int32).toInt = 12 by decide)
                                have zq14 := zNeT q14 (show (13 : Int32).toInt = 13 by decide)
                                have zq17 := zNeT q17 (show (14 : Int32).toInt = 14 by decide)
                                refine zTableOut 189 0 14 #[75, 86, 97, 102, 107, 115, 120, 128, 136, 144, 152, 160, 165, 173, 181] 75 190 (by decide +kernel) (by omega) rfl ?_
                                refine zLdcw 272 (-1000000) 193 (by decide +kernel) rfl kcX11_272 ?_
                                exact zIret rfl (by decide +kernel) F
set_option maxHeartbeats 2000000 in
theorem wX11_reads_0 {G : zG} {d kc ks : Nat} {I : Nat → Nat → Int32} {J : Nat → Nat → Int64} {R : Nat → Nat → Option Nat} {K : Nat → Nat × Nat} {n : Nat} {Q : Option Value → zH → Prop} (x v w q : Nat) (S0_ : hX G R K n x v w q) (p1 : Int32) (F : ((p1 = 0 → zC G d mX10_read 0 0 [.ref (w), .ref (x + 1)] (I, J, R, K, n) (fun r h => ∃ (x2 : Int32) (I3 : Nat → Nat → Int32), r = some (.int x2) ∧ h = (I3, J, R, K, n) ∧ ((x2 = 0 ∨ x2 = 1) ∧ Q (some (.int (x2))) (I3, J, R, K, n)))) ∧ (p1 = 1 → zC G d mX3_read 0 0 [.ref (x + 97), .ref (x + 1)] (I, J, R, K, n) (fun r h => ∃ (x5 : Int32) (I6 : Nat → Nat → Int32) (R7 : Nat → Nat → Option Nat), r = some (.int x5) ∧ h = (I6, J, R7, K, n) ∧ ∃ u8 u9 u10 : Nat, hX G R7 K n x u8 u9 u10 ∧ ((x5 = 0 ∨ x5 = 1) ∧ Q (some (.int (x5))) (I6, J, R7, K, n)))) ∧ (p1 = 2 → zC G d mX7_read 0 0 [.ref (q), .ref (x + 1)] (I, J, R, K, n) (fun r h => ∃ (x13 : Int32) (I14 : Nat → Nat → Int32), r = some (.int x13) ∧ h = (I14, J, R, K, n) ∧ ((x13 = 0 ∨ x13 = 1) ∧ Q (some (.int (x13))) (I14, J, R, K, n)))) ∧ (¬ p1 = 0 → ¬ p1 = 1 → ¬ p1 = 2 → Q (some (.int (0))) (I, J, R, K, n)))) : zV G (d + 1) mX11_reads kc ks 0 [(0, .ref (x)), (1, .int (p1))] [] (I, J, R, K, n) Q := by
  refine zIload_n 1 1 1 (by decide +kernel) rfl rfl ?_
  by_cases q1 : p1 = 0
  · replace F := F.1 q1
    have zt := zEqT q1 (show (0 : Int32).toInt = 0 by decide)
    refine zTableIn 63 0 2 #[27, 39, 51] 27 27 28 (by decide +kernel) (by omega) (by omega) (by rw [zt]; decide) rfl ?_
    refine zAload_n 0 0 29 (by decide +kernel) rfl rfl ?_
    refine gf11_11 89 32 (by decide +kernel) rfl flX11_89 (X_0 S0_) (X_22 S0_) ?_
    refine zAload_n 0 0 33 (by decide +kernel) rfl rfl ?_
    refine gf11_0 10 36 (by decide +kernel) rfl flX11_10 (X_0 S0_) (X_1 S0_) ?_
    refine zCallV 10 zcls10 mX10_read 400 1 0 0 _ _ 39 [.ref (x + 1)] [] okX10_read mlX11_400 imX10_read seX10_read (by decide +kernel) rfl rfl (Nat.le_of_ble_eq_true rfl) rfl rfl (Vil_0 (X_23 S0_)) (zC.mono F ?_)
    rintro _ _ ⟨x2, I3, rfl, rfl, F⟩
    change zV G (d + 1) mX11_reads kc ks 39 [(0, .ref (x)), (1, .int (p1))] [.int (x2)] (I3, J, R, K, n) Q
    exact zZret .boolean rfl (zNarZ F.1) (by decide +kernel) F.2
  · skip
    by_cases q4 : p1 = 1
    · replace F := F.2.1 q4
      have zt := zEqT q4 (show (1 : Int32).toInt = 1 by decide)
      refine zTableIn 63 0 2 #[27, 39, 51] 27 39 40 (by decide +kernel) (by omega) (by omega) (by rw [zt]; decide) rfl ?_
      refine zAload_n 0 0 41 (by decide +kernel) rfl rfl ?_
      refine gf11_8 70 44 (by decide +kernel) rfl flX11_70 (X_0 S0_) (X_16 S0_) ?_
      refine zAload_n 0 0 45 (by decide +kernel) rfl rfl ?_
      refine gf11_0 10 48 (by decide +kernel) rfl flX11_10 (X_0 S0_) (X_1 S0_) ?_
      refine zCallV 3 zcls3 mX3_read 404 1 0 0 _ _ 51 [.ref (x + 1)] [] okX3_read mlX11_404 imX3_read seX3_read (by decide +kernel) rfl rfl (Nat.le_of_ble_eq_true rfl) rfl rfl (Lr0_0 (X_17 S0_)) (zC.mono F ?_)
      rintro _ _ ⟨x5, I6, R7, rfl, rfl, F⟩
      change zV G (d + 1) mX11_reads kc ks 51 [(0, .ref (x)), (1, .int (p1))] [.int (x5)] (I6, J, R7, K, n) Q
      obtain ⟨u8, u9, u10, S11, F⟩ := F
      exact zZret .boolean rfl (zNarZ F.1) (by decide +kernel) F.2
    · skip
      by_cases q12 : p1 = 2
      · replace F := F.2.2.1 q12
        have zt := zEqT q12 (show (2 : Int32).toInt = 2 by decide)
        refine zTableIn 63 0 2 #[27, 39, 51] 27 51 52 (by decide +kernel) (by omega) (by omega) (by rw [zt]; decide) rfl ?_
        refine zAload_n 0 0 53 (by decide +kernel) rfl rfl ?_
        refine gf11_12 94 56 (by decide +kernel) rfl flX11_94 (X_0 S0_) (X_24 S0_) ?_
        refine zAload_n 0 0 57 (by decide +kernel) rfl rfl ?_
        refine gf11_0 10 60 (by decide +kernel) rfl flX11_10 (X_0 S0_) (X_1 S0_) ?_
        refine zCallV 7 zcls7 mX7_read 405 1 0 0 _ _ 63 [.ref (x + 1)] [] okX7_read mlX11_405 imX7_read seX7_read (by decide +kernel) rfl rfl (Nat.le_of_ble_eq_true rfl) rfl rfl (Spr_0 (X_25 S0_)) (zC.mono F ?_)
        rintro _ _ ⟨x13, I14, rfl, rfl, F⟩
        change zV G (d + 1) mX11_reads kc ks 63 [(0, .ref (x)), (1, .int (p1))] [.int (x13)] (I14, J, R, K, n) Q
        exact zZret .boolean rfl (zNarZ F.1) (by decide +kernel) F.2
      · skip
        replace F := F.2.2.2 q1 q4 q12
        have zq1 := zNeT q1 (show (0 : Int32).toInt = 0 by decide)
        have zq4 := zNeT q4 (show (1 : Int32).toInt = 1 by decide)
        have zq12 := zNeT q12 (show (2 : Int32).toInt = 2 by decide)
        refine zTableOut 63 0 2 #[27, 39, 51] 27 64 (by decide +kernel) (by omega) rfl ?_
        refine zIconst 0 0 65 (by decide +kernel) rfl (by decide) ?_
        exact zZret .boolean rfl (zNarZ (Or.inl rfl)) (by decide +kernel) F
set_option maxHeartbeats 2000000 in
theorem wX11_hasRoom_0 {G : zG} {d kc ks : Nat} {I : Nat → Nat → Int32} {J : Nat → Nat → Int64} {R : Nat → Nat → Option Nat} {K : Nat → Nat × Nat} {n : Nat} {Q : Option Value → zH → Prop} (x v w q : Nat) (S0_ : hX G R K n x v w q) (p1 : Int32) (F : ((p1 = 0 → Q (some (.int (1))) (I, J, R, K, n)) ∧ (p1 = 1 → Q (some (.int ((if 4 ≤ (I x 13 : Int32) then 0 else 1)))) (I, J, R, K, n)) ∧ (p1 = 2 → Q (some (.int ((if 4 ≤ (I x 14 : Int32) then 0 else 1)))) (I, J, R, K, n)) ∧ (¬ p1 = 0 → ¬ p1 = 1 → ¬ p1 = 2 → Q (some (.int (0))) (I, J, R, K, n)))) : zV G (d + 1) mX11_hasRoom kc ks 0 [(0, .ref (x)), (1, .int (p1))] [] (I, J, R, K, n) Q := by
  refine zIload_n 1 1 1 (by decide +kernel) rfl rfl ?_
  by_cases q1 : p1 = 0
  · replace F := F.1 q1
    have zt := zEqT q1 (show (0 : Int32).toInt = 0 by decide)
    refine zTableIn 57 0 2 #[27, 29, 43] 27 27 28 (by decide +kernel) (by omega) (by omega) (by rw [zt]; decide) rfl ?_
    refine zIconst 1 1 29 (by decide +kernel) rfl (by decide) ?_
    exact zZret .boolean rfl (zNarZ (Or.inr rfl)) (by decide +kernel) F
  · skip
    by_cases q2 : p1 = 1
    · replace F := F.2.1 q2
      have zt := zEqT q2 (show (1 : Int32).toInt = 1 by decide)
      refine zTableIn 57 0 2 #[27, 29, 43] 27 29 30 (by decide +kernel) (by omega) (by omega) (by rw [zt]; decide) rfl ?_
      refine zAload_n 0 0 31 (by decide +kernel) rfl rfl ?_
      refine gf11_13 98 34 (by decide +kernel) rfl flX11_98 (X_0 S0_) ?_
      refine zIconst 4 4 35 (by decide +kernel) rfl (by decide) ?_
      suffices KK : zV G (d + 1) mX11_hasRoom kc ks 43 [(0, .ref (x)), (1, .int (p1))] [.int ((if 4 ≤ (I x 13 : Int32) then 0 else 1))] (I, J, R, K, n) Q by
        refine zIcmp_ge 7 42 38 (by decide +kernel) rfl rfl ⟨fun q3 => ?_, fun q3 => ?_⟩
        · refine zIconst 0 0 43 (by decide +kernel) rfl (by decide) ?_
          exact zTop (by rw [if_pos q3]) KK
        · refine zIconst 1 1 39 (by decide +kernel) rfl (by decide) ?_
          refine zGoto 4 43 (by decide +kernel) rfl ?_
          exact zTop (by rw [if_neg q3]) KK
      exact zZret .boolean rfl (zNarZ (zOrIte (Or.inl rfl) (Or.inr rfl))) (by decide +kernel) F
    · skip
      by_cases q4 : p1 = 2
      · replace F := F.2.2.1 q4
        have zt := zEqT q4 (show (2 : Int32).toInt = 2 by decide)
        refine zTableIn 57 0 2 #[27, 29, 43] 27 43 44 (by decide +kernel) (by omega) (by omega) (by rw [zt]; decide) rfl ?_
        refine zAload_n 0 0 45 (by decide +kernel) rfl rfl ?_
        refine gf11_14 102 48 (by decide +kernel) rfl flX11_102 (X_0 S0_) ?_
        refine zIconst 4 4 49 (by decide +kernel) rfl (by decide) ?_
        suffices KK : zV G (d + 1) mX11_hasRoom kc ks 57 [(0, .ref (x)), (1, .int (p1))] [.int ((if 4 ≤ (I x 14 : Int32) then 0 else 1))] (I, J, R, K, n) Q by
          refine zIcmp_ge 7 56 52 (by decide +kernel) rfl rfl ⟨fun q5 => ?_, fun q5 => ?_⟩
          · refine zIconst 0 0 57 (by decide +kernel) rfl (by decide) ?_
            exact zTop (by rw [if_pos q5]) KK
          · refine zIconst 1 1 53 (by decide +kernel) rfl (by decide) ?_
            refine zGoto 4 57 (by decide +kernel) rfl ?_
            exact zTop (by rw [if_neg q5]) KK
        exact zZret .boolean rfl (zNarZ (zOrIte (Or.inl rfl) (Or.inr rfl))) (by decide +kernel) F
      · skip
        replace F := F.2.2.2 q1 q2 q4
        have zq1 := zNeT q1 (show (0 : Int32).toInt = 0 by decide)
        have zq2 := zNeT q2 (show (1 : Int32).toInt = 1 by decide)
        have zq4 := zNeT q4 (show (2 : Int32).toInt = 2 by decide)
        refine zTableOut 57 0 2 #[27, 29, 43] 27 58 (by decide +kernel) (by omega) rfl ?_
        refine zIconst 0 0 59 (by decide +kernel) rfl (by decide) ?_
        exact zZret .boolean rfl (zNarZ (Or.inl rfl)) (by decide +kernel) F
set_option maxHeartbeats 2000000 in
theorem wX11_settle_0 {G : zG} {d kc ks : Nat} {I : Nat → Nat → Int32} {J : Nat → Nat → Int64} {R : Nat → Nat → Option Nat} {K : Nat → Nat × Nat} {n : Nat} {Q : Option Value → zH → Prop} (x v w q : Nat) (S0_ : hX G R K n x v w q) (F : (∀ R1 : Nat → Nat → Option Nat, R1 = zU R (x + 3) 0 (some (w)) → ∃ u2 u3 u4 : Nat, hX G R1 K n x u2 u3 u4 ∧ (∀ R6 : Nat → Nat → Option Nat, R6 = zU R1 x 11 (some (v)) → ∃ u7 u8 u9 : Nat, hX G R6 K n x u7 u8 u9 ∧ zC G d mX8_begin 0 0 [.ref (x + 12)] (I, J, R6, K, n) (fun r h => ∃ (I11 : Nat → Nat → Int32), r = none ∧ h = (I11, J, R6, K, n) ∧ zC G d mX1_clear 0 0 [.ref (x + 28)] (I11, J, R6, K, n) (fun r h => ∃ (I12 : Nat → Nat → Int32), r = none ∧ h = (I12, J, R6, K, n) ∧ (∀ I13 : Nat → Nat → Int32, I13 = zU I12 (x + 82) 0 (0) → Q (some (.int (I13 u7 5))) (I13, J, R6, K, n))))))) : zV G (d + 1) mX11_settle kc ks 0 [(0, .ref (x))] [] (I, J, R, K, n) Q := by
  refine zAload_n 0 0 1 (by decide +kernel) rfl rfl ?_
  refine gf11_1 19 4 (by decide +kernel) rfl flX11_19 (X_0 S0_) (X_3 S0_) ?_
  refine gf5_0 152 7 (by decide +kernel) rfl flX11_152 (Set_0 (X_26 S0_)) (Set_1 (X_26 S0_)) ?_
  refine zAstore_n 1 [(1, .ref (v)), (0, .ref (x))] 8 (by decide +kernel) rfl (by decide) rfl ?_
  refine zAload_n 0 1 9 (by decide +kernel) rfl rfl ?_
  refine gf11_1 19 12 (by decide +kernel) rfl flX11_19 (X_0 S0_) (X_3 S0_) ?_
  refine zAload_n 0 1 13 (by decide +kernel) rfl rfl ?_
  refine gf11_11 89 16 (by decide +kernel) rfl flX11_89 (X_0 S0_) (X_22 S0_) ?_
  refine pf5_0 (v := some (w)) 152 19 (by decide +kernel) rfl flX11_152 (Set_0 (X_26 S0_)) ?_
  replace F := F _ rfl
  generalize zU R (x + 3) 0 (some (w)) = R1 at F ⊢
  obtain ⟨u2, u3, u4, S5, F⟩ := F
  refine zAload_n 0 1 20 (by decide +kernel) rfl rfl ?_
  refine zAload_n 1 0 21 (by decide +kernel) rfl rfl ?_
  refine pf11_11 (v := some (v)) 89 24 (by decide +kernel) rfl flX11_89 (X_0 S5) ?_
  replace F := F _ rfl
  generalize zU R1 x 11 (some (v)) = R6 at F ⊢
  obtain ⟨u7, u8, u9, S10, F⟩ := F
  refine zAload_n 0 1 25 (by decide +kernel) rfl rfl ?_
  refine gf11_2 28 28 (by decide +kernel) rfl flX11_28 (X_0 S10) (X_4 S10) ?_
  refine zCallV 8 zcls8 mX8_begin 406 0 0 0 _ _ 31 [] [] okX8_begin mlX11_406 imX8_begin seX8_begin (by decide +kernel) rfl rfl (Nat.le_of_ble_eq_true rfl) rfl rfl (St_0 (Gam_10 (X_15 S10))) (zC.mono F ?_)
  rintro _ _ ⟨I11, rfl, rfl, F⟩
  change zV G (d + 1) mX11_settle kc ks 31 [(1, .ref (v)), (0, .ref (x))] [] (I11, J, R6, K, n) Q
  refine zAload_n 0 1 32 (by decide +kernel) rfl rfl ?_
  refine gf11_4 38 35 (by decide +kernel) rfl flX11_38 (X_0 S10) (X_8 S10) ?_
  refine zCallV 1 zcls1 mX1_clear 409 0 0 0 _ _ 38 [] [] okX1_clear mlX11_409 imX1_clear seX1_clear (by decide +kernel) rfl rfl (Nat.le_of_ble_eq_true rfl) rfl rfl (His_0 (X_9 S10)) (zC.mono F ?_)
  rintro _ _ ⟨I12, rfl, rfl, F⟩
  change zV G (d + 1) mX11_settle kc ks 38 [(1, .ref (v)), (0, .ref (x))] [] (I12, J, R6, K, n) Q
  refine zAload_n 0 1 39 (by decide +kernel) rfl rfl ?_
  refine gf11_6 54 42 (by decide +kernel) rfl flX11_54 (X_0 S10) (X_12 S10) ?_
  refine zIconst 0 0 43 (by decide +kernel) rfl (by decide) ?_
  refine pf6_0 317 46 (by decide +kernel) rfl flX11_317 (Sig_0 (X_13 S10)) ?_
  replace F := F _ rfl
  generalize zU I12 (x + 82) 0 (0) = I13 at F ⊢
  refine zAload_n 0 1 47 (by decide +kernel) rfl rfl ?_
  refine gf11_1 19 50 (by decide +kernel) rfl flX11_19 (X_0 S10) (X_3 S10) ?_
  refine gf5_0 152 53 (by decide +kernel) rfl flX11_152 (Set_0 (X_26 S10)) (Set_1 (X_26 S10)) ?_
  refine gf10_5 303 56 (by decide +kernel) rfl flX11_303 (Vil_0 (Set_2 (X_26 S10))) ?_
  exact zIret rfl (by decide +kernel) F
set_option maxHeartbeats 2000000 in
theorem wX11_hasVillage_0 {G : zG} {d kc ks : Nat} {I : Nat → Nat → Int32} {J : Nat → Nat → Int64} {R : Nat → Nat → Option Nat} {K : Nat → Nat × Nat} {n : Nat} {Q : Option Value → zH → Prop} (x v w q : Nat) (S0_ : hX G R K n x v w q) (F : Q (some (.int ((if (I v 5 : Int32) ≤ 0 then 0 else 1)))) (I, J, R, K, n)) : zV G (d + 1) mX11_hasVillage kc ks 0 [(0, .ref (x))] [] (I, J, R, K, n) Q := by
  refine zAload_n 0 0 1 (by decide +kernel) rfl rfl ?_
  refine gf11_1 19 4 (by decide +kernel) rfl flX11_19 (X_0 S0_) (X_3 S0_) ?_
  refine gf5_0 152 7 (by decide +kernel) rfl flX11_152 (Set_0 (X_26 S0_)) (Set_1 (X_26 S0_)) ?_
  refine gf10_5 303 10 (by decide +kernel) rfl flX11_303 (Vil_0 (Set_2 (X_26 S0_))) ?_
  suffices KK : zV G (d + 1) mX11_hasVillage kc ks 18 [(0, .ref (x))] [.int ((if (I v 5 : Int32) ≤ 0 then 0 else 1))] (I, J, R, K, n) Q by
    refine zIf_le 7 17 13 (by decide +kernel) rfl rfl ⟨fun q1 => ?_, fun q1 => ?_⟩
    · refine zIconst 0 0 18 (by decide +kernel) rfl (by decide) ?_
      exact zTop (by rw [if_pos q1]) KK
    · refine zIconst 1 1 14 (by decide +kernel) rfl (by decide) ?_
      refine zGoto 4 18 (by decide +kernel) rfl ?_
      exact zTop (by rw [if_neg q1]) KK
  exact zZret .boolean rfl (zNarZ (zOrIte (Or.inl rfl) (Or.inr rfl))) (by decide +kernel) F
set_option maxHeartbeats 2000000 in
theorem wX11_isFarm_0 {G : zG} {d kc ks : Nat} {I : Nat → Nat → Int32} {J : Nat → Nat → Int64} {R : Nat → Nat → Option Nat} {K : Nat → Nat × Nat} {n : Nat} {Q : Option Value → zH → Prop} (x v w q : Nat) (S0_ : hX G R K n x v w q) (p1 : Int32) (F : zC G d mX10_isFarm 0 0 [.ref (v), .int (p1)] (I, J, R, K, n) (fun r h => ∃ (x1 : Int32) (I2 : Nat → Nat → Int32), r = some (.int x1) ∧ h = (I2, J, R, K, n) ∧ ((x1 = 0 ∨ x1 = 1) ∧ Q (some (.int (x1))) (I2, J, R, K, n)))) : zV G (d + 1) mX11_isFarm kc ks 0 [(0, .ref (x)), (1, .int (p1))] [] (I, J, R, K, n) Q := by
  refine zAload_n 0 0 1 (by decide +kernel) rfl rfl ?_
  refine gf11_1 19 4 (by decide +kernel) rfl flX11_19 (X_0 S0_) (X_3 S0_) ?_
  refine gf5_0 152 7 (by decide +kernel) rfl flX11_152 (Set_0 (X_26 S0_)) (Set_1 (X_26 S0_)) ?_
  refine zIload_n 1 1 8 (by decide +kernel) rfl rfl ?_
  refine zCallV 10 zcls10 mX10_isFarm 425 1 0 0 _ _ 11 [.int (p1)] [] okX10_isFarm mlX11_425 imX10_isFarm seX10_isFarm (by decide +kernel) rfl rfl (Nat.le_of_ble_eq_true rfl) rfl rfl (Vil_0 (Set_2 (X_26 S0_))) (zC.mono F ?_)
  rintro _ _ ⟨x1, I2, rfl, rfl, F⟩
  change zV G (d + 1) mX11_isFarm kc ks 11 [(0, .ref (x)), (1, .int (p1))] [.int (x1)] (I2, J, R, K, n) Q
  exact zZret .boolean rfl (zNarZ F.1) (by decide +kernel) F.2
set_option maxHeartbeats 2000000 in
theorem wX11_isTold_0 {G : zG} {d kc ks : Nat} {I : Nat → Nat → Int32} {J : Nat → Nat → Int64} {R : Nat → Nat → Option Nat} {K : Nat → Nat × Nat} {n : Nat} {Q : Option Value → zH → Prop} (x v w q : Nat) (S0_ : hX G R K n x v w q) (p1 : Int32) (F : Q (some (.int ((if p1 < 0 then 0 else (if (I v 6 : Int32) ≤ p1 then 0 else 1))))) (I, J, R, K, n)) : zV G (d + 1) mX11_isTold kc ks 0 [(0, .ref (x)), (1, .int (p1))] [] (I, J, R, K, n) Q := by
  refine zIload_n 1 1 1 (by decide +kernel) rfl rfl ?_
  suffices KK : zV G (d + 1) mX11_isTold kc ks 23 [(0, .ref (x)), (1, .int (p1))] [.int ((if p1 < 0 then 0 else (if (I v 6 : Int32) ≤ p1 then 0 else 1)))] (I, J, R, K, n) Q by
    refine zIf_lt 21 22 4 (by decide +kernel) rfl rfl ⟨fun q1 => ?_, fun q1 => ?_⟩
    · refine zIconst 0 0 23 (by decide +kernel) rfl (by decide) ?_
      exact zTop (by rw [if_pos q1]) KK
    · refine zIload_n 1 1 5 (by decide +kernel) rfl rfl ?_
      refine zAload_n 0 0 6 (by decide +kernel) rfl rfl ?_
      refine gf11_1 19 9 (by decide +kernel) rfl flX11_19 (X_0 S0_) (X_3 S0_) ?_
      refine gf5_0 152 12 (by decide +kernel) rfl flX11_152 (Set_0 (X_26 S0_)) (Set_1 (X_26 S0_)) ?_
      refine gf10_6 391 15 (by decide +kernel) rfl flX11_391 (Vil_0 (Set_2 (X_26 S0_))) ?_
      refine zIcmp_ge 7 22 18 (by decide +kernel) rfl rfl ⟨fun q2 => ?_, fun q2 => ?_⟩
      · refine zIconst 0 0 23 (by decide +kernel) rfl (by decide) ?_
        exact zTop (by rw [if_neg q1, if_pos q2]) KK
      · refine zIconst 1 1 19 (by decide +kernel) rfl (by decide) ?_
        refine zGoto 4 23 (by decide +kernel) rfl ?_
        exact zTop (by rw [if_neg q1, if_neg q2]) KK
  exact zZret .boolean rfl (zNarZ (zOrIte (Or.inl rfl) (zOrIte (Or.inl rfl) (Or.inr rfl)))) (by decide +kernel) F
set_option maxHeartbeats 2000000 in
theorem wX11_isSpring_0 {G : zG} {d kc ks : Nat} {I : Nat → Nat → Int32} {J : Nat → Nat → Int64} {R : Nat → Nat → Option Nat} {K : Nat → Nat × Nat} {n : Nat} {Q : Option Value → zH → Prop} (x v w q : Nat) (S0_ : hX G R K n x v w q) (p1 : Int32) (F : Q (some (.int ((if p1 < 0 then 0 else (if (I x 14 : Int32) ≤ p1 then 0 else 1))))) (I, J, R, K, n)) : zV G (d + 1) mX11_isSpring kc ks 0 [(0, .ref (x)), (1, .int (p1))] [] (I, J, R, K, n) Q := by
  refine zIload_n 1 1 1 (by decide +kernel) rfl rfl ?_
  suffices KK : zV G (d + 1) mX11_isSpring kc ks 17 [(0, .ref (x)), (1, .int (p1))] [.int ((if p1 < 0 then 0 else (if (I x 14 : Int32) ≤ p1 then 0 else 1)))] (I, J, R, K, n) Q by
    refine zIf_lt 15 16 4 (by decide +kernel) rfl rfl ⟨fun q1 => ?_, fun q1 => ?_⟩
    · refine zIconst 0 0 17 (by decide +kernel) rfl (by decide) ?_
      exact zTop (by rw [if_pos q1]) KK
    · refine zIload_n 1 1 5 (by decide +kernel) rfl rfl ?_
      refine zAload_n 0 0 6 (by decide +kernel) rfl rfl ?_
      refine gf11_14 102 9 (by decide +kernel) rfl flX11_102 (X_0 S0_) ?_
      refine zIcmp_ge 7 16 12 (by decide +kernel) rfl rfl ⟨fun q2 => ?_, fun q2 => ?_⟩
      · refine zIconst 0 0 17 (by decide +kernel) rfl (by decide) ?_
        exact zTop (by rw [if_neg q1, if_pos q2]) KK
      · refine zIconst 1 1 13 (by decide +kernel) rfl (by decide) ?_
        refine zGoto 4 17 (by decide +kernel) rfl ?_
        exact zTop (by rw [if_neg q1, if_neg q2]) KK
  exact zZret .boolean rfl (zNarZ (zOrIte (Or.inl rfl) (zOrIte (Or.inl rfl) (Or.inr rfl)))) (by decide +kernel) F
set_option maxHeartbeats 2000000 in
theorem wX11_acted_0 {G : zG} {d kc ks : Nat} {I : Nat → Nat → Int32} {J : Nat → Nat → Int64} {R : Nat → Nat → Option Nat} {K : Nat → Nat × Nat} {n : Nat} {Q : Option Value → zH → Prop} (x v w q : Nat) (S0_ : hX G R K n x v w q) (p1 : Int32) (F : ((p1 = (-1) → Q (some (.int (p1))) (I, J, R, K, n)) ∧ (¬ (p1 = (-1)) → zC G d mX1_close 0 0 [.ref (x + 28)] (I, J, R, K, n) (fun r h => ∃ (I2 : Nat → Nat → Int32), r = none ∧ h = (I2, J, R, K, n) ∧ Q (some (.int (p1))) (I2, J, R, K, n))))) : zV G (d + 1) mX11_acted kc ks 0 [(0, .ref (x)), (1, .int (p1))] [] (I, J, R, K, n) Q := by
  refine zIload_n 1 1 1 (by decide +kernel) rfl rfl ?_
  refine zIconst (-1) (-1) 2 (by decide +kernel) rfl (by decide) ?_
  refine zIcmp_eq 10 12 5 (by decide +kernel) rfl rfl ⟨fun q1 => ?_, fun q1 => ?_⟩
  · replace F := F.1 q1
    refine zIload_n 1 1 13 (by decide +kernel) rfl rfl ?_
    exact zIret rfl (by decide +kernel) F
  · replace F := F.2 q1
    refine zAload_n 0 0 6 (by decide +kernel) rfl rfl ?_
    refine gf11_4 38 9 (by decide +kernel) rfl flX11_38 (X_0 S0_) (X_8 S0_) ?_
    refine zCallV 1 zcls1 mX1_close 251 0 0 0 _ _ 12 [] [] okX1_close mlX11_251 imX1_close seX1_close (by decide +kernel) rfl rfl (Nat.le_of_ble_eq_true rfl) rfl rfl (His_0 (X_9 S0_)) (zC.mono F ?_)
    rintro _ _ ⟨I2, rfl, rfl, F⟩
    change zV G (d + 1) mX11_acted kc ks 12 [(0, .ref (x)), (1, .int (p1))] [] (I2, J, R, K, n) Q
    refine zIload_n 1 1 13 (by decide +kernel) rfl rfl ?_
    exact zIret rfl (by decide +kernel) F
set_option maxHeartbeats 2000000 in
theorem wX11_draw_0 {G : zG} {d kc ks : Nat} {I : Nat → Nat → Int32} {J : Nat → Nat → Int64} {R : Nat → Nat → Option Nat} {K : Nat → Nat × Nat} {n : Nat} {Q : Option Value → zH → Prop} (x v w q : Nat) (S0_ : hX G R K n x v w q) (p1 : Int32) (F : (∀ J1 : Nat → Nat → Int64, J1 = zU J x 17 (((J x 17) * 6364136223846793005) + 1442695040888963407) → (((1 ≤ p1) → ¬ (p1.toInt64 : Int64) = 0) ∧ Q (some (.int ((if 1 ≤ p1 then ((((J1 x 17 : Int64).toUInt64 >>> ((33 : Int32).toInt64.toUInt64 &&& Int64.toUInt64 63)).toInt64) - (((J1 x 17 : Int64).toUInt64 >>> ((33 : Int32).toInt64.toUInt64 &&& Int64.toUInt64 63)).toInt64) / p1.toInt64 * p1.toInt64 : Int64).toInt32 else 0)))) (I, J1, R, K, n)))) : zV G (d + 1) mX11_draw kc ks 0 [(0, .ref (x)), (1, .int (p1))] [] (I, J, R, K, n) Q := by
  refine zAload_n 0 0 1 (by decide +kernel) rfl rfl ?_
  refine zAload_n 0 0 2 (by decide +kernel) rfl rfl ?_
  refine gf11_17 111 5 (by decide +kernel) rfl flX11_111 (X_0 S0_) ?_
  refine zLdc2 426 6364136223846793005 8 (by decide +kernel) rfl klX11_426 ?_
  refine zLmul 9 (by decide +kernel) rfl ?_
  refine zLdc2 428 1442695040888963407 12 (by decide +kernel) rfl klX11_428 ?_
  refine zLadd 13 (by decide +kernel) rfl ?_
  refine pf11_17 111 16 (by decide +kernel) rfl flX11_111 (X_0 S0_) ?_
  replace F := F _ rfl
  generalize zU J x 17 (((J x 17) * 6364136223846793005) + 1442695040888963407) = J1 at F ⊢
  refine zIload_n 1 1 17 (by decide +kernel) rfl rfl ?_
  refine zIconst 1 1 18 (by decide +kernel) rfl (by decide) ?_
  obtain ⟨w3, F⟩ := F
  suffices KK : zV G (d + 1) mX11_draw kc ks 36 [(0, .ref (x)), (1, .int (p1))] [.int ((if 1 ≤ p1 then ((((J1 x 17 : Int64).toUInt64 >>> ((33 : Int32).toInt64.toUInt64 &&& Int64.toUInt64 63)).toInt64) - (((J1 x 17 : Int64).toUInt64 >>> ((33 : Int32).toInt64.toUInt64 &&& Int64.toUInt64 63)).toInt64) / p1.toInt64 * p1.toInt64 : Int64).toInt32 else 0))] (I, J1, R, K, n) Q by
    refine zIcmp_ge 7 25 21 (by decide +kernel) rfl rfl ⟨fun q2 => ?_, fun q2 => ?_⟩
    · refine zAload_n 0 0 26 (by decide +kernel) rfl rfl ?_
      refine gf11_17 111 29 (by decide +kernel) rfl flX11_111 (X_0 S0_) ?_
      refine zBipush 33 33 31 (by decide +kernel) rfl (by decide) ?_
      refine zLushr 32 (by decide +kernel) rfl ?_
      refine zIload_n 1 1 33 (by decide +kernel) rfl rfl ?_
      refine zI2l 34 (by decide +kernel) rfl ?_
      refine zLrem 35 (by decide +kernel) rfl (w3 q2) ?_
      refine zL2i 36 (by decide +kernel) rfl ?_
      exact zTop (by rw [if_pos q2]) KK
    · refine zIconst 0 0 22 (by decide +kernel) rfl (by decide) ?_
      refine zGoto 14 36 (by decide +kernel) rfl ?_
      exact zTop (by rw [if_neg q2]) KK
  exact zIret rfl (by decide +kernel) F
set_option maxHeartbeats 2000000 in
theorem wX11_quarrel_0 {G : zG} {d kc ks : Nat} {I : Nat → Nat → Int32} {J : Nat → Nat → Int64} {R : Nat → Nat → Option Nat} {K : Nat → Nat × Nat} {n : Nat} {Q : Option Value → zH → Prop} (x v w q : Nat) (S0_ : hX G R K n x v w q) (F : zC G d mX11_draw 0 0 [.ref (x), .int (10)] (I, J, R, K, n) (fun r h => ∃ (x1 : Int32) (I2 : Nat → Nat → Int32) (J3 : Nat → Nat → Int64), r = some (.int x1) ∧ h = (I2, J3, R, K, n) ∧ ((x1 < (I2 x 16 : Int32) → zC G d mX11_draw 0 0 [.ref (x), .int (I2 v 5)] (I2, J3, R, K, n) (fun r h => ∃ (x5 : Int32) (I6 : Nat → Nat → Int32) (J7 : Nat → Nat → Int64), r = some (.int x5) ∧ h = (I6, J7, R, K, n) ∧ zC G d mX11_draw 0 0 [.ref (x), .int (I6 v 5)] (I6, J7, R, K, n) (fun r h => ∃ (x8 : Int32) (I9 : Nat → Nat → Int32) (J10 : Nat → Nat → Int64), r = some (.int x8) ∧ h = (I9, J10, R, K, n) ∧ zC G d mX11_draw 0 0 [.ref (x), .int (9)] (I9, J10, R, K, n) (fun r h => ∃ (x11 : Int32) (I12 : Nat → Nat → Int32) (J13 : Nat → Nat → Int64), r = some (.int x11) ∧ h = (I12, J13, R, K, n) ∧ zC G d mX8_offend 0 0 [.ref (x + 12), .int (x5), .int (x8), .int (x11 + 1)] (I12, J13, R, K, n) (fun r h => ∃ (x14 : Int32) (I15 : Nat → Nat → Int32), r = some (.int x14) ∧ h = (I15, J13, R, K, n) ∧ Q none (I15, J13, R, K, n)))))) ∧ (¬ (x1 < (I2 x 16 : Int32)) → Q none (I2, J3, R, K, n))))) : zV G (d + 1) mX11_quarrel kc ks 0 [(0, .ref (x))] [] (I, J, R, K, n) Q := by
  refine zAload_n 0 0 1 (by decide +kernel) rfl rfl ?_
  refine zBipush 10 10 3 (by decide +kernel) rfl (by decide) ?_
  refine zCallV 11 zcls11 mX11_draw 243 1 0 0 _ _ 6 [.int (10)] [] okX11_draw mlX11_243 imX11_draw seX11_draw (by decide +kernel) rfl rfl (Nat.le_of_ble_eq_true rfl) rfl rfl (X_0 S0_) (zC.mono F ?_)
  rintro _ _ ⟨x1, I2, J3, rfl, rfl, F⟩
  change zV G (d + 1) mX11_quarrel kc ks 6 [(0, .ref (x))] [.int (x1)] (I2, J3, R, K, n) Q
  refine zAload_n 0 0 7 (by decide +kernel) rfl rfl ?_
  refine gf11_16 108 10 (by decide +kernel) rfl flX11_108 (X_0 S0_) ?_
  refine zIcmp_lt 4 14 13 (by decide +kernel) rfl rfl ⟨fun q4 => ?_, fun q4 => ?_⟩
  · replace F := F.1 q4
    refine zAload_n 0 0 15 (by decide +kernel) rfl rfl ?_
    refine zAload_n 0 0 16 (by decide +kernel) rfl rfl ?_
    refine gf11_1 19 19 (by decide +kernel) rfl flX11_19 (X_0 S0_) (X_3 S0_) ?_
    refine gf5_0 152 22 (by decide +kernel) rfl flX11_152 (Set_0 (X_26 S0_)) (Set_1 (X_26 S0_)) ?_
    refine gf10_5 303 25 (by decide +kernel) rfl flX11_303 (Vil_0 (Set_2 (X_26 S0_))) ?_
    refine zCallV 11 zcls11 mX11_draw 243 1 0 0 _ _ 28 [.int (I2 v 5)] [] okX11_draw mlX11_243 imX11_draw seX11_draw (by decide +kernel) rfl rfl (Nat.le_of_ble_eq_true rfl) rfl rfl (X_0 S0_) (zC.mono F ?_)
    rintro _ _ ⟨x5, I6, J7, rfl, rfl, F⟩
    change zV G (d + 1) mX11_quarrel kc ks 28 [(0, .ref (x))] [.int (x5)] (I6, J7, R, K, n) Q
    refine zIstore_n 1 [(1, .int (x5)), (0, .ref (x))] 29 (by decide +kernel) rfl (by decide) rfl ?_
    refine zAload_n 0 1 30 (by decide +kernel) rfl rfl ?_
    refine zAload_n 0 1 31 (by decide +kernel) rfl rfl ?_
    refine gf11_1 19 34 (by decide +kernel) rfl flX11_19 (X_0 S0_) (X_3 S0_) ?_
    refine gf5_0 152 37 (by decide +kernel) rfl flX11_152 (Set_0 (X_26 S0_)) (Set_1 (X_26 S0_)) ?_
    refine gf10_5 303 40 (by decide +kernel) rfl flX11_303 (Vil_0 (Set_2 (X_26 S0_))) ?_
    refine zCallV 11 zcls11 mX11_draw 243 1 0 0 _ _ 43 [.int (I6 v 5)] [] okX11_draw mlX11_243 imX11_draw seX11_draw (by decide +kernel) rfl rfl (Nat.le_of_ble_eq_true rfl) rfl rfl (X_0 S0_) (zC.mono F ?_)
    rintro _ _ ⟨x8, I9, J10, rfl, rfl, F⟩
    change zV G (d + 1) mX11_quarrel kc ks 43 [(1, .int (x5)), (0, .ref (x))] [.int (x8)] (I9, J10, R, K, n) Q
    refine zIstore_n 2 [(2, .int (x8)), (1, .int (x5)), (0, .ref (x))] 44 (by decide +kernel) rfl (by decide) rfl ?_
    refine zAload_n 0 2 45 (by decide +kernel) rfl rfl ?_
    refine gf11_2 28 48 (by decide +kernel) rfl flX11_28 (X_0 S0_) (X_4 S0_) ?_
    refine zIload_n 1 1 49 (by decide +kernel) rfl rfl ?_
    refine zIload_n 2 0 50 (by decide +kernel) rfl rfl ?_
    refine zAload_n 0 2 51 (by decide +kernel) rfl rfl ?_
    refine zBipush 9 9 53 (by decide +kernel) rfl (by decide) ?_
    refine zCallV 11 zcls11 mX11_draw 243 1 0 0 _ _ 56 [.int (9)] [.int (x8), .int (x5), .ref (x + 12)] okX11_draw mlX11_243 imX11_draw seX11_draw (by decide +kernel) rfl rfl (Nat.le_of_ble_eq_true rfl) rfl rfl (X_0 S0_) (zC.mono F ?_)
    rintro _ _ ⟨x11, I12, J13, rfl, rfl, F⟩
    change zV G (d + 1) mX11_quarrel kc ks 56 [(2, .int (x8)), (1, .int (x5)), (0, .ref (x))] [.int (x11), .int (x8), .int (x5), .ref (x + 12)] (I12, J13, R, K, n) Q
    refine zIconst 1 1 57 (by decide +kernel) rfl (by decide) ?_
    refine zIadd 58 (by decide +kernel) rfl ?_
    refine zCallV 8 zcls8 mX8_offend 209 3 0 0 _ _ 61 [.int (x5), .int (x8), .int (x11 + 1)] [] okX8_offend mlX11_209 imX8_offend seX8_offend (by decide +kernel) rfl rfl (Nat.le_of_ble_eq_true rfl) rfl rfl (St_0 (Gam_10 (X_15 S0_))) (zC.mono F ?_)
    rintro _ _ ⟨x14, I15, rfl, rfl, F⟩
    change zV G (d + 1) mX11_quarrel kc ks 61 [(2, .int (x8)), (1, .int (x5)), (0, .ref (x))] [.int (x14)] (I15, J13, R, K, n) Q
    refine zPop 62 (by decide +kernel) rfl rfl ?_
    exact zVret rfl (by decide +kernel) F
  · replace F := F.2 q4
    exact zVret rfl (by decide +kernel) F
set_option maxHeartbeats 2000000 in
theorem wX11_foremost_0 {G : zG} {d kc ks : Nat} {I : Nat → Nat → Int32} {J : Nat → Nat → Int64} {R : Nat → Nat → Option Nat} {K : Nat → Nat × Nat} {n : Nat} {Q : Option Value → zH → Prop} (x v w q : Nat) (S0_ : hX G R K n x v w q) (p1 : Int32) (F : zV G (d + 1) mX11_foremost kc ks 4 [(0, .ref (x)), (1, .int (p1)), (2, .int (0)), (3, .int (1))] [] (I, J, R, K, n) Q) : zV G (d + 1) mX11_foremost kc ks 0 [(0, .ref (x)), (1, .int (p1))] [] (I, J, R, K, n) Q := by
  refine zIconst 0 0 1 (by decide +kernel) rfl (by decide) ?_
  refine zIstore_n 2 [(2, .int (0)), (0, .ref (x)), (1, .int (p1))] 2 (by decide +kernel) rfl (by decide) rfl ?_
  refine zIconst 1 1 3 (by decide +kernel) rfl (by decide) ?_
  refine zIstore_n 3 [(3, .int (1)), (2, .int (0)), (0, .ref (x)), (1, .int (p1))] 4 (by decide +kernel) rfl (by decide) rfl ?_
  exact zLoc [2, 3, 1, 0] _ rfl F
set_option maxHeartbeats 2000000 in
theorem wX11_foremost_4 {G : zG} {d kc ks : Nat} {I : Nat → Nat → Int32} {J : Nat → Nat → Int64} {R : Nat → Nat → Option Nat} {K : Nat → Nat × Nat} {n : Nat} {Q : Option Value → zH → Prop} (x v w q : Nat) (S0_ : hX G R K n x v w q) (l1 l2 l3 : Int32) (F : (((I v 5 : Int32) ≤ l3 → Q (some (.int (l2))) (I, J, R, K, n)) ∧ (¬ ((I v 5 : Int32) ≤ l3) → zC G d mX11_measure 0 0 [.ref (x), .int (l3), .int (l1)] (I, J, R, K, n) (fun r h => ∃ (x2 : Int32) (I3 : Nat → Nat → Int32), r = some (.int x2) ∧ h = (I3, J, R, K, n) ∧ zC G d mX11_measure 0 0 [.ref (x), .int (l2), .int (l1)] (I3, J, R, K, n) (fun r h => ∃ (x4 : Int32) (I5 : Nat → Nat → Int32), r = some (.int x4) ∧ h = (I5, J, R, K, n) ∧ ((x2 ≤ x4 → zV G (d + 1) mX11_foremost kc ks 4 [(0, .ref (x)), (1, .int (l1)), (2, .int (l2)), (3, .int (l3 + 1))] [] (I5, J, R, K, n) Q) ∧ (¬ (x2 ≤ x4) → zV G (d + 1) mX11_foremost kc ks 4 [(0, .ref (x)), (1, .int (l1)), (2, .int (l3)), (3, .int (l3 + 1))] [] (I5, J, R, K, n) Q))))))) : zV G (d + 1) mX11_foremost kc ks 4 [(0, .ref (x)), (1, .int (l1)), (2, .int (l2)), (3, .int (l3))] [] (I, J, R, K, n) Q := by
  refine zIload_n 3 3 5 (by decide +kernel) rfl rfl ?_
  refine zAload_n 0 0 6 (by decide +kernel) rfl rfl ?_
  refine gf11_1 19 9 (by decide +kernel) rfl flX11_19 (X_0 S0_) (X_3 S0_) ?_
  refine gf5_0 152 12 (by decide +kernel) rfl flX11_152 (Set_0 (X_26 S0_)) (Set_1 (X_26 S0_)) ?_
  refine gf10_5 303 15 (by decide +kernel) rfl flX11_303 (Vil_0 (Set_2 (X_26 S0_))) ?_
  refine zIcmp_ge 26 41 18 (by decide +kernel) rfl rfl ⟨fun q1 => ?_, fun q1 => ?_⟩
  · replace F := F.1 q1
    refine zIload_n 2 2 42 (by decide +kernel) rfl rfl ?_
    exact zIret rfl (by decide +kernel) F
  · replace F := F.2 q1
    refine zAload_n 0 0 19 (by decide +kernel) rfl rfl ?_
    refine zIload_n 3 3 20 (by decide +kernel) rfl rfl ?_
    refine zIload_n 1 1 21 (by decide +kernel) rfl rfl ?_
    refine zCallV 11 zcls11 mX11_measure 430 2 0 0 _ _ 24 [.int (l3), .int (l1)] [] okX11_measure mlX11_430 imX11_measure seX11_measure (by decide +kernel) rfl rfl (Nat.le_of_ble_eq_true rfl) rfl rfl (X_0 S0_) (zC.mono F ?_)
    rintro _ _ ⟨x2, I3, rfl, rfl, F⟩
    change zV G (d + 1) mX11_foremost kc ks 24 [(0, .ref (x)), (1, .int (l1)), (2, .int (l2)), (3, .int (l3))] [.int (x2)] (I3, J, R, K, n) Q
    refine zAload_n 0 0 25 (by decide +kernel) rfl rfl ?_
    refine zIload_n 2 2 26 (by decide +kernel) rfl rfl ?_
    refine zIload_n 1 1 27 (by decide +kernel) rfl rfl ?_
    refine zCallV 11 zcls11 mX11_measure 430 2 0 0 _ _ 30 [.int (l2), .int (l1)] [.int (x2)] okX11_measure mlX11_430 imX11_measure seX11_measure (by decide +kernel) rfl rfl (Nat.le_of_ble_eq_true rfl) rfl rfl (X_0 S0_) (zC.mono F ?_)
    rintro _ _ ⟨x4, I5, rfl, rfl, F⟩
    change zV G (d + 1) mX11_foremost kc ks 30 [(0, .ref (x)), (1, .int (l1)), (2, .int (l2)), (3, .int (l3))] [.int (x4), .int (x2)] (I5, J, R, K, n) Q
    refine zIcmp_le 5 35 33 (by decide +kernel) rfl rfl ⟨fun q6 => ?_, fun q6 => ?_⟩
    · replace F := F.1 q6
      refine zIinc 3 1 3 (l3 + 1) [(3, .int (l3 + 1)), (0, .ref (x)), (1, .int (l1)), (2, .int (l2))] 38 (by decide +kernel) rfl rfl (by rfl) (by decide) rfl ?_
      refine zGoto (-34) 4 (by decide +kernel) rfl ?_
      exact zLoc [1, 2, 3, 0] _ rfl F
    · replace F := F.2 q6
      refine zIload_n 3 3 34 (by decide +kernel) rfl rfl ?_
      refine zIstore_n 2 [(2, .int (l3)), (0, .ref (x)), (1, .int (l1)), (3, .int (l3))] 35 (by decide +kernel) rfl (by decide) rfl ?_
      refine zIinc 3 1 3 (l3 + 1) [(3, .int (l3 + 1)), (2, .int (l3)), (0, .ref (x)), (1, .int (l1))] 38 (by decide +kernel) rfl rfl (by rfl) (by decide) rfl ?_
      refine zGoto (-34) 4 (by decide +kernel) rfl ?_
      exact zLoc [2, 3, 1, 0] _ rfl F
set_option maxHeartbeats 2000000 in
theorem wX11_measure_0 {G : zG} {d kc ks : Nat} {I : Nat → Nat → Int32} {J : Nat → Nat → Int64} {R : Nat → Nat → Option Nat} {K : Nat → Nat × Nat} {n : Nat} {Q : Option Value → zH → Prop} (x v w q : Nat) (S0_ : hX G R K n x v w q) (p1 p2 : Int32) (F : ((p2 = 0 → ((vp_in p1 6) ∧ Q (some (.int (I (x + 16) p1.toNatClampNeg))) (I, J, R, K, n))) ∧ (p2 = 1 → zC G d mX8_bare 0 0 [.ref (x + 12), .int (p1)] (I, J, R, K, n) (fun r h => ∃ (x4 : Int32) (I5 : Nat → Nat → Int32), r = some (.int x4) ∧ h = (I5, J, R, K, n) ∧ Q (some (.int (x4))) (I5, J, R, K, n))) ∧ (p2 = 2 → ((vp_in p1 6) ∧ Q (some (.int (I (v + 2) p1.toNatClampNeg))) (I, J, R, K, n))) ∧ (p2 = 3 → ((vp_in p1 6) ∧ Q (some (.int (I (v + 1) p1.toNatClampNeg))) (I, J, R, K, n))) ∧ (p2 = 4 → zC G d mX8_doneBy 0 0 [.ref (x + 12), .int (p1)] (I, J, R, K, n) (fun r h => ∃ (x11 : Int32) (I12 : Nat → Nat → Int32), r = some (.int x11) ∧ h = (I12, J, R, K, n) ∧ zC G d mJ6_bitCount_0f7a4 0 0 [.int (x11)] (I12, J, R, K, n) (fun r h => ∃ (x13 : Int32), r = some (.int x13) ∧ h = (I12, J, R, K, n) ∧ Q (some (.int (x13))) (I12, J, R, K, n)))) ∧ (¬ p2 = 0 → ¬ p2 = 1 → ¬ p2 = 2 → ¬ p2 = 3 → ¬ p2 = 4 → zC G d mX8_doneTo 0 0 [.ref (x + 12), .int (p1)] (I, J, R, K, n) (fun r h => ∃ (x14 : Int32) (I15 : Nat → Nat → Int32), r = some (.int x14) ∧ h = (I15, J, R, K, n) ∧ zC G d mJ6_bitCount_0f7a4 0 0 [.int (x14)] (I15, J, R, K, n) (fun r h => ∃ (x16 : Int32), r = some (.int x16) ∧ h = (I15, J, R, K, n) ∧ Q (some (.int (x16))) (I15, J, R, K, n)))))) : zV G (d + 1) mX11_measure kc ks 0 [(0, .ref (x)), (1, .int (p1)), (2, .int (p2))] [] (I, J, R, K, n) Q := by
  refine zIload_n 2 2 1 (by decide +kernel) rfl rfl ?_
  by_cases q1 : p2 = 0
  · replace F := F.1 q1
    have zt := zEqT q1 (show (0 : Int32).toInt = 0 by decide)
    refine zTableIn 92 0 4 #[35, 45, 54, 67, 80] 35 35 36 (by decide +kernel) (by omega) (by omega) (by rw [zt]; decide) rfl ?_
    refine zAload_n 0 0 37 (by decide +kernel) rfl rfl ?_
    refine gf11_2 28 40 (by decide +kernel) rfl flX11_28 (X_0 S0_) (X_4 S0_) ?_
    refine gf8_3 162 43 (by decide +kernel) rfl flX11_162 (St_0 (Gam_10 (X_15 S0_))) (St_7 (Gam_10 (X_15 S0_))) ?_
    refine zIload_n 1 1 44 (by decide +kernel) rfl rfl ?_
    obtain ⟨w2, F⟩ := F
    refine yIaload 6 45 (by decide +kernel) rfl (St_8 (Gam_10 (X_15 S0_))) (w2) ?_
    exact zIret rfl (by decide +kernel) F
  · skip
    by_cases q3 : p2 = 1
    · replace F := F.2.1 q3
      have zt := zEqT q3 (show (1 : Int32).toInt = 1 by decide)
      refine zTableIn 92 0 4 #[35, 45, 54, 67, 80] 35 45 46 (by decide +kernel) (by omega) (by omega) (by rw [zt]; decide) rfl ?_
      refine zAload_n 0 0 47 (by decide +kernel) rfl rfl ?_
      refine gf11_2 28 50 (by decide +kernel) rfl flX11_28 (X_0 S0_) (X_4 S0_) ?_
      refine zIload_n 1 1 51 (by decide +kernel) rfl rfl ?_
      refine zCallV 8 zcls8 mX8_bare 168 1 0 0 _ _ 54 [.int (p1)] [] okX8_bare mlX11_168 imX8_bare seX8_bare (by decide +kernel) rfl rfl (Nat.le_of_ble_eq_true rfl) rfl rfl (St_0 (Gam_10 (X_15 S0_))) (zC.mono F ?_)
      rintro _ _ ⟨x4, I5, rfl, rfl, F⟩
      change zV G (d + 1) mX11_measure kc ks 54 [(0, .ref (x)), (1, .int (p1)), (2, .int (p2))] [.int (x4)] (I5, J, R, K, n) Q
      exact zIret rfl (by decide +kernel) F
    · skip
      by_cases q6 : p2 = 2
      · replace F := F.2.2.1 q6
        have zt := zEqT q6 (show (2 : Int32).toInt = 2 by decide)
        refine zTableIn 92 0 4 #[35, 45, 54, 67, 80] 35 54 55 (by decide +kernel) (by omega) (by omega) (by rw [zt]; decide) rfl ?_
        refine zAload_n 0 0 56 (by decide +kernel) rfl rfl ?_
        refine gf11_1 19 59 (by decide +kernel) rfl flX11_19 (X_0 S0_) (X_3 S0_) ?_
        refine gf5_0 152 62 (by decide +kernel) rfl flX11_152 (Set_0 (X_26 S0_)) (Set_1 (X_26 S0_)) ?_
        refine gf10_1 159 65 (by decide +kernel) rfl flX11_159 (Vil_0 (Set_2 (X_26 S0_))) (Vil_3 (Set_2 (X_26 S0_))) ?_
        refine zIload_n 1 1 66 (by decide +kernel) rfl rfl ?_
        obtain ⟨w7, F⟩ := F
        refine yIaload 6 67 (by decide +kernel) rfl (Vil_4 (Set_2 (X_26 S0_))) (w7) ?_
        exact zIret rfl (by decide +kernel) F
      · skip
        by_cases q8 : p2 = 3
        · replace F := F.2.2.2.1 q8
          have zt := zEqT q8 (show (3 : Int32).toInt = 3 by decide)
          refine zTableIn 92 0 4 #[35, 45, 54, 67, 80] 35 67 68 (by decide +kernel) (by omega) (by omega) (by rw [zt]; decide) rfl ?_
          refine zAload_n 0 0 69 (by decide +kernel) rfl rfl ?_
          refine gf11_1 19 72 (by decide +kernel) rfl flX11_19 (X_0 S0_) (X_3 S0_) ?_
          refine gf5_0 152 75 (by decide +kernel) rfl flX11_152 (Set_0 (X_26 S0_)) (Set_1 (X_26 S0_)) ?_
          refine gf10_0 155 78 (by decide +kernel) rfl flX11_155 (Vil_0 (Set_2 (X_26 S0_))) (Vil_1 (Set_2 (X_26 S0_))) ?_
          refine zIload_n 1 1 79 (by decide +kernel) rfl rfl ?_
          obtain ⟨w9, F⟩ := F
          refine yIaload 6 80 (by decide +kernel) rfl (Vil_2 (Set_2 (X_26 S0_))) (w9) ?_
          exact zIret rfl (by decide +kernel) F
        · skip
          by_cases q10 : p2 = 4
          · replace F := F.2.2.2.2.1 q10
            have zt := zEqT q10 (show (4 : Int32).toInt = 4 by decide)
            refine zTableIn 92 0 4 #[35, 45, 54, 67, 80] 35 80 81 (by decide +kernel) (by omega) (by omega) (by rw [zt]; decide) rfl ?_
            refine zAload_n 0 0 82 (by decide +kernel) rfl rfl ?_
            refine gf11_2 28 85 (by decide +kernel) rfl flX11_28 (X_0 S0_) (X_4 S0_) ?_
            refine zIload_n 1 1 86 (by decide +kernel) rfl rfl ?_
            refine zCallV 8 zcls8 mX8_doneBy 337 1 0 0 _ _ 89 [.int (p1)] [] okX8_doneBy mlX11_337 imX8_doneBy seX8_doneBy (by decide +kernel) rfl rfl (Nat.le_of_ble_eq_true rfl) rfl rfl (St_0 (Gam_10 (X_15 S0_))) (zC.mono F ?_)
            rintro _ _ ⟨x11, I12, rfl, rfl, F⟩
            change zV G (d + 1) mX11_measure kc ks 89 [(0, .ref (x)), (1, .int (p1)), (2, .int (p2))] [.int (x11)] (I12, J, R, K, n) Q
            refine zCallS mJ6_bitCount_0f7a4 235 1 0 0 _ _ 92 [.int (x11)] [] okJ6_bitCount_0f7a4 mlX11_235 smJ6_bitCount_0f7a4 (by decide +kernel) rfl rfl (Nat.le_of_ble_eq_true rfl) rfl rfl (zC.mono F ?_)
            rintro _ _ ⟨x13, rfl, rfl, F⟩
            change zV G (d + 1) mX11_measure kc ks 92 [(0, .ref (x)), (1, .int (p1)), (2, .int (p2))] [.int (x13)] (I12, J, R, K, n) Q
            exact zIret rfl (by decide +kernel) F
          · skip
            replace F := F.2.2.2.2.2 q1 q3 q6 q8 q10
            have zq1 := zNeT q1 (show (0 : Int32).toInt = 0 by decide)
            have zq3 := zNeT q3 (show (1 : Int32).toInt = 1 by decide)
            have zq6 := zNeT q6 (show (2 : Int32).toInt = 2 by decide)
            have zq8 := zNeT q8 (show (3 : Int32).toInt = 3 by decide)
            have zq10 := zNeT q10 (show (4 : Int32).toInt = 4 by decide)
            refine zTableOut 92 0 4 #[35, 45, 54, 67, 80] 35 93 (by decide +kernel) (by omega) rfl ?_
            refine zAload_n 0 0 94 (by decide +kernel) rfl rfl ?_
            refine gf11_2 28 97 (by decide +kernel) rfl flX11_28 (X_0 S0_) (X_4 S0_) ?_
            refine zIload_n 1 1 98 (by decide +kernel) rfl rfl ?_
            refine zCallV 8 zcls8 mX8_doneTo 289 1 0 0 _ _ 101 [.int (p1)] [] okX8_doneTo mlX11_289 imX8_doneTo seX8_doneTo (by decide +kernel) rfl rfl (Nat.le_of_ble_eq_true rfl) rfl rfl (St_0 (Gam_10 (X_15 S0_))) (zC.mono F ?_)
            rintro _ _ ⟨x14, I15, rfl, rfl, F⟩
            change zV G (d + 1) mX11_measure kc ks 101 [(0, .ref (x)), (1, .int (p1)), (2, .int (p2))] [.int (x14)] (I15, J, R, K, n) Q
            refine zCallS mJ6_bitCount_0f7a4 235 1 0 0 _ _ 104 [.int (x14)] [] okJ6_bitCount_0f7a4 mlX11_235 smJ6_bitCount_0f7a4 (by decide +kernel) rfl rfl (Nat.le_of_ble_eq_true rfl) rfl rfl (zC.mono F ?_)
            rintro _ _ ⟨x16, rfl, rfl, F⟩
            change zV G (d + 1) mX11_measure kc ks 104 [(0, .ref (x)), (1, .int (p1)), (2, .int (p2))] [.int (x16)] (I15, J, R, K, n) Q
            exact zIret rfl (by decide +kernel) F
set_option maxHeartbeats 2000000 in
theorem wX11_heaviestPlace_0 {G : zG} {d kc ks : Nat} {I : Nat → Nat → Int32} {J : Nat → Nat → Int64} {R : Nat → Nat → Option Nat} {K : Nat → Nat × Nat} {n : Nat} {Q : Option Value → zH → Prop} (x v w q : Nat) (S0_ : hX G R K n x v w q) (F : zV G (d + 1) mX11_heaviestPlace kc ks 4 [(0, .ref (x)), (1, .int ((-1))), (2, .int (0))] [] (I, J, R, K, n) Q) : zV G (d + 1) mX11_heaviestPlace kc ks 0 [(0, .ref (x))] [] (I, J, R, K, n) Q := by
  refine zIconst (-1) (-1) 1 (by decide +kernel) rfl (by decide) ?_
  refine zIstore_n 1 [(1, .int ((-1))), (0, .ref (x))] 2 (by decide +kernel) rfl (by decide) rfl ?_
  refine zIconst 0 0 3 (by decide +kernel) rfl (by decide) ?_
  refine zIstore_n 2 [(2, .int (0)), (1, .int ((-1))), (0, .ref (x))] 4 (by decide +kernel) rfl (by decide) rfl ?_
  exact zLoc [2, 1, 0] _ rfl F
set_option maxHeartbeats 2000000 in
theorem wX11_heaviestPlace_4 {G : zG} {d kc ks : Nat} {I : Nat → Nat → Int32} {J : Nat → Nat → Int64} {R : Nat → Nat → Option Nat} {K : Nat → Nat × Nat} {n : Nat} {Q : Option Value → zH → Prop} (x v w q : Nat) (S0_ : hX G R K n x v w q) (l1 l2 : Int32) (F : ((9 ≤ l2 → Q (some (.int (l1))) (I, J, R, K, n)) ∧ (¬ (9 ≤ l2) → ((vp_in l2 9) ∧ (((I (x + 15) l2.toNatClampNeg : Int32) ≤ 0 → zV G (d + 1) mX11_heaviestPlace kc ks 4 [(0, .ref (x)), (1, .int (l1)), (2, .int (l2 + 1))] [] (I, J, R, K, n) Q) ∧ (¬ ((I (x + 15) l2.toNatClampNeg : Int32) ≤ 0) → ((l1 = (-1) → zV G (d + 1) mX11_heaviestPlace kc ks 4 [(0, .ref (x)), (1, .int (l2)), (2, .int (l2 + 1))] [] (I, J, R, K, n) Q) ∧ (¬ (l1 = (-1)) → ((vp_in l2 9) ∧ ((vp_in l1 9) ∧ (((I (x + 15) l2.toNatClampNeg : Int32) ≤ (I (x + 15) l1.toNatClampNeg : Int32) → zV G (d + 1) mX11_heaviestPlace kc ks 4 [(0, .ref (x)), (1, .int (l1)), (2, .int (l2 + 1))] [] (I, J, R, K, n) Q) ∧ (¬ ((I (x + 15) l2.toNatClampNeg : Int32) ≤ (I (x + 15) l1.toNatClampNeg : Int32)) → zV G (d + 1) mX11_heaviestPlace kc ks 4 [(0, .ref (x)), (1, .int (l2)), (2, .int (l2 + 1))] [] (I, J, R, K, n) Q)))))))))))) : zV G (d + 1) mX11_heaviestPlace kc ks 4 [(0, .ref (x)), (1, .int (l1)), (2, .int (l2))] [] (I, J, R, K, n) Q := by
  refine zIload_n 2 2 5 (by decide +kernel) rfl rfl ?_
  refine zBipush 9 9 7 (by decide +kernel) rfl (by decide) ?_
  refine zIcmp_ge 49 56 10 (by decide +kernel) rfl rfl ⟨fun q1 => ?_, fun q1 => ?_⟩
  · replace F := F.1 q1
    refine zIload_n 1 1 57 (by decide +kernel) rfl rfl ?_
    exact zIret rfl (by decide +kernel) F
  · replace F := F.2 q1
    refine zAload_n 0 0 11 (by decide +kernel) rfl rfl ?_
    refine gf11_2 28 14 (by decide +kernel) rfl flX11_28 (X_0 S0_) (X_4 S0_) ?_
    refine gf8_2 183 17 (by decide +kernel) rfl flX11_183 (St_0 (Gam_10 (X_15 S0_))) (St_5 (Gam_10 (X_15 S0_))) ?_
    refine zIload_n 2 2 18 (by decide +kernel) rfl rfl ?_
    obtain ⟨w2, F⟩ := F
    refine yIaload 9 19 (by decide +kernel) rfl (St_6 (Gam_10 (X_15 S0_))) (w2) ?_
    refine zIf_le 31 50 22 (by decide +kernel) rfl rfl ⟨fun q3 => ?_, fun q3 => ?_⟩
    · replace F := F.1 q3
      refine zIinc 2 1 2 (l2 + 1) [(2, .int (l2 + 1)), (0, .ref (x)), (1, .int (l1))] 53 (by decide +kernel) rfl rfl (by rfl) (by decide) rfl ?_
      refine zGoto (-49) 4 (by decide +kernel) rfl ?_
      exact zLoc [1, 2, 0] _ rfl F
    · replace F := F.2 q3
      refine zIload_n 1 1 23 (by decide +kernel) rfl rfl ?_
      refine zIconst (-1) (-1) 24 (by decide +kernel) rfl (by decide) ?_
      refine zIcmp_eq 24 48 27 (by decide +kernel) rfl rfl ⟨fun q4 => ?_, fun q4 => ?_⟩
      · replace F := F.1 q4
        refine zIload_n 2 2 49 (by decide +kernel) rfl rfl ?_
        refine zIstore_n 1 [(1, .int (l2)), (0, .ref (x)), (2, .int (l2))] 50 (by decide +kernel) rfl (by decide) rfl ?_
        refine zIinc 2 1 2 (l2 + 1) [(2, .int (l2 + 1)), (1, .int (l2)), (0, .ref (x))] 53 (by decide +kernel) rfl rfl (by rfl) (by decide) rfl ?_
        refine zGoto (-49) 4 (by decide +kernel) rfl ?_
        exact zLoc [2, 1, 0] _ rfl F
      · replace F := F.2 q4
        refine zAload_n 0 0 28 (by decide +kernel) rfl rfl ?_
        refine gf11_2 28 31 (by decide +kernel) rfl flX11_28 (X_0 S0_) (X_4 S0_) ?_
        refine gf8_2 183 34 (by decide +kernel) rfl flX11_183 (St_0 (Gam_10 (X_15 S0_))) (St_5 (Gam_10 (X_15 S0_))) ?_
        refine zIload_n 2 2 35 (by decide +kernel) rfl rfl ?_
        obtain ⟨w5, F⟩ := F
        refine yIaload 9 36 (by decide +kernel) rfl (St_6 (Gam_10 (X_15 S0_))) (w5) ?_
        refine zAload_n 0 0 37 (by decide +kernel) rfl rfl ?_
        refine gf11_2 28 40 (by decide +kernel) rfl flX11_28 (X_0 S0_) (X_4 S0_) ?_
        refine gf8_2 183 43 (by decide +kernel) rfl flX11_183 (St_0 (Gam_10 (X_15 S0_))) (St_5 (Gam_10 (X_15 S0_))) ?_
        refine zIload_n 1 1 44 (by decide +kernel) rfl rfl ?_
        obtain ⟨w6, F⟩ := F
        refine yIaload 9 45 (by decide +kernel) rfl (St_6 (Gam_10 (X_15 S0_))) (w6) ?_
        refine zIcmp_le 5 50 48 (by decide +kernel) rfl rfl ⟨fun q7 => ?_, fun q7 => ?_⟩
        · replace F := F.1 q7
          refine zIinc 2 1 2 (l2 + 1) [(2, .int (l2 + 1)), (0, .ref (x)), (1, .int (l1))] 53 (by decide +kernel) rfl rfl (by rfl) (by decide) rfl ?_
          refine zGoto (-49) 4 (by decide +kernel) rfl ?_
          exact zLoc [1, 2, 0] _ rfl F
        · replace F := F.2 q7
          refine zIload_n 2 2 49 (by decide +kernel) rfl rfl ?_
          refine zIstore_n 1 [(1, .int (l2)), (0, .ref (x)), (2, .int (l2))] 50 (by decide +kernel) rfl (by decide) rfl ?_
          refine zIinc 2 1 2 (l2 + 1) [(2, .int (l2 + 1)), (1, .int (l2)), (0, .ref (x))] 53 (by decide +kernel) rfl rfl (by rfl) (by decide) rfl ?_
          refine zGoto (-49) 4 (by decide +kernel) rfl ?_
          exact zLoc [2, 1, 0] _ rfl F
set_option maxHeartbeats 2000000 in
theorem wX11_sum_0 {G : zG} {d kc ks : Nat} {I : Nat → Nat → Int32} {J : Nat → Nat → Int64} {R : Nat → Nat → Option Nat} {K : Nat → Nat × Nat} {n : Nat} {Q : Option Value → zH → Prop} (b c : Nat) (hb : sA G K n b 32 c)  (F : zV G (d + 1) mX11_sum kc ks 4 [(0, .ref (b)), (1, .int (0)), (2, .int (0))] [] (I, J, R, K, n) Q) : zV G (d + 1) mX11_sum kc ks 0 [(0, .ref (b))] [] (I, J, R, K, n) Q := by
  refine zIconst 0 0 1 (by decide +kernel) rfl (by decide) ?_
  refine zIstore_n 1 [(1, .int (0)), (0, .ref (b))] 2 (by decide +kernel) rfl (by decide) rfl ?_
  refine zIconst 0 0 3 (by decide +kernel) rfl (by decide) ?_
  refine zIstore_n 2 [(2, .int (0)), (1, .int (0)), (0, .ref (b))] 4 (by decide +kernel) rfl (by decide) rfl ?_
  exact zLoc [2, 1, 0] _ rfl F
set_option maxHeartbeats 2000000 in
theorem wX11_sum_4 {G : zG} {d kc ks : Nat} {I : Nat → Nat → Int32} {J : Nat → Nat → Int64} {R : Nat → Nat → Option Nat} {K : Nat → Nat × Nat} {n : Nat} {Q : Option Value → zH → Prop} (b c : Nat) (hb : sA G K n b 32 c)  (l1 l2 : Int32) (F : (((nI c : Int32) ≤ l2 → Q (some (.int (l1))) (I, J, R, K, n)) ∧ (¬ ((nI c : Int32) ≤ l2) → ((vp_in l2 c) ∧ zV G (d + 1) mX11_sum kc ks 4 [(0, .ref (b)), (1, .int (l1 + (I b l2.toNatClampNeg))), (2, .int (l2 + 1))] [] (I, J, R, K, n) Q)))) : zV G (d + 1) mX11_sum kc ks 4 [(0, .ref (b)), (1, .int (l1)), (2, .int (l2))] [] (I, J, R, K, n) Q := by
  refine zIload_n 2 2 5 (by decide +kernel) rfl rfl ?_
  refine zAload_n 0 0 6 (by decide +kernel) rfl rfl ?_
  refine yAlenI 32 c 7 (by decide +kernel) rfl (by decide) (by decide) hb ?_
  refine zIcmp_ge 15 22 10 (by decide +kernel) rfl rfl ⟨fun q1 => ?_, fun q1 => ?_⟩
  · replace F := F.1 q1
    refine zIload_n 1 1 23 (by decide +kernel) rfl rfl ?_
    exact zIret rfl (by decide +kernel) F
  · replace F := F.2 q1
    refine zIload_n 1 1 11 (by decide +kernel) rfl rfl ?_
    refine zAload_n 0 0 12 (by decide +kernel) rfl rfl ?_
    refine zIload_n 2 2 13 (by decide +kernel) rfl rfl ?_
    obtain ⟨w2, F⟩ := F
    refine yIaload c 14 (by decide +kernel) rfl hb (w2) ?_
    refine zIadd 15 (by decide +kernel) rfl ?_
    refine zIstore_n 1 [(1, .int (l1 + (I b l2.toNatClampNeg))), (0, .ref (b)), (2, .int (l2))] 16 (by decide +kernel) rfl (by decide) rfl ?_
    refine zIinc 2 1 2 (l2 + 1) [(2, .int (l2 + 1)), (1, .int (l1 + (I b l2.toNatClampNeg))), (0, .ref (b))] 19 (by decide +kernel) rfl rfl (by rfl) (by decide) rfl ?_
    refine zGoto (-15) 4 (by decide +kernel) rfl ?_
    exact zLoc [2, 1, 0] _ rfl F
set_option maxHeartbeats 2000000 in
theorem wX11_bitAt_0 {G : zG} {d kc ks : Nat} {I : Nat → Nat → Int32} {J : Nat → Nat → Int64} {R : Nat → Nat → Option Nat} {K : Nat → Nat × Nat} {n : Nat} {Q : Option Value → zH → Prop}  (p0 p1 : Int32) (F : zV G (d + 1) mX11_bitAt kc ks 4 [(0, .int (p0)), (1, .int (p1)), (2, .int (0)), (3, .int (0))] [] (I, J, R, K, n) Q) : zV G (d + 1) mX11_bitAt kc ks 0 [(0, .int (p0)), (1, .int (p1))] [] (I, J, R, K, n) Q := by
  refine zIconst 0 0 1 (by decide +kernel) rfl (by decide) ?_
  refine zIstore_n 2 [(2, .int (0)), (0, .int (p0)), (1, .int (p1))] 2 (by decide +kernel) rfl (by decide) rfl ?_
  refine zIconst 0 0 3 (by decide +kernel) rfl (by decide) ?_
  refine zIstore_n 3 [(3, .int (0)), (2, .int (0)), (0, .int (p0)), (1, .int (p1))] 4 (by decide +kernel) rfl (by decide) rfl ?_
  exact zLoc [2, 3, 1, 0] _ rfl F
set_option maxHeartbeats 2000000 in
theorem wX11_bitAt_4 {G : zG} {d kc ks : Nat} {I : Nat → Nat → Int32} {J : Nat → Nat → Int64} {R : Nat → Nat → Option Nat} {K : Nat → Nat × Nat} {n : Nat} {Q : Option Value → zH → Prop}  (l0 l1 l2 l3 : Int32) (F : ((31 ≤ l3 → Q (some (.int ((-1)))) (I, J, R, K, n)) ∧ (¬ (31 ≤ l3) → ((((l0 >>> (l3 &&& 31)) &&& 1 : Int32) = 1 → ((l2 = l1 → Q (some (.int (l3))) (I, J, R, K, n)) ∧ (¬ (l2 = l1) → zV G (d + 1) mX11_bitAt kc ks 4 [(0, .int (l0)), (1, .int (l1)), (2, .int (l2 + 1)), (3, .int (l3 + 1))] [] (I, J, R, K, n) Q))) ∧ (¬ (((l0 >>> (l3 &&& 31)) &&& 1 : Int32) = 1) → zV G (d + 1) mX11_bitAt kc ks 4 [(0, .int (l0)), (1, .int (l1)), (2, .int (l2)), (3, .int (l3 + 1))] [] (I, J, R, K, n) Q))))) : zV G (d + 1) mX11_bitAt kc ks 4 [(0, .int (l0)), (1, .int (l1)), (2, .int (l2)), (3, .int (l3))] [] (I, J, R, K, n) Q := by
  refine zIload_n 3 3 5 (by decide +kernel) rfl rfl ?_
  refine zBipush 31 31 7 (by decide +kernel) rfl (by decide) ?_
  refine zIcmp_ge 28 35 10 (by decide +kernel) rfl rfl ⟨fun q1 => ?_, fun q1 => ?_⟩
  · replace F := F.1 q1
    refine zIconst (-1) (-1) 36 (by decide +kernel) rfl (by decide) ?_
    exact zIret rfl (by decide +kernel) F
  · replace F := F.2 q1
    refine zIload_n 0 0 11 (by decide +kernel) rfl rfl ?_
    refine zIload_n 3 3 12 (by decide +kernel) rfl rfl ?_
    refine zIshr 13 (by decide +kernel) rfl ?_
    refine zIconst 1 1 14 (by decide +kernel) rfl (by decide) ?_
    refine zIand 15 (by decide +kernel) rfl ?_
    refine zIconst 1 1 16 (by decide +kernel) rfl (by decide) ?_
    refine zIcmp_ne 13 29 19 (by decide +kernel) rfl rfl ⟨fun q2 => ?_, fun q2 => ?_⟩
    · replace F := F.2 q2
      refine zIinc 3 1 3 (l3 + 1) [(3, .int (l3 + 1)), (0, .int (l0)), (1, .int (l1)), (2, .int (l2))] 32 (by decide +kernel) rfl rfl (by rfl) (by decide) rfl ?_
      refine zGoto (-28) 4 (by decide +kernel) rfl ?_
      exact zLoc [1, 2, 3, 0] _ rfl F
    · replace F := F.1 q2
      refine zIload_n 2 2 20 (by decide +kernel) rfl rfl ?_
      refine zIload_n 1 1 21 (by decide +kernel) rfl rfl ?_
      refine zIcmp_ne 5 26 24 (by decide +kernel) rfl rfl ⟨fun q3 => ?_, fun q3 => ?_⟩
      · replace F := F.2 q3
        refine zIinc 2 1 2 (l2 + 1) [(2, .int (l2 + 1)), (0, .int (l0)), (1, .int (l1)), (3, .int (l3))] 29 (by decide +kernel) rfl rfl (by rfl) (by decide) rfl ?_
        refine zIinc 3 1 3 (l3 + 1) [(3, .int (l3 + 1)), (2, .int (l2 + 1)), (0, .int (l0)), (1, .int (l1))] 32 (by decide +kernel) rfl rfl (by rfl) (by decide) rfl ?_
        refine zGoto (-28) 4 (by decide +kernel) rfl ?_
        exact zLoc [2, 3, 1, 0] _ rfl F
      · replace F := F.1 q3
        refine zIload_n 3 3 25 (by decide +kernel) rfl rfl ?_
        exact zIret rfl (by decide +kernel) F
