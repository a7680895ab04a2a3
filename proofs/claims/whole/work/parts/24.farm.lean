set_option maxHeartbeats 2000000 in
theorem wX11_farm_0 {G : zG} {d kc ks : Nat} {I : Nat → Nat → Int32} {J : Nat → Nat → Int64} {R : Nat → Nat → Option Nat} {K : Nat → Nat × Nat} {n : Nat} {Q : Option Value → zH → Prop} (x v w q : Nat) (S0_ : hX G R K n x v w q) (p1 p2 : Int32) (F : zC G d mX11_isFarm 0 0 [.ref (x), .int (p1)] (I, J, R, K, n) (fun r h => ∃ (x1 : Int32) (I2 : Nat → Nat → Int32), r = some (.int x1) ∧ h = (I2, J, R, K, n) ∧ ((x1 = 0 → zV G (d + 1) mX11_farm kc ks 17 [(0, .ref (x)), (1, .int (p1)), (2, .int (p2))] [] (I2, J, R, K, n) Q) ∧ (¬ (x1 = 0) → ((p2 < 0 → zV G (d + 1) mX11_farm kc ks 17 [(0, .ref (x)), (1, .int (p1)), (2, .int (p2))] [] (I2, J, R, K, n) Q) ∧ (¬ (p2 < 0) → ((p2 ≤ 5 → zV G (d + 1) mX11_farm kc ks 25 [(0, .ref (x)), (1, .int (p1)), (2, .int (p2))] [] (I2, J, R, K, n) Q) ∧ (¬ (p2 ≤ 5) → zV G (d + 1) mX11_farm kc ks 17 [(0, .ref (x)), (1, .int (p1)), (2, .int (p2))] [] (I2, J, R, K, n) Q)))))))) : zV G (d + 1) mX11_farm kc ks 0 [(0, .ref (x)), (1, .int (p1)), (2, .int (p2))] [] (I, J, R, K, n) Q := by
  refine zAload_n 0 0 1 (by decide +kernel) rfl rfl ?_
  refine zIload_n 1 1 2 (by decide +kernel) rfl rfl ?_
  refine zCallV 11 zcls11 mX11_isFarm 146 1 0 0 _ _ 5 [.int (p1)] [] okX11_isFarm mlX11_146 imX11_isFarm seX11_isFarm (by decide +kernel) rfl rfl (Nat.le_of_ble_eq_true rfl) rfl rfl (X_0 S0_) (zC.mono F ?_)
  rintro _ _ ⟨x1, I2, rfl, rfl, F⟩
  change zV G (d + 1) mX11_farm kc ks 5 [(0, .ref (x)), (1, .int (p1)), (2, .int (p2))] [.int (x1)] (I2, J, R, K, n) Q
  refine zIf_eq 12 17 8 (by decide +kernel) rfl rfl ⟨fun q3 => ?_, fun q3 => ?_⟩
  · replace F := F.1 q3
    exact zLoc [0, 1, 2] _ rfl F
  · replace F := F.2 q3
    refine zIload_n 2 2 9 (by decide +kernel) rfl rfl ?_
    refine zIf_lt 8 17 12 (by decide +kernel) rfl rfl ⟨fun q4 => ?_, fun q4 => ?_⟩
    · replace F := F.1 q4
      exact zLoc [0, 1, 2] _ rfl F
    · replace F := F.2 q4
      refine zIload_n 2 2 13 (by decide +kernel) rfl rfl ?_
      refine zIconst 5 5 14 (by decide +kernel) rfl (by decide) ?_
      refine zIcmp_le 11 25 17 (by decide +kernel) rfl rfl ⟨fun q5 => ?_, fun q5 => ?_⟩
      · replace F := F.1 q5
        exact zLoc [0, 1, 2] _ rfl F
      · replace F := F.2 q5
        exact zLoc [0, 1, 2] _ rfl F
set_option maxHeartbeats 2000000 in
theorem wX11_farm_25 {G : zG} {d kc ks : Nat} {I : Nat → Nat → Int32} {J : Nat → Nat → Int64} {R : Nat → Nat → Option Nat} {K : Nat → Nat × Nat} {n : Nat} {Q : Option Value → zH → Prop} (x v w q : Nat) (S0_ : hX G R K n x v w q) (l1 l2 : Int32) (F : ((l2 = 0 → ((vp_in l1 6) ∧ Q (some (.int (I (v + 1) l1.toNatClampNeg))) (I, J, R, K, n))) ∧ (l2 = 1 → ((vp_in l1 6) ∧ Q (some (.int (I (v + 2) l1.toNatClampNeg))) (I, J, R, K, n))) ∧ (l2 = 2 → ((vp_in l1 6) ∧ Q (some (.int (I (x + 16) l1.toNatClampNeg))) (I, J, R, K, n))) ∧ (l2 = 3 → ((vp_in l1 6) ∧ Q (some (.int (I (x + 17) l1.toNatClampNeg))) (I, J, R, K, n))) ∧ (l2 = 4 → zC G d mX8_bare 0 0 [.ref (x + 12), .int (l1)] (I, J, R, K, n) (fun r h => ∃ (x15 : Int32) (I16 : Nat → Nat → Int32), r = some (.int x15) ∧ h = (I16, J, R, K, n) ∧ Q (some (.int (x15))) (I16, J, R, K, n))) ∧ (¬ l2 = 0 → ¬ l2 = 1 → ¬ l2 = 2 → ¬ l2 = 3 → ¬ l2 = 4 → ((vp_in l1 6) ∧ Q (some (.int (I (x + 18) l1.toNatClampNeg))) (I, J, R, K, n))))) : zV G (d + 1) mX11_farm kc ks 25 [(0, .ref (x)), (1, .int (l1)), (2, .int (l2))] [] (I, J, R, K, n) Q := by
  refine zIload_n 2 2 26 (by decide +kernel) rfl rfl ?_
  by_cases q6 : l2 = 0
  · replace F := F.1 q6
    have zt := zEqT q6 (show (0 : Int32).toInt = 0 by decide)
    refine zTableIn 89 0 4 #[34, 47, 60, 70, 80] 34 34 60 (by decide +kernel) (by omega) (by omega) (by rw [zt]; decide) rfl ?_
    refine zAload_n 0 0 61 (by decide +kernel) rfl rfl ?_
    refine gf11_1 19 64 (by decide +kernel) rfl flX11_19 (X_0 S0_) (X_3 S0_) ?_
    refine gf5_0 152 67 (by decide +kernel) rfl flX11_152 (Set_0 (X_26 S0_)) (Set_1 (X_26 S0_)) ?_
    refine gf10_0 155 70 (by decide +kernel) rfl flX11_155 (Vil_0 (Set_2 (X_26 S0_))) (Vil_1 (Set_2 (X_26 S0_))) ?_
    refine zIload_n 1 1 71 (by decide +kernel) rfl rfl ?_
    obtain ⟨w7, F⟩ := F
    refine yIaload 6 72 (by decide +kernel) rfl (Vil_2 (Set_2 (X_26 S0_))) (w7) ?_
    exact zIret rfl (by decide +kernel) F
  · skip
    by_cases q8 : l2 = 1
    · replace F := F.2.1 q8
      have zt := zEqT q8 (show (1 : Int32).toInt = 1 by decide)
      refine zTableIn 89 0 4 #[34, 47, 60, 70, 80] 34 47 73 (by decide +kernel) (by omega) (by omega) (by rw [zt]; decide) rfl ?_
      refine zAload_n 0 0 74 (by decide +kernel) rfl rfl ?_
      refine gf11_1 19 77 (by decide +kernel) rfl flX11_19 (X_0 S0_) (X_3 S0_) ?_
      refine gf5_0 152 80 (by decide +kernel) rfl flX11_152 (Set_0 (X_26 S0_)) (Set_1 (X_26 S0_)) ?_
      refine gf10_1 159 83 (by decide +kernel) rfl flX11_159 (Vil_0 (Set_2 (X_26 S0_))) (Vil_3 (Set_2 (X_26 S0_))) ?_
      refine zIload_n 1 1 84 (by decide +kernel) rfl rfl ?_
      obtain ⟨w9, F⟩ := F
      refine yIaload 6 85 (by decide +kernel) rfl (Vil_4 (Set_2 (X_26 S0_))) (w9) ?_
      exact zIret rfl (by decide +kernel) F
    · skip
      by_cases q10 : l2 = 2
      · replace F := F.2.2.1 q10
        have zt := zEqT q10 (show (2 : Int32).toInt = 2 by decide)
        refine zTableIn 89 0 4 #[34, 47, 60, 70, 80] 34 60 86 (by decide +kernel) (by omega) (by omega) (by rw [zt]; decide) rfl ?_
        refine zAload_n 0 0 87 (by decide +kernel) rfl rfl ?_
        refine gf11_2 28 90 (by decide +kernel) rfl flX11_28 (X_0 S0_) (X_4 S0_) ?_
        refine gf8_3 162 93 (by decide +kernel) rfl flX11_162 (St_0 (Gam_10 (X_15 S0_))) (St_7 (Gam_10 (X_15 S0_))) ?_
        refine zIload_n 1 1 94 (by decide +kernel) rfl rfl ?_
        obtain ⟨w11, F⟩ := F
        refine yIaload 6 95 (by decide +kernel) rfl (St_8 (Gam_10 (X_15 S0_))) (w11) ?_
        exact zIret rfl (by decide +kernel) F
      · skip
        by_cases q12 : l2 = 3
        · replace F := F.2.2.2.1 q12
          have zt := zEqT q12 (show (3 : Int32).toInt = 3 by decide)
          refine zTableIn 89 0 4 #[34, 47, 60, 70, 80] 34 70 96 (by decide +kernel) (by omega) (by omega) (by rw [zt]; decide) rfl ?_
          refine zAload_n 0 0 97 (by decide +kernel) rfl rfl ?_
          refine gf11_2 28 100 (by decide +kernel) rfl flX11_28 (X_0 S0_) (X_4 S0_) ?_
          refine gf8_4 165 103 (by decide +kernel) rfl flX11_165 (St_0 (Gam_10 (X_15 S0_))) (St_9 (Gam_10 (X_15 S0_))) ?_
          refine zIload_n 1 1 104 (by decide +kernel) rfl rfl ?_
          obtain ⟨w13, F⟩ := F
          refine yIaload 6 105 (by decide +kernel) rfl (St_10 (Gam_10 (X_15 S0_))) (w13) ?_
          exact zIret rfl (by decide +kernel) F
        · skip
          by_cases q14 : l2 = 4
          · replace F := F.2.2.2.2.1 q14
            have zt := zEqT q14 (show (4 : Int32).toInt = 4 by decide)
            refine zTableIn 89 0 4 #[34, 47, 60, 70, 80] 34 80 106 (by decide +kernel) (by omega) (by omega) (by rw [zt]; decide) rfl ?_
            refine zAload_n 0 0 107 (by decide +kernel) rfl rfl ?_
            refine gf11_2 28 110 (by decide +kernel) rfl flX11_28 (X_0 S0_) (X_4 S0_) ?_
            refine zIload_n 1 1 111 (by decide +kernel) rfl rfl ?_
            refine zCallV 8 zcls8 mX8_bare 168 1 0 0 _ _ 114 [.int (l1)] [] okX8_bare mlX11_168 imX8_bare seX8_bare (by decide +kernel) rfl rfl (Nat.le_of_ble_eq_true rfl) rfl rfl (St_0 (Gam_10 (X_15 S0_))) (zC.mono F ?_)
            rintro _ _ ⟨x15, I16, rfl, rfl, F⟩
            change zV G (d + 1) mX11_farm kc ks 114 [(0, .ref (x)), (1, .int (l1)), (2, .int (l2))] [.int (x15)] (I16, J, R, K, n) Q
            exact zIret rfl (by decide +kernel) F
          · skip
            replace F := F.2.2.2.2.2 q6 q8 q10 q12 q14
            have zq6 := zNeT q6 (show (0 : Int32).toInt = 0 by decide)
            have zq8 := zNeT q8 (show (1 : Int32).toInt = 1 by decide)
            have zq10 := zNeT q10 (show (2 : Int32).toInt = 2 by decide)
            have zq12 := zNeT q12 (show (3 : Int32).toInt = 3 by decide)
            have zq14 := zNeT q14 (show (4 : Int32).toInt = 4 by decide)
            refine zTableOut 89 0 4 #[34, 47, 60, 70, 80] 34 115 (by decide +kernel) (by omega) rfl ?_
            refine zAload_n 0 0 116 (by decide +kernel) rfl rfl ?_
            refine gf11_2 28 119 (by decide +kernel) rfl flX11_28 (X_0 S0_) (X_4 S0_) ?_
            refine gf8_5 171 122 (by decide +kernel) rfl flX11_171 (St_0 (Gam_10 (X_15 S0_))) (St_11 (Gam_10 (X_15 S0_))) ?_
            refine zIload_n 1 1 123 (by decide +kernel) rfl rfl ?_
            obtain ⟨w17, F⟩ := F
            refine yIaload 6 124 (by decide +kernel) rfl (St_12 (Gam_10 (X_15 S0_))) (w17) ?_
            exact zIret rfl (by decide +kernel) F
