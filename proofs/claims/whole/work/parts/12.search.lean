set_option maxHeartbeats 2000000 in
theorem wX0_play_0 {G : zG} {d kc ks : Nat} {I : Nat → Nat → Int32} {J : Nat → Nat → Int64} {R : Nat → Nat → Option Nat} {K : Nat → Nat × Nat} {n : Nat} {Q : Option Value → zH → Prop} (g b a s v : Nat) (S0_ : hGam G R K n g b a s v) (p1 p2 p3 p4 : Int32) (F : zC G d mX8_copyFrom 0 0 [.ref (a), .ref (b)] (I, J, R, K, n) (fun r h => ∃ (I1 : Nat → Nat → Int32), r = none ∧ h = (I1, J, R, K, n) ∧ zC G d mX0_choose 0 0 [.ref (g), .int (p1), .int (p2), .int (p3)] (I1, J, R, K, n) (fun r h => ∃ (I2 : Nat → Nat → Int32), r = none ∧ h = (I2, J, R, K, n) ∧ zC G d mX0_choose 0 0 [.ref (g), .int (p2), .int (p1), .int (p4)] (I2, J, R, K, n) (fun r h => ∃ (I3 : Nat → Nat → Int32), r = none ∧ h = (I3, J, R, K, n) ∧ ((vp_in p3 3) ∧ zC G d mX0_gain 0 0 [.ref (g), .int (p1), .int (p3)] (I3, J, R, K, n) (fun r h => ∃ (x5 : Int32) (I6 : Nat → Nat → Int32), r = some (.int x5) ∧ h = (I6, J, R, K, n) ∧ (vp_in p4 3 ∧ ∀ I7 : Nat → Nat → Int32, I7 = zU I6 (g + 2 + p3.toNatClampNeg) p4.toNatClampNeg (x5) → ((vp_in p3 3) ∧ zC G d mX0_gain 0 0 [.ref (g), .int (p2), .int (p4)] (I7, J, R, K, n) (fun r h => ∃ (x9 : Int32) (I10 : Nat → Nat → Int32), r = some (.int x9) ∧ h = (I10, J, R, K, n) ∧ (vp_in p4 3 ∧ ∀ I11 : Nat → Nat → Int32, I11 = zU I10 (g + 6 + p3.toNatClampNeg) p4.toNatClampNeg (x9) → Q none (I11, J, R, K, n))))))))))) : zV G (d + 1) mX0_play kc ks 0 [(0, .ref (g)), (1, .int (p1)), (2, .int (p2)), (3, .int (p3)), (4, .int (p4))] [] (I, J, R, K, n) Q := by
  refine zAload_n 0 0 1 (by decide +kernel) rfl rfl ?_
  refine gf0_5 31 4 (by decide +kernel) rfl flX0_31 (Gam_0 S0_) (Gam_11 S0_) ?_
  refine zAload_n 0 0 5 (by decide +kernel) rfl rfl ?_
  refine gf0_4 27 8 (by decide +kernel) rfl flX0_27 (Gam_0 S0_) (Gam_9 S0_) ?_
  refine zCallV 8 zcls8 mX8_copyFrom 34 1 0 0 _ _ 11 [.ref (b)] [] okX8_copyFrom mlX0_34 imX8_copyFrom seX8_copyFrom (by decide +kernel) rfl rfl (Nat.le_of_ble_eq_true rfl) rfl rfl (St_0 (Gam_12 S0_)) (zC.mono F ?_)
  rintro _ _ ⟨I1, rfl, rfl, F⟩
  change zV G (d + 1) mX0_play kc ks 11 [(0, .ref (g)), (1, .int (p1)), (2, .int (p2)), (3, .int (p3)), (4, .int (p4))] [] (I1, J, R, K, n) Q
  refine zAload_n 0 0 12 (by decide +kernel) rfl rfl ?_
  refine zIload_n 1 1 13 (by decide +kernel) rfl rfl ?_
  refine zIload_n 2 2 14 (by decide +kernel) rfl rfl ?_
  refine zIload_n 3 3 15 (by decide +kernel) rfl rfl ?_
  refine zCallV 0 zcls0 mX0_choose 40 3 0 0 _ _ 18 [.int (p1), .int (p2), .int (p3)] [] okX0_choose mlX0_40 imX0_choose seX0_choose (by decide +kernel) rfl rfl (Nat.le_of_ble_eq_true rfl) rfl rfl (Gam_0 S0_) (zC.mono F ?_)
  rintro _ _ ⟨I2, rfl, rfl, F⟩
  change zV G (d + 1) mX0_play kc ks 18 [(0, .ref (g)), (1, .int (p1)), (2, .int (p2)), (3, .int (p3)), (4, .int (p4))] [] (I2, J, R, K, n) Q
  refine zAload_n 0 0 19 (by decide +kernel) rfl rfl ?_
  refine zIload_n 2 2 20 (by decide +kernel) rfl rfl ?_
  refine zIload_n 1 1 21 (by decide +kernel) rfl rfl ?_
  refine zIload 4 4 23 (by decide +kernel) rfl rfl ?_
  refine zCallV 0 zcls0 mX0_choose 40 3 0 0 _ _ 26 [.int (p2), .int (p1), .int (p4)] [] okX0_choose mlX0_40 imX0_choose seX0_choose (by decide +kernel) rfl rfl (Nat.le_of_ble_eq_true rfl) rfl rfl (Gam_0 S0_) (zC.mono F ?_)
  rintro _ _ ⟨I3, rfl, rfl, F⟩
  change zV G (d + 1) mX0_play kc ks 26 [(0, .ref (g)), (1, .int (p1)), (2, .int (p2)), (3, .int (p3)), (4, .int (p4))] [] (I3, J, R, K, n) Q
  refine zAload_n 0 0 27 (by decide +kernel) rfl rfl ?_
  refine gf0_0 13 30 (by decide +kernel) rfl flX0_13 (Gam_0 S0_) (Gam_1 S0_) ?_
  refine zIload_n 3 3 31 (by decide +kernel) rfl rfl ?_
  obtain ⟨w4, F⟩ := F
  refine yAaloadG 3 32 (by decide +kernel) rfl (Gam_2 S0_) (w4) ((Gam_3 S0_) _ (zInLt (w4))).1 ?_
  refine zIload 4 4 34 (by decide +kernel) rfl rfl ?_
  refine zAload_n 0 0 35 (by decide +kernel) rfl rfl ?_
  refine zIload_n 1 1 36 (by decide +kernel) rfl rfl ?_
  refine zIload_n 3 3 37 (by decide +kernel) rfl rfl ?_
  refine zCallV 0 zcls0 mX0_gain 44 2 0 0 _ _ 40 [.int (p1), .int (p3)] [.int (p4), .ref (g + 2 + p3.toNatClampNeg)] okX0_gain mlX0_44 imX0_gain seX0_gain (by decide +kernel) rfl rfl (Nat.le_of_ble_eq_true rfl) rfl rfl (Gam_0 S0_) (zC.mono F ?_)
  rintro _ _ ⟨x5, I6, rfl, rfl, F⟩
  change zV G (d + 1) mX0_play kc ks 40 [(0, .ref (g)), (1, .int (p1)), (2, .int (p2)), (3, .int (p3)), (4, .int (p4))] [.int (x5), .int (p4), .ref (g + 2 + p3.toNatClampNeg)] (I6, J, R, K, n) Q
  refine yIastore 3 41 (by decide +kernel) rfl ((Gam_3 S0_) _ (zInLt (w4))).2 F.1 ?_
  replace F := F.2 _ rfl
  generalize zU I6 (g + 2 + p3.toNatClampNeg) p4.toNatClampNeg (x5) = I7 at F ⊢
  refine zAload_n 0 0 42 (by decide +kernel) rfl rfl ?_
  refine gf0_1 16 45 (by decide +kernel) rfl flX0_16 (Gam_0 S0_) (Gam_4 S0_) ?_
  refine zIload_n 3 3 46 (by decide +kernel) rfl rfl ?_
  obtain ⟨w8, F⟩ := F
  refine yAaloadG 3 47 (by decide +kernel) rfl (Gam_5 S0_) (w8) ((Gam_6 S0_) _ (zInLt (w8))).1 ?_
  refine zIload 4 4 49 (by decide +kernel) rfl rfl ?_
  refine zAload_n 0 0 50 (by decide +kernel) rfl rfl ?_
  refine zIload_n 2 2 51 (by decide +kernel) rfl rfl ?_
  refine zIload 4 4 53 (by decide +kernel) rfl rfl ?_
  refine zCallV 0 zcls0 mX0_gain 44 2 0 0 _ _ 56 [.int (p2), .int (p4)] [.int (p4), .ref (g + 6 + p3.toNatClampNeg)] okX0_gain mlX0_44 imX0_gain seX0_gain (by decide +kernel) rfl rfl (Nat.le_of_ble_eq_true rfl) rfl rfl (Gam_0 S0_) (zC.mono F ?_)
  rintro _ _ ⟨x9, I10, rfl, rfl, F⟩
  change zV G (d + 1) mX0_play kc ks 56 [(0, .ref (g)), (1, .int (p1)), (2, .int (p2)), (3, .int (p3)), (4, .int (p4))] [.int (x9), .int (p4), .ref (g + 6 + p3.toNatClampNeg)] (I10, J, R, K, n) Q
  refine yIastore 3 57 (by decide +kernel) rfl ((Gam_6 S0_) _ (zInLt (w8))).2 F.1 ?_
  replace F := F.2 _ rfl
  generalize zU I10 (g + 6 + p3.toNatClampNeg) p4.toNatClampNeg (x9) = I11 at F ⊢
  exact zVret rfl (by decide +kernel) F
set_option maxHeartbeats 2000000 in
theorem wX0_choose_0 {G : zG} {d kc ks : Nat} {I : Nat → Nat → Int32} {J : Nat → Nat → Int64} {R : Nat → Nat → Option Nat} {K : Nat → Nat × Nat} {n : Nat} {Q : Option Value → zH → Prop} (g b a s v : Nat) (S0_ : hGam G R K n g b a s v) (p1 p2 p3 : Int32) (F : ((p3 = 2 → zC G d mX8_bare 0 0 [.ref (a), .int (p1)] (I, J, R, K, n) (fun r h => ∃ (x7 : Int32) (I8 : Nat → Nat → Int32), r = some (.int x7) ∧ h = (I8, J, R, K, n) ∧ zC G d mX8_daub 0 0 [.ref (a), .int (p1), .int ((if ((if (x7 : Int32) < (I a 8) then x7 else I a 8) : Int32) < 9 then (if (x7 : Int32) < (I a 8) then x7 else I a 8) else 9))] (I8, J, R, K, n) (fun r h => ∃ (x9 : Int32) (I10 : Nat → Nat → Int32), r = some (.int x9) ∧ h = (I10, J, R, K, n) ∧ ((p3 = 1 → zC G d mX8_doneTo 0 0 [.ref (a), .int (p1)] (I10, J, R, K, n) (fun r h => ∃ (x12 : Int32) (I13 : Nat → Nat → Int32), r = some (.int x12) ∧ h = (I13, J, R, K, n) ∧ zC G d mX8_doneBy 0 0 [.ref (a), .int (p2)] (I13, J, R, K, n) (fun r h => ∃ (x14 : Int32) (I15 : Nat → Nat → Int32), r = some (.int x14) ∧ h = (I15, J, R, K, n) ∧ zV G (d + 1) mX0_choose kc ks 68 [(0, .ref (g)), (1, .int (p1)), (2, .int (p2)), (3, .int (p3)), (4, .int (x12 &&& x14)), (5, .int (0))] [] (I15, J, R, K, n) Q))) ∧ (¬ (p3 = 1) → zV G (d + 1) mX0_choose kc ks 68 [(0, .ref (g)), (1, .int (p1)), (2, .int (p2)), (3, .int (p3)), (4, .int (0)), (5, .int (0))] [] (I10, J, R, K, n) Q))))) ∧ (¬ (p3 = 2) → ((p3 = 1 → zC G d mX8_doneTo 0 0 [.ref (a), .int (p1)] (I, J, R, K, n) (fun r h => ∃ (x3 : Int32) (I4 : Nat → Nat → Int32), r = some (.int x3) ∧ h = (I4, J, R, K, n) ∧ zC G d mX8_doneBy 0 0 [.ref (a), .int (p2)] (I4, J, R, K, n) (fun r h => ∃ (x5 : Int32) (I6 : Nat → Nat → Int32), r = some (.int x5) ∧ h = (I6, J, R, K, n) ∧ zV G (d + 1) mX0_choose kc ks 68 [(0, .ref (g)), (1, .int (p1)), (2, .int (p2)), (3, .int (p3)), (4, .int (x3 &&& x5)), (5, .int (0))] [] (I6, J, R, K, n) Q))) ∧ (¬ (p3 = 1) → zV G (d + 1) mX0_choose kc ks 68 [(0, .ref (g)), (1, .int (p1)), (2, .int (p2)), (3, .int (p3)), (4, .int (0)), (5, .int (0))] [] (I, J, R, K, n) Q))))) : zV G (d + 1) mX0_choose kc ks 0 [(0, .ref (g)), (1, .int (p1)), (2, .int (p2)), (3, .int (p3))] [] (I, J, R, K, n) Q := by
  refine zIload_n 3 3 1 (by decide +kernel) rfl rfl ?_
  refine zIconst 2 2 2 (by decide +kernel) rfl (by decide) ?_
  refine zIcmp_ne 35 37 5 (by decide +kernel) rfl rfl ⟨fun q1 => ?_, fun q1 => ?_⟩
  · replace F := F.2 q1
    refine zIload_n 3 3 38 (by decide +kernel) rfl rfl ?_
    refine zIconst 1 1 39 (by decide +kernel) rfl (by decide) ?_
    refine zIcmp_ne 23 62 42 (by decide +kernel) rfl rfl ⟨fun q2 => ?_, fun q2 => ?_⟩
    · replace F := F.2 q2
      refine zIconst 0 0 63 (by decide +kernel) rfl (by decide) ?_
      refine zIstore 4 [(4, .int (0)), (0, .ref (g)), (1, .int (p1)), (2, .int (p2)), (3, .int (p3))] 65 (by decide +kernel) rfl (by decide) rfl ?_
      refine zIconst 0 0 66 (by decide +kernel) rfl (by decide) ?_
      refine zIstore 5 [(5, .int (0)), (4, .int (0)), (0, .ref (g)), (1, .int (p1)), (2, .int (p2)), (3, .int (p3))] 68 (by decide +kernel) rfl (by decide) rfl ?_
      exact zLoc [2, 3, 4, 5, 1, 0] _ rfl F
    · replace F := F.1 q2
      refine zAload_n 0 0 43 (by decide +kernel) rfl rfl ?_
      refine gf0_5 31 46 (by decide +kernel) rfl flX0_31 (Gam_0 S0_) (Gam_11 S0_) ?_
      refine zIload_n 1 1 47 (by decide +kernel) rfl rfl ?_
      refine zCallV 8 zcls8 mX8_doneTo 63 1 0 0 _ _ 50 [.int (p1)] [] okX8_doneTo mlX0_63 imX8_doneTo seX8_doneTo (by decide +kernel) rfl rfl (Nat.le_of_ble_eq_true rfl) rfl rfl (St_0 (Gam_12 S0_)) (zC.mono F ?_)
      rintro _ _ ⟨x3, I4, rfl, rfl, F⟩
      change zV G (d + 1) mX0_choose kc ks 50 [(0, .ref (g)), (1, .int (p1)), (2, .int (p2)), (3, .int (p3))] [.int (x3)] (I4, J, R, K, n) Q
      refine zAload_n 0 0 51 (by decide +kernel) rfl rfl ?_
      refine gf0_5 31 54 (by decide +kernel) rfl flX0_31 (Gam_0 S0_) (Gam_11 S0_) ?_
      refine zIload_n 2 2 55 (by decide +kernel) rfl rfl ?_
      refine zCallV 8 zcls8 mX8_doneBy 66 1 0 0 _ _ 58 [.int (p2)] [.int (x3)] okX8_doneBy mlX0_66 imX8_doneBy seX8_doneBy (by decide +kernel) rfl rfl (Nat.le_of_ble_eq_true rfl) rfl rfl (St_0 (Gam_12 S0_)) (zC.mono F ?_)
      rintro _ _ ⟨x5, I6, rfl, rfl, F⟩
      change zV G (d + 1) mX0_choose kc ks 58 [(0, .ref (g)), (1, .int (p1)), (2, .int (p2)), (3, .int (p3))] [.int (x5), .int (x3)] (I6, J, R, K, n) Q
      refine zIand 59 (by decide +kernel) rfl ?_
      refine zGoto 4 63 (by decide +kernel) rfl ?_
      refine zIstore 4 [(4, .int (x3 &&& x5)), (0, .ref (g)), (1, .int (p1)), (2, .int (p2)), (3, .int (p3))] 65 (by decide +kernel) rfl (by decide) rfl ?_
      refine zIconst 0 0 66 (by decide +kernel) rfl (by decide) ?_
      refine zIstore 5 [(5, .int (0)), (4, .int (x3 &&& x5)), (0, .ref (g)), (1, .int (p1)), (2, .int (p2)), (3, .int (p3))] 68 (by decide +kernel) rfl (by decide) rfl ?_
      exact zLoc [2, 3, 4, 5, 1, 0] _ rfl F
  · replace F := F.1 q1
    refine zAload_n 0 0 6 (by decide +kernel) rfl rfl ?_
    refine gf0_5 31 9 (by decide +kernel) rfl flX0_31 (Gam_0 S0_) (Gam_11 S0_) ?_
    refine zIload_n 1 1 10 (by decide +kernel) rfl rfl ?_
    refine zBipush 9 9 12 (by decide +kernel) rfl (by decide) ?_
    refine zAload_n 0 0 13 (by decide +kernel) rfl rfl ?_
    refine gf0_5 31 16 (by decide +kernel) rfl flX0_31 (Gam_0 S0_) (Gam_11 S0_) ?_
    refine gf8_8 48 19 (by decide +kernel) rfl flX0_48 (St_0 (Gam_12 S0_)) ?_
    refine zAload_n 0 0 20 (by decide +kernel) rfl rfl ?_
    refine gf0_5 31 23 (by decide +kernel) rfl flX0_31 (Gam_0 S0_) (Gam_11 S0_) ?_
    refine zIload_n 1 1 24 (by decide +kernel) rfl rfl ?_
    refine zCallV 8 zcls8 mX8_bare 51 1 0 0 _ _ 27 [.int (p1)] [.int (I a 8), .int (9), .int (p1), .ref (a)] okX8_bare mlX0_51 imX8_bare seX8_bare (by decide +kernel) rfl rfl (Nat.le_of_ble_eq_true rfl) rfl rfl (St_0 (Gam_12 S0_)) (zC.mono F ?_)
    rintro _ _ ⟨x7, I8, rfl, rfl, F⟩
    change zV G (d + 1) mX0_choose kc ks 27 [(0, .ref (g)), (1, .int (p1)), (2, .int (p2)), (3, .int (p3))] [.int (x7), .int (I a 8), .int (9), .int (p1), .ref (a)] (I8, J, R, K, n) Q
    refine yMin 55 30 (by decide +kernel) rfl mlX0_55 (Nat.le_of_ble_eq_true rfl) ?_
    refine yMin 55 33 (by decide +kernel) rfl mlX0_55 (Nat.le_of_ble_eq_true rfl) ?_
    refine zCallV 8 zcls8 mX8_daub 60 2 0 0 _ _ 36 [.int (p1), .int ((if ((if (x7 : Int32) < (I a 8) then x7 else I a 8) : Int32) < 9 then (if (x7 : Int32) < (I a 8) then x7 else I a 8) else 9))] [] okX8_daub mlX0_60 imX8_daub seX8_daub (by decide +kernel) rfl rfl (Nat.le_of_ble_eq_true rfl) rfl rfl (St_0 (Gam_12 S0_)) (zC.mono F ?_)
    rintro _ _ ⟨x9, I10, rfl, rfl, F⟩
    change zV G (d + 1) mX0_choose kc ks 36 [(0, .ref (g)), (1, .int (p1)), (2, .int (p2)), (3, .int (p3))] [.int (x9)] (I10, J, R, K, n) Q
    refine zPop 37 (by decide +kernel) rfl rfl ?_
    refine zIload_n 3 3 38 (by decide +kernel) rfl rfl ?_
    refine zIconst 1 1 39 (by decide +kernel) rfl (by decide) ?_
    refine zIcmp_ne 23 62 42 (by decide +kernel) rfl rfl ⟨fun q11 => ?_, fun q11 => ?_⟩
    · replace F := F.2 q11
      refine zIconst 0 0 63 (by decide +kernel) rfl (by decide) ?_
      refine zIstore 4 [(4, .int (0)), (0, .ref (g)), (1, .int (p1)), (2, .int (p2)), (3, .int (p3))] 65 (by decide +kernel) rfl (by decide) rfl ?_
      refine zIconst 0 0 66 (by decide +kernel) rfl (by decide) ?_
      refine zIstore 5 [(5, .int (0)), (4, .int (0)), (0, .ref (g)), (1, .int (p1)), (2, .int (p2)), (3, .int (p3))] 68 (by decide +kernel) rfl (by decide) rfl ?_
      exact zLoc [2, 3, 4, 5, 1, 0] _ rfl F
    · replace F := F.1 q11
      refine zAload_n 0 0 43 (by decide +kernel) rfl rfl ?_
      refine gf0_5 31 46 (by decide +kernel) rfl flX0_31 (Gam_0 S0_) (Gam_11 S0_) ?_
      refine zIload_n 1 1 47 (by decide +kernel) rfl rfl ?_
      refine zCallV 8 zcls8 mX8_doneTo 63 1 0 0 _ _ 50 [.int (p1)] [] okX8_doneTo mlX0_63 imX8_doneTo seX8_doneTo (by decide +kernel) rfl rfl (Nat.le_of_ble_eq_true rfl) rfl rfl (St_0 (Gam_12 S0_)) (zC.mono F ?_)
      rintro _ _ ⟨x12, I13, rfl, rfl, F⟩
      change zV G (d + 1) mX0_choose kc ks 50 [(0, .ref (g)), (1, .int (p1)), (2, .int (p2)), (3, .int (p3))] [.int (x12)] (I13, J, R, K, n) Q
      refine zAload_n 0 0 51 (by decide +kernel) rfl rfl ?_
      refine gf0_5 31 54 (by decide +kernel) rfl flX0_31 (Gam_0 S0_) (Gam_11 S0_) ?_
      refine zIload_n 2 2 55 (by decide +kernel) rfl rfl ?_
      refine zCallV 8 zcls8 mX8_doneBy 66 1 0 0 _ _ 58 [.int (p2)] [.int (x12)] okX8_doneBy mlX0_66 imX8_doneBy seX8_doneBy (by decide +kernel) rfl rfl (Nat.le_of_ble_eq_true rfl) rfl rfl (St_0 (Gam_12 S0_)) (zC.mono F ?_)
      rintro _ _ ⟨x14, I15, rfl, rfl, F⟩
      change zV G (d + 1) mX0_choose kc ks 58 [(0, .ref (g)), (1, .int (p1)), (2, .int (p2)), (3, .int (p3))] [.int (x14), .int (x12)] (I15, J, R, K, n) Q
      refine zIand 59 (by decide +kernel) rfl ?_
      refine zGoto 4 63 (by decide +kernel) rfl ?_
      refine zIstore 4 [(4, .int (x12 &&& x14)), (0, .ref (g)), (1, .int (p1)), (2, .int (p2)), (3, .int (p3))] 65 (by decide +kernel) rfl (by decide) rfl ?_
      refine zIconst 0 0 66 (by decide +kernel) rfl (by decide) ?_
      refine zIstore 5 [(5, .int (0)), (4, .int (x12 &&& x14)), (0, .ref (g)), (1, .int (p1)), (2, .int (p2)), (3, .int (p3))] 68 (by decide +kernel) rfl (by decide) rfl ?_
      exact zLoc [2, 3, 4, 5, 1, 0] _ rfl F
set_option maxHeartbeats 2000000 in
theorem wX0_choose_68 {G : zG} {d kc ks : Nat} {I : Nat → Nat → Int32} {J : Nat → Nat → Int64} {R : Nat → Nat → Option Nat} {K : Nat → Nat × Nat} {n : Nat} {Q : Option Value → zH → Prop} (g b a s v : Nat) (S0_ : hGam G R K n g b a s v) (l1 l2 l3 l4 l5 : Int32) (F : ((9 ≤ l5 → Q none (I, J, R, K, n)) ∧ (¬ (9 ≤ l5) → ((((l4 >>> (l5 &&& 31)) &&& 1 : Int32) = 1 → zC G d mX8_paintOff 0 0 [.ref (a), .int (l5)] (I, J, R, K, n) (fun r h => ∃ (x18 : Int32) (I19 : Nat → Nat → Int32), r = some (.int x18) ∧ h = (I19, J, R, K, n) ∧ zV G (d + 1) mX0_choose kc ks 68 [(0, .ref (g)), (1, .int (l1)), (2, .int (l2)), (3, .int (l3)), (4, .int (l4)), (5, .int (l5 + 1))] [] (I19, J, R, K, n) Q)) ∧ (¬ (((l4 >>> (l5 &&& 31)) &&& 1 : Int32) = 1) → zV G (d + 1) mX0_choose kc ks 68 [(0, .ref (g)), (1, .int (l1)), (2, .int (l2)), (3, .int (l3)), (4, .int (l4)), (5, .int (l5 + 1))] [] (I, J, R, K, n) Q))))) : zV G (d + 1) mX0_choose kc ks 68 [(0, .ref (g)), (1, .int (l1)), (2, .int (l2)), (3, .int (l3)), (4, .int (l4)), (5, .int (l5))] [] (I, J, R, K, n) Q := by
  refine zIload 5 5 70 (by decide +kernel) rfl rfl ?_
  refine zBipush 9 9 72 (by decide +kernel) rfl (by decide) ?_
  refine zIcmp_ge 30 102 75 (by decide +kernel) rfl rfl ⟨fun q16 => ?_, fun q16 => ?_⟩
  · replace F := F.1 q16
    exact zVret rfl (by decide +kernel) F
  · replace F := F.2 q16
    refine zIload 4 4 77 (by decide +kernel) rfl rfl ?_
    refine zIload 5 5 79 (by decide +kernel) rfl rfl ?_
    refine zIshr 80 (by decide +kernel) rfl ?_
    refine zIconst 1 1 81 (by decide +kernel) rfl (by decide) ?_
    refine zIand 82 (by decide +kernel) rfl ?_
    refine zIconst 1 1 83 (by decide +kernel) rfl (by decide) ?_
    refine zIcmp_ne 13 96 86 (by decide +kernel) rfl rfl ⟨fun q17 => ?_, fun q17 => ?_⟩
    · replace F := F.2 q17
      refine zIinc 5 1 5 (l5 + 1) [(5, .int (l5 + 1)), (0, .ref (g)), (1, .int (l1)), (2, .int (l2)), (3, .int (l3)), (4, .int (l4))] 99 (by decide +kernel) rfl rfl (by rfl) (by decide) rfl ?_
      refine zGoto (-31) 68 (by decide +kernel) rfl ?_
      exact zLoc [1, 2, 3, 4, 5, 0] _ rfl F
    · replace F := F.1 q17
      refine zAload_n 0 0 87 (by decide +kernel) rfl rfl ?_
      refine gf0_5 31 90 (by decide +kernel) rfl flX0_31 (Gam_0 S0_) (Gam_11 S0_) ?_
      refine zIload 5 5 92 (by decide +kernel) rfl rfl ?_
      refine zCallV 8 zcls8 mX8_paintOff 69 1 0 0 _ _ 95 [.int (l5)] [] okX8_paintOff mlX0_69 imX8_paintOff seX8_paintOff (by decide +kernel) rfl rfl (Nat.le_of_ble_eq_true rfl) rfl rfl (St_0 (Gam_12 S0_)) (zC.mono F ?_)
      rintro _ _ ⟨x18, I19, rfl, rfl, F⟩
      change zV G (d + 1) mX0_choose kc ks 95 [(0, .ref (g)), (1, .int (l1)), (2, .int (l2)), (3, .int (l3)), (4, .int (l4)), (5, .int (l5))] [.int (x18)] (I19, J, R, K, n) Q
      refine zPop 96 (by decide +kernel) rfl rfl ?_
      refine zIinc 5 1 5 (l5 + 1) [(5, .int (l5 + 1)), (0, .ref (g)), (1, .int (l1)), (2, .int (l2)), (3, .int (l3)), (4, .int (l4))] 99 (by decide +kernel) rfl rfl (by rfl) (by decide) rfl ?_
      refine zGoto (-31) 68 (by decide +kernel) rfl ?_
      exact zLoc [1, 2, 3, 4, 5, 0] _ rfl F
set_option maxHeartbeats 2000000 in
theorem wX0_gain_0 {G : zG} {d kc ks : Nat} {I : Nat → Nat → Int32} {J : Nat → Nat → Int64} {R : Nat → Nat → Option Nat} {K : Nat → Nat × Nat} {n : Nat} {Q : Option Value → zH → Prop} (g b a s v : Nat) (S0_ : hGam G R K n g b a s v) (p1 p2 : Int32) (F : zC G d mX8_whiteYards 0 0 [.ref (a), .int (p1)] (I, J, R, K, n) (fun r h => ∃ (x1 : Int32) (I2 : Nat → Nat → Int32), r = some (.int x1) ∧ h = (I2, J, R, K, n) ∧ zC G d mX8_whiteYards 0 0 [.ref (b), .int (p1)] (I2, J, R, K, n) (fun r h => ∃ (x3 : Int32) (I4 : Nat → Nat → Int32), r = some (.int x3) ∧ h = (I4, J, R, K, n) ∧ Q (some (.int ((x1 - x3) - (if p2 = 2 then 2 else 0)))) (I4, J, R, K, n)))) : zV G (d + 1) mX0_gain kc ks 0 [(0, .ref (g)), (1, .int (p1)), (2, .int (p2))] [] (I, J, R, K, n) Q := by
  refine zAload_n 0 0 1 (by decide +kernel) rfl rfl ?_
  refine gf0_5 31 4 (by decide +kernel) rfl flX0_31 (Gam_0 S0_) (Gam_11 S0_) ?_
  refine zIload_n 1 1 5 (by decide +kernel) rfl rfl ?_
  refine zCallV 8 zcls8 mX8_whiteYards 72 1 0 0 _ _ 8 [.int (p1)] [] okX8_whiteYards mlX0_72 imX8_whiteYards seX8_whiteYards (by decide +kernel) rfl rfl (Nat.le_of_ble_eq_true rfl) rfl rfl (St_0 (Gam_12 S0_)) (zC.mono F ?_)
  rintro _ _ ⟨x1, I2, rfl, rfl, F⟩
  change zV G (d + 1) mX0_gain kc ks 8 [(0, .ref (g)), (1, .int (p1)), (2, .int (p2))] [.int (x1)] (I2, J, R, K, n) Q
  refine zAload_n 0 0 9 (by decide +kernel) rfl rfl ?_
  refine gf0_4 27 12 (by decide +kernel) rfl flX0_27 (Gam_0 S0_) (Gam_9 S0_) ?_
  refine zIload_n 1 1 13 (by decide +kernel) rfl rfl ?_
  refine zCallV 8 zcls8 mX8_whiteYards 72 1 0 0 _ _ 16 [.int (p1)] [.int (x1)] okX8_whiteYards mlX0_72 imX8_whiteYards seX8_whiteYards (by decide +kernel) rfl rfl (Nat.le_of_ble_eq_true rfl) rfl rfl (St_0 (Gam_10 S0_)) (zC.mono F ?_)
  rintro _ _ ⟨x3, I4, rfl, rfl, F⟩
  change zV G (d + 1) mX0_gain kc ks 16 [(0, .ref (g)), (1, .int (p1)), (2, .int (p2))] [.int (x3), .int (x1)] (I4, J, R, K, n) Q
  refine zIsub 17 (by decide +kernel) rfl ?_
  refine zIload_n 2 2 18 (by decide +kernel) rfl rfl ?_
  refine zIconst 2 2 19 (by decide +kernel) rfl (by decide) ?_
  suffices KK : zV G (d + 1) mX0_gain kc ks 27 [(0, .ref (g)), (1, .int (p1)), (2, .int (p2))] [.int ((if p2 = 2 then 2 else 0)), .int (x1 - x3)] (I4, J, R, K, n) Q by
    refine zIcmp_ne 7 26 22 (by decide +kernel) rfl rfl ⟨fun q5 => ?_, fun q5 => ?_⟩
    · refine zIconst 0 0 27 (by decide +kernel) rfl (by decide) ?_
      exact zTop (by rw [if_neg q5]) KK
    · refine zIconst 2 2 23 (by decide +kernel) rfl (by decide) ?_
      refine zGoto 4 27 (by decide +kernel) rfl ?_
      exact zTop (by rw [if_pos q5]) KK
  refine zIsub 28 (by decide +kernel) rfl ?_
  exact zIret rfl (by decide +kernel) F
set_option maxHeartbeats 2000000 in
theorem wX0_findRests_0 {G : zG} {d kc ks : Nat} {I : Nat → Nat → Int32} {J : Nat → Nat → Int64} {R : Nat → Nat → Option Nat} {K : Nat → Nat × Nat} {n : Nat} {Q : Option Value → zH → Prop} (g b a s v : Nat) (S0_ : hGam G R K n g b a s v) (p1 p2 : Int32) (F : zV G (d + 1) mX0_findRests kc ks 2 [(0, .ref (g)), (1, .int (p1)), (2, .int (p2)), (3, .int (0))] [] (I, J, R, K, n) Q) : zV G (d + 1) mX0_findRests kc ks 0 [(0, .ref (g)), (1, .int (p1)), (2, .int (p2))] [] (I, J, R, K, n) Q := by
  refine zIconst 0 0 1 (by decide +kernel) rfl (by decide) ?_
  refine zIstore_n 3 [(3, .int (0)), (0, .ref (g)), (1, .int (p1)), (2, .int (p2))] 2 (by decide +kernel) rfl (by decide) rfl ?_
  exact zLoc [1, 2, 3, 0] _ rfl F
set_option maxHeartbeats 2000000 in
theorem wX0_findRests_2 {G : zG} {d kc ks : Nat} {I : Nat → Nat → Int32} {J : Nat → Nat → Int64} {R : Nat → Nat → Option Nat} {K : Nat → Nat × Nat} {n : Nat} {Q : Option Value → zH → Prop} (g b a s v : Nat) (S0_ : hGam G R K n g b a s v) (l1 l2 l3 : Int32) (F : ((3 ≤ l3 → (∀ I2 : Nat → Nat → Int32, I2 = zU I g 3 (0) → zV G (d + 1) mX0_findRests kc ks 44 [(0, .ref (g)), (1, .int (l1)), (2, .int (l2)), (3, .int (0))] [] (I2, J, R, K, n) Q)) ∧ (¬ (3 ≤ l3) → zV G (d + 1) mX0_findRests kc ks 10 [(0, .ref (g)), (1, .int (l1)), (2, .int (l2)), (3, .int (l3)), (4, .int (0))] [] (I, J, R, K, n) Q))) : zV G (d + 1) mX0_findRests kc ks 2 [(0, .ref (g)), (1, .int (l1)), (2, .int (l2)), (3, .int (l3))] [] (I, J, R, K, n) Q := by
  refine zIload_n 3 3 3 (by decide +kernel) rfl rfl ?_
  refine zIconst 3 3 4 (by decide +kernel) rfl (by decide) ?_
  refine zIcmp_ge 33 37 7 (by decide +kernel) rfl rfl ⟨fun q1 => ?_, fun q1 => ?_⟩
  · replace F := F.1 q1
    refine zAload_n 0 0 38 (by decide +kernel) rfl rfl ?_
    refine zIconst 0 0 39 (by decide +kernel) rfl (by decide) ?_
    refine pf0_3 23 42 (by decide +kernel) rfl flX0_23 (Gam_0 S0_) ?_
    replace F := F _ rfl
    generalize zU I g 3 (0) = I2 at F ⊢
    refine zIconst 0 0 43 (by decide +kernel) rfl (by decide) ?_
    refine zIstore_n 3 [(3, .int (0)), (0, .ref (g)), (1, .int (l1)), (2, .int (l2))] 44 (by decide +kernel) rfl (by decide) rfl ?_
    exact zLoc [1, 2, 3, 0] _ rfl F
  · replace F := F.2 q1
    refine zIconst 0 0 8 (by decide +kernel) rfl (by decide) ?_
    refine zIstore 4 [(4, .int (0)), (0, .ref (g)), (1, .int (l1)), (2, .int (l2)), (3, .int (l3))] 10 (by decide +kernel) rfl (by decide) rfl ?_
    exact zLoc [1, 2, 3, 4, 0] _ rfl F
set_option maxHeartbeats 2000000 in
theorem wX0_findRests_44 {G : zG} {d kc ks : Nat} {I : Nat → Nat → Int32} {J : Nat → Nat → Int64} {R : Nat → Nat → Option Nat} {K : Nat → Nat × Nat} {n : Nat} {Q : Option Value → zH → Prop} (g b a s v : Nat) (S0_ : hGam G R K n g b a s v) (l1 l2 l3 : Int32) (F : ((3 ≤ l3 → Q none (I, J, R, K, n)) ∧ (¬ (3 ≤ l3) → zV G (d + 1) mX0_findRests kc ks 52 [(0, .ref (g)), (1, .int (l1)), (2, .int (l2)), (3, .int (l3)), (4, .int (0))] [] (I, J, R, K, n) Q))) : zV G (d + 1) mX0_findRests kc ks 44 [(0, .ref (g)), (1, .int (l1)), (2, .int (l2)), (3, .int (l3))] [] (I, J, R, K, n) Q := by
  refine zIload_n 3 3 45 (by decide +kernel) rfl rfl ?_
  refine zIconst 3 3 46 (by decide +kernel) rfl (by decide) ?_
  refine zIcmp_ge 60 106 49 (by decide +kernel) rfl rfl ⟨fun q3 => ?_, fun q3 => ?_⟩
  · replace F := F.1 q3
    exact zVret rfl (by decide +kernel) F
  · replace F := F.2 q3
    refine zIconst 0 0 50 (by decide +kernel) rfl (by decide) ?_
    refine zIstore 4 [(4, .int (0)), (0, .ref (g)), (1, .int (l1)), (2, .int (l2)), (3, .int (l3))] 52 (by decide +kernel) rfl (by decide) rfl ?_
    exact zLoc [1, 2, 3, 4, 0] _ rfl F
set_option maxHeartbeats 2000000 in
theorem wX0_findRests_10 {G : zG} {d kc ks : Nat} {I : Nat → Nat → Int32} {J : Nat → Nat → Int64} {R : Nat → Nat → Option Nat} {K : Nat → Nat × Nat} {n : Nat} {Q : Option Value → zH → Prop} (g b a s v : Nat) (S0_ : hGam G R K n g b a s v) (l1 l2 l3 l4 : Int32) (F : ((3 ≤ l4 → zV G (d + 1) mX0_findRests kc ks 2 [(0, .ref (g)), (1, .int (l1)), (2, .int (l2)), (3, .int (l3 + 1))] [] (I, J, R, K, n) Q) ∧ (¬ (3 ≤ l4) → zC G d mX0_play 0 0 [.ref (g), .int (l1), .int (l2), .int (l3), .int (l4)] (I, J, R, K, n) (fun r h => ∃ (I5 : Nat → Nat → Int32), r = none ∧ h = (I5, J, R, K, n) ∧ zV G (d + 1) mX0_findRests kc ks 10 [(0, .ref (g)), (1, .int (l1)), (2, .int (l2)), (3, .int (l3)), (4, .int (l4 + 1))] [] (I5, J, R, K, n) Q)))) : zV G (d + 1) mX0_findRests kc ks 10 [(0, .ref (g)), (1, .int (l1)), (2, .int (l2)), (3, .int (l3)), (4, .int (l4))] [] (I, J, R, K, n) Q := by
  refine zIload 4 4 12 (by decide +kernel) rfl rfl ?_
  refine zIconst 3 3 13 (by decide +kernel) rfl (by decide) ?_
  refine zIcmp_ge 18 31 16 (by decide +kernel) rfl rfl ⟨fun q4 => ?_, fun q4 => ?_⟩
  · replace F := F.1 q4
    refine zIinc 3 1 3 (l3 + 1) [(3, .int (l3 + 1)), (0, .ref (g)), (1, .int (l1)), (2, .int (l2)), (4, .int (l4))] 34 (by decide +kernel) rfl rfl (by rfl) (by decide) rfl ?_
    refine zGoto (-32) 2 (by decide +kernel) rfl ?_
    exact zLoc [1, 2, 3, 0] _ rfl F
  · replace F := F.2 q4
    refine zAload_n 0 0 17 (by decide +kernel) rfl rfl ?_
    refine zIload_n 1 1 18 (by decide +kernel) rfl rfl ?_
    refine zIload_n 2 2 19 (by decide +kernel) rfl rfl ?_
    refine zIload_n 3 3 20 (by decide +kernel) rfl rfl ?_
    refine zIload 4 4 22 (by decide +kernel) rfl rfl ?_
    refine zCallV 0 zcls0 mX0_play 75 4 0 0 _ _ 25 [.int (l1), .int (l2), .int (l3), .int (l4)] [] okX0_play mlX0_75 imX0_play seX0_play (by decide +kernel) rfl rfl (Nat.le_of_ble_eq_true rfl) rfl rfl (Gam_0 S0_) (zC.mono F ?_)
    rintro _ _ ⟨I5, rfl, rfl, F⟩
    change zV G (d + 1) mX0_findRests kc ks 25 [(0, .ref (g)), (1, .int (l1)), (2, .int (l2)), (3, .int (l3)), (4, .int (l4))] [] (I5, J, R, K, n) Q
    refine zIinc 4 1 4 (l4 + 1) [(4, .int (l4 + 1)), (0, .ref (g)), (1, .int (l1)), (2, .int (l2)), (3, .int (l3))] 28 (by decide +kernel) rfl rfl (by rfl) (by decide) rfl ?_
    refine zGoto (-18) 10 (by decide +kernel) rfl ?_
    exact zLoc [1, 2, 3, 4, 0] _ rfl F
set_option maxHeartbeats 2000000 in
theorem wX0_findRests_52 {G : zG} {d kc ks : Nat} {I : Nat → Nat → Int32} {J : Nat → Nat → Int64} {R : Nat → Nat → Option Nat} {K : Nat → Nat × Nat} {n : Nat} {Q : Option Value → zH → Prop} (g b a s v : Nat) (S0_ : hGam G R K n g b a s v) (l1 l2 l3 l4 : Int32) (F : ((3 ≤ l4 → zV G (d + 1) mX0_findRests kc ks 44 [(0, .ref (g)), (1, .int (l1)), (2, .int (l2)), (3, .int (l3 + 1))] [] (I, J, R, K, n) Q) ∧ (¬ (3 ≤ l4) → zC G d mX0_isRest 0 0 [.ref (g), .int (l3), .int (l4)] (I, J, R, K, n) (fun r h => ∃ (x7 : Int32) (I8 : Nat → Nat → Int32), r = some (.int x7) ∧ h = (I8, J, R, K, n) ∧ ((x7 = 0 → zV G (d + 1) mX0_findRests kc ks 52 [(0, .ref (g)), (1, .int (l1)), (2, .int (l2)), (3, .int (l3)), (4, .int (l4 + 1))] [] (I8, J, R, K, n) Q) ∧ (¬ (x7 = 0) → (vp_in (I8 g 3) 9 ∧ ∀ I10 : Nat → Nat → Int32, I10 = zU I8 (g + 9) (I8 g 3 : Int32).toNatClampNeg ((10 * l3) + l4) → (∀ I11 : Nat → Nat → Int32, I11 = zU I10 g 3 ((I10 g 3) + 1) → zV G (d + 1) mX0_findRests kc ks 52 [(0, .ref (g)), (1, .int (l1)), (2, .int (l2)), (3, .int (l3)), (4, .int (l4 + 1))] [] (I11, J, R, K, n) Q)))))))) : zV G (d + 1) mX0_findRests kc ks 52 [(0, .ref (g)), (1, .int (l1)), (2, .int (l2)), (3, .int (l3)), (4, .int (l4))] [] (I, J, R, K, n) Q := by
  refine zIload 4 4 54 (by decide +kernel) rfl rfl ?_
  refine zIconst 3 3 55 (by decide +kernel) rfl (by decide) ?_
  refine zIcmp_ge 45 100 58 (by decide +kernel) rfl rfl ⟨fun q6 => ?_, fun q6 => ?_⟩
  · replace F := F.1 q6
    refine zIinc 3 1 3 (l3 + 1) [(3, .int (l3 + 1)), (0, .ref (g)), (1, .int (l1)), (2, .int (l2)), (4, .int (l4))] 103 (by decide +kernel) rfl rfl (by rfl) (by decide) rfl ?_
    refine zGoto (-59) 44 (by decide +kernel) rfl ?_
    exact zLoc [1, 2, 3, 0] _ rfl F
  · replace F := F.2 q6
    refine zAload_n 0 0 59 (by decide +kernel) rfl rfl ?_
    refine zIload_n 3 3 60 (by decide +kernel) rfl rfl ?_
    refine zIload 4 4 62 (by decide +kernel) rfl rfl ?_
    refine zCallV 0 zcls0 mX0_isRest 79 2 0 0 _ _ 65 [.int (l3), .int (l4)] [] okX0_isRest mlX0_79 imX0_isRest seX0_isRest (by decide +kernel) rfl rfl (Nat.le_of_ble_eq_true rfl) rfl rfl (Gam_0 S0_) (zC.mono F ?_)
    rintro _ _ ⟨x7, I8, rfl, rfl, F⟩
    change zV G (d + 1) mX0_findRests kc ks 65 [(0, .ref (g)), (1, .int (l1)), (2, .int (l2)), (3, .int (l3)), (4, .int (l4))] [.int (x7)] (I8, J, R, K, n) Q
    refine zIf_eq 29 94 68 (by decide +kernel) rfl rfl ⟨fun q9 => ?_, fun q9 => ?_⟩
    · replace F := F.1 q9
      refine zIinc 4 1 4 (l4 + 1) [(4, .int (l4 + 1)), (0, .ref (g)), (1, .int (l1)), (2, .int (l2)), (3, .int (l3))] 97 (by decide +kernel) rfl rfl (by rfl) (by decide) rfl ?_
      refine zGoto (-45) 52 (by decide +kernel) rfl ?_
      exact zLoc [1, 2, 3, 4, 0] _ rfl F
    · replace F := F.2 q9
      refine zAload_n 0 0 69 (by decide +kernel) rfl rfl ?_
      refine gf0_2 19 72 (by decide +kernel) rfl flX0_19 (Gam_0 S0_) (Gam_7 S0_) ?_
      refine zAload_n 0 0 73 (by decide +kernel) rfl rfl ?_
      refine gf0_3 23 76 (by decide +kernel) rfl flX0_23 (Gam_0 S0_) ?_
      refine zBipush 10 10 78 (by decide +kernel) rfl (by decide) ?_
      refine zIload_n 3 3 79 (by decide +kernel) rfl rfl ?_
      refine zImul 80 (by decide +kernel) rfl ?_
      refine zIload 4 4 82 (by decide +kernel) rfl rfl ?_
      refine zIadd 83 (by decide +kernel) rfl ?_
      refine yIastore 9 84 (by decide +kernel) rfl (Gam_8 S0_) F.1 ?_
      replace F := F.2 _ rfl
      generalize zU I8 (g + 9) (I8 g 3 : Int32).toNatClampNeg ((10 * l3) + l4) = I10 at F ⊢
      refine zAload_n 0 0 85 (by decide +kernel) rfl rfl ?_
      refine zDup 86 (by decide +kernel) rfl rfl ?_
      refine gf0_3 23 89 (by decide +kernel) rfl flX0_23 (Gam_0 S0_) ?_
      refine zIconst 1 1 90 (by decide +kernel) rfl (by decide) ?_
      refine zIadd 91 (by decide +kernel) rfl ?_
      refine pf0_3 23 94 (by decide +kernel) rfl flX0_23 (Gam_0 S0_) ?_
      replace F := F _ rfl
      generalize zU I10 g 3 ((I10 g 3) + 1) = I11 at F ⊢
      refine zIinc 4 1 4 (l4 + 1) [(4, .int (l4 + 1)), (0, .ref (g)), (1, .int (l1)), (2, .int (l2)), (3, .int (l3))] 97 (by decide +kernel) rfl rfl (by rfl) (by decide) rfl ?_
      refine zGoto (-45) 52 (by decide +kernel) rfl ?_
      exact zLoc [1, 2, 3, 4, 0] _ rfl F
set_option maxHeartbeats 2000000 in
theorem wX0_isRest_0 {G : zG} {d kc ks : Nat} {I : Nat → Nat → Int32} {J : Nat → Nat → Int64} {R : Nat → Nat → Option Nat} {K : Nat → Nat × Nat} {n : Nat} {Q : Option Value → zH → Prop} (g b a s v : Nat) (S0_ : hGam G R K n g b a s v) (p1 p2 : Int32) (F : zV G (d + 1) mX0_isRest kc ks 2 [(0, .ref (g)), (1, .int (p1)), (2, .int (p2)), (3, .int (0))] [] (I, J, R, K, n) Q) : zV G (d + 1) mX0_isRest kc ks 0 [(0, .ref (g)), (1, .int (p1)), (2, .int (p2))] [] (I, J, R, K, n) Q := by
  refine zIconst 0 0 1 (by decide +kernel) rfl (by decide) ?_
  refine zIstore_n 3 [(3, .int (0)), (0, .ref (g)), (1, .int (p1)), (2, .int (p2))] 2 (by decide +kernel) rfl (by decide) rfl ?_
  exact zLoc [1, 2, 3, 0] _ rfl F
set_option maxHeartbeats 2000000 in
theorem wX0_isRest_2 {G : zG} {d kc ks : Nat} {I : Nat → Nat → Int32} {J : Nat → Nat → Int64} {R : Nat → Nat → Option Nat} {K : Nat → Nat × Nat} {n : Nat} {Q : Option Value → zH → Prop} (g b a s v : Nat) (S0_ : hGam G R K n g b a s v) (l1 l2 l3 : Int32) (F : ((3 ≤ l3 → Q (some (.int (1))) (I, J, R, K, n)) ∧ (¬ (3 ≤ l3) → ((vp_in l3 3) ∧ ((vp_in l2 3) ∧ ((vp_in l1 3) ∧ ((vp_in l2 3) ∧ (((I (g + 2 + l1.toNatClampNeg) l2.toNatClampNeg : Int32) < (I (g + 2 + l3.toNatClampNeg) l2.toNatClampNeg : Int32) → Q (some (.int (0))) (I, J, R, K, n)) ∧ (¬ ((I (g + 2 + l1.toNatClampNeg) l2.toNatClampNeg : Int32) < (I (g + 2 + l3.toNatClampNeg) l2.toNatClampNeg : Int32)) → ((vp_in l1 3) ∧ ((vp_in l3 3) ∧ ((vp_in l1 3) ∧ ((vp_in l2 3) ∧ (((I (g + 6 + l1.toNatClampNeg) l3.toNatClampNeg : Int32) ≤ (I (g + 6 + l1.toNatClampNeg) l2.toNatClampNeg : Int32) → zV G (d + 1) mX0_isRest kc ks 2 [(0, .ref (g)), (1, .int (l1)), (2, .int (l2)), (3, .int (l3 + 1))] [] (I, J, R, K, n) Q) ∧ (¬ ((I (g + 6 + l1.toNatClampNeg) l3.toNatClampNeg : Int32) ≤ (I (g + 6 + l1.toNatClampNeg) l2.toNatClampNeg : Int32)) → Q (some (.int (0))) (I, J, R, K, n)))))))))))))))) : zV G (d + 1) mX0_isRest kc ks 2 [(0, .ref (g)), (1, .int (l1)), (2, .int (l2)), (3, .int (l3))] [] (I, J, R, K, n) Q := by
  refine zIload_n 3 3 3 (by decide +kernel) rfl rfl ?_
  refine zIconst 3 3 4 (by decide +kernel) rfl (by decide) ?_
  refine zIcmp_ge 49 53 7 (by decide +kernel) rfl rfl ⟨fun q1 => ?_, fun q1 => ?_⟩
  · replace F := F.1 q1
    refine zIconst 1 1 54 (by decide +kernel) rfl (by decide) ?_
    exact zZret .boolean rfl (zNarZ (Or.inr rfl)) (by decide +kernel) F
  · replace F := F.2 q1
    refine zAload_n 0 0 8 (by decide +kernel) rfl rfl ?_
    refine gf0_0 13 11 (by decide +kernel) rfl flX0_13 (Gam_0 S0_) (Gam_1 S0_) ?_
    refine zIload_n 3 3 12 (by decide +kernel) rfl rfl ?_
    obtain ⟨w2, F⟩ := F
    refine yAaloadG 3 13 (by decide +kernel) rfl (Gam_2 S0_) (w2) ((Gam_3 S0_) _ (zInLt (w2))).1 ?_
    refine zIload_n 2 2 14 (by decide +kernel) rfl rfl ?_
    obtain ⟨w3, F⟩ := F
    refine yIaload 3 15 (by decide +kernel) rfl ((Gam_3 S0_) _ (zInLt (w2))).2 (w3) ?_
    refine zAload_n 0 0 16 (by decide +kernel) rfl rfl ?_
    refine gf0_0 13 19 (by decide +kernel) rfl flX0_13 (Gam_0 S0_) (Gam_1 S0_) ?_
    refine zIload_n 1 1 20 (by decide +kernel) rfl rfl ?_
    obtain ⟨w4, F⟩ := F
    refine yAaloadG 3 21 (by decide +kernel) rfl (Gam_2 S0_) (w4) ((Gam_3 S0_) _ (zInLt (w4))).1 ?_
    refine zIload_n 2 2 22 (by decide +kernel) rfl rfl ?_
    obtain ⟨w5, F⟩ := F
    refine yIaload 3 23 (by decide +kernel) rfl ((Gam_3 S0_) _ (zInLt (w4))).2 (w5) ?_
    refine zIcmp_gt 22 45 26 (by decide +kernel) rfl rfl ⟨fun q6 => ?_, fun q6 => ?_⟩
    · replace F := F.1 q6
      refine zIconst 0 0 46 (by decide +kernel) rfl (by decide) ?_
      exact zZret .boolean rfl (zNarZ (Or.inl rfl)) (by decide +kernel) F
    · replace F := F.2 q6
      refine zAload_n 0 0 27 (by decide +kernel) rfl rfl ?_
      refine gf0_1 16 30 (by decide +kernel) rfl flX0_16 (Gam_0 S0_) (Gam_4 S0_) ?_
      refine zIload_n 1 1 31 (by decide +kernel) rfl rfl ?_
      obtain ⟨w7, F⟩ := F
      refine yAaloadG 3 32 (by decide +kernel) rfl (Gam_5 S0_) (w7) ((Gam_6 S0_) _ (zInLt (w7))).1 ?_
      refine zIload_n 3 3 33 (by decide +kernel) rfl rfl ?_
      obtain ⟨w8, F⟩ := F
      refine yIaload 3 34 (by decide +kernel) rfl ((Gam_6 S0_) _ (zInLt (w7))).2 (w8) ?_
      refine zAload_n 0 0 35 (by decide +kernel) rfl rfl ?_
      refine gf0_1 16 38 (by decide +kernel) rfl flX0_16 (Gam_0 S0_) (Gam_4 S0_) ?_
      refine zIload_n 1 1 39 (by decide +kernel) rfl rfl ?_
      obtain ⟨w9, F⟩ := F
      refine yAaloadG 3 40 (by decide +kernel) rfl (Gam_5 S0_) (w9) ((Gam_6 S0_) _ (zInLt (w9))).1 ?_
      refine zIload_n 2 2 41 (by decide +kernel) rfl rfl ?_
      obtain ⟨w10, F⟩ := F
      refine yIaload 3 42 (by decide +kernel) rfl ((Gam_6 S0_) _ (zInLt (w9))).2 (w10) ?_
      refine zIcmp_le 5 47 45 (by decide +kernel) rfl rfl ⟨fun q11 => ?_, fun q11 => ?_⟩
      · replace F := F.1 q11
        refine zIinc 3 1 3 (l3 + 1) [(3, .int (l3 + 1)), (0, .ref (g)), (1, .int (l1)), (2, .int (l2))] 50 (by decide +kernel) rfl rfl (by rfl) (by decide) rfl ?_
        refine zGoto (-48) 2 (by decide +kernel) rfl ?_
        exact zLoc [1, 2, 3, 0] _ rfl F
      · replace F := F.2 q11
        refine zIconst 0 0 46 (by decide +kernel) rfl (by decide) ?_
        exact zZret .boolean rfl (zNarZ (Or.inl rfl)) (by decide +kernel) F
set_option maxHeartbeats 2000000 in
theorem wX4_whiten_0 {G : zG} {d kc ks : Nat} {I : Nat → Nat → Int32} {J : Nat → Nat → Int64} {R : Nat → Nat → Option Nat} {K : Nat → Nat × Nat} {n : Nat} {Q : Option Value → zH → Prop} (e a s v : Nat) (S0_ : hSea G R K n e a s v) (p1 p2 : Int32) (F : (∀ I1 : Nat → Nat → Int32, I1 = zU I e 0 ((-1)) → (∀ I2 : Nat → Nat → Int32, I2 = zU I1 e 1 ((-1)) → (∀ I3 : Nat → Nat → Int32, I3 = zU I2 e 3 (p1) → (∀ I4 : Nat → Nat → Int32, I4 = zU I3 e 4 (p2) → zC G d mX4_tryWhite 0 0 [.ref (e), .int (0), .int (0), .int (0)] (I4, J, R, K, n) (fun r h => ∃ (I5 : Nat → Nat → Int32), r = none ∧ h = (I5, J, R, K, n) ∧ Q none (I5, J, R, K, n))))))) : zV G (d + 1) mX4_whiten kc ks 0 [(0, .ref (e)), (1, .int (p1)), (2, .int (p2))] [] (I, J, R, K, n) Q := by
  refine zAload_n 0 0 1 (by decide +kernel) rfl rfl ?_
  refine zIconst (-1) (-1) 2 (by decide +kernel) rfl (by decide) ?_
  refine pf4_0 9 5 (by decide +kernel) rfl flX4_9 (Sea_0 S0_) ?_
  replace F := F _ rfl
  generalize zU I e 0 ((-1)) = I1 at F ⊢
  refine zAload_n 0 0 6 (by decide +kernel) rfl rfl ?_
  refine zIconst (-1) (-1) 7 (by decide +kernel) rfl (by decide) ?_
  refine pf4_1 15 10 (by decide +kernel) rfl flX4_15 (Sea_0 S0_) ?_
  replace F := F _ rfl
  generalize zU I1 e 1 ((-1)) = I2 at F ⊢
  refine zAload_n 0 0 11 (by decide +kernel) rfl rfl ?_
  refine zIload_n 1 1 12 (by decide +kernel) rfl rfl ?_
  refine pf4_3 21 15 (by decide +kernel) rfl flX4_21 (Sea_0 S0_) ?_
  replace F := F _ rfl
  generalize zU I2 e 3 (p1) = I3 at F ⊢
  refine zAload_n 0 0 16 (by decide +kernel) rfl rfl ?_
  refine zIload_n 2 2 17 (by decide +kernel) rfl rfl ?_
  refine pf4_4 24 20 (by decide +kernel) rfl flX4_24 (Sea_0 S0_) ?_
  replace F := F _ rfl
  generalize zU I3 e 4 (p2) = I4 at F ⊢
  refine zAload_n 0 0 21 (by decide +kernel) rfl rfl ?_
  refine zIconst 0 0 22 (by decide +kernel) rfl (by decide) ?_
  refine zIconst 0 0 23 (by decide +kernel) rfl (by decide) ?_
  refine zIconst 0 0 24 (by decide +kernel) rfl (by decide) ?_
  refine zCallV 4 zcls4 mX4_tryWhite 38 3 0 0 _ _ 27 [.int (0), .int (0), .int (0)] [] okX4_tryWhite mlX4_38 imX4_tryWhite seX4_tryWhite (by decide +kernel) rfl rfl (Nat.le_of_ble_eq_true rfl) rfl rfl (Sea_0 S0_) (zC.mono F ?_)
  rintro _ _ ⟨I5, rfl, rfl, F⟩
  change zV G (d + 1) mX4_whiten kc ks 27 [(0, .ref (e)), (1, .int (p1)), (2, .int (p2))] [] (I5, J, R, K, n) Q
  exact zVret rfl (by decide +kernel) F
set_option maxHeartbeats 2000000 in
theorem wX4_tryWhite_0 {G : zG} {d kc ks : Nat} {I : Nat → Nat → Int32} {J : Nat → Nat → Int64} {R : Nat → Nat → Option Nat} {K : Nat → Nat × Nat} {n : Nat} {Q : Option Value → zH → Prop} (e a s v : Nat) (S0_ : hSea G R K n e a s v) (p1 p2 p3 : Int32) (F : (((I e 1 : Int32) = (-1) → zC G d mX8_whites 0 0 [.ref (a)] (I, J, R, K, n) (fun r h => ∃ (x2 : Int32) (I3 : Nat → Nat → Int32), r = some (.int x2) ∧ h = (I3, J, R, K, n) ∧ (((x2 &&& (I3 e 4) : Int32) = (I3 e 4 : Int32) → (((I3 e 1 : Int32) = (-1) → (∀ I6 : Nat → Nat → Int32, I6 = zU I3 e 1 (p3) → (∀ I7 : Nat → Nat → Int32, I7 = zU I6 e 0 (p2) → Q none (I7, J, R, K, n)))) ∧ (¬ ((I3 e 1 : Int32) = (-1)) → ((p3 < (I3 e 1 : Int32) → (∀ I9 : Nat → Nat → Int32, I9 = zU I3 e 1 (p3) → (∀ I10 : Nat → Nat → Int32, I10 = zU I9 e 0 (p2) → Q none (I10, J, R, K, n)))) ∧ (¬ (p3 < (I3 e 1 : Int32)) → (((I3 e 0 : Int32) ≤ p2 → Q none (I3, J, R, K, n)) ∧ (¬ ((I3 e 0 : Int32) ≤ p2) → (∀ I12 : Nat → Nat → Int32, I12 = zU I3 e 1 (p3) → (∀ I13 : Nat → Nat → Int32, I13 = zU I12 e 0 (p2) → Q none (I13, J, R, K, n)))))))))) ∧ (¬ ((x2 &&& (I3 e 4) : Int32) = (I3 e 4 : Int32)) → zV G (d + 1) mX4_tryWhite kc ks 74 [(0, .ref (e)), (1, .int (p1)), (2, .int (p2)), (3, .int (p3)), (4, .int (p1))] [] (I3, J, R, K, n) Q)))) ∧ (¬ ((I e 1 : Int32) = (-1)) → ((p3 ≤ (I e 1 : Int32) → zC G d mX8_whites 0 0 [.ref (a)] (I, J, R, K, n) (fun r h => ∃ (x15 : Int32) (I16 : Nat → Nat → Int32), r = some (.int x15) ∧ h = (I16, J, R, K, n) ∧ (((x15 &&& (I16 e 4) : Int32) = (I16 e 4 : Int32) → (((I16 e 1 : Int32) = (-1) → (∀ I19 : Nat → Nat → Int32, I19 = zU I16 e 1 (p3) → (∀ I20 : Nat → Nat → Int32, I20 = zU I19 e 0 (p2) → Q none (I20, J, R, K, n)))) ∧ (¬ ((I16 e 1 : Int32) = (-1)) → ((p3 < (I16 e 1 : Int32) → (∀ I22 : Nat → Nat → Int32, I22 = zU I16 e 1 (p3) → (∀ I23 : Nat → Nat → Int32, I23 = zU I22 e 0 (p2) → Q none (I23, J, R, K, n)))) ∧ (¬ (p3 < (I16 e 1 : Int32)) → (((I16 e 0 : Int32) ≤ p2 → Q none (I16, J, R, K, n)) ∧ (¬ ((I16 e 0 : Int32) ≤ p2) → (∀ I25 : Nat → Nat → Int32, I25 = zU I16 e 1 (p3) → (∀ I26 : Nat → Nat → Int32, I26 = zU I25 e 0 (p2) → Q none (I26, J, R, K, n)))))))))) ∧ (¬ ((x15 &&& (I16 e 4) : Int32) = (I16 e 4 : Int32)) → zV G (d + 1) mX4_tryWhite kc ks 74 [(0, .ref (e)), (1, .int (p1)), (2, .int (p2)), (3, .int (p3)), (4, .int (p1))] [] (I16, J, R, K, n) Q)))) ∧ (¬ (p3 ≤ (I e 1 : Int32)) → Q none (I, J, R, K, n)))))) : zV G (d + 1) mX4_tryWhite kc ks 0 [(0, .ref (e)), (1, .int (p1)), (2, .int (p2)), (3, .int (p3))] [] (I, J, R, K, n) Q := by
  refine zAload_n 0 0 1 (by decide +kernel) rfl rfl ?_
  refine gf4_1 15 4 (by decide +kernel) rfl flX4_15 (Sea_0 S0_) ?_
  refine zIconst (-1) (-1) 5 (by decide +kernel) rfl (by decide) ?_
  refine zIcmp_eq 12 17 8 (by decide +kernel) rfl rfl ⟨fun q1 => ?_, fun q1 => ?_⟩
  · replace F := F.1 q1
    refine zAload_n 0 0 18 (by decide +kernel) rfl rfl ?_
    refine gf4_6 34 21 (by decide +kernel) rfl flX4_34 (Sea_0 S0_) (Sea_1 S0_) ?_
    refine zCallV 8 zcls8 mX8_whites 42 0 0 0 _ _ 24 [] [] okX8_whites mlX4_42 imX8_whites seX8_whites (by decide +kernel) rfl rfl (Nat.le_of_ble_eq_true rfl) rfl rfl (St_0 (Sea_2 S0_)) (zC.mono F ?_)
    rintro _ _ ⟨x2, I3, rfl, rfl, F⟩
    change zV G (d + 1) mX4_tryWhite kc ks 24 [(0, .ref (e)), (1, .int (p1)), (2, .int (p2)), (3, .int (p3))] [.int (x2)] (I3, J, R, K, n) Q
    refine zAload_n 0 0 25 (by decide +kernel) rfl rfl ?_
    refine gf4_4 24 28 (by decide +kernel) rfl flX4_24 (Sea_0 S0_) ?_
    refine zIand 29 (by decide +kernel) rfl ?_
    refine zAload_n 0 0 30 (by decide +kernel) rfl rfl ?_
    refine gf4_4 24 33 (by decide +kernel) rfl flX4_24 (Sea_0 S0_) ?_
    refine zIcmp_ne 38 71 36 (by decide +kernel) rfl rfl ⟨fun q4 => ?_, fun q4 => ?_⟩
    · replace F := F.2 q4
      refine zIload_n 1 1 72 (by decide +kernel) rfl rfl ?_
      refine zIstore 4 [(4, .int (p1)), (0, .ref (e)), (1, .int (p1)), (2, .int (p2)), (3, .int (p3))] 74 (by decide +kernel) rfl (by decide) rfl ?_
      exact zLoc [1, 2, 3, 4, 0] _ rfl F
    · replace F := F.1 q4
      refine zAload_n 0 0 37 (by decide +kernel) rfl rfl ?_
      refine gf4_1 15 40 (by decide +kernel) rfl flX4_15 (Sea_0 S0_) ?_
      refine zIconst (-1) (-1) 41 (by decide +kernel) rfl (by decide) ?_
      refine zIcmp_eq 19 60 44 (by decide +kernel) rfl rfl ⟨fun q5 => ?_, fun q5 => ?_⟩
      · replace F := F.1 q5
        refine zAload_n 0 0 61 (by decide +kernel) rfl rfl ?_
        refine zIload_n 3 3 62 (by decide +kernel) rfl rfl ?_
        refine pf4_1 15 65 (by decide +kernel) rfl flX4_15 (Sea_0 S0_) ?_
        replace F := F _ rfl
        generalize zU I3 e 1 (p3) = I6 at F ⊢
        refine zAload_n 0 0 66 (by decide +kernel) rfl rfl ?_
        refine zIload_n 2 2 67 (by decide +kernel) rfl rfl ?_
        refine pf4_0 9 70 (by decide +kernel) rfl flX4_9 (Sea_0 S0_) ?_
        replace F := F _ rfl
        generalize zU I6 e 0 (p2) = I7 at F ⊢
        exact zVret rfl (by decide +kernel) F
      · replace F := F.2 q5
        refine zIload_n 3 3 45 (by decide +kernel) rfl rfl ?_
        refine zAload_n 0 0 46 (by decide +kernel) rfl rfl ?_
        refine gf4_1 15 49 (by decide +kernel) rfl flX4_15 (Sea_0 S0_) ?_
        refine zIcmp_lt 11 60 52 (by decide +kernel) rfl rfl ⟨fun q8 => ?_, fun q8 => ?_⟩
        · replace F := F.1 q8
          refine zAload_n 0 0 61 (by decide +kernel) rfl rfl ?_
          refine zIload_n 3 3 62 (by decide +kernel) rfl rfl ?_
          refine pf4_1 15 65 (by decide +kernel) rfl flX4_15 (Sea_0 S0_) ?_
          replace F := F _ rfl
          generalize zU I3 e 1 (p3) = I9 at F ⊢
          refine zAload_n 0 0 66 (by decide +kernel) rfl rfl ?_
          refine zIload_n 2 2 67 (by decide +kernel) rfl rfl ?_
          refine pf4_0 9 70 (by decide +kernel) rfl flX4_9 (Sea_0 S0_) ?_
          replace F := F _ rfl
          generalize zU I9 e 0 (p2) = I10 at F ⊢
          exact zVret rfl (by decide +kernel) F
        · replace F := F.2 q8
          refine zIload_n 2 2 53 (by decide +kernel) rfl rfl ?_
          refine zAload_n 0 0 54 (by decide +kernel) rfl rfl ?_
          refine gf4_0 9 57 (by decide +kernel) rfl flX4_9 (Sea_0 S0_) ?_
          refine zIcmp_ge 13 70 60 (by decide +kernel) rfl rfl ⟨fun q11 => ?_, fun q11 => ?_⟩
          · replace F := F.1 q11
            exact zVret rfl (by decide +kernel) F
          · replace F := F.2 q11
            refine zAload_n 0 0 61 (by decide +kernel) rfl rfl ?_
            refine zIload_n 3 3 62 (by decide +kernel) rfl rfl ?_
            refine pf4_1 15 65 (by decide +kernel) rfl flX4_15 (Sea_0 S0_) ?_
            replace F := F _ rfl
            generalize zU I3 e 1 (p3) = I12 at F ⊢
            refine zAload_n 0 0 66 (by decide +kernel) rfl rfl ?_
            refine zIload_n 2 2 67 (by decide +kernel) rfl rfl ?_
            refine pf4_0 9 70 (by decide +kernel) rfl flX4_9 (Sea_0 S0_) ?_
            replace F := F _ rfl
            generalize zU I12 e 0 (p2) = I13 at F ⊢
            exact zVret rfl (by decide +kernel) F
  · replace F := F.2 q1
    refine zIload_n 3 3 9 (by decide +kernel) rfl rfl ?_
    refine zAload_n 0 0 10 (by decide +kernel) rfl rfl ?_
    refine gf4_1 15 13 (by decide +kernel) rfl flX4_15 (Sea_0 S0_) ?_
    refine zIcmp_le 4 17 16 (by decide +kernel) rfl rfl ⟨fun q14 => ?_, fun q14 => ?_⟩
    · replace F := F.1 q14
      refine zAload_n 0 0 18 (by decide +kernel) rfl rfl ?_
      refine gf4_6 34 21 (by decide +kernel) rfl flX4_34 (Sea_0 S0_) (Sea_1 S0_) ?_
      refine zCallV 8 zcls8 mX8_whites 42 0 0 0 _ _ 24 [] [] okX8_whites mlX4_42 imX8_whites seX8_whites (by decide +kernel) rfl rfl (Nat.le_of_ble_eq_true rfl) rfl rfl (St_0 (Sea_2 S0_)) (zC.mono F ?_)
      rintro _ _ ⟨x15, I16, rfl, rfl, F⟩
      change zV G (d + 1) mX4_tryWhite kc ks 24 [(0, .ref (e)), (1, .int (p1)), (2, .int (p2)), (3, .int (p3))] [.int (x15)] (I16, J, R, K, n) Q
      refine zAload_n 0 0 25 (by decide +kernel) rfl rfl ?_
      refine gf4_4 24 28 (by decide +kernel) rfl flX4_24 (Sea_0 S0_) ?_
      refine zIand 29 (by decide +kernel) rfl ?_
      refine zAload_n 0 0 30 (by decide +kernel) rfl rfl ?_
      refine gf4_4 24 33 (by decide +kernel) rfl flX4_24 (Sea_0 S0_) ?_
      refine zIcmp_ne 38 71 36 (by decide +kernel) rfl rfl ⟨fun q17 => ?_, fun q17 => ?_⟩
      · replace F := F.2 q17
        refine zIload_n 1 1 72 (by decide +kernel) rfl rfl ?_
        refine zIstore 4 [(4, .int (p1)), (0, .ref (e)), (1, .int (p1)), (2, .int (p2)), (3, .int (p3))] 74 (by decide +kernel) rfl (by decide) rfl ?_
        exact zLoc [1, 2, 3, 4, 0] _ rfl F
      · replace F := F.1 q17
        refine zAload_n 0 0 37 (by decide +kernel) rfl rfl ?_
        refine gf4_1 15 40 (by decide +kernel) rfl flX4_15 (Sea_0 S0_) ?_
        refine zIconst (-1) (-1) 41 (by decide +kernel) rfl (by decide) ?_
        refine zIcmp_eq 19 60 44 (by decide +kernel) rfl rfl ⟨fun q18 => ?_, fun q18 => ?_⟩
        · replace F := F.1 q18
          refine zAload_n 0 0 61 (by decide +kernel) rfl rfl ?_
          refine zIload_n 3 3 62 (by decide +kernel) rfl rfl ?_
          refine pf4_1 15 65 (by decide +kernel) rfl flX4_15 (Sea_0 S0_) ?_
          replace F := F _ rfl
          generalize zU I16 e 1 (p3) = I19 at F ⊢
          refine zAload_n 0 0 66 (by decide +kernel) rfl rfl ?_
          refine zIload_n 2 2 67 (by decide +kernel) rfl rfl ?_
          refine pf4_0 9 70 (by decide +kernel) rfl flX4_9 (Sea_0 S0_) ?_
          replace F := F _ rfl
          generalize zU I19 e 0 (p2) = I20 at F ⊢
          exact zVret rfl (by decide +kernel) F
        · replace F := F.2 q18
          refine zIload_n 3 3 45 (by decide +kernel) rfl rfl ?_
          refine zAload_n 0 0 46 (by decide +kernel) rfl rfl ?_
          refine gf4_1 15 49 (by decide +kernel) rfl flX4_15 (Sea_0 S0_) ?_
          refine zIcmp_lt 11 60 52 (by decide +kernel) rfl rfl ⟨fun q21 => ?_, fun q21 => ?_⟩
          · replace F := F.1 q21
            refine zAload_n 0 0 61 (by decide +kernel) rfl rfl ?_
            refine zIload_n 3 3 62 (by decide +kernel) rfl rfl ?_
            refine pf4_1 15 65 (by decide +kernel) rfl flX4_15 (Sea_0 S0_) ?_
            replace F := F _ rfl
            generalize zU I16 e 1 (p3) = I22 at F ⊢
            refine zAload_n 0 0 66 (by decide +kernel) rfl rfl ?_
            refine zIload_n 2 2 67 (by decide +kernel) rfl rfl ?_
            refine pf4_0 9 70 (by decide +kernel) rfl flX4_9 (Sea_0 S0_) ?_
            replace F := F _ rfl
            generalize zU I22 e 0 (p2) = I23 at F ⊢
            exact zVret rfl (by decide +kernel) F
          · replace F := F.2 q21
            refine zIload_n 2 2 53 (by decide +kernel) rfl rfl ?_
            refine zAload_n 0 0 54 (by decide +kernel) rfl rfl ?_
            refine gf4_0 9 57 (by decide +kernel) rfl flX4_9 (Sea_0 S0_) ?_
            refine zIcmp_ge 13 70 60 (by decide +kernel) rfl rfl ⟨fun q24 => ?_, fun q24 => ?_⟩
            · replace F := F.1 q24
              exact zVret rfl (by decide +kernel) F
            · replace F := F.2 q24
              refine zAload_n 0 0 61 (by decide +kernel) rfl rfl ?_
              refine zIload_n 3 3 62 (by decide +kernel) rfl rfl ?_
              refine pf4_1 15 65 (by decide +kernel) rfl flX4_15 (Sea_0 S0_) ?_
              replace F := F _ rfl
              generalize zU I16 e 1 (p3) = I25 at F ⊢
              refine zAload_n 0 0 66 (by decide +kernel) rfl rfl ?_
              refine zIload_n 2 2 67 (by decide +kernel) rfl rfl ?_
              refine pf4_0 9 70 (by decide +kernel) rfl flX4_9 (Sea_0 S0_) ?_
              replace F := F _ rfl
              generalize zU I25 e 0 (p2) = I26 at F ⊢
              exact zVret rfl (by decide +kernel) F
    · replace F := F.2 q14
      exact zVret rfl (by decide +kernel) F
set_option maxHeartbeats 2000000 in
theorem wX4_tryWhite_74 {G : zG} {d kc ks : Nat} {I : Nat → Nat → Int32} {J : Nat → Nat → Int64} {R : Nat → Nat → Option Nat} {K : Nat → Nat × Nat} {n : Nat} {Q : Option Value → zH → Prop} (e a s v : Nat) (S0_ : hSea G R K n e a s v) (l1 l2 l3 l4 : Int32) (F : ((9 ≤ l4 → Q none (I, J, R, K, n)) ∧ (¬ (9 ≤ l4) → (((((I e 3 : Int32) >>> (l4 &&& 31)) &&& 1 : Int32) = 1 → zC G d mX8_paintOff 0 0 [.ref (a), .int (l4)] (I, J, R, K, n) (fun r h => ∃ (x29 : Int32) (I30 : Nat → Nat → Int32), r = some (.int x29) ∧ h = (I30, J, R, K, n) ∧ zC G d mX4_tryWhite 0 0 [.ref (e), .int (l4 + 1), .int (l2 ||| ((1 : Int32) <<< (l4 &&& 31))), .int (l3 + 1)] (I30, J, R, K, n) (fun r h => ∃ (I31 : Nat → Nat → Int32), r = none ∧ h = (I31, J, R, K, n) ∧ zC G d mX8_scrapeOff 0 0 [.ref (a), .int (l4), .int (x29)] (I31, J, R, K, n) (fun r h => ∃ (I32 : Nat → Nat → Int32), r = none ∧ h = (I32, J, R, K, n) ∧ zV G (d + 1) mX4_tryWhite kc ks 74 [(0, .ref (e)), (1, .int (l1)), (2, .int (l2)), (3, .int (l3)), (4, .int (l4 + 1))] [] (I32, J, R, K, n) Q)))) ∧ (¬ ((((I e 3 : Int32) >>> (l4 &&& 31)) &&& 1 : Int32) = 1) → zV G (d + 1) mX4_tryWhite kc ks 74 [(0, .ref (e)), (1, .int (l1)), (2, .int (l2)), (3, .int (l3)), (4, .int (l4 + 1))] [] (I, J, R, K, n) Q))))) : zV G (d + 1) mX4_tryWhite kc ks 74 [(0, .ref (e)), (1, .int (l1)), (2, .int (l2)), (3, .int (l3)), (4, .int (l4))] [] (I, J, R, K, n) Q := by
  refine zIload 4 4 76 (by decide +kernel) rfl rfl ?_
  refine zBipush 9 9 78 (by decide +kernel) rfl (by decide) ?_
  refine zIcmp_ge 61 139 81 (by decide +kernel) rfl rfl ⟨fun q27 => ?_, fun q27 => ?_⟩
  · replace F := F.1 q27
    exact zVret rfl (by decide +kernel) F
  · replace F := F.2 q27
    refine zAload_n 0 0 82 (by decide +kernel) rfl rfl ?_
    refine gf4_3 21 85 (by decide +kernel) rfl flX4_21 (Sea_0 S0_) ?_
    refine zIload 4 4 87 (by decide +kernel) rfl rfl ?_
    refine zIshr 88 (by decide +kernel) rfl ?_
    refine zIconst 1 1 89 (by decide +kernel) rfl (by decide) ?_
    refine zIand 90 (by decide +kernel) rfl ?_
    refine zIconst 1 1 91 (by decide +kernel) rfl (by decide) ?_
    refine zIcmp_ne 42 133 94 (by decide +kernel) rfl rfl ⟨fun q28 => ?_, fun q28 => ?_⟩
    · replace F := F.2 q28
      refine zIinc 4 1 4 (l4 + 1) [(4, .int (l4 + 1)), (0, .ref (e)), (1, .int (l1)), (2, .int (l2)), (3, .int (l3))] 136 (by decide +kernel) rfl rfl (by rfl) (by decide) rfl ?_
      refine zGoto (-62) 74 (by decide +kernel) rfl ?_
      exact zLoc [1, 2, 3, 4, 0] _ rfl F
    · replace F := F.1 q28
      refine zAload_n 0 0 95 (by decide +kernel) rfl rfl ?_
      refine gf4_6 34 98 (by decide +kernel) rfl flX4_34 (Sea_0 S0_) (Sea_1 S0_) ?_
      refine zIload 4 4 100 (by decide +kernel) rfl rfl ?_
      refine zCallV 8 zcls8 mX8_paintOff 48 1 0 0 _ _ 103 [.int (l4)] [] okX8_paintOff mlX4_48 imX8_paintOff seX8_paintOff (by decide +kernel) rfl rfl (Nat.le_of_ble_eq_true rfl) rfl rfl (St_0 (Sea_2 S0_)) (zC.mono F ?_)
      rintro _ _ ⟨x29, I30, rfl, rfl, F⟩
      change zV G (d + 1) mX4_tryWhite kc ks 103 [(0, .ref (e)), (1, .int (l1)), (2, .int (l2)), (3, .int (l3)), (4, .int (l4))] [.int (x29)] (I30, J, R, K, n) Q
      refine zIstore 5 [(5, .int (x29)), (0, .ref (e)), (1, .int (l1)), (2, .int (l2)), (3, .int (l3)), (4, .int (l4))] 105 (by decide +kernel) rfl (by decide) rfl ?_
      refine zAload_n 0 1 106 (by decide +kernel) rfl rfl ?_
      refine zIload 4 5 108 (by decide +kernel) rfl rfl ?_
      refine zIconst 1 1 109 (by decide +kernel) rfl (by decide) ?_
      refine zIadd 110 (by decide +kernel) rfl ?_
      refine zIload_n 2 3 111 (by decide +kernel) rfl rfl ?_
      refine zIconst 1 1 112 (by decide +kernel) rfl (by decide) ?_
      refine zIload 4 5 114 (by decide +kernel) rfl rfl ?_
      refine zIshl 115 (by decide +kernel) rfl ?_
      refine zIor 116 (by decide +kernel) rfl ?_
      refine zIload_n 3 4 117 (by decide +kernel) rfl rfl ?_
      refine zIconst 1 1 118 (by decide +kernel) rfl (by decide) ?_
      refine zIadd 119 (by decide +kernel) rfl ?_
      refine zCallV 4 zcls4 mX4_tryWhite 38 3 0 0 _ _ 122 [.int (l4 + 1), .int (l2 ||| ((1 : Int32) <<< (l4 &&& 31))), .int (l3 + 1)] [] okX4_tryWhite mlX4_38 imX4_tryWhite seX4_tryWhite (by decide +kernel) rfl rfl (Nat.le_of_ble_eq_true rfl) rfl rfl (Sea_0 S0_) (zC.mono F ?_)
      rintro _ _ ⟨I31, rfl, rfl, F⟩
      change zV G (d + 1) mX4_tryWhite kc ks 122 [(5, .int (x29)), (0, .ref (e)), (1, .int (l1)), (2, .int (l2)), (3, .int (l3)), (4, .int (l4))] [] (I31, J, R, K, n) Q
      refine zAload_n 0 1 123 (by decide +kernel) rfl rfl ?_
      refine gf4_6 34 126 (by decide +kernel) rfl flX4_34 (Sea_0 S0_) (Sea_1 S0_) ?_
      refine zIload 4 5 128 (by decide +kernel) rfl rfl ?_
      refine zIload 5 0 130 (by decide +kernel) rfl rfl ?_
      refine zCallV 8 zcls8 mX8_scrapeOff 52 2 0 0 _ _ 133 [.int (l4), .int (x29)] [] okX8_scrapeOff mlX4_52 imX8_scrapeOff seX8_scrapeOff (by decide +kernel) rfl rfl (Nat.le_of_ble_eq_true rfl) rfl rfl (St_0 (Sea_2 S0_)) (zC.mono F ?_)
      rintro _ _ ⟨I32, rfl, rfl, F⟩
      change zV G (d + 1) mX4_tryWhite kc ks 133 [(5, .int (x29)), (0, .ref (e)), (1, .int (l1)), (2, .int (l2)), (3, .int (l3)), (4, .int (l4))] [] (I32, J, R, K, n) Q
      refine zIinc 4 1 5 (l4 + 1) [(4, .int (l4 + 1)), (5, .int (x29)), (0, .ref (e)), (1, .int (l1)), (2, .int (l2)), (3, .int (l3))] 136 (by decide +kernel) rfl rfl (by rfl) (by decide) rfl ?_
      refine zGoto (-62) 74 (by decide +kernel) rfl ?_
      exact zLoc [2, 3, 4, 5, 0] _ rfl F
set_option maxHeartbeats 2000000 in
theorem wX4_enrich_0 {G : zG} {d kc ks : Nat} {I : Nat → Nat → Int32} {J : Nat → Nat → Int64} {R : Nat → Nat → Option Nat} {K : Nat → Nat × Nat} {n : Nat} {Q : Option Value → zH → Prop} (e a s v : Nat) (S0_ : hSea G R K n e a s v) (p1 : Int32) (F : (∀ I1 : Nat → Nat → Int32, I1 = zU I e 0 (0) → (∀ I2 : Nat → Nat → Int32, I2 = zU I1 e 1 (0) → (∀ I3 : Nat → Nat → Int32, I3 = zU I2 e 2 (0) → (∀ I4 : Nat → Nat → Int32, I4 = zU I3 e 5 (p1) → zC G d mX4_tryRich 0 0 [.ref (e), .int (0), .int (0), .int (0), .int (0)] (I4, J, R, K, n) (fun r h => ∃ (I5 : Nat → Nat → Int32), r = none ∧ h = (I5, J, R, K, n) ∧ Q none (I5, J, R, K, n))))))) : zV G (d + 1) mX4_enrich kc ks 0 [(0, .ref (e)), (1, .int (p1))] [] (I, J, R, K, n) Q := by
  refine zAload_n 0 0 1 (by decide +kernel) rfl rfl ?_
  refine zIconst 0 0 2 (by decide +kernel) rfl (by decide) ?_
  refine pf4_0 9 5 (by decide +kernel) rfl flX4_9 (Sea_0 S0_) ?_
  replace F := F _ rfl
  generalize zU I e 0 (0) = I1 at F ⊢
  refine zAload_n 0 0 6 (by decide +kernel) rfl rfl ?_
  refine zIconst 0 0 7 (by decide +kernel) rfl (by decide) ?_
  refine pf4_1 15 10 (by decide +kernel) rfl flX4_15 (Sea_0 S0_) ?_
  replace F := F _ rfl
  generalize zU I1 e 1 (0) = I2 at F ⊢
  refine zAload_n 0 0 11 (by decide +kernel) rfl rfl ?_
  refine zIconst 0 0 12 (by decide +kernel) rfl (by decide) ?_
  refine pf4_2 18 15 (by decide +kernel) rfl flX4_18 (Sea_0 S0_) ?_
  replace F := F _ rfl
  generalize zU I2 e 2 (0) = I3 at F ⊢
  refine zAload_n 0 0 16 (by decide +kernel) rfl rfl ?_
  refine zIload_n 1 1 17 (by decide +kernel) rfl rfl ?_
  refine pf4_5 27 20 (by decide +kernel) rfl flX4_27 (Sea_0 S0_) ?_
  replace F := F _ rfl
  generalize zU I3 e 5 (p1) = I4 at F ⊢
  refine zAload_n 0 0 21 (by decide +kernel) rfl rfl ?_
  refine zIconst 0 0 22 (by decide +kernel) rfl (by decide) ?_
  refine zIconst 0 0 23 (by decide +kernel) rfl (by decide) ?_
  refine zIconst 0 0 24 (by decide +kernel) rfl (by decide) ?_
  refine zIconst 0 0 25 (by decide +kernel) rfl (by decide) ?_
  refine zCallV 4 zcls4 mX4_tryRich 56 4 0 0 _ _ 28 [.int (0), .int (0), .int (0), .int (0)] [] okX4_tryRich mlX4_56 imX4_tryRich seX4_tryRich (by decide +kernel) rfl rfl (Nat.le_of_ble_eq_true rfl) rfl rfl (Sea_0 S0_) (zC.mono F ?_)
  rintro _ _ ⟨I5, rfl, rfl, F⟩
  change zV G (d + 1) mX4_enrich kc ks 28 [(0, .ref (e)), (1, .int (p1))] [] (I5, J, R, K, n) Q
  exact zVret rfl (by decide +kernel) F
set_option maxHeartbeats 2000000 in
theorem wX4_tryRich_0 {G : zG} {d kc ks : Nat} {I : Nat → Nat → Int32} {J : Nat → Nat → Int64} {R : Nat → Nat → Option Nat} {K : Nat → Nat × Nat} {n : Nat} {Q : Option Value → zH → Prop} (e a s v : Nat) (S0_ : hSea G R K n e a s v) (p1 p2 p3 p4 : Int32) (F : (((I e 2 : Int32) < p4 → (∀ I2 : Nat → Nat → Int32, I2 = zU I e 0 (p2) → (∀ I3 : Nat → Nat → Int32, I3 = zU I2 e 1 (p3) → (∀ I4 : Nat → Nat → Int32, I4 = zU I3 e 2 (p4) → zV G (d + 1) mX4_tryRich kc ks 61 [(0, .ref (e)), (1, .int (p1)), (2, .int (p2)), (3, .int (p3)), (4, .int (p4)), (5, .int (p1))] [] (I4, J, R, K, n) Q)))) ∧ (¬ ((I e 2 : Int32) < p4) → ((p4 = (I e 2 : Int32) → ((p3 < (I e 1 : Int32) → (∀ I7 : Nat → Nat → Int32, I7 = zU I e 0 (p2) → (∀ I8 : Nat → Nat → Int32, I8 = zU I7 e 1 (p3) → (∀ I9 : Nat → Nat → Int32, I9 = zU I8 e 2 (p4) → zV G (d + 1) mX4_tryRich kc ks 61 [(0, .ref (e)), (1, .int (p1)), (2, .int (p2)), (3, .int (p3)), (4, .int (p4)), (5, .int (p1))] [] (I9, J, R, K, n) Q)))) ∧ (¬ (p3 < (I e 1 : Int32)) → ((p3 = (I e 1 : Int32) → (((I e 0 : Int32) ≤ p2 → zV G (d + 1) mX4_tryRich kc ks 61 [(0, .ref (e)), (1, .int (p1)), (2, .int (p2)), (3, .int (p3)), (4, .int (p4)), (5, .int (p1))] [] (I, J, R, K, n) Q) ∧ (¬ ((I e 0 : Int32) ≤ p2) → (∀ I12 : Nat → Nat → Int32, I12 = zU I e 0 (p2) → (∀ I13 : Nat → Nat → Int32, I13 = zU I12 e 1 (p3) → (∀ I14 : Nat → Nat → Int32, I14 = zU I13 e 2 (p4) → zV G (d + 1) mX4_tryRich kc ks 61 [(0, .ref (e)), (1, .int (p1)), (2, .int (p2)), (3, .int (p3)), (4, .int (p4)), (5, .int (p1))] [] (I14, J, R, K, n) Q)))))) ∧ (¬ (p3 = (I e 1 : Int32)) → zV G (d + 1) mX4_tryRich kc ks 61 [(0, .ref (e)), (1, .int (p1)), (2, .int (p2)), (3, .int (p3)), (4, .int (p4)), (5, .int (p1))] [] (I, J, R, K, n) Q))))) ∧ (¬ (p4 = (I e 2 : Int32)) → zV G (d + 1) mX4_tryRich kc ks 61 [(0, .ref (e)), (1, .int (p1)), (2, .int (p2)), (3, .int (p3)), (4, .int (p4)), (5, .int (p1))] [] (I, J, R, K, n) Q))))) : zV G (d + 1) mX4_tryRich kc ks 0 [(0, .ref (e)), (1, .int (p1)), (2, .int (p2)), (3, .int (p3)), (4, .int (p4))] [] (I, J, R, K, n) Q := by
  refine zIload 4 4 2 (by decide +kernel) rfl rfl ?_
  refine zAload_n 0 0 3 (by decide +kernel) rfl rfl ?_
  refine gf4_2 18 6 (by decide +kernel) rfl flX4_18 (Sea_0 S0_) ?_
  refine zIcmp_gt 36 42 9 (by decide +kernel) rfl rfl ⟨fun q1 => ?_, fun q1 => ?_⟩
  · replace F := F.1 q1
    refine zAload_n 0 0 43 (by decide +kernel) rfl rfl ?_
    refine zIload_n 2 2 44 (by decide +kernel) rfl rfl ?_
    refine pf4_0 9 47 (by decide +kernel) rfl flX4_9 (Sea_0 S0_) ?_
    replace F := F _ rfl
    generalize zU I e 0 (p2) = I2 at F ⊢
    refine zAload_n 0 0 48 (by decide +kernel) rfl rfl ?_
    refine zIload_n 3 3 49 (by decide +kernel) rfl rfl ?_
    refine pf4_1 15 52 (by decide +kernel) rfl flX4_15 (Sea_0 S0_) ?_
    replace F := F _ rfl
    generalize zU I2 e 1 (p3) = I3 at F ⊢
    refine zAload_n 0 0 53 (by decide +kernel) rfl rfl ?_
    refine zIload 4 4 55 (by decide +kernel) rfl rfl ?_
    refine pf4_2 18 58 (by decide +kernel) rfl flX4_18 (Sea_0 S0_) ?_
    replace F := F _ rfl
    generalize zU I3 e 2 (p4) = I4 at F ⊢
    refine zIload_n 1 1 59 (by decide +kernel) rfl rfl ?_
    refine zIstore 5 [(5, .int (p1)), (0, .ref (e)), (1, .int (p1)), (2, .int (p2)), (3, .int (p3)), (4, .int (p4))] 61 (by decide +kernel) rfl (by decide) rfl ?_
    exact zLoc [1, 2, 3, 4, 5, 0] _ rfl F
  · replace F := F.2 q1
    refine zIload 4 4 11 (by decide +kernel) rfl rfl ?_
    refine zAload_n 0 0 12 (by decide +kernel) rfl rfl ?_
    refine gf4_2 18 15 (by decide +kernel) rfl flX4_18 (Sea_0 S0_) ?_
    refine zIcmp_ne 43 58 18 (by decide +kernel) rfl rfl ⟨fun q5 => ?_, fun q5 => ?_⟩
    · replace F := F.2 q5
      refine zIload_n 1 1 59 (by decide +kernel) rfl rfl ?_
      refine zIstore 5 [(5, .int (p1)), (0, .ref (e)), (1, .int (p1)), (2, .int (p2)), (3, .int (p3)), (4, .int (p4))] 61 (by decide +kernel) rfl (by decide) rfl ?_
      exact zLoc [1, 2, 3, 4, 5, 0] _ rfl F
    · replace F := F.1 q5
      refine zIload_n 3 3 19 (by decide +kernel) rfl rfl ?_
      refine zAload_n 0 0 20 (by decide +kernel) rfl rfl ?_
      refine gf4_1 15 23 (by decide +kernel) rfl flX4_15 (Sea_0 S0_) ?_
      refine zIcmp_lt 19 42 26 (by decide +kernel) rfl rfl ⟨fun q6 => ?_, fun q6 => ?_⟩
      · replace F := F.1 q6
        refine zAload_n 0 0 43 (by decide +kernel) rfl rfl ?_
        refine zIload_n 2 2 44 (by decide +kernel) rfl rfl ?_
        refine pf4_0 9 47 (by decide +kernel) rfl flX4_9 (Sea_0 S0_) ?_
        replace F := F _ rfl
        generalize zU I e 0 (p2) = I7 at F ⊢
        refine zAload_n 0 0 48 (by decide +kernel) rfl rfl ?_
        refine zIload_n 3 3 49 (by decide +kernel) rfl rfl ?_
        refine pf4_1 15 52 (by decide +kernel) rfl flX4_15 (Sea_0 S0_) ?_
        replace F := F _ rfl
        generalize zU I7 e 1 (p3) = I8 at F ⊢
        refine zAload_n 0 0 53 (by decide +kernel) rfl rfl ?_
        refine zIload 4 4 55 (by decide +kernel) rfl rfl ?_
        refine pf4_2 18 58 (by decide +kernel) rfl flX4_18 (Sea_0 S0_) ?_
        replace F := F _ rfl
        generalize zU I8 e 2 (p4) = I9 at F ⊢
        refine zIload_n 1 1 59 (by decide +kernel) rfl rfl ?_
        refine zIstore 5 [(5, .int (p1)), (0, .ref (e)), (1, .int (p1)), (2, .int (p2)), (3, .int (p3)), (4, .int (p4))] 61 (by decide +kernel) rfl (by decide) rfl ?_
        exact zLoc [1, 2, 3, 4, 5, 0] _ rfl F
      · replace F := F.2 q6
        refine zIload_n 3 3 27 (by decide +kernel) rfl rfl ?_
        refine zAload_n 0 0 28 (by decide +kernel) rfl rfl ?_
        refine gf4_1 15 31 (by decide +kernel) rfl flX4_15 (Sea_0 S0_) ?_
        refine zIcmp_ne 27 58 34 (by decide +kernel) rfl rfl ⟨fun q10 => ?_, fun q10 => ?_⟩
        · replace F := F.2 q10
          refine zIload_n 1 1 59 (by decide +kernel) rfl rfl ?_
          refine zIstore 5 [(5, .int (p1)), (0, .ref (e)), (1, .int (p1)), (2, .int (p2)), (3, .int (p3)), (4, .int (p4))] 61 (by decide +kernel) rfl (by decide) rfl ?_
          exact zLoc [1, 2, 3, 4, 5, 0] _ rfl F
        · replace F := F.1 q10
          refine zIload_n 2 2 35 (by decide +kernel) rfl rfl ?_
          refine zAload_n 0 0 36 (by decide +kernel) rfl rfl ?_
          refine gf4_0 9 39 (by decide +kernel) rfl flX4_9 (Sea_0 S0_) ?_
          refine zIcmp_ge 19 58 42 (by decide +kernel) rfl rfl ⟨fun q11 => ?_, fun q11 => ?_⟩
          · replace F := F.1 q11
            refine zIload_n 1 1 59 (by decide +kernel) rfl rfl ?_
            refine zIstore 5 [(5, .int (p1)), (0, .ref (e)), (1, .int (p1)), (2, .int (p2)), (3, .int (p3)), (4, .int (p4))] 61 (by decide +kernel) rfl (by decide) rfl ?_
            exact zLoc [1, 2, 3, 4, 5, 0] _ rfl F
          · replace F := F.2 q11
            refine zAload_n 0 0 43 (by decide +kernel) rfl rfl ?_
            refine zIload_n 2 2 44 (by decide +kernel) rfl rfl ?_
            refine pf4_0 9 47 (by decide +kernel) rfl flX4_9 (Sea_0 S0_) ?_
            replace F := F _ rfl
            generalize zU I e 0 (p2) = I12 at F ⊢
            refine zAload_n 0 0 48 (by decide +kernel) rfl rfl ?_
            refine zIload_n 3 3 49 (by decide +kernel) rfl rfl ?_
            refine pf4_1 15 52 (by decide +kernel) rfl flX4_15 (Sea_0 S0_) ?_
            replace F := F _ rfl
            generalize zU I12 e 1 (p3) = I13 at F ⊢
            refine zAload_n 0 0 53 (by decide +kernel) rfl rfl ?_
            refine zIload 4 4 55 (by decide +kernel) rfl rfl ?_
            refine pf4_2 18 58 (by decide +kernel) rfl flX4_18 (Sea_0 S0_) ?_
            replace F := F _ rfl
            generalize zU I13 e 2 (p4) = I14 at F ⊢
            refine zIload_n 1 1 59 (by decide +kernel) rfl rfl ?_
            refine zIstore 5 [(5, .int (p1)), (0, .ref (e)), (1, .int (p1)), (2, .int (p2)), (3, .int (p3)), (4, .int (p4))] 61 (by decide +kernel) rfl (by decide) rfl ?_
            exact zLoc [1, 2, 3, 4, 5, 0] _ rfl F
set_option maxHeartbeats 2000000 in
theorem wX4_tryRich_61 {G : zG} {d kc ks : Nat} {I : Nat → Nat → Int32} {J : Nat → Nat → Int64} {R : Nat → Nat → Option Nat} {K : Nat → Nat × Nat} {n : Nat} {Q : Option Value → zH → Prop} (e a s v : Nat) (S0_ : hSea G R K n e a s v) (l1 l2 l3 l4 l5 : Int32) (F : ((9 ≤ l5 → Q none (I, J, R, K, n)) ∧ (¬ (9 ≤ l5) → (((I e 5 : Int32) ≤ l3 → Q none (I, J, R, K, n)) ∧ (¬ ((I e 5 : Int32) ≤ l3) → zC G d mX8_isOpen 0 0 [.ref (a), .int (l5)] (I, J, R, K, n) (fun r h => ∃ (x17 : Int32) (I18 : Nat → Nat → Int32), r = some (.int x17) ∧ h = (I18, J, R, K, n) ∧ ((x17 = 0 → zV G (d + 1) mX4_tryRich kc ks 61 [(0, .ref (e)), (1, .int (l1)), (2, .int (l2)), (3, .int (l3)), (4, .int (l4)), (5, .int (l5 + 1))] [] (I18, J, R, K, n) Q) ∧ (¬ (x17 = 0) → zC G d mX8_paintOff 0 0 [.ref (a), .int (l5)] (I18, J, R, K, n) (fun r h => ∃ (x20 : Int32) (I21 : Nat → Nat → Int32), r = some (.int x20) ∧ h = (I21, J, R, K, n) ∧ zC G d mX4_tryRich 0 0 [.ref (e), .int (l5 + 1), .int (l2 ||| ((1 : Int32) <<< (l5 &&& 31))), .int (l3 + 1), .int (l4 + x20)] (I21, J, R, K, n) (fun r h => ∃ (I22 : Nat → Nat → Int32), r = none ∧ h = (I22, J, R, K, n) ∧ zC G d mX8_scrapeOff 0 0 [.ref (a), .int (l5), .int (x20)] (I22, J, R, K, n) (fun r h => ∃ (I23 : Nat → Nat → Int32), r = none ∧ h = (I23, J, R, K, n) ∧ zV G (d + 1) mX4_tryRich kc ks 61 [(0, .ref (e)), (1, .int (l1)), (2, .int (l2)), (3, .int (l3)), (4, .int (l4)), (5, .int (l5 + 1))] [] (I23, J, R, K, n) Q))))))))))) : zV G (d + 1) mX4_tryRich kc ks 61 [(0, .ref (e)), (1, .int (l1)), (2, .int (l2)), (3, .int (l3)), (4, .int (l4)), (5, .int (l5))] [] (I, J, R, K, n) Q := by
  refine zIload 5 5 63 (by decide +kernel) rfl rfl ?_
  refine zBipush 9 9 65 (by decide +kernel) rfl (by decide) ?_
  refine zIcmp_ge 73 138 68 (by decide +kernel) rfl rfl ⟨fun q15 => ?_, fun q15 => ?_⟩
  · replace F := F.1 q15
    exact zVret rfl (by decide +kernel) F
  · replace F := F.2 q15
    refine zIload_n 3 3 69 (by decide +kernel) rfl rfl ?_
    refine zAload_n 0 0 70 (by decide +kernel) rfl rfl ?_
    refine gf4_5 27 73 (by decide +kernel) rfl flX4_27 (Sea_0 S0_) ?_
    refine zIcmp_ge 65 138 76 (by decide +kernel) rfl rfl ⟨fun q16 => ?_, fun q16 => ?_⟩
    · replace F := F.1 q16
      exact zVret rfl (by decide +kernel) F
    · replace F := F.2 q16
      refine zAload_n 0 0 77 (by decide +kernel) rfl rfl ?_
      refine gf4_6 34 80 (by decide +kernel) rfl flX4_34 (Sea_0 S0_) (Sea_1 S0_) ?_
      refine zIload 5 5 82 (by decide +kernel) rfl rfl ?_
      refine zCallV 8 zcls8 mX8_isOpen 60 1 0 0 _ _ 85 [.int (l5)] [] okX8_isOpen mlX4_60 imX8_isOpen seX8_isOpen (by decide +kernel) rfl rfl (Nat.le_of_ble_eq_true rfl) rfl rfl (St_0 (Sea_2 S0_)) (zC.mono F ?_)
      rintro _ _ ⟨x17, I18, rfl, rfl, F⟩
      change zV G (d + 1) mX4_tryRich kc ks 85 [(0, .ref (e)), (1, .int (l1)), (2, .int (l2)), (3, .int (l3)), (4, .int (l4)), (5, .int (l5))] [.int (x17)] (I18, J, R, K, n) Q
      refine zIf_eq 47 132 88 (by decide +kernel) rfl rfl ⟨fun q19 => ?_, fun q19 => ?_⟩
      · replace F := F.1 q19
        refine zIinc 5 1 5 (l5 + 1) [(5, .int (l5 + 1)), (0, .ref (e)), (1, .int (l1)), (2, .int (l2)), (3, .int (l3)), (4, .int (l4))] 135 (by decide +kernel) rfl rfl (by rfl) (by decide) rfl ?_
        refine zGoto (-74) 61 (by decide +kernel) rfl ?_
        exact zLoc [1, 2, 3, 4, 5, 0] _ rfl F
      · replace F := F.2 q19
        refine zAload_n 0 0 89 (by decide +kernel) rfl rfl ?_
        refine gf4_6 34 92 (by decide +kernel) rfl flX4_34 (Sea_0 S0_) (Sea_1 S0_) ?_
        refine zIload 5 5 94 (by decide +kernel) rfl rfl ?_
        refine zCallV 8 zcls8 mX8_paintOff 48 1 0 0 _ _ 97 [.int (l5)] [] okX8_paintOff mlX4_48 imX8_paintOff seX8_paintOff (by decide +kernel) rfl rfl (Nat.le_of_ble_eq_true rfl) rfl rfl (St_0 (Sea_2 S0_)) (zC.mono F ?_)
        rintro _ _ ⟨x20, I21, rfl, rfl, F⟩
        change zV G (d + 1) mX4_tryRich kc ks 97 [(0, .ref (e)), (1, .int (l1)), (2, .int (l2)), (3, .int (l3)), (4, .int (l4)), (5, .int (l5))] [.int (x20)] (I21, J, R, K, n) Q
        refine zIstore 6 [(6, .int (x20)), (0, .ref (e)), (1, .int (l1)), (2, .int (l2)), (3, .int (l3)), (4, .int (l4)), (5, .int (l5))] 99 (by decide +kernel) rfl (by decide) rfl ?_
        refine zAload_n 0 1 100 (by decide +kernel) rfl rfl ?_
        refine zIload 5 6 102 (by decide +kernel) rfl rfl ?_
        refine zIconst 1 1 103 (by decide +kernel) rfl (by decide) ?_
        refine zIadd 104 (by decide +kernel) rfl ?_
        refine zIload_n 2 3 105 (by decide +kernel) rfl rfl ?_
        refine zIconst 1 1 106 (by decide +kernel) rfl (by decide) ?_
        refine zIload 5 6 108 (by decide +kernel) rfl rfl ?_
        refine zIshl 109 (by decide +kernel) rfl ?_
        refine zIor 110 (by decide +kernel) rfl ?_
        refine zIload_n 3 4 111 (by decide +kernel) rfl rfl ?_
        refine zIconst 1 1 112 (by decide +kernel) rfl (by decide) ?_
        refine zIadd 113 (by decide +kernel) rfl ?_
        refine zIload 4 5 115 (by decide +kernel) rfl rfl ?_
        refine zIload 6 0 117 (by decide +kernel) rfl rfl ?_
        refine zIadd 118 (by decide +kernel) rfl ?_
        refine zCallV 4 zcls4 mX4_tryRich 56 4 0 0 _ _ 121 [.int (l5 + 1), .int (l2 ||| ((1 : Int32) <<< (l5 &&& 31))), .int (l3 + 1), .int (l4 + x20)] [] okX4_tryRich mlX4_56 imX4_tryRich seX4_tryRich (by decide +kernel) rfl rfl (Nat.le_of_ble_eq_true rfl) rfl rfl (Sea_0 S0_) (zC.mono F ?_)
        rintro _ _ ⟨I22, rfl, rfl, F⟩
        change zV G (d + 1) mX4_tryRich kc ks 121 [(6, .int (x20)), (0, .ref (e)), (1, .int (l1)), (2, .int (l2)), (3, .int (l3)), (4, .int (l4)), (5, .int (l5))] [] (I22, J, R, K, n) Q
        refine zAload_n 0 1 122 (by decide +kernel) rfl rfl ?_
        refine gf4_6 34 125 (by decide +kernel) rfl flX4_34 (Sea_0 S0_) (Sea_1 S0_) ?_
        refine zIload 5 6 127 (by decide +kernel) rfl rfl ?_
        refine zIload 6 0 129 (by decide +kernel) rfl rfl ?_
        refine zCallV 8 zcls8 mX8_scrapeOff 52 2 0 0 _ _ 132 [.int (l5), .int (x20)] [] okX8_scrapeOff mlX4_52 imX8_scrapeOff seX8_scrapeOff (by decide +kernel) rfl rfl (Nat.le_of_ble_eq_true rfl) rfl rfl (St_0 (Sea_2 S0_)) (zC.mono F ?_)
        rintro _ _ ⟨I23, rfl, rfl, F⟩
        change zV G (d + 1) mX4_tryRich kc ks 132 [(6, .int (x20)), (0, .ref (e)), (1, .int (l1)), (2, .int (l2)), (3, .int (l3)), (4, .int (l4)), (5, .int (l5))] [] (I23, J, R, K, n) Q
        refine zIinc 5 1 6 (l5 + 1) [(5, .int (l5 + 1)), (6, .int (x20)), (0, .ref (e)), (1, .int (l1)), (2, .int (l2)), (3, .int (l3)), (4, .int (l4))] 135 (by decide +kernel) rfl rfl (by rfl) (by decide) rfl ?_
        refine zGoto (-74) 61 (by decide +kernel) rfl ?_
        exact zLoc [2, 3, 4, 5, 6, 0] _ rfl F
set_option maxHeartbeats 2000000 in
theorem wX4_pairUp_0 {G : zG} {d kc ks : Nat} {I : Nat → Nat → Int32} {J : Nat → Nat → Int64} {R : Nat → Nat → Option Nat} {K : Nat → Nat × Nat} {n : Nat} {Q : Option Value → zH → Prop} (e a s v : Nat) (S0_ : hSea G R K n e a s v) (F : zV G (d + 1) mX4_pairUp kc ks 2 [(0, .ref (e)), (1, .int (0))] [] (I, J, R, K, n) Q) : zV G (d + 1) mX4_pairUp kc ks 0 [(0, .ref (e))] [] (I, J, R, K, n) Q := by
  refine zIconst 0 0 1 (by decide +kernel) rfl (by decide) ?_
  refine zIstore_n 1 [(1, .int (0)), (0, .ref (e))] 2 (by decide +kernel) rfl (by decide) rfl ?_
  exact zLoc [1, 0] _ rfl F
set_option maxHeartbeats 2000000 in
theorem wX4_pairUp_2 {G : zG} {d kc ks : Nat} {I : Nat → Nat → Int32} {J : Nat → Nat → Int64} {R : Nat → Nat → Option Nat} {K : Nat → Nat × Nat} {n : Nat} {Q : Option Value → zH → Prop} (e a s v : Nat) (S0_ : hSea G R K n e a s v) (l1 : Int32) (F : ((9 ≤ l1 → (∀ I2 : Nat → Nat → Int32, I2 = zU I e 0 ((-1)) → (∀ I3 : Nat → Nat → Int32, I3 = zU I2 e 2 ((-1)) → zC G d mX4_tryPairs 0 0 [.ref (e), .int (0), .int (0), .int (0), .int (0)] (I3, J, R, K, n) (fun r h => ∃ (I4 : Nat → Nat → Int32), r = none ∧ h = (I4, J, R, K, n) ∧ Q none (I4, J, R, K, n))))) ∧ (¬ (9 ≤ l1) → zC G d mX8_isOpen 0 0 [.ref (a), .int (l1)] (I, J, R, K, n) (fun r h => ∃ (x5 : Int32) (I6 : Nat → Nat → Int32), r = some (.int x5) ∧ h = (I6, J, R, K, n) ∧ ((x5 = 0 → (vp_in l1 9 ∧ ∀ I8 : Nat → Nat → Int32, I8 = zU I6 (e + 1) l1.toNatClampNeg (0) → zV G (d + 1) mX4_pairUp kc ks 2 [(0, .ref (e)), (1, .int (l1 + 1))] [] (I8, J, R, K, n) Q)) ∧ (¬ (x5 = 0) → zC G d mX8_yardsOf 0 0 [.ref (a), .int (l1)] (I6, J, R, K, n) (fun r h => ∃ (x9 : Int32) (I10 : Nat → Nat → Int32), r = some (.int x9) ∧ h = (I10, J, R, K, n) ∧ (vp_in l1 9 ∧ ∀ I11 : Nat → Nat → Int32, I11 = zU I10 (e + 1) l1.toNatClampNeg (x9) → zV G (d + 1) mX4_pairUp kc ks 2 [(0, .ref (e)), (1, .int (l1 + 1))] [] (I11, J, R, K, n) Q)))))))) : zV G (d + 1) mX4_pairUp kc ks 2 [(0, .ref (e)), (1, .int (l1))] [] (I, J, R, K, n) Q := by
  refine zIload_n 1 1 3 (by decide +kernel) rfl rfl ?_
  refine zBipush 9 9 5 (by decide +kernel) rfl (by decide) ?_
  refine zIcmp_ge 38 43 8 (by decide +kernel) rfl rfl ⟨fun q1 => ?_, fun q1 => ?_⟩
  · replace F := F.1 q1
    refine zAload_n 0 0 44 (by decide +kernel) rfl rfl ?_
    refine zIconst (-1) (-1) 45 (by decide +kernel) rfl (by decide) ?_
    refine pf4_0 9 48 (by decide +kernel) rfl flX4_9 (Sea_0 S0_) ?_
    replace F := F _ rfl
    generalize zU I e 0 ((-1)) = I2 at F ⊢
    refine zAload_n 0 0 49 (by decide +kernel) rfl rfl ?_
    refine zIconst (-1) (-1) 50 (by decide +kernel) rfl (by decide) ?_
    refine pf4_2 18 53 (by decide +kernel) rfl flX4_18 (Sea_0 S0_) ?_
    replace F := F _ rfl
    generalize zU I2 e 2 ((-1)) = I3 at F ⊢
    refine zAload_n 0 0 54 (by decide +kernel) rfl rfl ?_
    refine zIconst 0 0 55 (by decide +kernel) rfl (by decide) ?_
    refine zIconst 0 0 56 (by decide +kernel) rfl (by decide) ?_
    refine zIconst 0 0 57 (by decide +kernel) rfl (by decide) ?_
    refine zIconst 0 0 58 (by decide +kernel) rfl (by decide) ?_
    refine zCallV 4 zcls4 mX4_tryPairs 67 4 0 0 _ _ 61 [.int (0), .int (0), .int (0), .int (0)] [] okX4_tryPairs mlX4_67 imX4_tryPairs seX4_tryPairs (by decide +kernel) rfl rfl (Nat.le_of_ble_eq_true rfl) rfl rfl (Sea_0 S0_) (zC.mono F ?_)
    rintro _ _ ⟨I4, rfl, rfl, F⟩
    change zV G (d + 1) mX4_pairUp kc ks 61 [(0, .ref (e)), (1, .int (l1))] [] (I4, J, R, K, n) Q
    exact zVret rfl (by decide +kernel) F
  · replace F := F.2 q1
    refine zAload_n 0 0 9 (by decide +kernel) rfl rfl ?_
    refine gf4_7 30 12 (by decide +kernel) rfl flX4_30 (Sea_0 S0_) (Sea_3 S0_) ?_
    refine zIload_n 1 1 13 (by decide +kernel) rfl rfl ?_
    refine zAload_n 0 0 14 (by decide +kernel) rfl rfl ?_
    refine gf4_6 34 17 (by decide +kernel) rfl flX4_34 (Sea_0 S0_) (Sea_1 S0_) ?_
    refine zIload_n 1 1 18 (by decide +kernel) rfl rfl ?_
    refine zCallV 8 zcls8 mX8_isOpen 60 1 0 0 _ _ 21 [.int (l1)] [.int (l1), .ref (e + 1)] okX8_isOpen mlX4_60 imX8_isOpen seX8_isOpen (by decide +kernel) rfl rfl (Nat.le_of_ble_eq_true rfl) rfl rfl (St_0 (Sea_2 S0_)) (zC.mono F ?_)
    rintro _ _ ⟨x5, I6, rfl, rfl, F⟩
    change zV G (d + 1) mX4_pairUp kc ks 21 [(0, .ref (e)), (1, .int (l1))] [.int (x5), .int (l1), .ref (e + 1)] (I6, J, R, K, n) Q
    refine zIf_eq 14 35 24 (by decide +kernel) rfl rfl ⟨fun q7 => ?_, fun q7 => ?_⟩
    · replace F := F.1 q7
      refine zIconst 0 0 36 (by decide +kernel) rfl (by decide) ?_
      refine yIastore 9 37 (by decide +kernel) rfl (Sea_4 S0_) F.1 ?_
      replace F := F.2 _ rfl
      generalize zU I6 (e + 1) l1.toNatClampNeg (0) = I8 at F ⊢
      refine zIinc 1 1 1 (l1 + 1) [(1, .int (l1 + 1)), (0, .ref (e))] 40 (by decide +kernel) rfl rfl (by rfl) (by decide) rfl ?_
      refine zGoto (-38) 2 (by decide +kernel) rfl ?_
      exact zLoc [1, 0] _ rfl F
    · replace F := F.2 q7
      refine zAload_n 0 0 25 (by decide +kernel) rfl rfl ?_
      refine gf4_6 34 28 (by decide +kernel) rfl flX4_34 (Sea_0 S0_) (Sea_1 S0_) ?_
      refine zIload_n 1 1 29 (by decide +kernel) rfl rfl ?_
      refine zCallV 8 zcls8 mX8_yardsOf 64 1 0 0 _ _ 32 [.int (l1)] [.int (l1), .ref (e + 1)] okX8_yardsOf mlX4_64 imX8_yardsOf seX8_yardsOf (by decide +kernel) rfl rfl (Nat.le_of_ble_eq_true rfl) rfl rfl (St_0 (Sea_2 S0_)) (zC.mono F ?_)
      rintro _ _ ⟨x9, I10, rfl, rfl, F⟩
      change zV G (d + 1) mX4_pairUp kc ks 32 [(0, .ref (e)), (1, .int (l1))] [.int (x9), .int (l1), .ref (e + 1)] (I10, J, R, K, n) Q
      refine zGoto 4 36 (by decide +kernel) rfl ?_
      refine yIastore 9 37 (by decide +kernel) rfl (Sea_4 S0_) F.1 ?_
      replace F := F.2 _ rfl
      generalize zU I10 (e + 1) l1.toNatClampNeg (x9) = I11 at F ⊢
      refine zIinc 1 1 1 (l1 + 1) [(1, .int (l1 + 1)), (0, .ref (e))] 40 (by decide +kernel) rfl rfl (by rfl) (by decide) rfl ?_
      refine zGoto (-38) 2 (by decide +kernel) rfl ?_
      exact zLoc [1, 0] _ rfl F
set_option maxHeartbeats 2000000 in
theorem wX4_tryPairs_0 {G : zG} {d kc ks : Nat} {I : Nat → Nat → Int32} {J : Nat → Nat → Int64} {R : Nat → Nat → Option Nat} {K : Nat → Nat × Nat} {n : Nat} {Q : Option Value → zH → Prop} (e a s v : Nat) (S0_ : hSea G R K n e a s v) (p1 p2 p3 p4 : Int32) (F : ((p1 < (I v 5 : Int32) → zC G d mX8_doneTo 0 0 [.ref (a), .int (p1)] (I, J, R, K, n) (fun r h => ∃ (x2 : Int32) (I3 : Nat → Nat → Int32), r = some (.int x2) ∧ h = (I3, J, R, K, n) ∧ zV G (d + 1) mX4_tryPairs kc ks 51 [(0, .ref (e)), (1, .int (p1)), (2, .int (p2)), (3, .int (p3)), (4, .int (p4)), (5, .int (x2)), (6, .int (0))] [] (I3, J, R, K, n) Q)) ∧ (¬ (p1 < (I v 5 : Int32)) → ((p4 ≤ (I e 2 : Int32) → Q none (I, J, R, K, n)) ∧ (¬ (p4 ≤ (I e 2 : Int32)) → (∀ I5 : Nat → Nat → Int32, I5 = zU I e 0 (p2) → (∀ I6 : Nat → Nat → Int32, I6 = zU I5 e 2 (p4) → Q none (I6, J, R, K, n)))))))) : zV G (d + 1) mX4_tryPairs kc ks 0 [(0, .ref (e)), (1, .int (p1)), (2, .int (p2)), (3, .int (p3)), (4, .int (p4))] [] (I, J, R, K, n) Q := by
  refine zIload_n 1 1 1 (by decide +kernel) rfl rfl ?_
  refine zAload_n 0 0 2 (by decide +kernel) rfl rfl ?_
  refine gf4_6 34 5 (by decide +kernel) rfl flX4_34 (Sea_0 S0_) (Sea_1 S0_) ?_
  refine gfN8_12 70 8 (by decide +kernel) rfl (by decide +kernel) (St_0 (Sea_2 S0_)) (St_13 (Sea_2 S0_)) ?_
  refine gf5_0 74 11 (by decide +kernel) rfl flX4_74 (Set_0 (St_14 (Sea_2 S0_))) (Set_1 (St_14 (Sea_2 S0_))) ?_
  refine gf10_5 80 14 (by decide +kernel) rfl flX4_80 (Vil_0 (Set_2 (St_14 (Sea_2 S0_)))) ?_
  refine zIcmp_lt 24 38 17 (by decide +kernel) rfl rfl ⟨fun q1 => ?_, fun q1 => ?_⟩
  · replace F := F.1 q1
    refine zAload_n 0 0 39 (by decide +kernel) rfl rfl ?_
    refine gf4_6 34 42 (by decide +kernel) rfl flX4_34 (Sea_0 S0_) (Sea_1 S0_) ?_
    refine zIload_n 1 1 43 (by decide +kernel) rfl rfl ?_
    refine zCallV 8 zcls8 mX8_doneTo 85 1 0 0 _ _ 46 [.int (p1)] [] okX8_doneTo mlX4_85 imX8_doneTo seX8_doneTo (by decide +kernel) rfl rfl (Nat.le_of_ble_eq_true rfl) rfl rfl (St_0 (Sea_2 S0_)) (zC.mono F ?_)
    rintro _ _ ⟨x2, I3, rfl, rfl, F⟩
    change zV G (d + 1) mX4_tryPairs kc ks 46 [(0, .ref (e)), (1, .int (p1)), (2, .int (p2)), (3, .int (p3)), (4, .int (p4))] [.int (x2)] (I3, J, R, K, n) Q
    refine zIstore 5 [(5, .int (x2)), (0, .ref (e)), (1, .int (p1)), (2, .int (p2)), (3, .int (p3)), (4, .int (p4))] 48 (by decide +kernel) rfl (by decide) rfl ?_
    refine zIconst 0 0 49 (by decide +kernel) rfl (by decide) ?_
    refine zIstore 6 [(6, .int (0)), (5, .int (x2)), (0, .ref (e)), (1, .int (p1)), (2, .int (p2)), (3, .int (p3)), (4, .int (p4))] 51 (by decide +kernel) rfl (by decide) rfl ?_
    exact zLoc [2, 3, 4, 5, 6, 1, 0] _ rfl F
  · replace F := F.2 q1
    refine zIload 4 4 19 (by decide +kernel) rfl rfl ?_
    refine zAload_n 0 0 20 (by decide +kernel) rfl rfl ?_
    refine gf4_2 18 23 (by decide +kernel) rfl flX4_18 (Sea_0 S0_) ?_
    refine zIcmp_le 14 37 26 (by decide +kernel) rfl rfl ⟨fun q4 => ?_, fun q4 => ?_⟩
    · replace F := F.1 q4
      exact zVret rfl (by decide +kernel) F
    · replace F := F.2 q4
      refine zAload_n 0 0 27 (by decide +kernel) rfl rfl ?_
      refine zIload_n 2 2 28 (by decide +kernel) rfl rfl ?_
      refine pf4_0 9 31 (by decide +kernel) rfl flX4_9 (Sea_0 S0_) ?_
      replace F := F _ rfl
      generalize zU I e 0 (p2) = I5 at F ⊢
      refine zAload_n 0 0 32 (by decide +kernel) rfl rfl ?_
      refine zIload 4 4 34 (by decide +kernel) rfl rfl ?_
      refine pf4_2 18 37 (by decide +kernel) rfl flX4_18 (Sea_0 S0_) ?_
      replace F := F _ rfl
      generalize zU I5 e 2 (p4) = I6 at F ⊢
      exact zVret rfl (by decide +kernel) F
set_option maxHeartbeats 2000000 in
theorem wX4_tryPairs_51 {G : zG} {d kc ks : Nat} {I : Nat → Nat → Int32} {J : Nat → Nat → Int64} {R : Nat → Nat → Option Nat} {K : Nat → Nat × Nat} {n : Nat} {Q : Option Value → zH → Prop} (e a s v : Nat) (S0_ : hSea G R K n e a s v) (l1 l2 l3 l4 l5 l6 : Int32) (F : ((9 ≤ l6 → zC G d mX4_tryPairs 0 0 [.ref (e), .int (l1 + 1), .int ((10 * l2) + 9), .int (l3), .int (l4)] (I, J, R, K, n) (fun r h => ∃ (I8 : Nat → Nat → Int32), r = none ∧ h = (I8, J, R, K, n) ∧ Q none (I8, J, R, K, n))) ∧ (¬ (9 ≤ l6) → ((vp_in l6 9) ∧ ((((l5 >>> (l6 &&& 31)) &&& 1 : Int32) = 1 → (((l3 &&& ((1 : Int32) <<< ((I (a + 1) l6.toNatClampNeg : Int32) &&& 31)) : Int32) = 0 → ((vp_in l6 9) ∧ zC G d mX4_tryPairs 0 0 [.ref (e), .int (l1 + 1), .int ((10 * l2) + l6), .int (l3 ||| ((1 : Int32) <<< ((I (a + 1) l6.toNatClampNeg : Int32) &&& 31))), .int (l4 + (I (e + 1) l6.toNatClampNeg))] (I, J, R, K, n) (fun r h => ∃ (I13 : Nat → Nat → Int32), r = none ∧ h = (I13, J, R, K, n) ∧ zV G (d + 1) mX4_tryPairs kc ks 51 [(0, .ref (e)), (1, .int (l1)), (2, .int (l2)), (3, .int (l3)), (4, .int (l4)), (5, .int (l5)), (6, .int (l6 + 1))] [] (I13, J, R, K, n) Q))) ∧ (¬ ((l3 &&& ((1 : Int32) <<< ((I (a + 1) l6.toNatClampNeg : Int32) &&& 31)) : Int32) = 0) → zV G (d + 1) mX4_tryPairs kc ks 51 [(0, .ref (e)), (1, .int (l1)), (2, .int (l2)), (3, .int (l3)), (4, .int (l4)), (5, .int (l5)), (6, .int (l6 + 1))] [] (I, J, R, K, n) Q))) ∧ (¬ (((l5 >>> (l6 &&& 31)) &&& 1 : Int32) = 1) → zV G (d + 1) mX4_tryPairs kc ks 51 [(0, .ref (e)), (1, .int (l1)), (2, .int (l2)), (3, .int (l3)), (4, .int (l4)), (5, .int (l5)), (6, .int (l6 + 1))] [] (I, J, R, K, n) Q)))))) : zV G (d + 1) mX4_tryPairs kc ks 51 [(0, .ref (e)), (1, .int (l1)), (2, .int (l2)), (3, .int (l3)), (4, .int (l4)), (5, .int (l5)), (6, .int (l6))] [] (I, J, R, K, n) Q := by
  refine zIload 6 6 53 (by decide +kernel) rfl rfl ?_
  refine zBipush 9 9 55 (by decide +kernel) rfl (by decide) ?_
  refine zIcmp_ge 69 124 58 (by decide +kernel) rfl rfl ⟨fun q7 => ?_, fun q7 => ?_⟩
  · replace F := F.1 q7
    refine zAload_n 0 0 125 (by decide +kernel) rfl rfl ?_
    refine zIload_n 1 1 126 (by decide +kernel) rfl rfl ?_
    refine zIconst 1 1 127 (by decide +kernel) rfl (by decide) ?_
    refine zIadd 128 (by decide +kernel) rfl ?_
    refine zBipush 10 10 130 (by decide +kernel) rfl (by decide) ?_
    refine zIload_n 2 2 131 (by decide +kernel) rfl rfl ?_
    refine zImul 132 (by decide +kernel) rfl ?_
    refine zBipush 9 9 134 (by decide +kernel) rfl (by decide) ?_
    refine zIadd 135 (by decide +kernel) rfl ?_
    refine zIload_n 3 3 136 (by decide +kernel) rfl rfl ?_
    refine zIload 4 4 138 (by decide +kernel) rfl rfl ?_
    refine zCallV 4 zcls4 mX4_tryPairs 67 4 0 0 _ _ 141 [.int (l1 + 1), .int ((10 * l2) + 9), .int (l3), .int (l4)] [] okX4_tryPairs mlX4_67 imX4_tryPairs seX4_tryPairs (by decide +kernel) rfl rfl (Nat.le_of_ble_eq_true rfl) rfl rfl (Sea_0 S0_) (zC.mono F ?_)
    rintro _ _ ⟨I8, rfl, rfl, F⟩
    change zV G (d + 1) mX4_tryPairs kc ks 141 [(0, .ref (e)), (1, .int (l1)), (2, .int (l2)), (3, .int (l3)), (4, .int (l4)), (5, .int (l5)), (6, .int (l6))] [] (I8, J, R, K, n) Q
    exact zVret rfl (by decide +kernel) F
  · replace F := F.2 q7
    refine zIconst 1 1 59 (by decide +kernel) rfl (by decide) ?_
    refine zAload_n 0 0 60 (by decide +kernel) rfl rfl ?_
    refine gf4_6 34 63 (by decide +kernel) rfl flX4_34 (Sea_0 S0_) (Sea_1 S0_) ?_
    refine gf8_0 88 66 (by decide +kernel) rfl flX4_88 (St_0 (Sea_2 S0_)) (St_1 (Sea_2 S0_)) ?_
    refine zIload 6 6 68 (by decide +kernel) rfl rfl ?_
    obtain ⟨w9, F⟩ := F
    refine yIaload 9 69 (by decide +kernel) rfl (St_2 (Sea_2 S0_)) (w9) ?_
    refine zIshl 70 (by decide +kernel) rfl ?_
    refine zIstore 7 [(7, .int ((1 : Int32) <<< ((I (a + 1) l6.toNatClampNeg : Int32) &&& 31))), (0, .ref (e)), (1, .int (l1)), (2, .int (l2)), (3, .int (l3)), (4, .int (l4)), (5, .int (l5)), (6, .int (l6))] 72 (by decide +kernel) rfl (by decide) rfl ?_
    refine zIload 5 6 74 (by decide +kernel) rfl rfl ?_
    refine zIload 6 7 76 (by decide +kernel) rfl rfl ?_
    refine zIshr 77 (by decide +kernel) rfl ?_
    refine zIconst 1 1 78 (by decide +kernel) rfl (by decide) ?_
    refine zIand 79 (by decide +kernel) rfl ?_
    refine zIconst 1 1 80 (by decide +kernel) rfl (by decide) ?_
    refine zIcmp_ne 38 118 83 (by decide +kernel) rfl rfl ⟨fun q10 => ?_, fun q10 => ?_⟩
    · replace F := F.2 q10
      refine zIinc 6 1 7 (l6 + 1) [(6, .int (l6 + 1)), (7, .int ((1 : Int32) <<< ((I (a + 1) l6.toNatClampNeg : Int32) &&& 31))), (0, .ref (e)), (1, .int (l1)), (2, .int (l2)), (3, .int (l3)), (4, .int (l4)), (5, .int (l5))] 121 (by decide +kernel) rfl rfl (by rfl) (by decide) rfl ?_
      refine zGoto (-70) 51 (by decide +kernel) rfl ?_
      exact zLoc [2, 3, 4, 5, 6, 7, 0] _ rfl F
    · replace F := F.1 q10
      refine zIload_n 3 4 84 (by decide +kernel) rfl rfl ?_
      refine zIload 7 0 86 (by decide +kernel) rfl rfl ?_
      refine zIand 87 (by decide +kernel) rfl ?_
      refine zIf_ne 31 118 90 (by decide +kernel) rfl rfl ⟨fun q11 => ?_, fun q11 => ?_⟩
      · replace F := F.2 q11
        refine zIinc 6 1 7 (l6 + 1) [(6, .int (l6 + 1)), (7, .int ((1 : Int32) <<< ((I (a + 1) l6.toNatClampNeg : Int32) &&& 31))), (0, .ref (e)), (1, .int (l1)), (2, .int (l2)), (3, .int (l3)), (4, .int (l4)), (5, .int (l5))] 121 (by decide +kernel) rfl rfl (by rfl) (by decide) rfl ?_
        refine zGoto (-70) 51 (by decide +kernel) rfl ?_
        exact zLoc [2, 3, 4, 5, 6, 7, 0] _ rfl F
      · replace F := F.1 q11
        refine zAload_n 0 1 91 (by decide +kernel) rfl rfl ?_
        refine zIload_n 1 2 92 (by decide +kernel) rfl rfl ?_
        refine zIconst 1 1 93 (by decide +kernel) rfl (by decide) ?_
        refine zIadd 94 (by decide +kernel) rfl ?_
        refine zBipush 10 10 96 (by decide +kernel) rfl (by decide) ?_
        refine zIload_n 2 3 97 (by decide +kernel) rfl rfl ?_
        refine zImul 98 (by decide +kernel) rfl ?_
        refine zIload 6 7 100 (by decide +kernel) rfl rfl ?_
        refine zIadd 101 (by decide +kernel) rfl ?_
        refine zIload_n 3 4 102 (by decide +kernel) rfl rfl ?_
        refine zIload 7 0 104 (by decide +kernel) rfl rfl ?_
        refine zIor 105 (by decide +kernel) rfl ?_
        refine zIload 4 5 107 (by decide +kernel) rfl rfl ?_
        refine zAload_n 0 1 108 (by decide +kernel) rfl rfl ?_
        refine gf4_7 30 111 (by decide +kernel) rfl flX4_30 (Sea_0 S0_) (Sea_3 S0_) ?_
        refine zIload 6 7 113 (by decide +kernel) rfl rfl ?_
        obtain ⟨w12, F⟩ := F
        refine yIaload 9 114 (by decide +kernel) rfl (Sea_4 S0_) (w12) ?_
        refine zIadd 115 (by decide +kernel) rfl ?_
        refine zCallV 4 zcls4 mX4_tryPairs 67 4 0 0 _ _ 118 [.int (l1 + 1), .int ((10 * l2) + l6), .int (l3 ||| ((1 : Int32) <<< ((I (a + 1) l6.toNatClampNeg : Int32) &&& 31))), .int (l4 + (I (e + 1) l6.toNatClampNeg))] [] okX4_tryPairs mlX4_67 imX4_tryPairs seX4_tryPairs (by decide +kernel) rfl rfl (Nat.le_of_ble_eq_true rfl) rfl rfl (Sea_0 S0_) (zC.mono F ?_)
        rintro _ _ ⟨I13, rfl, rfl, F⟩
        change zV G (d + 1) mX4_tryPairs kc ks 118 [(7, .int ((1 : Int32) <<< ((I (a + 1) l6.toNatClampNeg : Int32) &&& 31))), (0, .ref (e)), (1, .int (l1)), (2, .int (l2)), (3, .int (l3)), (4, .int (l4)), (5, .int (l5)), (6, .int (l6))] [] (I13, J, R, K, n) Q
        refine zIinc 6 1 7 (l6 + 1) [(6, .int (l6 + 1)), (7, .int ((1 : Int32) <<< ((I (a + 1) l6.toNatClampNeg : Int32) &&& 31))), (0, .ref (e)), (1, .int (l1)), (2, .int (l2)), (3, .int (l3)), (4, .int (l4)), (5, .int (l5))] 121 (by decide +kernel) rfl rfl (by rfl) (by decide) rfl ?_
        refine zGoto (-70) 51 (by decide +kernel) rfl ?_
        exact zLoc [2, 3, 4, 5, 6, 7, 0] _ rfl F
set_option maxHeartbeats 2000000 in
theorem wX4_whiteOdds_0 {G : zG} {d kc ks : Nat} {I : Nat → Nat → Int32} {J : Nat → Nat → Int64} {R : Nat → Nat → Option Nat} {K : Nat → Nat × Nat} {n : Nat} {Q : Option Value → zH → Prop} (e a s v : Nat) (S0_ : hSea G R K n e a s v) (p1 p2 : Int32) (F : zC G d mX4_whiteParts 0 0 [.ref (e), .int (p1), .int (0), .int (1000000000), .int (p2)] (I, J, R, K, n) (fun r h => ∃ (x1 : Int32) (I2 : Nat → Nat → Int32), r = some (.int x1) ∧ h = (I2, J, R, K, n) ∧ Q (some (.int (x1))) (I2, J, R, K, n))) : zV G (d + 1) mX4_whiteOdds kc ks 0 [(0, .ref (e)), (1, .int (p1)), (2, .int (p2))] [] (I, J, R, K, n) Q := by
  refine zAload_n 0 0 1 (by decide +kernel) rfl rfl ?_
  refine zIload_n 1 1 2 (by decide +kernel) rfl rfl ?_
  refine zIconst 0 0 3 (by decide +kernel) rfl (by decide) ?_
  refine zLdc 91 1000000000 5 (by decide +kernel) rfl kcX4_91 ?_
  refine zIload_n 2 2 6 (by decide +kernel) rfl rfl ?_
  refine zCallV 4 zcls4 mX4_whiteParts 92 4 0 0 _ _ 9 [.int (p1), .int (0), .int (1000000000), .int (p2)] [] okX4_whiteParts mlX4_92 imX4_whiteParts seX4_whiteParts (by decide +kernel) rfl rfl (Nat.le_of_ble_eq_true rfl) rfl rfl (Sea_0 S0_) (zC.mono F ?_)
  rintro _ _ ⟨x1, I2, rfl, rfl, F⟩
  change zV G (d + 1) mX4_whiteOdds kc ks 9 [(0, .ref (e)), (1, .int (p1)), (2, .int (p2))] [.int (x1)] (I2, J, R, K, n) Q
  exact zIret rfl (by decide +kernel) F
set_option maxHeartbeats 2000000 in
theorem wX4_whiteParts_0 {G : zG} {d kc ks : Nat} {I : Nat → Nat → Int32} {J : Nat → Nat → Int64} {R : Nat → Nat → Option Nat} {K : Nat → Nat × Nat} {n : Nat} {Q : Option Value → zH → Prop} (e a s v : Nat) (S0_ : hSea G R K n e a s v) (p1 p2 p3 p4 : Int32) (F : zC G d mX8_bare 0 0 [.ref (a), .int (p1)] (I, J, R, K, n) (fun r h => ∃ (x1 : Int32) (I2 : Nat → Nat → Int32), r = some (.int x1) ∧ h = (I2, J, R, K, n) ∧ ((x1 = 0 → Q (some (.int (p3))) (I2, J, R, K, n)) ∧ (¬ (x1 = 0) → zC G d mX8_doneTo 0 0 [.ref (a), .int (p1)] (I2, J, R, K, n) (fun r h => ∃ (x4 : Int32) (I5 : Nat → Nat → Int32), r = some (.int x4) ∧ h = (I5, J, R, K, n) ∧ zV G (d + 1) mX4_whiteParts kc ks 26 [(0, .ref (e)), (1, .int (p1)), (2, .int (p2)), (3, .int (p3)), (4, .int (p4)), (5, .int (x4)), (6, .int (p2))] [] (I5, J, R, K, n) Q))))) : zV G (d + 1) mX4_whiteParts kc ks 0 [(0, .ref (e)), (1, .int (p1)), (2, .int (p2)), (3, .int (p3)), (4, .int (p4))] [] (I, J, R, K, n) Q := by
  refine zAload_n 0 0 1 (by decide +kernel) rfl rfl ?_
  refine gf4_6 34 4 (by decide +kernel) rfl flX4_34 (Sea_0 S0_) (Sea_1 S0_) ?_
  refine zIload_n 1 1 5 (by decide +kernel) rfl rfl ?_
  refine zCallV 8 zcls8 mX8_bare 96 1 0 0 _ _ 8 [.int (p1)] [] okX8_bare mlX4_96 imX8_bare seX8_bare (by decide +kernel) rfl rfl (Nat.le_of_ble_eq_true rfl) rfl rfl (St_0 (Sea_2 S0_)) (zC.mono F ?_)
  rintro _ _ ⟨x1, I2, rfl, rfl, F⟩
  change zV G (d + 1) mX4_whiteParts kc ks 8 [(0, .ref (e)), (1, .int (p1)), (2, .int (p2)), (3, .int (p3)), (4, .int (p4))] [.int (x1)] (I2, J, R, K, n) Q
  refine zIf_ne 5 13 11 (by decide +kernel) rfl rfl ⟨fun q3 => ?_, fun q3 => ?_⟩
  · replace F := F.2 q3
    refine zAload_n 0 0 14 (by decide +kernel) rfl rfl ?_
    refine gf4_6 34 17 (by decide +kernel) rfl flX4_34 (Sea_0 S0_) (Sea_1 S0_) ?_
    refine zIload_n 1 1 18 (by decide +kernel) rfl rfl ?_
    refine zCallV 8 zcls8 mX8_doneTo 85 1 0 0 _ _ 21 [.int (p1)] [] okX8_doneTo mlX4_85 imX8_doneTo seX8_doneTo (by decide +kernel) rfl rfl (Nat.le_of_ble_eq_true rfl) rfl rfl (St_0 (Sea_2 S0_)) (zC.mono F ?_)
    rintro _ _ ⟨x4, I5, rfl, rfl, F⟩
    change zV G (d + 1) mX4_whiteParts kc ks 21 [(0, .ref (e)), (1, .int (p1)), (2, .int (p2)), (3, .int (p3)), (4, .int (p4))] [.int (x4)] (I5, J, R, K, n) Q
    refine zIstore 5 [(5, .int (x4)), (0, .ref (e)), (1, .int (p1)), (2, .int (p2)), (3, .int (p3)), (4, .int (p4))] 23 (by decide +kernel) rfl (by decide) rfl ?_
    refine zIload_n 2 3 24 (by decide +kernel) rfl rfl ?_
    refine zIstore 6 [(6, .int (p2)), (5, .int (x4)), (0, .ref (e)), (1, .int (p1)), (2, .int (p2)), (3, .int (p3)), (4, .int (p4))] 26 (by decide +kernel) rfl (by decide) rfl ?_
    exact zLoc [2, 3, 4, 5, 6, 1, 0] _ rfl F
  · replace F := F.1 q3
    refine zIload_n 3 3 12 (by decide +kernel) rfl rfl ?_
    exact zIret rfl (by decide +kernel) F
set_option maxHeartbeats 2000000 in
theorem wX4_whiteParts_26 {G : zG} {d kc ks : Nat} {I : Nat → Nat → Int32} {J : Nat → Nat → Int64} {R : Nat → Nat → Option Nat} {K : Nat → Nat × Nat} {n : Nat} {Q : Option Value → zH → Prop} (e a s v : Nat) (S0_ : hSea G R K n e a s v) (l1 l2 l3 l4 l5 l6 : Int32) (F : ((9 ≤ l6 → ((9 ≤ l6 → Q (some (.int (0))) (I, J, R, K, n)) ∧ (¬ (9 ≤ l6) → ((l3 = 0 → Q (some (.int (0))) (I, J, R, K, n)) ∧ (¬ (l3 = 0) → zC G d mX8_paintOff 0 0 [.ref (a), .int (l6)] (I, J, R, K, n) (fun r h => ∃ (x9 : Int32) (I10 : Nat → Nat → Int32), r = some (.int x9) ∧ h = (I10, J, R, K, n) ∧ zC G d mX4_whiteParts 0 0 [.ref (e), .int (l1), .int (l6 + 1), .int (((l3.toInt64 * l4.toInt64) / 100 : Int64).toInt32), .int (l4)] (I10, J, R, K, n) (fun r h => ∃ (x11 : Int32) (I12 : Nat → Nat → Int32), r = some (.int x11) ∧ h = (I12, J, R, K, n) ∧ zC G d mX8_scrapeOff 0 0 [.ref (a), .int (l6), .int (x9)] (I12, J, R, K, n) (fun r h => ∃ (I13 : Nat → Nat → Int32), r = none ∧ h = (I13, J, R, K, n) ∧ zC G d mX4_whiteParts 0 0 [.ref (e), .int (l1), .int (l6 + 1), .int (l3 - (((l3.toInt64 * l4.toInt64) / 100 : Int64).toInt32)), .int (l4)] (I13, J, R, K, n) (fun r h => ∃ (x14 : Int32) (I15 : Nat → Nat → Int32), r = some (.int x14) ∧ h = (I15, J, R, K, n) ∧ Q (some (.int (x11 + x14))) (I15, J, R, K, n)))))))))) ∧ (¬ (9 ≤ l6) → ((((l5 >>> (l6 &&& 31)) &&& 1 : Int32) = 0 → zV G (d + 1) mX4_whiteParts kc ks 26 [(0, .ref (e)), (1, .int (l1)), (2, .int (l2)), (3, .int (l3)), (4, .int (l4)), (5, .int (l5)), (6, .int (l6 + 1))] [] (I, J, R, K, n) Q) ∧ (¬ (((l5 >>> (l6 &&& 31)) &&& 1 : Int32) = 0) → ((9 ≤ l6 → Q (some (.int (0))) (I, J, R, K, n)) ∧ (¬ (9 ≤ l6) → ((l3 = 0 → Q (some (.int (0))) (I, J, R, K, n)) ∧ (¬ (l3 = 0) → zC G d mX8_paintOff 0 0 [.ref (a), .int (l6)] (I, J, R, K, n) (fun r h => ∃ (x19 : Int32) (I20 : Nat → Nat → Int32), r = some (.int x19) ∧ h = (I20, J, R, K, n) ∧ zC G d mX4_whiteParts 0 0 [.ref (e), .int (l1), .int (l6 + 1), .int (((l3.toInt64 * l4.toInt64) / 100 : Int64).toInt32), .int (l4)] (I20, J, R, K, n) (fun r h => ∃ (x21 : Int32) (I22 : Nat → Nat → Int32), r = some (.int x21) ∧ h = (I22, J, R, K, n) ∧ zC G d mX8_scrapeOff 0 0 [.ref (a), .int (l6), .int (x19)] (I22, J, R, K, n) (fun r h => ∃ (I23 : Nat → Nat → Int32), r = none ∧ h = (I23, J, R, K, n) ∧ zC G d mX4_whiteParts 0 0 [.ref (e), .int (l1), .int (l6 + 1), .int (l3 - (((l3.toInt64 * l4.toInt64) / 100 : Int64).toInt32)), .int (l4)] (I23, J, R, K, n) (fun r h => ∃ (x24 : Int32) (I25 : Nat → Nat → Int32), r = some (.int x24) ∧ h = (I25, J, R, K, n) ∧ Q (some (.int (x21 + x24))) (I25, J, R, K, n)))))))))))))) : zV G (d + 1) mX4_whiteParts kc ks 26 [(0, .ref (e)), (1, .int (l1)), (2, .int (l2)), (3, .int (l3)), (4, .int (l4)), (5, .int (l5)), (6, .int (l6))] [] (I, J, R, K, n) Q := by
  refine zIload 6 6 28 (by decide +kernel) rfl rfl ?_
  refine zBipush 9 9 30 (by decide +kernel) rfl (by decide) ?_
  refine zIcmp_ge 19 49 33 (by decide +kernel) rfl rfl ⟨fun q6 => ?_, fun q6 => ?_⟩
  · replace F := F.1 q6
    refine zIload 6 6 51 (by decide +kernel) rfl rfl ?_
    refine zBipush 9 9 53 (by decide +kernel) rfl (by decide) ?_
    refine zIcmp_ge 7 60 56 (by decide +kernel) rfl rfl ⟨fun q7 => ?_, fun q7 => ?_⟩
    · replace F := F.1 q7
      refine zIconst 0 0 61 (by decide +kernel) rfl (by decide) ?_
      exact zIret rfl (by decide +kernel) F
    · replace F := F.2 q7
      refine zIload_n 3 3 57 (by decide +kernel) rfl rfl ?_
      refine zIf_ne 5 62 60 (by decide +kernel) rfl rfl ⟨fun q8 => ?_, fun q8 => ?_⟩
      · replace F := F.2 q8
        refine zIload_n 3 3 63 (by decide +kernel) rfl rfl ?_
        refine zI2l 64 (by decide +kernel) rfl ?_
        refine zIload 4 4 66 (by decide +kernel) rfl rfl ?_
        refine zI2l 67 (by decide +kernel) rfl ?_
        refine zLmul 68 (by decide +kernel) rfl ?_
        refine zLdc2 99 100 71 (by decide +kernel) rfl klX4_99 ?_
        refine zLdiv 72 (by decide +kernel) rfl (by decide) ?_
        refine zL2i 73 (by decide +kernel) rfl ?_
        refine zIstore 7 [(7, .int (((l3.toInt64 * l4.toInt64) / 100 : Int64).toInt32)), (0, .ref (e)), (1, .int (l1)), (2, .int (l2)), (3, .int (l3)), (4, .int (l4)), (5, .int (l5)), (6, .int (l6))] 75 (by decide +kernel) rfl (by decide) rfl ?_
        refine zAload_n 0 1 76 (by decide +kernel) rfl rfl ?_
        refine gf4_6 34 79 (by decide +kernel) rfl flX4_34 (Sea_0 S0_) (Sea_1 S0_) ?_
        refine zIload 6 7 81 (by decide +kernel) rfl rfl ?_
        refine zCallV 8 zcls8 mX8_paintOff 48 1 0 0 _ _ 84 [.int (l6)] [] okX8_paintOff mlX4_48 imX8_paintOff seX8_paintOff (by decide +kernel) rfl rfl (Nat.le_of_ble_eq_true rfl) rfl rfl (St_0 (Sea_2 S0_)) (zC.mono F ?_)
        rintro _ _ ⟨x9, I10, rfl, rfl, F⟩
        change zV G (d + 1) mX4_whiteParts kc ks 84 [(7, .int (((l3.toInt64 * l4.toInt64) / 100 : Int64).toInt32)), (0, .ref (e)), (1, .int (l1)), (2, .int (l2)), (3, .int (l3)), (4, .int (l4)), (5, .int (l5)), (6, .int (l6))] [.int (x9)] (I10, J, R, K, n) Q
        refine zIstore 8 [(8, .int (x9)), (7, .int (((l3.toInt64 * l4.toInt64) / 100 : Int64).toInt32)), (0, .ref (e)), (1, .int (l1)), (2, .int (l2)), (3, .int (l3)), (4, .int (l4)), (5, .int (l5)), (6, .int (l6))] 86 (by decide +kernel) rfl (by decide) rfl ?_
        refine zAload_n 0 2 87 (by decide +kernel) rfl rfl ?_
        refine zIload_n 1 3 88 (by decide +kernel) rfl rfl ?_
        refine zIload 6 8 90 (by decide +kernel) rfl rfl ?_
        refine zIconst 1 1 91 (by decide +kernel) rfl (by decide) ?_
        refine zIadd 92 (by decide +kernel) rfl ?_
        refine zIload 7 1 94 (by decide +kernel) rfl rfl ?_
        refine zIload 4 6 96 (by decide +kernel) rfl rfl ?_
        refine zCallV 4 zcls4 mX4_whiteParts 92 4 0 0 _ _ 99 [.int (l1), .int (l6 + 1), .int (((l3.toInt64 * l4.toInt64) / 100 : Int64).toInt32), .int (l4)] [] okX4_whiteParts mlX4_92 imX4_whiteParts seX4_whiteParts (by decide +kernel) rfl rfl (Nat.le_of_ble_eq_true rfl) rfl rfl (Sea_0 S0_) (zC.mono F ?_)
        rintro _ _ ⟨x11, I12, rfl, rfl, F⟩
        change zV G (d + 1) mX4_whiteParts kc ks 99 [(8, .int (x9)), (7, .int (((l3.toInt64 * l4.toInt64) / 100 : Int64).toInt32)), (0, .ref (e)), (1, .int (l1)), (2, .int (l2)), (3, .int (l3)), (4, .int (l4)), (5, .int (l5)), (6, .int (l6))] [.int (x11)] (I12, J, R, K, n) Q
        refine zIstore 9 [(9, .int (x11)), (8, .int (x9)), (7, .int (((l3.toInt64 * l4.toInt64) / 100 : Int64).toInt32)), (0, .ref (e)), (1, .int (l1)), (2, .int (l2)), (3, .int (l3)), (4, .int (l4)), (5, .int (l5)), (6, .int (l6))] 101 (by decide +kernel) rfl (by decide) rfl ?_
        refine zAload_n 0 3 102 (by decide +kernel) rfl rfl ?_
        refine gf4_6 34 105 (by decide +kernel) rfl flX4_34 (Sea_0 S0_) (Sea_1 S0_) ?_
        refine zIload 6 9 107 (by decide +kernel) rfl rfl ?_
        refine zIload 8 1 109 (by decide +kernel) rfl rfl ?_
        refine zCallV 8 zcls8 mX8_scrapeOff 52 2 0 0 _ _ 112 [.int (l6), .int (x9)] [] okX8_scrapeOff mlX4_52 imX8_scrapeOff seX8_scrapeOff (by decide +kernel) rfl rfl (Nat.le_of_ble_eq_true rfl) rfl rfl (St_0 (Sea_2 S0_)) (zC.mono F ?_)
        rintro _ _ ⟨I13, rfl, rfl, F⟩
        change zV G (d + 1) mX4_whiteParts kc ks 112 [(9, .int (x11)), (8, .int (x9)), (7, .int (((l3.toInt64 * l4.toInt64) / 100 : Int64).toInt32)), (0, .ref (e)), (1, .int (l1)), (2, .int (l2)), (3, .int (l3)), (4, .int (l4)), (5, .int (l5)), (6, .int (l6))] [] (I13, J, R, K, n) Q
        refine zIload 9 0 114 (by decide +kernel) rfl rfl ?_
        refine zAload_n 0 3 115 (by decide +kernel) rfl rfl ?_
        refine zIload_n 1 4 116 (by decide +kernel) rfl rfl ?_
        refine zIload 6 9 118 (by decide +kernel) rfl rfl ?_
        refine zIconst 1 1 119 (by decide +kernel) rfl (by decide) ?_
        refine zIadd 120 (by decide +kernel) rfl ?_
        refine zIload_n 3 6 121 (by decide +kernel) rfl rfl ?_
        refine zIload 7 2 123 (by decide +kernel) rfl rfl ?_
        refine zIsub 124 (by decide +kernel) rfl ?_
        refine zIload 4 7 126 (by decide +kernel) rfl rfl ?_
        refine zCallV 4 zcls4 mX4_whiteParts 92 4 0 0 _ _ 129 [.int (l1), .int (l6 + 1), .int (l3 - (((l3.toInt64 * l4.toInt64) / 100 : Int64).toInt32)), .int (l4)] [.int (x11)] okX4_whiteParts mlX4_92 imX4_whiteParts seX4_whiteParts (by decide +kernel) rfl rfl (Nat.le_of_ble_eq_true rfl) rfl rfl (Sea_0 S0_) (zC.mono F ?_)
        rintro _ _ ⟨x14, I15, rfl, rfl, F⟩
        change zV G (d + 1) mX4_whiteParts kc ks 129 [(9, .int (x11)), (8, .int (x9)), (7, .int (((l3.toInt64 * l4.toInt64) / 100 : Int64).toInt32)), (0, .ref (e)), (1, .int (l1)), (2, .int (l2)), (3, .int (l3)), (4, .int (l4)), (5, .int (l5)), (6, .int (l6))] [.int (x14), .int (x11)] (I15, J, R, K, n) Q
        refine zIadd 130 (by decide +kernel) rfl ?_
        exact zIret rfl (by decide +kernel) F
      · replace F := F.1 q8
        refine zIconst 0 0 61 (by decide +kernel) rfl (by decide) ?_
        exact zIret rfl (by decide +kernel) F
  · replace F := F.2 q6
    refine zIload 5 5 35 (by decide +kernel) rfl rfl ?_
    refine zIload 6 6 37 (by decide +kernel) rfl rfl ?_
    refine zIshr 38 (by decide +kernel) rfl ?_
    refine zIconst 1 1 39 (by decide +kernel) rfl (by decide) ?_
    refine zIand 40 (by decide +kernel) rfl ?_
    refine zIf_ne 9 49 43 (by decide +kernel) rfl rfl ⟨fun q16 => ?_, fun q16 => ?_⟩
    · replace F := F.2 q16
      refine zIload 6 6 51 (by decide +kernel) rfl rfl ?_
      refine zBipush 9 9 53 (by decide +kernel) rfl (by decide) ?_
      refine zIcmp_ge 7 60 56 (by decide +kernel) rfl rfl ⟨fun q17 => ?_, fun q17 => ?_⟩
      · replace F := F.1 q17
        refine zIconst 0 0 61 (by decide +kernel) rfl (by decide) ?_
        exact zIret rfl (by decide +kernel) F
      · replace F := F.2 q17
        refine zIload_n 3 3 57 (by decide +kernel) rfl rfl ?_
        refine zIf_ne 5 62 60 (by decide +kernel) rfl rfl ⟨fun q18 => ?_, fun q18 => ?_⟩
        · replace F := F.2 q18
          refine zIload_n 3 3 63 (by decide +kernel) rfl rfl ?_
          refine zI2l 64 (by decide +kernel) rfl ?_
          refine zIload 4 4 66 (by decide +kernel) rfl rfl ?_
          refine zI2l 67 (by decide +kernel) rfl ?_
          refine zLmul 68 (by decide +kernel) rfl ?_
          refine zLdc2 99 100 71 (by decide +kernel) rfl klX4_99 ?_
          refine zLdiv 72 (by decide +kernel) rfl (by decide) ?_
          refine zL2i 73 (by decide +kernel) rfl ?_
          refine zIstore 7 [(7, .int (((l3.toInt64 * l4.toInt64) / 100 : Int64).toInt32)), (0, .ref (e)), (1, .int (l1)), (2, .int (l2)), (3, .int (l3)), (4, .int (l4)), (5, .int (l5)), (6, .int (l6))] 75 (by decide +kernel) rfl (by decide) rfl ?_
          refine zAload_n 0 1 76 (by decide +kernel) rfl rfl ?_
          refine gf4_6 34 79 (by decide +kernel) rfl flX4_34 (Sea_0 S0_) (Sea_1 S0_) ?_
          refine zIload 6 7 81 (by decide +kernel) rfl rfl ?_
          refine zCallV 8 zcls8 mX8_paintOff 48 1 0 0 _ _ 84 [.int (l6)] [] okX8_paintOff mlX4_48 imX8_paintOff seX8_paintOff (by decide +kernel) rfl rfl (Nat.le_of_ble_eq_true rfl) rfl rfl (St_0 (Sea_2 S0_)) (zC.mono F ?_)
          rintro _ _ ⟨x19, I20, rfl, rfl, F⟩
          change zV G (d + 1) mX4_whiteParts kc ks 84 [(7, .int (((l3.toInt64 * l4.toInt64) / 100 : Int64).toInt32)), (0, .ref (e)), (1, .int (l1)), (2, .int (l2)), (3, .int (l3)), (4, .int (l4)), (5, .int (l5)), (6, .int (l6))] [.int (x19)] (I20, J, R, K, n) Q
          refine zIstore 8 [(8, .int (x19)), (7, .int (((l3.toInt64 * l4.toInt64) / 100 : Int64).toInt32)), (0, .ref (e)), (1, .int (l1)), (2, .int (l2)), (3, .int (l3)), (4, .int (l4)), (5, .int (l5)), (6, .int (l6))] 86 (by decide +kernel) rfl (by decide) rfl ?_
          refine zAload_n 0 2 87 (by decide +kernel) rfl rfl ?_
          refine zIload_n 1 3 88 (by decide +kernel) rfl rfl ?_
          refine zIload 6 8 90 (by decide +kernel) rfl rfl ?_
          refine zIconst 1 1 91 (by decide +kernel) rfl (by decide) ?_
          refine zIadd 92 (by decide +kernel) rfl ?_
          refine zIload 7 1 94 (by decide +kernel) rfl rfl ?_
          refine zIload 4 6 96 (by decide +kernel) rfl rfl ?_
          refine zCallV 4 zcls4 mX4_whiteParts 92 4 0 0 _ _ 99 [.int (l1), .int (l6 + 1), .int (((l3.toInt64 * l4.toInt64) / 100 : Int64).toInt32), .int (l4)] [] okX4_whiteParts mlX4_92 imX4_whiteParts seX4_whiteParts (by decide +kernel) rfl rfl (Nat.le_of_ble_eq_true rfl) rfl rfl (Sea_0 S0_) (zC.mono F ?_)
          rintro _ _ ⟨x21, I22, rfl, rfl, F⟩
          change zV G (d + 1) mX4_whiteParts kc ks 99 [(8, .int (x19)), (7, .int (((l3.toInt64 * l4.toInt64) / 100 : Int64).toInt32)), (0, .ref (e)), (1, .int (l1)), (2, .int (l2)), (3, .int (l3)), (4, .int (l4)), (5, .int (l5)), (6, .int (l6))] [.int (x21)] (I22, J, R, K, n) Q
          refine zIstore 9 [(9, .int (x21)), (8, .int (x19)), (7, .int (((l3.toInt64 * l4.toInt64) / 100 : Int64).toInt32)), (0, .ref (e)), (1, .int (l1)), (2, .int (l2)), (3, .int (l3)), (4, .int (l4)), (5, .int (l5)), (6, .int (l6))] 101 (by decide +kernel) rfl (by decide) rfl ?_
          refine zAload_n 0 3 102 (by decide +kernel) rfl rfl ?_
          refine gf4_6 34 105 (by decide +kernel) rfl flX4_34 (Sea_0 S0_) (Sea_1 S0_) ?_
          refine zIload 6 9 107 (by decide +kernel) rfl rfl ?_
          refine zIload 8 1 109 (by decide +kernel) rfl rfl ?_
          refine zCallV 8 zcls8 mX8_scrapeOff 52 2 0 0 _ _ 112 [.int (l6), .int (x19)] [] okX8_scrapeOff mlX4_52 imX8_scrapeOff seX8_scrapeOff (by decide +kernel) rfl rfl (Nat.le_of_ble_eq_true rfl) rfl rfl (St_0 (Sea_2 S0_)) (zC.mono F ?_)
          rintro _ _ ⟨I23, rfl, rfl, F⟩
          change zV G (d + 1) mX4_whiteParts kc ks 112 [(9, .int (x21)), (8, .int (x19)), (7, .int (((l3.toInt64 * l4.toInt64) / 100 : Int64).toInt32)), (0, .ref (e)), (1, .int (l1)), (2, .int (l2)), (3, .int (l3)), (4, .int (l4)), (5, .int (l5)), (6, .int (l6))] [] (I23, J, R, K, n) Q
          refine zIload 9 0 114 (by decide +kernel) rfl rfl ?_
          refine zAload_n 0 3 115 (by decide +kernel) rfl rfl ?_
          refine zIload_n 1 4 116 (by decide +kernel) rfl rfl ?_
          refine zIload 6 9 118 (by decide +kernel) rfl rfl ?_
          refine zIconst 1 1 119 (by decide +kernel) rfl (by decide) ?_
          refine zIadd 120 (by decide +kernel) rfl ?_
          refine zIload_n 3 6 121 (by decide +kernel) rfl rfl ?_
          refine zIload 7 2 123 (by decide +kernel) rfl rfl ?_
          refine zIsub 124 (by decide +kernel) rfl ?_
          refine zIload 4 7 126 (by decide +kernel) rfl rfl ?_
          refine zCallV 4 zcls4 mX4_whiteParts 92 4 0 0 _ _ 129 [.int (l1), .int (l6 + 1), .int (l3 - (((l3.toInt64 * l4.toInt64) / 100 : Int64).toInt32)), .int (l4)] [.int (x21)] okX4_whiteParts mlX4_92 imX4_whiteParts seX4_whiteParts (by decide +kernel) rfl rfl (Nat.le_of_ble_eq_true rfl) rfl rfl (Sea_0 S0_) (zC.mono F ?_)
          rintro _ _ ⟨x24, I25, rfl, rfl, F⟩
          change zV G (d + 1) mX4_whiteParts kc ks 129 [(9, .int (x21)), (8, .int (x19)), (7, .int (((l3.toInt64 * l4.toInt64) / 100 : Int64).toInt32)), (0, .ref (e)), (1, .int (l1)), (2, .int (l2)), (3, .int (l3)), (4, .int (l4)), (5, .int (l5)), (6, .int (l6))] [.int (x24), .int (x21)] (I25, J, R, K, n) Q
          refine zIadd 130 (by decide +kernel) rfl ?_
          exact zIret rfl (by decide +kernel) F
        · replace F := F.1 q18
          refine zIconst 0 0 61 (by decide +kernel) rfl (by decide) ?_
          exact zIret rfl (by decide +kernel) F
    · replace F := F.1 q16
      refine zIinc 6 1 6 (l6 + 1) [(6, .int (l6 + 1)), (0, .ref (e)), (1, .int (l1)), (2, .int (l2)), (3, .int (l3)), (4, .int (l4)), (5, .int (l5))] 46 (by decide +kernel) rfl rfl (by rfl) (by decide) rfl ?_
      refine zGoto (-20) 26 (by decide +kernel) rfl ?_
      exact zLoc [1, 2, 3, 4, 5, 6, 0] _ rfl F
set_option maxHeartbeats 2000000 in
theorem wX6_add_0 {G : zG} {d kc ks : Nat} {I : Nat → Nat → Int32} {J : Nat → Nat → Int64} {R : Nat → Nat → Option Nat} {K : Nat → Nat × Nat} {n : Nat} {Q : Option Value → zH → Prop} (g a s v : Nat) (S0_ : hSig G R K n g a s v) (p1 p2 p3 : Int32) (F : ((10 ≤ (I g 0 : Int32) → Q none (I, J, R, K, n)) ∧ (¬ (10 ≤ (I g 0 : Int32)) → (vp_in (I g 0) 10 ∧ ∀ I2 : Nat → Nat → Int32, I2 = zU I (g + 1) (I g 0 : Int32).toNatClampNeg (p1) → (vp_in (I2 g 0) 10 ∧ ∀ I3 : Nat → Nat → Int32, I3 = zU I2 (g + 2) (I2 g 0 : Int32).toNatClampNeg (p2) → (vp_in (I3 g 0) 10 ∧ ∀ I4 : Nat → Nat → Int32, I4 = zU I3 (g + 3) (I3 g 0 : Int32).toNatClampNeg (vp_nar .boolean p3) → (∀ I5 : Nat → Nat → Int32, I5 = zU I4 g 0 ((I4 g 0) + 1) → Q none (I5, J, R, K, n)))))))) : zV G (d + 1) mX6_add kc ks 0 [(0, .ref (g)), (1, .int (p1)), (2, .int (p2)), (3, .int (p3))] [] (I, J, R, K, n) Q := by
  refine zAload_n 0 0 1 (by decide +kernel) rfl rfl ?_
  refine gf6_0 9 4 (by decide +kernel) rfl flX6_9 (Sig_0 S0_) ?_
  refine zBipush 10 10 6 (by decide +kernel) rfl (by decide) ?_
  refine zIcmp_ge 43 49 9 (by decide +kernel) rfl rfl ⟨fun q1 => ?_, fun q1 => ?_⟩
  · replace F := F.1 q1
    exact zVret rfl (by decide +kernel) F
  · replace F := F.2 q1
    refine zAload_n 0 0 10 (by decide +kernel) rfl rfl ?_
    refine gf6_1 15 13 (by decide +kernel) rfl flX6_15 (Sig_0 S0_) (Sig_1 S0_) ?_
    refine zAload_n 0 0 14 (by decide +kernel) rfl rfl ?_
    refine gf6_0 9 17 (by decide +kernel) rfl flX6_9 (Sig_0 S0_) ?_
    refine zIload_n 1 1 18 (by decide +kernel) rfl rfl ?_
    refine yIastore 10 19 (by decide +kernel) rfl (Sig_2 S0_) F.1 ?_
    replace F := F.2 _ rfl
    generalize zU I (g + 1) (I g 0 : Int32).toNatClampNeg (p1) = I2 at F ⊢
    refine zAload_n 0 0 20 (by decide +kernel) rfl rfl ?_
    refine gf6_2 19 23 (by decide +kernel) rfl flX6_19 (Sig_0 S0_) (Sig_3 S0_) ?_
    refine zAload_n 0 0 24 (by decide +kernel) rfl rfl ?_
    refine gf6_0 9 27 (by decide +kernel) rfl flX6_9 (Sig_0 S0_) ?_
    refine zIload_n 2 2 28 (by decide +kernel) rfl rfl ?_
    refine yIastore 10 29 (by decide +kernel) rfl (Sig_4 S0_) F.1 ?_
    replace F := F.2 _ rfl
    generalize zU I2 (g + 2) (I2 g 0 : Int32).toNatClampNeg (p2) = I3 at F ⊢
    refine zAload_n 0 0 30 (by decide +kernel) rfl rfl ?_
    refine gf6_3 22 33 (by decide +kernel) rfl flX6_22 (Sig_0 S0_) (Sig_5 S0_) ?_
    refine zAload_n 0 0 34 (by decide +kernel) rfl rfl ?_
    refine gf6_0 9 37 (by decide +kernel) rfl flX6_9 (Sig_0 S0_) ?_
    refine zIload_n 3 3 38 (by decide +kernel) rfl rfl ?_
    refine yZastore 10 39 (by decide +kernel) rfl (Sig_6 S0_) F.1 ?_
    replace F := F.2 _ rfl
    generalize zU I3 (g + 3) (I3 g 0 : Int32).toNatClampNeg (vp_nar .boolean p3) = I4 at F ⊢
    refine zAload_n 0 0 40 (by decide +kernel) rfl rfl ?_
    refine zDup 41 (by decide +kernel) rfl rfl ?_
    refine gf6_0 9 44 (by decide +kernel) rfl flX6_9 (Sig_0 S0_) ?_
    refine zIconst 1 1 45 (by decide +kernel) rfl (by decide) ?_
    refine zIadd 46 (by decide +kernel) rfl ?_
    refine pf6_0 9 49 (by decide +kernel) rfl flX6_9 (Sig_0 S0_) ?_
    replace F := F _ rfl
    generalize zU I4 g 0 ((I4 g 0) + 1) = I5 at F ⊢
    exact zVret rfl (by decide +kernel) F
set_option maxHeartbeats 2000000 in
theorem wX6_fitting_0 {G : zG} {d kc ks : Nat} {I : Nat → Nat → Int32} {J : Nat → Nat → Int64} {R : Nat → Nat → Option Nat} {K : Nat → Nat × Nat} {n : Nat} {Q : Option Value → zH → Prop} (g a s v : Nat) (S0_ : hSig G R K n g a s v) (p1 : Int32) (F : zC G d mX8_begin 0 0 [.ref (a)] (I, J, R, K, n) (fun r h => ∃ (I1 : Nat → Nat → Int32), r = none ∧ h = (I1, J, R, K, n) ∧ zV G (d + 1) mX6_fitting kc ks 11 [(0, .ref (g)), (1, .int (p1)), (2, .int (0)), (3, .int (1))] [] (I1, J, R, K, n) Q)) : zV G (d + 1) mX6_fitting kc ks 0 [(0, .ref (g)), (1, .int (p1))] [] (I, J, R, K, n) Q := by
  refine zAload_n 0 0 1 (by decide +kernel) rfl rfl ?_
  refine gf6_5 29 4 (by decide +kernel) rfl flX6_29 (Sig_0 S0_) (Sig_9 S0_) ?_
  refine zCallV 8 zcls8 mX8_begin 33 0 0 0 _ _ 7 [] [] okX8_begin mlX6_33 imX8_begin seX8_begin (by decide +kernel) rfl rfl (Nat.le_of_ble_eq_true rfl) rfl rfl (St_0 (Sig_10 S0_)) (zC.mono F ?_)
  rintro _ _ ⟨I1, rfl, rfl, F⟩
  change zV G (d + 1) mX6_fitting kc ks 7 [(0, .ref (g)), (1, .int (p1))] [] (I1, J, R, K, n) Q
  refine zIconst 0 0 8 (by decide +kernel) rfl (by decide) ?_
  refine zIstore_n 2 [(2, .int (0)), (0, .ref (g)), (1, .int (p1))] 9 (by decide +kernel) rfl (by decide) rfl ?_
  refine zIconst 1 1 10 (by decide +kernel) rfl (by decide) ?_
  refine zIstore_n 3 [(3, .int (1)), (2, .int (0)), (0, .ref (g)), (1, .int (p1))] 11 (by decide +kernel) rfl (by decide) rfl ?_
  exact zLoc [2, 3, 1, 0] _ rfl F
set_option maxHeartbeats 2000000 in
theorem wX6_fitting_11 {G : zG} {d kc ks : Nat} {I : Nat → Nat → Int32} {J : Nat → Nat → Int64} {R : Nat → Nat → Option Nat} {K : Nat → Nat × Nat} {n : Nat} {Q : Option Value → zH → Prop} (g a s v : Nat) (S0_ : hSig G R K n g a s v) (l1 l2 l3 : Int32) (F : ((9 < l3 → Q (some (.int (l2))) (I, J, R, K, n)) ∧ (¬ (9 < l3) → (vp_in l1 9 ∧ ∀ I3 : Nat → Nat → Int32, I3 = zU I (a + 3) l1.toNatClampNeg (l3) → zC G d mX8_yardsOf 0 0 [.ref (a), .int (l1)] (I3, J, R, K, n) (fun r h => ∃ (x4 : Int32) (I5 : Nat → Nat → Int32), r = some (.int x4) ∧ h = (I5, J, R, K, n) ∧ (vp_in l3 10 ∧ ∀ I6 : Nat → Nat → Int32, I6 = zU I5 (g + 4) l3.toNatClampNeg (x4) → ((vp_in l3 10) ∧ zC G d mX6_agrees 0 0 [.ref (g), .int (l1), .int (I6 (g + 4) l3.toNatClampNeg)] (I6, J, R, K, n) (fun r h => ∃ (x8 : Int32) (I9 : Nat → Nat → Int32), r = some (.int x8) ∧ h = (I9, J, R, K, n) ∧ zV G (d + 1) mX6_fitting kc ks 11 [(0, .ref (g)), (1, .int (l1)), (2, .int (l2 ||| (if x8 = 0 then 0 else (1 : Int32) <<< (l3 &&& 31)))), (3, .int (l3 + 1))] [] (I9, J, R, K, n) Q)))))))) : zV G (d + 1) mX6_fitting kc ks 11 [(0, .ref (g)), (1, .int (l1)), (2, .int (l2)), (3, .int (l3))] [] (I, J, R, K, n) Q := by
  refine zIload_n 3 3 12 (by decide +kernel) rfl rfl ?_
  refine zBipush 9 9 14 (by decide +kernel) rfl (by decide) ?_
  refine zIcmp_gt 57 71 17 (by decide +kernel) rfl rfl ⟨fun q2 => ?_, fun q2 => ?_⟩
  · replace F := F.1 q2
    refine zIload_n 2 2 72 (by decide +kernel) rfl rfl ?_
    exact zIret rfl (by decide +kernel) F
  · replace F := F.2 q2
    refine zAload_n 0 0 18 (by decide +kernel) rfl rfl ?_
    refine gf6_5 29 21 (by decide +kernel) rfl flX6_29 (Sig_0 S0_) (Sig_9 S0_) ?_
    refine gf8_2 38 24 (by decide +kernel) rfl flX6_38 (St_0 (Sig_10 S0_)) (St_5 (Sig_10 S0_)) ?_
    refine zIload_n 1 1 25 (by decide +kernel) rfl rfl ?_
    refine zIload_n 3 3 26 (by decide +kernel) rfl rfl ?_
    refine yIastore 9 27 (by decide +kernel) rfl (St_6 (Sig_10 S0_)) F.1 ?_
    replace F := F.2 _ rfl
    generalize zU I (a + 3) l1.toNatClampNeg (l3) = I3 at F ⊢
    refine zAload_n 0 0 28 (by decide +kernel) rfl rfl ?_
    refine gf6_4 26 31 (by decide +kernel) rfl flX6_26 (Sig_0 S0_) (Sig_7 S0_) ?_
    refine zIload_n 3 3 32 (by decide +kernel) rfl rfl ?_
    refine zAload_n 0 0 33 (by decide +kernel) rfl rfl ?_
    refine gf6_5 29 36 (by decide +kernel) rfl flX6_29 (Sig_0 S0_) (Sig_9 S0_) ?_
    refine zIload_n 1 1 37 (by decide +kernel) rfl rfl ?_
    refine zCallV 8 zcls8 mX8_yardsOf 41 1 0 0 _ _ 40 [.int (l1)] [.int (l3), .ref (g + 4)] okX8_yardsOf mlX6_41 imX8_yardsOf seX8_yardsOf (by decide +kernel) rfl rfl (Nat.le_of_ble_eq_true rfl) rfl rfl (St_0 (Sig_10 S0_)) (zC.mono F ?_)
    rintro _ _ ⟨x4, I5, rfl, rfl, F⟩
    change zV G (d + 1) mX6_fitting kc ks 40 [(0, .ref (g)), (1, .int (l1)), (2, .int (l2)), (3, .int (l3))] [.int (x4), .int (l3), .ref (g + 4)] (I5, J, R, K, n) Q
    refine yIastore 10 41 (by decide +kernel) rfl (Sig_8 S0_) F.1 ?_
    replace F := F.2 _ rfl
    generalize zU I5 (g + 4) l3.toNatClampNeg (x4) = I6 at F ⊢
    refine zIload_n 2 2 42 (by decide +kernel) rfl rfl ?_
    refine zAload_n 0 0 43 (by decide +kernel) rfl rfl ?_
    refine zIload_n 1 1 44 (by decide +kernel) rfl rfl ?_
    refine zAload_n 0 0 45 (by decide +kernel) rfl rfl ?_
    refine gf6_4 26 48 (by decide +kernel) rfl flX6_26 (Sig_0 S0_) (Sig_7 S0_) ?_
    refine zIload_n 3 3 49 (by decide +kernel) rfl rfl ?_
    obtain ⟨w7, F⟩ := F
    refine yIaload 10 50 (by decide +kernel) rfl (Sig_8 S0_) (w7) ?_
    refine zCallV 6 zcls6 mX6_agrees 45 2 0 0 _ _ 53 [.int (l1), .int (I6 (g + 4) l3.toNatClampNeg)] [.int (l2)] okX6_agrees mlX6_45 imX6_agrees seX6_agrees (by decide +kernel) rfl rfl (Nat.le_of_ble_eq_true rfl) rfl rfl (Sig_0 S0_) (zC.mono F ?_)
    rintro _ _ ⟨x8, I9, rfl, rfl, F⟩
    change zV G (d + 1) mX6_fitting kc ks 53 [(0, .ref (g)), (1, .int (l1)), (2, .int (l2)), (3, .int (l3))] [.int (x8), .int (l2)] (I9, J, R, K, n) Q
    suffices KK : zV G (d + 1) mX6_fitting kc ks 63 [(0, .ref (g)), (1, .int (l1)), (2, .int (l2)), (3, .int (l3))] [.int ((if x8 = 0 then 0 else (1 : Int32) <<< (l3 &&& 31))), .int (l2)] (I9, J, R, K, n) Q by
      refine zIf_eq 9 62 56 (by decide +kernel) rfl rfl ⟨fun q10 => ?_, fun q10 => ?_⟩
      · refine zIconst 0 0 63 (by decide +kernel) rfl (by decide) ?_
        exact zTop (by rw [if_pos q10]) KK
      · refine zIconst 1 1 57 (by decide +kernel) rfl (by decide) ?_
        refine zIload_n 3 3 58 (by decide +kernel) rfl rfl ?_
        refine zIshl 59 (by decide +kernel) rfl ?_
        refine zGoto 4 63 (by decide +kernel) rfl ?_
        exact zTop (by rw [if_neg q10]) KK
    refine zIor 64 (by decide +kernel) rfl ?_
    refine zIstore_n 2 [(2, .int (l2 ||| (if x8 = 0 then 0 else (1 : Int32) <<< (l3 &&& 31)))), (0, .ref (g)), (1, .int (l1)), (3, .int (l3))] 65 (by decide +kernel) rfl (by decide) rfl ?_
    refine zIinc 3 1 3 (l3 + 1) [(3, .int (l3 + 1)), (2, .int (l2 ||| (if x8 = 0 then 0 else (1 : Int32) <<< (l3 &&& 31)))), (0, .ref (g)), (1, .int (l1))] 68 (by decide +kernel) rfl rfl (by rfl) (by decide) rfl ?_
    refine zGoto (-57) 11 (by decide +kernel) rfl ?_
    exact zLoc [2, 3, 1, 0] _ rfl F
set_option maxHeartbeats 2000000 in
theorem wX6_agrees_0 {G : zG} {d kc ks : Nat} {I : Nat → Nat → Int32} {J : Nat → Nat → Int64} {R : Nat → Nat → Option Nat} {K : Nat → Nat × Nat} {n : Nat} {Q : Option Value → zH → Prop} (g a s v : Nat) (S0_ : hSig G R K n g a s v) (p1 p2 : Int32) (F : zV G (d + 1) mX6_agrees kc ks 2 [(0, .ref (g)), (1, .int (p1)), (2, .int (p2)), (3, .int (0))] [] (I, J, R, K, n) Q) : zV G (d + 1) mX6_agrees kc ks 0 [(0, .ref (g)), (1, .int (p1)), (2, .int (p2))] [] (I, J, R, K, n) Q := by
  refine zIconst 0 0 1 (by decide +kernel) rfl (by decide) ?_
  refine zIstore_n 3 [(3, .int (0)), (0, .ref (g)), (1, .int (p1)), (2, .int (p2))] 2 (by decide +kernel) rfl (by decide) rfl ?_
  exact zLoc [1, 2, 3, 0] _ rfl F
set_option maxHeartbeats 2000000 in
theorem wX6_agrees_2 {G : zG} {d kc ks : Nat} {I : Nat → Nat → Int32} {J : Nat → Nat → Int64} {R : Nat → Nat → Option Nat} {K : Nat → Nat × Nat} {n : Nat} {Q : Option Value → zH → Prop} (g a s v : Nat) (S0_ : hSig G R K n g a s v) (l1 l2 l3 : Int32) (F : (((I g 0 : Int32) ≤ l3 → Q (some (.int (1))) (I, J, R, K, n)) ∧ (¬ ((I g 0 : Int32) ≤ l3) → ((vp_in l3 10) ∧ (((I (g + 1) l3.toNatClampNeg : Int32) = l1 → ((vp_in l3 10) ∧ ((vp_in l3 10) ∧ ((((if l2 < (I (g + 2) l3.toNatClampNeg : Int32) then 0 else 1) : Int32) = (I (g + 3) l3.toNatClampNeg : Int32) → zV G (d + 1) mX6_agrees kc ks 2 [(0, .ref (g)), (1, .int (l1)), (2, .int (l2)), (3, .int (l3 + 1))] [] (I, J, R, K, n) Q) ∧ (¬ (((if l2 < (I (g + 2) l3.toNatClampNeg : Int32) then 0 else 1) : Int32) = (I (g + 3) l3.toNatClampNeg : Int32)) → Q (some (.int (0))) (I, J, R, K, n)))))) ∧ (¬ ((I (g + 1) l3.toNatClampNeg : Int32) = l1) → zV G (d + 1) mX6_agrees kc ks 2 [(0, .ref (g)), (1, .int (l1)), (2, .int (l2)), (3, .int (l3 + 1))] [] (I, J, R, K, n) Q)))))) : zV G (d + 1) mX6_agrees kc ks 2 [(0, .ref (g)), (1, .int (l1)), (2, .int (l2)), (3, .int (l3))] [] (I, J, R, K, n) Q := by
  refine zIload_n 3 3 3 (by decide +kernel) rfl rfl ?_
  refine zAload_n 0 0 4 (by decide +kernel) rfl rfl ?_
  refine gf6_0 9 7 (by decide +kernel) rfl flX6_9 (Sig_0 S0_) ?_
  refine zIcmp_ge 45 52 10 (by decide +kernel) rfl rfl ⟨fun q1 => ?_, fun q1 => ?_⟩
  · replace F := F.1 q1
    refine zIconst 1 1 53 (by decide +kernel) rfl (by decide) ?_
    exact zZret .boolean rfl (zNarZ (Or.inr rfl)) (by decide +kernel) F
  · replace F := F.2 q1
    refine zAload_n 0 0 11 (by decide +kernel) rfl rfl ?_
    refine gf6_1 15 14 (by decide +kernel) rfl flX6_15 (Sig_0 S0_) (Sig_1 S0_) ?_
    refine zIload_n 3 3 15 (by decide +kernel) rfl rfl ?_
    obtain ⟨w2, F⟩ := F
    refine yIaload 10 16 (by decide +kernel) rfl (Sig_2 S0_) (w2) ?_
    refine zIload_n 1 1 17 (by decide +kernel) rfl rfl ?_
    refine zIcmp_ne 29 46 20 (by decide +kernel) rfl rfl ⟨fun q3 => ?_, fun q3 => ?_⟩
    · replace F := F.2 q3
      refine zIinc 3 1 3 (l3 + 1) [(3, .int (l3 + 1)), (0, .ref (g)), (1, .int (l1)), (2, .int (l2))] 49 (by decide +kernel) rfl rfl (by rfl) (by decide) rfl ?_
      refine zGoto (-47) 2 (by decide +kernel) rfl ?_
      exact zLoc [1, 2, 3, 0] _ rfl F
    · replace F := F.1 q3
      refine zIload_n 2 2 21 (by decide +kernel) rfl rfl ?_
      refine zAload_n 0 0 22 (by decide +kernel) rfl rfl ?_
      refine gf6_2 19 25 (by decide +kernel) rfl flX6_19 (Sig_0 S0_) (Sig_3 S0_) ?_
      refine zIload_n 3 3 26 (by decide +kernel) rfl rfl ?_
      obtain ⟨w4, F⟩ := F
      refine yIaload 10 27 (by decide +kernel) rfl (Sig_4 S0_) (w4) ?_
      suffices KK : zV G (d + 1) mX6_agrees kc ks 35 [(0, .ref (g)), (1, .int (l1)), (2, .int (l2)), (3, .int (l3))] [.int ((if l2 < (I (g + 2) l3.toNatClampNeg : Int32) then 0 else 1))] (I, J, R, K, n) Q by
        refine zIcmp_lt 7 34 30 (by decide +kernel) rfl rfl ⟨fun q5 => ?_, fun q5 => ?_⟩
        · refine zIconst 0 0 35 (by decide +kernel) rfl (by decide) ?_
          exact zTop (by rw [if_pos q5]) KK
        · refine zIconst 1 1 31 (by decide +kernel) rfl (by decide) ?_
          refine zGoto 4 35 (by decide +kernel) rfl ?_
          exact zTop (by rw [if_neg q5]) KK
      refine zAload_n 0 0 36 (by decide +kernel) rfl rfl ?_
      refine gf6_3 22 39 (by decide +kernel) rfl flX6_22 (Sig_0 S0_) (Sig_5 S0_) ?_
      refine zIload_n 3 3 40 (by decide +kernel) rfl rfl ?_
      obtain ⟨w6, F⟩ := F
      refine yZaload 10 41 (by decide +kernel) rfl (Sig_6 S0_) (w6) ?_
      refine zIcmp_eq 5 46 44 (by decide +kernel) rfl rfl ⟨fun q7 => ?_, fun q7 => ?_⟩
      · replace F := F.1 q7
        refine zIinc 3 1 3 (l3 + 1) [(3, .int (l3 + 1)), (0, .ref (g)), (1, .int (l1)), (2, .int (l2))] 49 (by decide +kernel) rfl rfl (by rfl) (by decide) rfl ?_
        refine zGoto (-47) 2 (by decide +kernel) rfl ?_
        exact zLoc [1, 2, 3, 0] _ rfl F
      · replace F := F.2 q7
        refine zIconst 0 0 45 (by decide +kernel) rfl (by decide) ?_
        exact zZret .boolean rfl (zNarZ (Or.inl rfl)) (by decide +kernel) F
set_option maxHeartbeats 2000000 in
theorem wX6_bestMark_0 {G : zG} {d kc ks : Nat} {I : Nat → Nat → Int32} {J : Nat → Nat → Int64} {R : Nat → Nat → Option Nat} {K : Nat → Nat × Nat} {n : Nat} {Q : Option Value → zH → Prop} (g a s v : Nat) (S0_ : hSig G R K n g a s v) (p1 : Int32) (F : zC G d mX6_fitting 0 0 [.ref (g), .int (p1)] (I, J, R, K, n) (fun r h => ∃ (x1 : Int32) (I2 : Nat → Nat → Int32), r = some (.int x1) ∧ h = (I2, J, R, K, n) ∧ zV G (d + 1) mX6_bestMark kc ks 15 [(0, .ref (g)), (1, .int (p1)), (2, .int (x1)), (3, .int ((-1))), (4, .int (10)), (5, .int (0))] [] (I2, J, R, K, n) Q)) : zV G (d + 1) mX6_bestMark kc ks 0 [(0, .ref (g)), (1, .int (p1))] [] (I, J, R, K, n) Q := by
  refine zAload_n 0 0 1 (by decide +kernel) rfl rfl ?_
  refine zIload_n 1 1 2 (by decide +kernel) rfl rfl ?_
  refine zCallV 6 zcls6 mX6_fitting 49 1 0 0 _ _ 5 [.int (p1)] [] okX6_fitting mlX6_49 imX6_fitting seX6_fitting (by decide +kernel) rfl rfl (Nat.le_of_ble_eq_true rfl) rfl rfl (Sig_0 S0_) (zC.mono F ?_)
  rintro _ _ ⟨x1, I2, rfl, rfl, F⟩
  change zV G (d + 1) mX6_bestMark kc ks 5 [(0, .ref (g)), (1, .int (p1))] [.int (x1)] (I2, J, R, K, n) Q
  refine zIstore_n 2 [(2, .int (x1)), (0, .ref (g)), (1, .int (p1))] 6 (by decide +kernel) rfl (by decide) rfl ?_
  refine zIconst (-1) (-1) 7 (by decide +kernel) rfl (by decide) ?_
  refine zIstore_n 3 [(3, .int ((-1))), (2, .int (x1)), (0, .ref (g)), (1, .int (p1))] 8 (by decide +kernel) rfl (by decide) rfl ?_
  refine zBipush 10 10 10 (by decide +kernel) rfl (by decide) ?_
  refine zIstore 4 [(4, .int (10)), (3, .int ((-1))), (2, .int (x1)), (0, .ref (g)), (1, .int (p1))] 12 (by decide +kernel) rfl (by decide) rfl ?_
  refine zIconst 0 0 13 (by decide +kernel) rfl (by decide) ?_
  refine zIstore 5 [(5, .int (0)), (4, .int (10)), (3, .int ((-1))), (2, .int (x1)), (0, .ref (g)), (1, .int (p1))] 15 (by decide +kernel) rfl (by decide) rfl ?_
  exact zLoc [4, 5, 3, 2, 1, 0] _ rfl F
set_option maxHeartbeats 2000000 in
theorem wX6_bestMark_15 {G : zG} {d kc ks : Nat} {I : Nat → Nat → Int32} {J : Nat → Nat → Int64} {R : Nat → Nat → Option Nat} {K : Nat → Nat × Nat} {n : Nat} {Q : Option Value → zH → Prop} (g a s v : Nat) (S0_ : hSig G R K n g a s v) (l1 l2 l3 l4 l5 : Int32) (F : ((40 < l5 → Q (some (.int (l3))) (I, J, R, K, n)) ∧ (¬ (40 < l5) → ((l2 = 0 → Q (some (.int (l3))) (I, J, R, K, n)) ∧ (¬ (l2 = 0) → zC G d mX6_apart 0 0 [.ref (g), .int (l2), .int (l5)] (I, J, R, K, n) (fun r h => ∃ (x5 : Int32) (I6 : Nat → Nat → Int32), r = some (.int x5) ∧ h = (I6, J, R, K, n) ∧ ((l4 ≤ x5 → zV G (d + 1) mX6_bestMark kc ks 15 [(0, .ref (g)), (1, .int (l1)), (2, .int (l2)), (3, .int (l3)), (4, .int (l4)), (5, .int (l5 + 1))] [] (I6, J, R, K, n) Q) ∧ (¬ (l4 ≤ x5) → zV G (d + 1) mX6_bestMark kc ks 15 [(0, .ref (g)), (1, .int (l1)), (2, .int (l2)), (3, .int (l5)), (4, .int (x5)), (5, .int (l5 + 1))] [] (I6, J, R, K, n) Q)))))))) : zV G (d + 1) mX6_bestMark kc ks 15 [(0, .ref (g)), (1, .int (l1)), (2, .int (l2)), (3, .int (l3)), (4, .int (l4)), (5, .int (l5))] [] (I, J, R, K, n) Q := by
  refine zIload 5 5 17 (by decide +kernel) rfl rfl ?_
  refine zBipush 40 40 19 (by decide +kernel) rfl (by decide) ?_
  refine zIcmp_gt 36 55 22 (by decide +kernel) rfl rfl ⟨fun q3 => ?_, fun q3 => ?_⟩
  · replace F := F.1 q3
    refine zIload_n 3 3 56 (by decide +kernel) rfl rfl ?_
    exact zIret rfl (by decide +kernel) F
  · replace F := F.2 q3
    refine zIload_n 2 2 23 (by decide +kernel) rfl rfl ?_
    refine zIf_eq 32 55 26 (by decide +kernel) rfl rfl ⟨fun q4 => ?_, fun q4 => ?_⟩
    · replace F := F.1 q4
      refine zIload_n 3 3 56 (by decide +kernel) rfl rfl ?_
      exact zIret rfl (by decide +kernel) F
    · replace F := F.2 q4
      refine zAload_n 0 0 27 (by decide +kernel) rfl rfl ?_
      refine zIload_n 2 2 28 (by decide +kernel) rfl rfl ?_
      refine zIload 5 5 30 (by decide +kernel) rfl rfl ?_
      refine zCallV 6 zcls6 mX6_apart 52 2 0 0 _ _ 33 [.int (l2), .int (l5)] [] okX6_apart mlX6_52 imX6_apart seX6_apart (by decide +kernel) rfl rfl (Nat.le_of_ble_eq_true rfl) rfl rfl (Sig_0 S0_) (zC.mono F ?_)
      rintro _ _ ⟨x5, I6, rfl, rfl, F⟩
      change zV G (d + 1) mX6_bestMark kc ks 33 [(0, .ref (g)), (1, .int (l1)), (2, .int (l2)), (3, .int (l3)), (4, .int (l4)), (5, .int (l5))] [.int (x5)] (I6, J, R, K, n) Q
      refine zIstore 6 [(6, .int (x5)), (0, .ref (g)), (1, .int (l1)), (2, .int (l2)), (3, .int (l3)), (4, .int (l4)), (5, .int (l5))] 35 (by decide +kernel) rfl (by decide) rfl ?_
      refine zIload 6 0 37 (by decide +kernel) rfl rfl ?_
      refine zIload 4 5 39 (by decide +kernel) rfl rfl ?_
      refine zIcmp_ge 10 49 42 (by decide +kernel) rfl rfl ⟨fun q7 => ?_, fun q7 => ?_⟩
      · replace F := F.1 q7
        refine zIinc 5 1 6 (l5 + 1) [(5, .int (l5 + 1)), (6, .int (x5)), (0, .ref (g)), (1, .int (l1)), (2, .int (l2)), (3, .int (l3)), (4, .int (l4))] 52 (by decide +kernel) rfl rfl (by rfl) (by decide) rfl ?_
        refine zGoto (-37) 15 (by decide +kernel) rfl ?_
        exact zLoc [2, 3, 4, 5, 6, 0] _ rfl F
      · replace F := F.2 q7
        refine zIload 6 0 44 (by decide +kernel) rfl rfl ?_
        refine zIstore 4 [(4, .int (x5)), (6, .int (x5)), (0, .ref (g)), (1, .int (l1)), (2, .int (l2)), (3, .int (l3)), (5, .int (l5))] 46 (by decide +kernel) rfl (by decide) rfl ?_
        refine zIload 5 6 48 (by decide +kernel) rfl rfl ?_
        refine zIstore_n 3 [(3, .int (l5)), (4, .int (x5)), (6, .int (x5)), (0, .ref (g)), (1, .int (l1)), (2, .int (l2)), (5, .int (l5))] 49 (by decide +kernel) rfl (by decide) rfl ?_
        refine zIinc 5 1 6 (l5 + 1) [(5, .int (l5 + 1)), (3, .int (l5)), (4, .int (x5)), (6, .int (x5)), (0, .ref (g)), (1, .int (l1)), (2, .int (l2))] 52 (by decide +kernel) rfl rfl (by rfl) (by decide) rfl ?_
        refine zGoto (-37) 15 (by decide +kernel) rfl ?_
        exact zLoc [4, 5, 6, 1, 2, 0] _ rfl F
set_option maxHeartbeats 2000000 in
theorem wX6_apart_0 {G : zG} {d kc ks : Nat} {I : Nat → Nat → Int32} {J : Nat → Nat → Int64} {R : Nat → Nat → Option Nat} {K : Nat → Nat × Nat} {n : Nat} {Q : Option Value → zH → Prop} (g a s v : Nat) (S0_ : hSig G R K n g a s v) (p1 p2 : Int32) (F : zV G (d + 1) mX6_apart kc ks 5 [(0, .ref (g)), (1, .int (p1)), (2, .int (p2)), (3, .int (0)), (4, .int (1))] [] (I, J, R, K, n) Q) : zV G (d + 1) mX6_apart kc ks 0 [(0, .ref (g)), (1, .int (p1)), (2, .int (p2))] [] (I, J, R, K, n) Q := by
  refine zIconst 0 0 1 (by decide +kernel) rfl (by decide) ?_
  refine zIstore_n 3 [(3, .int (0)), (0, .ref (g)), (1, .int (p1)), (2, .int (p2))] 2 (by decide +kernel) rfl (by decide) rfl ?_
  refine zIconst 1 1 3 (by decide +kernel) rfl (by decide) ?_
  refine zIstore 4 [(4, .int (1)), (3, .int (0)), (0, .ref (g)), (1, .int (p1)), (2, .int (p2))] 5 (by decide +kernel) rfl (by decide) rfl ?_
  exact zLoc [2, 3, 4, 1, 0] _ rfl F
set_option maxHeartbeats 2000000 in
theorem wX6_apart_5 {G : zG} {d kc ks : Nat} {I : Nat → Nat → Int32} {J : Nat → Nat → Int64} {R : Nat → Nat → Option Nat} {K : Nat → Nat × Nat} {n : Nat} {Q : Option Value → zH → Prop} (g a s v : Nat) (S0_ : hSig G R K n g a s v) (l1 l2 l3 l4 : Int32) (F : ((9 < l4 → Q (some (.int ((if 0 ≤ (l3 : Int32) then l3 else 0 - l3)))) (I, J, R, K, n)) ∧ (¬ (9 < l4) → ((((l1 >>> (l4 &&& 31)) &&& 1 : Int32) = 1 → ((vp_in l4 10) ∧ zV G (d + 1) mX6_apart kc ks 5 [(0, .ref (g)), (1, .int (l1)), (2, .int (l2)), (3, .int (l3 + (if (I (g + 4) l4.toNatClampNeg : Int32) < l2 then (-1) else 1))), (4, .int (l4 + 1))] [] (I, J, R, K, n) Q)) ∧ (¬ (((l1 >>> (l4 &&& 31)) &&& 1 : Int32) = 1) → zV G (d + 1) mX6_apart kc ks 5 [(0, .ref (g)), (1, .int (l1)), (2, .int (l2)), (3, .int (l3)), (4, .int (l4 + 1))] [] (I, J, R, K, n) Q))))) : zV G (d + 1) mX6_apart kc ks 5 [(0, .ref (g)), (1, .int (l1)), (2, .int (l2)), (3, .int (l3)), (4, .int (l4))] [] (I, J, R, K, n) Q := by
  refine zIload 4 4 7 (by decide +kernel) rfl rfl ?_
  refine zBipush 9 9 9 (by decide +kernel) rfl (by decide) ?_
  refine zIcmp_gt 38 47 12 (by decide +kernel) rfl rfl ⟨fun q1 => ?_, fun q1 => ?_⟩
  · replace F := F.1 q1
    refine zIload_n 3 3 48 (by decide +kernel) rfl rfl ?_
    refine yAbs 56 51 (by decide +kernel) rfl mlX6_56 (Nat.le_of_ble_eq_true rfl) ?_
    exact zIret rfl (by decide +kernel) F
  · replace F := F.2 q1
    refine zIload_n 1 1 13 (by decide +kernel) rfl rfl ?_
    refine zIload 4 4 15 (by decide +kernel) rfl rfl ?_
    refine zIshr 16 (by decide +kernel) rfl ?_
    refine zIconst 1 1 17 (by decide +kernel) rfl (by decide) ?_
    refine zIand 18 (by decide +kernel) rfl ?_
    refine zIconst 1 1 19 (by decide +kernel) rfl (by decide) ?_
    refine zIcmp_ne 22 41 22 (by decide +kernel) rfl rfl ⟨fun q2 => ?_, fun q2 => ?_⟩
    · replace F := F.2 q2
      refine zIinc 4 1 4 (l4 + 1) [(4, .int (l4 + 1)), (0, .ref (g)), (1, .int (l1)), (2, .int (l2)), (3, .int (l3))] 44 (by decide +kernel) rfl rfl (by rfl) (by decide) rfl ?_
      refine zGoto (-39) 5 (by decide +kernel) rfl ?_
      exact zLoc [1, 2, 3, 4, 0] _ rfl F
    · replace F := F.1 q2
      refine zIload_n 3 3 23 (by decide +kernel) rfl rfl ?_
      refine zAload_n 0 0 24 (by decide +kernel) rfl rfl ?_
      refine gf6_4 26 27 (by decide +kernel) rfl flX6_26 (Sig_0 S0_) (Sig_7 S0_) ?_
      refine zIload 4 4 29 (by decide +kernel) rfl rfl ?_
      obtain ⟨w3, F⟩ := F
      refine yIaload 10 30 (by decide +kernel) rfl (Sig_8 S0_) (w3) ?_
      refine zIload_n 2 2 31 (by decide +kernel) rfl rfl ?_
      suffices KK : zV G (d + 1) mX6_apart kc ks 39 [(0, .ref (g)), (1, .int (l1)), (2, .int (l2)), (3, .int (l3)), (4, .int (l4))] [.int ((if (I (g + 4) l4.toNatClampNeg : Int32) < l2 then (-1) else 1)), .int (l3)] (I, J, R, K, n) Q by
        refine zIcmp_lt 7 38 34 (by decide +kernel) rfl rfl ⟨fun q4 => ?_, fun q4 => ?_⟩
        · refine zIconst (-1) (-1) 39 (by decide +kernel) rfl (by decide) ?_
          exact zTop (by rw [if_pos q4]) KK
        · refine zIconst 1 1 35 (by decide +kernel) rfl (by decide) ?_
          refine zGoto 4 39 (by decide +kernel) rfl ?_
          exact zTop (by rw [if_neg q4]) KK
      refine zIadd 40 (by decide +kernel) rfl ?_
      refine zIstore_n 3 [(3, .int (l3 + (if (I (g + 4) l4.toNatClampNeg : Int32) < l2 then (-1) else 1))), (0, .ref (g)), (1, .int (l1)), (2, .int (l2)), (4, .int (l4))] 41 (by decide +kernel) rfl (by decide) rfl ?_
      refine zIinc 4 1 4 (l4 + 1) [(4, .int (l4 + 1)), (3, .int (l3 + (if (I (g + 4) l4.toNatClampNeg : Int32) < l2 then (-1) else 1))), (0, .ref (g)), (1, .int (l1)), (2, .int (l2))] 44 (by decide +kernel) rfl rfl (by rfl) (by decide) rfl ?_
      refine zGoto (-39) 5 (by decide +kernel) rfl ?_
      exact zLoc [2, 3, 4, 1, 0] _ rfl F
