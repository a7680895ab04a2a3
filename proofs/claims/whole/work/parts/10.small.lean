set_option maxHeartbeats 2000000 in
theorem wX1_logLength_0 {G : zG} {d kc ks : Nat} {I : Nat → Nat → Int32} {J : Nat → Nat → Int64} {R : Nat → Nat → Option Nat} {K : Nat → Nat × Nat} {n : Nat} {Q : Option Value → zH → Prop} (b s v : Nat) (S0_ : hSt G R K n b s v) (F : Q (some (.int ((if (60 : Int32) < (I b 10) then 60 else I b 10)))) (I, J, R, K, n)) : zV G (d + 1) mX1_logLength kc ks 0 [(0, .ref (b))] [] (I, J, R, K, n) Q := by
  refine zAload_n 0 0 1 (by decide +kernel) rfl rfl ?_
  refine gf8_10 37 4 (by decide +kernel) rfl flX1_37 (St_0 S0_) ?_
  refine zBipush 60 60 6 (by decide +kernel) rfl (by decide) ?_
  refine yMin 40 9 (by decide +kernel) rfl mlX1_40 (Nat.le_of_ble_eq_true rfl) ?_
  exact zIret rfl (by decide +kernel) F
set_option maxHeartbeats 2000000 in
theorem wX1_clear_0 {G : zG} {d kc ks : Nat} {I : Nat → Nat → Int32} {J : Nat → Nat → Int64} {R : Nat → Nat → Option Nat} {K : Nat → Nat × Nat} {n : Nat} {Q : Option Value → zH → Prop} (g : Nat) (S0_ : hHis G R K n g) (F : (∀ I1 : Nat → Nat → Int32, I1 = zU I g 0 (0) → (∀ I2 : Nat → Nat → Int32, I2 = zU I1 g 4 (0) → Q none (I2, J, R, K, n)))) : zV G (d + 1) mX1_clear kc ks 0 [(0, .ref (g))] [] (I, J, R, K, n) Q := by
  refine zAload_n 0 0 1 (by decide +kernel) rfl rfl ?_
  refine zIconst 0 0 2 (by decide +kernel) rfl (by decide) ?_
  refine pf1_0 9 5 (by decide +kernel) rfl flX1_9 (His_0 S0_) ?_
  replace F := F _ rfl
  generalize zU I g 0 (0) = I1 at F ⊢
  refine zAload_n 0 0 6 (by decide +kernel) rfl rfl ?_
  refine zIconst 0 0 7 (by decide +kernel) rfl (by decide) ?_
  refine pf1_4 26 10 (by decide +kernel) rfl flX1_26 (Or.inl rfl) (His_0 S0_) ?_
  replace F := F _ rfl
  generalize zU I1 g 4 (0) = I2 at F ⊢
  exact zVret rfl (by decide +kernel) F
set_option maxHeartbeats 2000000 in
theorem wX1_prepare_0 {G : zG} {d kc ks : Nat} {I : Nat → Nat → Int32} {J : Nat → Nat → Int64} {R : Nat → Nat → Option Nat} {K : Nat → Nat × Nat} {n : Nat} {Q : Option Value → zH → Prop} (g b s v : Nat) (S0_ : hHis G R K n g) (S1_ : hSt G R K n b s v) (F : ((vp_in (I g 2) 41) ∧ zC G d mX8_keep 0 0 [.ref (b), .ref (g + 2 + (I g 2 : Int32).toNatClampNeg)] (I, J, R, K, n) (fun r h => ∃ (I2 : Nat → Nat → Int32), r = none ∧ h = (I2, J, R, K, n) ∧ Q none (I2, J, R, K, n)))) : zV G (d + 1) mX1_prepare kc ks 0 [(0, .ref (g)), (1, .ref (b))] [] (I, J, R, K, n) Q := by
  refine zAload_n 1 1 1 (by decide +kernel) rfl rfl ?_
  refine zAload_n 0 0 2 (by decide +kernel) rfl rfl ?_
  refine gf1_1 17 5 (by decide +kernel) rfl flX1_17 (His_0 S0_) (His_1 S0_) ?_
  refine zAload_n 0 0 6 (by decide +kernel) rfl rfl ?_
  refine gf1_2 20 9 (by decide +kernel) rfl flX1_20 (His_0 S0_) ?_
  obtain ⟨w1, F⟩ := F
  refine yAaloadG 41 10 (by decide +kernel) rfl (His_2 S0_) (w1) ((His_3 S0_) _ (zInLt (w1))).1 ?_
  refine zCallV 8 zcls8 mX8_keep 46 1 0 0 _ _ 13 [.ref (g + 2 + (I g 2 : Int32).toNatClampNeg)] [] okX8_keep mlX1_46 imX8_keep seX8_keep (by decide +kernel) rfl rfl (Nat.le_of_ble_eq_true rfl) rfl rfl (St_0 S1_) (zC.mono F ?_)
  rintro _ _ ⟨I2, rfl, rfl, F⟩
  change zV G (d + 1) mX1_prepare kc ks 13 [(0, .ref (g)), (1, .ref (b))] [] (I2, J, R, K, n) Q
  exact zVret rfl (by decide +kernel) F
set_option maxHeartbeats 2000000 in
theorem wX1_close_0 {G : zG} {d kc ks : Nat} {I : Nat → Nat → Int32} {J : Nat → Nat → Int64} {R : Nat → Nat → Option Nat} {K : Nat → Nat × Nat} {n : Nat} {Q : Option Value → zH → Prop} (g : Nat) (S0_ : hHis G R K n g) (F : ((¬ ((nI 41) : Int32) = 0) ∧ (∀ I2 : Nat → Nat → Int32, I2 = zU I g 2 (((I g 2) + 1) - ((I g 2) + 1) / (nI 41) * (nI 41)) → (∀ I3 : Nat → Nat → Int32, I3 = zU I2 g 0 ((if (40 : Int32) < ((I2 g 0) + 1) then 40 else (I2 g 0) + 1)) → Q none (I3, J, R, K, n))))) : zV G (d + 1) mX1_close kc ks 0 [(0, .ref (g))] [] (I, J, R, K, n) Q := by
  refine zAload_n 0 0 1 (by decide +kernel) rfl rfl ?_
  refine zAload_n 0 0 2 (by decide +kernel) rfl rfl ?_
  refine gf1_2 20 5 (by decide +kernel) rfl flX1_20 (His_0 S0_) ?_
  refine zIconst 1 1 6 (by decide +kernel) rfl (by decide) ?_
  refine zIadd 7 (by decide +kernel) rfl ?_
  refine zAload_n 0 0 8 (by decide +kernel) rfl rfl ?_
  refine gf1_1 17 11 (by decide +kernel) rfl flX1_17 (His_0 S0_) (His_1 S0_) ?_
  refine yAlenR 36 41 12 (by decide +kernel) rfl (by decide) (by decide) (His_2 S0_) ?_
  obtain ⟨w1, F⟩ := F
  refine zIrem 13 (by decide +kernel) rfl (w1) ?_
  refine pf1_2 20 16 (by decide +kernel) rfl flX1_20 (His_0 S0_) ?_
  replace F := F _ rfl
  generalize zU I g 2 (((I g 2) + 1) - ((I g 2) + 1) / (nI 41) * (nI 41)) = I2 at F ⊢
  refine zAload_n 0 0 17 (by decide +kernel) rfl rfl ?_
  refine zAload_n 0 0 18 (by decide +kernel) rfl rfl ?_
  refine gf1_0 9 21 (by decide +kernel) rfl flX1_9 (His_0 S0_) ?_
  refine zIconst 1 1 22 (by decide +kernel) rfl (by decide) ?_
  refine zIadd 23 (by decide +kernel) rfl ?_
  refine zBipush 40 40 25 (by decide +kernel) rfl (by decide) ?_
  refine yMin 40 28 (by decide +kernel) rfl mlX1_40 (Nat.le_of_ble_eq_true rfl) ?_
  refine pf1_0 9 31 (by decide +kernel) rfl flX1_9 (His_0 S0_) ?_
  replace F := F _ rfl
  generalize zU I2 g 0 ((if (40 : Int32) < ((I2 g 0) + 1) then 40 else (I2 g 0) + 1)) = I3 at F ⊢
  exact zVret rfl (by decide +kernel) F
set_option maxHeartbeats 2000000 in
theorem wX1_takeBack_0 {G : zG} {d kc ks : Nat} {I : Nat → Nat → Int32} {J : Nat → Nat → Int64} {R : Nat → Nat → Option Nat} {K : Nat → Nat × Nat} {n : Nat} {Q : Option Value → zH → Prop} (g b s v : Nat) (S0_ : hHis G R K n g) (S1_ : hSt G R K n b s v) (F : (((I g 0 : Int32) = 0 → Q (some (.int (0))) (I, J, R, K, n)) ∧ (¬ ((I g 0 : Int32) = 0) → ((¬ ((nI 41) : Int32) = 0) ∧ (∀ I3 : Nat → Nat → Int32, I3 = zU I g 2 (((I g 2) + 40) - ((I g 2) + 40) / (nI 41) * (nI 41)) → (∀ I4 : Nat → Nat → Int32, I4 = zU I3 g 0 ((I3 g 0) - 1) → ((vp_in (I4 g 2) 41) ∧ zC G d mX8_recall 0 0 [.ref (b), .ref (g + 2 + (I4 g 2 : Int32).toNatClampNeg)] (I4, J, R, K, n) (fun r h => ∃ (I6 : Nat → Nat → Int32), r = none ∧ h = (I6, J, R, K, n) ∧ Q (some (.int (1))) (I6, J, R, K, n))))))))) : zV G (d + 1) mX1_takeBack kc ks 0 [(0, .ref (g)), (1, .ref (b))] [] (I, J, R, K, n) Q := by
  refine zAload_n 0 0 1 (by decide +kernel) rfl rfl ?_
  refine gf1_0 9 4 (by decide +kernel) rfl flX1_9 (His_0 S0_) ?_
  refine zIf_ne 5 9 7 (by decide +kernel) rfl rfl ⟨fun q1 => ?_, fun q1 => ?_⟩
  · replace F := F.2 q1
    refine zAload_n 0 0 10 (by decide +kernel) rfl rfl ?_
    refine zAload_n 0 0 11 (by decide +kernel) rfl rfl ?_
    refine gf1_2 20 14 (by decide +kernel) rfl flX1_20 (His_0 S0_) ?_
    refine zBipush 40 40 16 (by decide +kernel) rfl (by decide) ?_
    refine zIadd 17 (by decide +kernel) rfl ?_
    refine zAload_n 0 0 18 (by decide +kernel) rfl rfl ?_
    refine gf1_1 17 21 (by decide +kernel) rfl flX1_17 (His_0 S0_) (His_1 S0_) ?_
    refine yAlenR 36 41 22 (by decide +kernel) rfl (by decide) (by decide) (His_2 S0_) ?_
    obtain ⟨w2, F⟩ := F
    refine zIrem 23 (by decide +kernel) rfl (w2) ?_
    refine pf1_2 20 26 (by decide +kernel) rfl flX1_20 (His_0 S0_) ?_
    replace F := F _ rfl
    generalize zU I g 2 (((I g 2) + 40) - ((I g 2) + 40) / (nI 41) * (nI 41)) = I3 at F ⊢
    refine zAload_n 0 0 27 (by decide +kernel) rfl rfl ?_
    refine zDup 28 (by decide +kernel) rfl rfl ?_
    refine gf1_0 9 31 (by decide +kernel) rfl flX1_9 (His_0 S0_) ?_
    refine zIconst 1 1 32 (by decide +kernel) rfl (by decide) ?_
    refine zIsub 33 (by decide +kernel) rfl ?_
    refine pf1_0 9 36 (by decide +kernel) rfl flX1_9 (His_0 S0_) ?_
    replace F := F _ rfl
    generalize zU I3 g 0 ((I3 g 0) - 1) = I4 at F ⊢
    refine zAload_n 1 1 37 (by decide +kernel) rfl rfl ?_
    refine zAload_n 0 0 38 (by decide +kernel) rfl rfl ?_
    refine gf1_1 17 41 (by decide +kernel) rfl flX1_17 (His_0 S0_) (His_1 S0_) ?_
    refine zAload_n 0 0 42 (by decide +kernel) rfl rfl ?_
    refine gf1_2 20 45 (by decide +kernel) rfl flX1_20 (His_0 S0_) ?_
    obtain ⟨w5, F⟩ := F
    refine yAaloadG 41 46 (by decide +kernel) rfl (His_2 S0_) (w5) ((His_3 S0_) _ (zInLt (w5))).1 ?_
    refine zCallV 8 zcls8 mX8_recall 50 1 0 0 _ _ 49 [.ref (g + 2 + (I4 g 2 : Int32).toNatClampNeg)] [] okX8_recall mlX1_50 imX8_recall seX8_recall (by decide +kernel) rfl rfl (Nat.le_of_ble_eq_true rfl) rfl rfl (St_0 S1_) (zC.mono F ?_)
    rintro _ _ ⟨I6, rfl, rfl, F⟩
    change zV G (d + 1) mX1_takeBack kc ks 49 [(0, .ref (g)), (1, .ref (b))] [] (I6, J, R, K, n) Q
    refine zIconst 1 1 50 (by decide +kernel) rfl (by decide) ?_
    exact zZret .boolean rfl (zNarZ (Or.inr rfl)) (by decide +kernel) F
  · replace F := F.1 q1
    refine zIconst 0 0 8 (by decide +kernel) rfl (by decide) ?_
    exact zZret .boolean rfl (zNarZ (Or.inl rfl)) (by decide +kernel) F
set_option maxHeartbeats 2000000 in
theorem wX1_write_0 {G : zG} {d kc ks : Nat} {I : Nat → Nat → Int32} {J : Nat → Nat → Int64} {R : Nat → Nat → Option Nat} {K : Nat → Nat × Nat} {n : Nat} {Q : Option Value → zH → Prop} (g b s v : Nat) (S0_ : hHis G R K n g) (S1_ : hSt G R K n b s v) (F : ((vp_in 0 3) ∧ zC G d mX8_whites 0 0 [.ref (b)] (I, J, R, K, n) (fun r h => ∃ (x2 : Int32) (I3 : Nat → Nat → Int32), r = some (.int x2) ∧ h = (I3, J, R, K, n) ∧ (vp_in ((if ((I b 10) - 1 : Int32) < 0 then 0 else (I b 10) - 1) - (if ((I b 10) - 1 : Int32) < 0 then 0 else (I b 10) - 1) / 100 * 100) 100 ∧ ∀ I4 : Nat → Nat → Int32, I4 = zU I3 (g + 44 + (0 : Int32).toNatClampNeg) ((if ((I b 10) - 1 : Int32) < 0 then 0 else (I b 10) - 1) - (if ((I b 10) - 1 : Int32) < 0 then 0 else (I b 10) - 1) / 100 * 100 : Int32).toNatClampNeg (x2) → ((vp_in 1 3) ∧ (vp_in ((if ((I b 10) - 1 : Int32) < 0 then 0 else (I b 10) - 1) - (if ((I b 10) - 1 : Int32) < 0 then 0 else (I b 10) - 1) / 100 * 100) 100 ∧ ∀ I6 : Nat → Nat → Int32, I6 = zU I4 (g + 44 + (1 : Int32).toNatClampNeg) ((if ((I b 10) - 1 : Int32) < 0 then 0 else (I b 10) - 1) - (if ((I b 10) - 1 : Int32) < 0 then 0 else (I b 10) - 1) / 100 * 100 : Int32).toNatClampNeg (I4 b 11) → ((vp_in 2 3) ∧ (vp_in ((if ((I b 10) - 1 : Int32) < 0 then 0 else (I b 10) - 1) - (if ((I b 10) - 1 : Int32) < 0 then 0 else (I b 10) - 1) / 100 * 100) 100 ∧ ∀ I8 : Nat → Nat → Int32, I8 = zU I6 (g + 44 + (2 : Int32).toNatClampNeg) ((if ((I b 10) - 1 : Int32) < 0 then 0 else (I b 10) - 1) - (if ((I b 10) - 1 : Int32) < 0 then 0 else (I b 10) - 1) / 100 * 100 : Int32).toNatClampNeg (I6 b 8) → Q none (I8, J, R, K, n))))))))) : zV G (d + 1) mX1_write kc ks 0 [(0, .ref (g)), (1, .ref (b))] [] (I, J, R, K, n) Q := by
  refine zAload_n 1 1 1 (by decide +kernel) rfl rfl ?_
  refine gf8_10 37 4 (by decide +kernel) rfl flX1_37 (St_0 S1_) ?_
  refine zIconst 1 1 5 (by decide +kernel) rfl (by decide) ?_
  refine zIsub 6 (by decide +kernel) rfl ?_
  refine zIconst 0 0 7 (by decide +kernel) rfl (by decide) ?_
  refine yMax 53 10 (by decide +kernel) rfl mlX1_53 (Nat.le_of_ble_eq_true rfl) ?_
  refine zBipush 100 100 12 (by decide +kernel) rfl (by decide) ?_
  refine zIrem 13 (by decide +kernel) rfl (by decide) ?_
  refine zIstore_n 2 [(2, .int ((if ((I b 10) - 1 : Int32) < 0 then 0 else (I b 10) - 1) - (if ((I b 10) - 1 : Int32) < 0 then 0 else (I b 10) - 1) / 100 * 100)), (0, .ref (g)), (1, .ref (b))] 14 (by decide +kernel) rfl (by decide) rfl ?_
  refine zAload_n 0 1 15 (by decide +kernel) rfl rfl ?_
  refine gf1_3 23 18 (by decide +kernel) rfl flX1_23 (His_0 S0_) (His_4 S0_) ?_
  refine zIconst 0 0 19 (by decide +kernel) rfl (by decide) ?_
  obtain ⟨w1, F⟩ := F
  refine yAaloadG 3 20 (by decide +kernel) rfl (His_5 S0_) (w1) ((His_6 S0_) _ (zInLt (w1))).1 ?_
  refine zIload_n 2 0 21 (by decide +kernel) rfl rfl ?_
  refine zAload_n 1 2 22 (by decide +kernel) rfl rfl ?_
  refine zCallV 8 zcls8 mX8_whites 56 0 0 0 _ _ 25 [] [.int ((if ((I b 10) - 1 : Int32) < 0 then 0 else (I b 10) - 1) - (if ((I b 10) - 1 : Int32) < 0 then 0 else (I b 10) - 1) / 100 * 100), .ref (g + 44 + (0 : Int32).toNatClampNeg)] okX8_whites mlX1_56 imX8_whites seX8_whites (by decide +kernel) rfl rfl (Nat.le_of_ble_eq_true rfl) rfl rfl (St_0 S1_) (zC.mono F ?_)
  rintro _ _ ⟨x2, I3, rfl, rfl, F⟩
  change zV G (d + 1) mX1_write kc ks 25 [(2, .int ((if ((I b 10) - 1 : Int32) < 0 then 0 else (I b 10) - 1) - (if ((I b 10) - 1 : Int32) < 0 then 0 else (I b 10) - 1) / 100 * 100)), (0, .ref (g)), (1, .ref (b))] [.int (x2), .int ((if ((I b 10) - 1 : Int32) < 0 then 0 else (I b 10) - 1) - (if ((I b 10) - 1 : Int32) < 0 then 0 else (I b 10) - 1) / 100 * 100), .ref (g + 44 + (0 : Int32).toNatClampNeg)] (I3, J, R, K, n) Q
  refine yIastore 100 26 (by decide +kernel) rfl ((His_6 S0_) _ (zInLt (w1))).2 F.1 ?_
  replace F := F.2 _ rfl
  generalize zU I3 (g + 44 + (0 : Int32).toNatClampNeg) ((if ((I b 10) - 1 : Int32) < 0 then 0 else (I b 10) - 1) - (if ((I b 10) - 1 : Int32) < 0 then 0 else (I b 10) - 1) / 100 * 100 : Int32).toNatClampNeg (x2) = I4 at F ⊢
  refine zAload_n 0 1 27 (by decide +kernel) rfl rfl ?_
  refine gf1_3 23 30 (by decide +kernel) rfl flX1_23 (His_0 S0_) (His_4 S0_) ?_
  refine zIconst 1 1 31 (by decide +kernel) rfl (by decide) ?_
  obtain ⟨w5, F⟩ := F
  refine yAaloadG 3 32 (by decide +kernel) rfl (His_5 S0_) (w5) ((His_6 S0_) _ (zInLt (w5))).1 ?_
  refine zIload_n 2 0 33 (by decide +kernel) rfl rfl ?_
  refine zAload_n 1 2 34 (by decide +kernel) rfl rfl ?_
  refine gf8_11 60 37 (by decide +kernel) rfl flX1_60 (St_0 S1_) ?_
  refine yIastore 100 38 (by decide +kernel) rfl ((His_6 S0_) _ (zInLt (w5))).2 F.1 ?_
  replace F := F.2 _ rfl
  generalize zU I4 (g + 44 + (1 : Int32).toNatClampNeg) ((if ((I b 10) - 1 : Int32) < 0 then 0 else (I b 10) - 1) - (if ((I b 10) - 1 : Int32) < 0 then 0 else (I b 10) - 1) / 100 * 100 : Int32).toNatClampNeg (I4 b 11) = I6 at F ⊢
  refine zAload_n 0 1 39 (by decide +kernel) rfl rfl ?_
  refine gf1_3 23 42 (by decide +kernel) rfl flX1_23 (His_0 S0_) (His_4 S0_) ?_
  refine zIconst 2 2 43 (by decide +kernel) rfl (by decide) ?_
  obtain ⟨w7, F⟩ := F
  refine yAaloadG 3 44 (by decide +kernel) rfl (His_5 S0_) (w7) ((His_6 S0_) _ (zInLt (w7))).1 ?_
  refine zIload_n 2 0 45 (by decide +kernel) rfl rfl ?_
  refine zAload_n 1 2 46 (by decide +kernel) rfl rfl ?_
  refine gf8_8 63 49 (by decide +kernel) rfl flX1_63 (St_0 S1_) ?_
  refine yIastore 100 50 (by decide +kernel) rfl ((His_6 S0_) _ (zInLt (w7))).2 F.1 ?_
  replace F := F.2 _ rfl
  generalize zU I6 (g + 44 + (2 : Int32).toNatClampNeg) ((if ((I b 10) - 1 : Int32) < 0 then 0 else (I b 10) - 1) - (if ((I b 10) - 1 : Int32) < 0 then 0 else (I b 10) - 1) / 100 * 100 : Int32).toNatClampNeg (I6 b 8) = I8 at F ⊢
  exact zVret rfl (by decide +kernel) F
set_option maxHeartbeats 2000000 in
theorem wX1_logged_0 {G : zG} {d kc ks : Nat} {I : Nat → Nat → Int32} {J : Nat → Nat → Int64} {R : Nat → Nat → Option Nat} {K : Nat → Nat × Nat} {n : Nat} {Q : Option Value → zH → Prop} (g : Nat) (S0_ : hHis G R K n g) (p1 p2 : Int32) (F : ((vp_in p2 3) ∧ ((vp_in ((if (p1 : Int32) < 0 then 0 else p1) - (if (p1 : Int32) < 0 then 0 else p1) / 100 * 100) 100) ∧ Q (some (.int (I (g + 44 + p2.toNatClampNeg) ((if (p1 : Int32) < 0 then 0 else p1) - (if (p1 : Int32) < 0 then 0 else p1) / 100 * 100 : Int32).toNatClampNeg))) (I, J, R, K, n)))) : zV G (d + 1) mX1_logged kc ks 0 [(0, .ref (g)), (1, .int (p1)), (2, .int (p2))] [] (I, J, R, K, n) Q := by
  refine zAload_n 0 0 1 (by decide +kernel) rfl rfl ?_
  refine gf1_3 23 4 (by decide +kernel) rfl flX1_23 (His_0 S0_) (His_4 S0_) ?_
  refine zIload_n 2 2 5 (by decide +kernel) rfl rfl ?_
  obtain ⟨w1, F⟩ := F
  refine yAaloadG 3 6 (by decide +kernel) rfl (His_5 S0_) (w1) ((His_6 S0_) _ (zInLt (w1))).1 ?_
  refine zIload_n 1 1 7 (by decide +kernel) rfl rfl ?_
  refine zIconst 0 0 8 (by decide +kernel) rfl (by decide) ?_
  refine yMax 53 11 (by decide +kernel) rfl mlX1_53 (Nat.le_of_ble_eq_true rfl) ?_
  refine zBipush 100 100 13 (by decide +kernel) rfl (by decide) ?_
  refine zIrem 14 (by decide +kernel) rfl (by decide) ?_
  obtain ⟨w2, F⟩ := F
  refine yIaload 100 15 (by decide +kernel) rfl ((His_6 S0_) _ (zInLt (w1))).2 (w2) ?_
  exact zIret rfl (by decide +kernel) F
set_option maxHeartbeats 2000000 in
theorem wX1_portray_0 {G : zG} {d kc ks : Nat} {I : Nat → Nat → Int32} {J : Nat → Nat → Int64} {R : Nat → Nat → Option Nat} {K : Nat → Nat × Nat} {n : Nat} {Q : Option Value → zH → Prop} (g b s v : Nat) (S0_ : hHis G R K n g) (S1_ : hSt G R K n b s v) (F : zC G d mX8_keep 0 0 [.ref (b), .ref (g + 47)] (I, J, R, K, n) (fun r h => ∃ (I1 : Nat → Nat → Int32), r = none ∧ h = (I1, J, R, K, n) ∧ (∀ I2 : Nat → Nat → Int32, I2 = zU I1 g 4 (1) → zV G (d + 1) mX1_portray kc ks 15 [(0, .ref (g)), (1, .ref (b)), (2, .int (0))] [] (I2, J, R, K, n) Q))) : zV G (d + 1) mX1_portray kc ks 0 [(0, .ref (g)), (1, .ref (b))] [] (I, J, R, K, n) Q := by
  refine zAload_n 1 1 1 (by decide +kernel) rfl rfl ?_
  refine zAload_n 0 0 2 (by decide +kernel) rfl rfl ?_
  refine gf1_5 30 5 (by decide +kernel) rfl flX1_30 (His_0 S0_) (His_7 S0_) ?_
  refine zCallV 8 zcls8 mX8_keep 46 1 0 0 _ _ 8 [.ref (g + 47)] [] okX8_keep mlX1_46 imX8_keep seX8_keep (by decide +kernel) rfl rfl (Nat.le_of_ble_eq_true rfl) rfl rfl (St_0 S1_) (zC.mono F ?_)
  rintro _ _ ⟨I1, rfl, rfl, F⟩
  change zV G (d + 1) mX1_portray kc ks 8 [(0, .ref (g)), (1, .ref (b))] [] (I1, J, R, K, n) Q
  refine zAload_n 0 0 9 (by decide +kernel) rfl rfl ?_
  refine zIconst 1 1 10 (by decide +kernel) rfl (by decide) ?_
  refine pf1_4 26 13 (by decide +kernel) rfl flX1_26 (Or.inr rfl) (His_0 S0_) ?_
  replace F := F _ rfl
  generalize zU I1 g 4 (1) = I2 at F ⊢
  refine zIconst 0 0 14 (by decide +kernel) rfl (by decide) ?_
  refine zIstore_n 2 [(2, .int (0)), (0, .ref (g)), (1, .ref (b))] 15 (by decide +kernel) rfl (by decide) rfl ?_
  exact zLoc [1, 2, 0] _ rfl F
set_option maxHeartbeats 2000000 in
theorem wX1_portray_15 {G : zG} {d kc ks : Nat} {I : Nat → Nat → Int32} {J : Nat → Nat → Int64} {R : Nat → Nat → Option Nat} {K : Nat → Nat × Nat} {n : Nat} {Q : Option Value → zH → Prop} (g b s v : Nat) (S0_ : hHis G R K n g) (S1_ : hSt G R K n b s v) (l2 : Int32) (F : zC G d mX1_logLength 0 0 [.ref (b)] (I, J, R, K, n) (fun r h => ∃ (x3 : Int32) (I4 : Nat → Nat → Int32), r = some (.int x3) ∧ h = (I4, J, R, K, n) ∧ ((x3 ≤ l2 → Q none (I4, J, R, K, n)) ∧ (¬ (x3 ≤ l2) → zV G (d + 1) mX1_portray kc ks 25 [(0, .ref (g)), (1, .ref (b)), (2, .int (l2)), (3, .int (0))] [] (I4, J, R, K, n) Q)))) : zV G (d + 1) mX1_portray kc ks 15 [(0, .ref (g)), (1, .ref (b)), (2, .int (l2))] [] (I, J, R, K, n) Q := by
  refine zIload_n 2 2 16 (by decide +kernel) rfl rfl ?_
  refine zAload_n 1 1 17 (by decide +kernel) rfl rfl ?_
  refine zCallS mX1_logLength 66 1 0 0 _ _ 20 [.ref (b)] [.int (l2)] okX1_logLength mlX1_66 smX1_logLength (by decide +kernel) rfl rfl (Nat.le_of_ble_eq_true rfl) rfl rfl (zC.mono F ?_)
  rintro _ _ ⟨x3, I4, rfl, rfl, F⟩
  change zV G (d + 1) mX1_portray kc ks 20 [(0, .ref (g)), (1, .ref (b)), (2, .int (l2))] [.int (x3), .int (l2)] (I4, J, R, K, n) Q
  refine zIcmp_ge 43 63 23 (by decide +kernel) rfl rfl ⟨fun q5 => ?_, fun q5 => ?_⟩
  · replace F := F.1 q5
    exact zVret rfl (by decide +kernel) F
  · replace F := F.2 q5
    refine zIconst 0 0 24 (by decide +kernel) rfl (by decide) ?_
    refine zIstore_n 3 [(3, .int (0)), (0, .ref (g)), (1, .ref (b)), (2, .int (l2))] 25 (by decide +kernel) rfl (by decide) rfl ?_
    exact zLoc [1, 2, 3, 0] _ rfl F
set_option maxHeartbeats 2000000 in
theorem wX1_portray_25 {G : zG} {d kc ks : Nat} {I : Nat → Nat → Int32} {J : Nat → Nat → Int64} {R : Nat → Nat → Option Nat} {K : Nat → Nat × Nat} {n : Nat} {Q : Option Value → zH → Prop} (g b s v : Nat) (S0_ : hHis G R K n g) (S1_ : hSt G R K n b s v) (l2 l3 : Int32) (F : ((3 ≤ l3 → zV G (d + 1) mX1_portray kc ks 15 [(0, .ref (g)), (1, .ref (b)), (2, .int (l2 + 1))] [] (I, J, R, K, n) Q) ∧ (¬ (3 ≤ l3) → ((vp_in l3 3) ∧ zC G d mX1_logged 0 0 [.ref (g), .int (((I b 10) - 1) - l2), .int (l3)] (I, J, R, K, n) (fun r h => ∃ (x8 : Int32) (I9 : Nat → Nat → Int32), r = some (.int x8) ∧ h = (I9, J, R, K, n) ∧ (vp_in l2 60 ∧ ∀ I10 : Nat → Nat → Int32, I10 = zU I9 (g + 49 + l3.toNatClampNeg) l2.toNatClampNeg (x8) → zV G (d + 1) mX1_portray kc ks 25 [(0, .ref (g)), (1, .ref (b)), (2, .int (l2)), (3, .int (l3 + 1))] [] (I10, J, R, K, n) Q)))))) : zV G (d + 1) mX1_portray kc ks 25 [(0, .ref (g)), (1, .ref (b)), (2, .int (l2)), (3, .int (l3))] [] (I, J, R, K, n) Q := by
  refine zIload_n 3 3 26 (by decide +kernel) rfl rfl ?_
  refine zIconst 3 3 27 (by decide +kernel) rfl (by decide) ?_
  refine zIcmp_ge 30 57 30 (by decide +kernel) rfl rfl ⟨fun q6 => ?_, fun q6 => ?_⟩
  · replace F := F.1 q6
    refine zIinc 2 1 2 (l2 + 1) [(2, .int (l2 + 1)), (0, .ref (g)), (1, .ref (b)), (3, .int (l3))] 60 (by decide +kernel) rfl rfl (by rfl) (by decide) rfl ?_
    refine zGoto (-45) 15 (by decide +kernel) rfl ?_
    exact zLoc [1, 2, 0] _ rfl F
  · replace F := F.2 q6
    refine zAload_n 0 0 31 (by decide +kernel) rfl rfl ?_
    refine gf1_6 34 34 (by decide +kernel) rfl flX1_34 (His_0 S0_) (His_9 S0_) ?_
    refine zIload_n 3 3 35 (by decide +kernel) rfl rfl ?_
    obtain ⟨w7, F⟩ := F
    refine yAaloadG 3 36 (by decide +kernel) rfl (His_10 S0_) (w7) ((His_11 S0_) _ (zInLt (w7))).1 ?_
    refine zIload_n 2 2 37 (by decide +kernel) rfl rfl ?_
    refine zAload_n 0 0 38 (by decide +kernel) rfl rfl ?_
    refine zAload_n 1 1 39 (by decide +kernel) rfl rfl ?_
    refine gf8_10 37 42 (by decide +kernel) rfl flX1_37 (St_0 S1_) ?_
    refine zIconst 1 1 43 (by decide +kernel) rfl (by decide) ?_
    refine zIsub 44 (by decide +kernel) rfl ?_
    refine zIload_n 2 2 45 (by decide +kernel) rfl rfl ?_
    refine zIsub 46 (by decide +kernel) rfl ?_
    refine zIload_n 3 3 47 (by decide +kernel) rfl rfl ?_
    refine zCallV 1 zcls1 mX1_logged 70 2 0 0 _ _ 50 [.int (((I b 10) - 1) - l2), .int (l3)] [.int (l2), .ref (g + 49 + l3.toNatClampNeg)] okX1_logged mlX1_70 imX1_logged seX1_logged (by decide +kernel) rfl rfl (Nat.le_of_ble_eq_true rfl) rfl rfl (His_0 S0_) (zC.mono F ?_)
    rintro _ _ ⟨x8, I9, rfl, rfl, F⟩
    change zV G (d + 1) mX1_portray kc ks 50 [(0, .ref (g)), (1, .ref (b)), (2, .int (l2)), (3, .int (l3))] [.int (x8), .int (l2), .ref (g + 49 + l3.toNatClampNeg)] (I9, J, R, K, n) Q
    refine yIastore 60 51 (by decide +kernel) rfl ((His_11 S0_) _ (zInLt (w7))).2 F.1 ?_
    replace F := F.2 _ rfl
    generalize zU I9 (g + 49 + l3.toNatClampNeg) l2.toNatClampNeg (x8) = I10 at F ⊢
    refine zIinc 3 1 3 (l3 + 1) [(3, .int (l3 + 1)), (0, .ref (g)), (1, .ref (b)), (2, .int (l2))] 54 (by decide +kernel) rfl rfl (by rfl) (by decide) rfl ?_
    refine zGoto (-29) 25 (by decide +kernel) rfl ?_
    exact zLoc [1, 2, 3, 0] _ rfl F
set_option maxHeartbeats 2000000 in
theorem wX1_restore_0 {G : zG} {d kc ks : Nat} {I : Nat → Nat → Int32} {J : Nat → Nat → Int64} {R : Nat → Nat → Option Nat} {K : Nat → Nat × Nat} {n : Nat} {Q : Option Value → zH → Prop} (g b s v : Nat) (S0_ : hHis G R K n g) (S1_ : hSt G R K n b s v) (F : (((I g 4 : Int32) = 0 → Q (some (.int (0))) (I, J, R, K, n)) ∧ (¬ ((I g 4 : Int32) = 0) → zC G d mX8_recall 0 0 [.ref (b), .ref (g + 47)] (I, J, R, K, n) (fun r h => ∃ (I2 : Nat → Nat → Int32), r = none ∧ h = (I2, J, R, K, n) ∧ (∀ I3 : Nat → Nat → Int32, I3 = zU I2 g 0 (0) → zV G (d + 1) mX1_restore kc ks 24 [(0, .ref (g)), (1, .ref (b)), (2, .int (0))] [] (I3, J, R, K, n) Q))))) : zV G (d + 1) mX1_restore kc ks 0 [(0, .ref (g)), (1, .ref (b))] [] (I, J, R, K, n) Q := by
  refine zAload_n 0 0 1 (by decide +kernel) rfl rfl ?_
  refine gf1_4 26 4 (by decide +kernel) rfl flX1_26 (His_0 S0_) ?_
  refine zIf_ne 5 9 7 (by decide +kernel) rfl rfl ⟨fun q1 => ?_, fun q1 => ?_⟩
  · replace F := F.2 q1
    refine zAload_n 1 1 10 (by decide +kernel) rfl rfl ?_
    refine zAload_n 0 0 11 (by decide +kernel) rfl rfl ?_
    refine gf1_5 30 14 (by decide +kernel) rfl flX1_30 (His_0 S0_) (His_7 S0_) ?_
    refine zCallV 8 zcls8 mX8_recall 50 1 0 0 _ _ 17 [.ref (g + 47)] [] okX8_recall mlX1_50 imX8_recall seX8_recall (by decide +kernel) rfl rfl (Nat.le_of_ble_eq_true rfl) rfl rfl (St_0 S1_) (zC.mono F ?_)
    rintro _ _ ⟨I2, rfl, rfl, F⟩
    change zV G (d + 1) mX1_restore kc ks 17 [(0, .ref (g)), (1, .ref (b))] [] (I2, J, R, K, n) Q
    refine zAload_n 0 0 18 (by decide +kernel) rfl rfl ?_
    refine zIconst 0 0 19 (by decide +kernel) rfl (by decide) ?_
    refine pf1_0 9 22 (by decide +kernel) rfl flX1_9 (His_0 S0_) ?_
    replace F := F _ rfl
    generalize zU I2 g 0 (0) = I3 at F ⊢
    refine zIconst 0 0 23 (by decide +kernel) rfl (by decide) ?_
    refine zIstore_n 2 [(2, .int (0)), (0, .ref (g)), (1, .ref (b))] 24 (by decide +kernel) rfl (by decide) rfl ?_
    exact zLoc [1, 2, 0] _ rfl F
  · replace F := F.1 q1
    refine zIconst 0 0 8 (by decide +kernel) rfl (by decide) ?_
    exact zZret .boolean rfl (zNarZ (Or.inl rfl)) (by decide +kernel) F
set_option maxHeartbeats 2000000 in
theorem wX1_restore_24 {G : zG} {d kc ks : Nat} {I : Nat → Nat → Int32} {J : Nat → Nat → Int64} {R : Nat → Nat → Option Nat} {K : Nat → Nat × Nat} {n : Nat} {Q : Option Value → zH → Prop} (g b s v : Nat) (S0_ : hHis G R K n g) (S1_ : hSt G R K n b s v) (l2 : Int32) (F : zC G d mX1_logLength 0 0 [.ref (b)] (I, J, R, K, n) (fun r h => ∃ (x4 : Int32) (I5 : Nat → Nat → Int32), r = some (.int x4) ∧ h = (I5, J, R, K, n) ∧ ((x4 ≤ l2 → Q (some (.int (1))) (I5, J, R, K, n)) ∧ (¬ (x4 ≤ l2) → zV G (d + 1) mX1_restore kc ks 34 [(0, .ref (g)), (1, .ref (b)), (2, .int (l2)), (3, .int (0))] [] (I5, J, R, K, n) Q)))) : zV G (d + 1) mX1_restore kc ks 24 [(0, .ref (g)), (1, .ref (b)), (2, .int (l2))] [] (I, J, R, K, n) Q := by
  refine zIload_n 2 2 25 (by decide +kernel) rfl rfl ?_
  refine zAload_n 1 1 26 (by decide +kernel) rfl rfl ?_
  refine zCallS mX1_logLength 66 1 0 0 _ _ 29 [.ref (b)] [.int (l2)] okX1_logLength mlX1_66 smX1_logLength (by decide +kernel) rfl rfl (Nat.le_of_ble_eq_true rfl) rfl rfl (zC.mono F ?_)
  rintro _ _ ⟨x4, I5, rfl, rfl, F⟩
  change zV G (d + 1) mX1_restore kc ks 29 [(0, .ref (g)), (1, .ref (b)), (2, .int (l2))] [.int (x4), .int (l2)] (I5, J, R, K, n) Q
  refine zIcmp_ge 48 77 32 (by decide +kernel) rfl rfl ⟨fun q6 => ?_, fun q6 => ?_⟩
  · replace F := F.1 q6
    refine zIconst 1 1 78 (by decide +kernel) rfl (by decide) ?_
    exact zZret .boolean rfl (zNarZ (Or.inr rfl)) (by decide +kernel) F
  · replace F := F.2 q6
    refine zIconst 0 0 33 (by decide +kernel) rfl (by decide) ?_
    refine zIstore_n 3 [(3, .int (0)), (0, .ref (g)), (1, .ref (b)), (2, .int (l2))] 34 (by decide +kernel) rfl (by decide) rfl ?_
    exact zLoc [1, 2, 3, 0] _ rfl F
set_option maxHeartbeats 2000000 in
theorem wX1_restore_34 {G : zG} {d kc ks : Nat} {I : Nat → Nat → Int32} {J : Nat → Nat → Int64} {R : Nat → Nat → Option Nat} {K : Nat → Nat × Nat} {n : Nat} {Q : Option Value → zH → Prop} (g b s v : Nat) (S0_ : hHis G R K n g) (S1_ : hSt G R K n b s v) (l2 l3 : Int32) (F : ((3 ≤ l3 → zV G (d + 1) mX1_restore kc ks 24 [(0, .ref (g)), (1, .ref (b)), (2, .int (l2 + 1))] [] (I, J, R, K, n) Q) ∧ (¬ (3 ≤ l3) → ((vp_in l3 3) ∧ ((vp_in l3 3) ∧ ((vp_in l2 60) ∧ (vp_in ((((I b 10) - 1) - l2) - (((I b 10) - 1) - l2) / 100 * 100) 100 ∧ ∀ I11 : Nat → Nat → Int32, I11 = zU I (g + 44 + l3.toNatClampNeg) ((((I b 10) - 1) - l2) - (((I b 10) - 1) - l2) / 100 * 100 : Int32).toNatClampNeg (I (g + 49 + l3.toNatClampNeg) l2.toNatClampNeg) → zV G (d + 1) mX1_restore kc ks 34 [(0, .ref (g)), (1, .ref (b)), (2, .int (l2)), (3, .int (l3 + 1))] [] (I11, J, R, K, n) Q))))))) : zV G (d + 1) mX1_restore kc ks 34 [(0, .ref (g)), (1, .ref (b)), (2, .int (l2)), (3, .int (l3))] [] (I, J, R, K, n) Q := by
  refine zIload_n 3 3 35 (by decide +kernel) rfl rfl ?_
  refine zIconst 3 3 36 (by decide +kernel) rfl (by decide) ?_
  refine zIcmp_ge 35 71 39 (by decide +kernel) rfl rfl ⟨fun q7 => ?_, fun q7 => ?_⟩
  · replace F := F.1 q7
    refine zIinc 2 1 2 (l2 + 1) [(2, .int (l2 + 1)), (0, .ref (g)), (1, .ref (b)), (3, .int (l3))] 74 (by decide +kernel) rfl rfl (by rfl) (by decide) rfl ?_
    refine zGoto (-50) 24 (by decide +kernel) rfl ?_
    exact zLoc [1, 2, 0] _ rfl F
  · replace F := F.2 q7
    refine zAload_n 0 0 40 (by decide +kernel) rfl rfl ?_
    refine gf1_3 23 43 (by decide +kernel) rfl flX1_23 (His_0 S0_) (His_4 S0_) ?_
    refine zIload_n 3 3 44 (by decide +kernel) rfl rfl ?_
    obtain ⟨w8, F⟩ := F
    refine yAaloadG 3 45 (by decide +kernel) rfl (His_5 S0_) (w8) ((His_6 S0_) _ (zInLt (w8))).1 ?_
    refine zAload_n 1 1 46 (by decide +kernel) rfl rfl ?_
    refine gf8_10 37 49 (by decide +kernel) rfl flX1_37 (St_0 S1_) ?_
    refine zIconst 1 1 50 (by decide +kernel) rfl (by decide) ?_
    refine zIsub 51 (by decide +kernel) rfl ?_
    refine zIload_n 2 2 52 (by decide +kernel) rfl rfl ?_
    refine zIsub 53 (by decide +kernel) rfl ?_
    refine zBipush 100 100 55 (by decide +kernel) rfl (by decide) ?_
    refine zIrem 56 (by decide +kernel) rfl (by decide) ?_
    refine zAload_n 0 0 57 (by decide +kernel) rfl rfl ?_
    refine gf1_6 34 60 (by decide +kernel) rfl flX1_34 (His_0 S0_) (His_9 S0_) ?_
    refine zIload_n 3 3 61 (by decide +kernel) rfl rfl ?_
    obtain ⟨w9, F⟩ := F
    refine yAaloadG 3 62 (by decide +kernel) rfl (His_10 S0_) (w9) ((His_11 S0_) _ (zInLt (w9))).1 ?_
    refine zIload_n 2 2 63 (by decide +kernel) rfl rfl ?_
    obtain ⟨w10, F⟩ := F
    refine yIaload 60 64 (by decide +kernel) rfl ((His_11 S0_) _ (zInLt (w9))).2 (w10) ?_
    refine yIastore 100 65 (by decide +kernel) rfl ((His_6 S0_) _ (zInLt (w8))).2 F.1 ?_
    replace F := F.2 _ rfl
    generalize zU I (g + 44 + l3.toNatClampNeg) ((((I b 10) - 1) - l2) - (((I b 10) - 1) - l2) / 100 * 100 : Int32).toNatClampNeg (I (g + 49 + l3.toNatClampNeg) l2.toNatClampNeg) = I11 at F ⊢
    refine zIinc 3 1 3 (l3 + 1) [(3, .int (l3 + 1)), (0, .ref (g)), (1, .ref (b)), (2, .int (l2))] 68 (by decide +kernel) rfl rfl (by rfl) (by decide) rfl ?_
    refine zGoto (-34) 34 (by decide +kernel) rfl ?_
    exact zLoc [1, 2, 3, 0] _ rfl F
set_option maxHeartbeats 2000000 in
theorem wX7_read_0 {G : zG} {d kc ks : Nat} {I : Nat → Nat → Int32} {J : Nat → Nat → Int64} {R : Nat → Nat → Option Nat} {K : Nat → Nat × Nat} {n : Nat} {Q : Option Value → zH → Prop} (q t : Nat) (S0_ : hSpr G R K n q) (S1_ : hTape G R K n t) (F : (∀ I1 : Nat → Nat → Int32, I1 = zU I t 2 (0) → (∀ I2 : Nat → Nat → Int32, I2 = zU I1 q 3 (0) → zV G (d + 1) mX7_read kc ks 10 [(0, .ref (q)), (1, .ref (t))] [] (I2, J, R, K, n) Q))) : zV G (d + 1) mX7_read kc ks 0 [(0, .ref (q)), (1, .ref (t))] [] (I, J, R, K, n) Q := by
  refine zAload_n 1 1 1 (by decide +kernel) rfl rfl ?_
  refine zIconst 0 0 2 (by decide +kernel) rfl (by decide) ?_
  refine pf9_2 25 5 (by decide +kernel) rfl flX7_25 (Tape_0 S1_) ?_
  replace F := F _ rfl
  generalize zU I t 2 (0) = I1 at F ⊢
  refine zAload_n 0 0 6 (by decide +kernel) rfl rfl ?_
  refine zIconst 0 0 7 (by decide +kernel) rfl (by decide) ?_
  refine pf7_3 21 10 (by decide +kernel) rfl flX7_21 (Spr_0 S0_) ?_
  replace F := F _ rfl
  generalize zU I1 q 3 (0) = I2 at F ⊢
  exact zLoc [0, 1] _ rfl F
set_option maxHeartbeats 2000000 in
theorem wX7_read_10 {G : zG} {d kc ks : Nat} {I : Nat → Nat → Int32} {J : Nat → Nat → Int64} {R : Nat → Nat → Option Nat} {K : Nat → Nat × Nat} {n : Nat} {Q : Option Value → zH → Prop} (q t : Nat) (S0_ : hSpr G R K n q) (S1_ : hTape G R K n t) (F : ((16 ≤ (I q 3 : Int32) → Q (some (.int (0))) (I, J, R, K, n)) ∧ (¬ (16 ≤ (I q 3 : Int32)) → zC G d mX7_readStep 0 0 [.ref (q), .ref (t), .int (I q 3)] (I, J, R, K, n) (fun r h => ∃ (x4 : Int32) (I5 : Nat → Nat → Int32), r = some (.int x4) ∧ h = (I5, J, R, K, n) ∧ ((x4 = 0 → Q (some (.int (0))) (I5, J, R, K, n)) ∧ (¬ (x4 = 0) → zC G d mX9_next 0 0 [.ref (t)] (I5, J, R, K, n) (fun r h => ∃ (x7 : Int32) (I8 : Nat → Nat → Int32), r = some (.int x7) ∧ h = (I8, J, R, K, n) ∧ ((x7 = (-1) → (∀ I15 : Nat → Nat → Int32, I15 = zU I8 q 3 ((I8 q 3) + 1) → Q (some (.int (1))) (I15, J, R, K, n))) ∧ (¬ (x7 = (-1)) → (((I8 q 3 : Int32) = 15 → Q (some (.int (0))) (I8, J, R, K, n)) ∧ (¬ ((I8 q 3 : Int32) = 15) → zC G d mX9_accept 0 0 [.ref (t), .int (59)] (I8, J, R, K, n) (fun r h => ∃ (x11 : Int32) (I12 : Nat → Nat → Int32), r = some (.int x11) ∧ h = (I12, J, R, K, n) ∧ ((x11 = 0 → Q (some (.int (0))) (I12, J, R, K, n)) ∧ (¬ (x11 = 0) → (∀ I14 : Nat → Nat → Int32, I14 = zU I12 q 3 ((I12 q 3) + 1) → zV G (d + 1) mX7_read kc ks 10 [(0, .ref (q)), (1, .ref (t))] [] (I14, J, R, K, n) Q))))))))))))))) : zV G (d + 1) mX7_read kc ks 10 [(0, .ref (q)), (1, .ref (t))] [] (I, J, R, K, n) Q := by
  refine zAload_n 0 0 11 (by decide +kernel) rfl rfl ?_
  refine gf7_3 21 14 (by decide +kernel) rfl flX7_21 (Spr_0 S0_) ?_
  refine zBipush 16 16 16 (by decide +kernel) rfl (by decide) ?_
  refine zIcmp_ge 70 86 19 (by decide +kernel) rfl rfl ⟨fun q3 => ?_, fun q3 => ?_⟩
  · replace F := F.1 q3
    refine zIconst 0 0 87 (by decide +kernel) rfl (by decide) ?_
    exact zZret .boolean rfl (zNarZ (Or.inl rfl)) (by decide +kernel) F
  · replace F := F.2 q3
    refine zAload_n 0 0 20 (by decide +kernel) rfl rfl ?_
    refine zAload_n 1 1 21 (by decide +kernel) rfl rfl ?_
    refine zAload_n 0 0 22 (by decide +kernel) rfl rfl ?_
    refine gf7_3 21 25 (by decide +kernel) rfl flX7_21 (Spr_0 S0_) ?_
    refine zCallV 7 zcls7 mX7_readStep 30 2 0 0 _ _ 28 [.ref (t), .int (I q 3)] [] okX7_readStep mlX7_30 imX7_readStep seX7_readStep (by decide +kernel) rfl rfl (Nat.le_of_ble_eq_true rfl) rfl rfl (Spr_0 S0_) (zC.mono F ?_)
    rintro _ _ ⟨x4, I5, rfl, rfl, F⟩
    change zV G (d + 1) mX7_read kc ks 28 [(0, .ref (q)), (1, .ref (t))] [.int (x4)] (I5, J, R, K, n) Q
    refine zIf_ne 5 33 31 (by decide +kernel) rfl rfl ⟨fun q6 => ?_, fun q6 => ?_⟩
    · replace F := F.2 q6
      refine zAload_n 1 1 34 (by decide +kernel) rfl rfl ?_
      refine zCallV 9 zcls9 mX9_next 34 0 0 0 _ _ 37 [] [] okX9_next mlX7_34 imX9_next seX9_next (by decide +kernel) rfl rfl (Nat.le_of_ble_eq_true rfl) rfl rfl (Tape_0 S1_) (zC.mono F ?_)
      rintro _ _ ⟨x7, I8, rfl, rfl, F⟩
      change zV G (d + 1) mX7_read kc ks 37 [(0, .ref (q)), (1, .ref (t))] [.int (x7)] (I8, J, R, K, n) Q
      refine zIconst (-1) (-1) 38 (by decide +kernel) rfl (by decide) ?_
      refine zIcmp_ne 15 53 41 (by decide +kernel) rfl rfl ⟨fun q9 => ?_, fun q9 => ?_⟩
      · replace F := F.2 q9
        refine zAload_n 0 0 54 (by decide +kernel) rfl rfl ?_
        refine gf7_3 21 57 (by decide +kernel) rfl flX7_21 (Spr_0 S0_) ?_
        refine zBipush 15 15 59 (by decide +kernel) rfl (by decide) ?_
        refine zIcmp_eq 12 71 62 (by decide +kernel) rfl rfl ⟨fun q10 => ?_, fun q10 => ?_⟩
        · replace F := F.1 q10
          refine zIconst 0 0 72 (by decide +kernel) rfl (by decide) ?_
          exact zZret .boolean rfl (zNarZ (Or.inl rfl)) (by decide +kernel) F
        · replace F := F.2 q10
          refine zAload_n 1 1 63 (by decide +kernel) rfl rfl ?_
          refine zBipush 59 59 65 (by decide +kernel) rfl (by decide) ?_
          refine zCallV 9 zcls9 mX9_accept 38 1 0 0 _ _ 68 [.int (59)] [] okX9_accept mlX7_38 imX9_accept seX9_accept (by decide +kernel) rfl rfl (Nat.le_of_ble_eq_true rfl) rfl rfl (Tape_0 S1_) (zC.mono F ?_)
          rintro _ _ ⟨x11, I12, rfl, rfl, F⟩
          change zV G (d + 1) mX7_read kc ks 68 [(0, .ref (q)), (1, .ref (t))] [.int (x11)] (I12, J, R, K, n) Q
          refine zIf_ne 5 73 71 (by decide +kernel) rfl rfl ⟨fun q13 => ?_, fun q13 => ?_⟩
          · replace F := F.2 q13
            refine zAload_n 0 0 74 (by decide +kernel) rfl rfl ?_
            refine zDup 75 (by decide +kernel) rfl rfl ?_
            refine gf7_3 21 78 (by decide +kernel) rfl flX7_21 (Spr_0 S0_) ?_
            refine zIconst 1 1 79 (by decide +kernel) rfl (by decide) ?_
            refine zIadd 80 (by decide +kernel) rfl ?_
            refine pf7_3 21 83 (by decide +kernel) rfl flX7_21 (Spr_0 S0_) ?_
            replace F := F _ rfl
            generalize zU I12 q 3 ((I12 q 3) + 1) = I14 at F ⊢
            refine zGoto (-73) 10 (by decide +kernel) rfl ?_
            exact zLoc [0, 1] _ rfl F
          · replace F := F.1 q13
            refine zIconst 0 0 72 (by decide +kernel) rfl (by decide) ?_
            exact zZret .boolean rfl (zNarZ (Or.inl rfl)) (by decide +kernel) F
      · replace F := F.1 q9
        refine zAload_n 0 0 42 (by decide +kernel) rfl rfl ?_
        refine zDup 43 (by decide +kernel) rfl rfl ?_
        refine gf7_3 21 46 (by decide +kernel) rfl flX7_21 (Spr_0 S0_) ?_
        refine zIconst 1 1 47 (by decide +kernel) rfl (by decide) ?_
        refine zIadd 48 (by decide +kernel) rfl ?_
        refine pf7_3 21 51 (by decide +kernel) rfl flX7_21 (Spr_0 S0_) ?_
        replace F := F _ rfl
        generalize zU I8 q 3 ((I8 q 3) + 1) = I15 at F ⊢
        refine zIconst 1 1 52 (by decide +kernel) rfl (by decide) ?_
        exact zZret .boolean rfl (zNarZ (Or.inr rfl)) (by decide +kernel) F
    · replace F := F.1 q6
      refine zIconst 0 0 32 (by decide +kernel) rfl (by decide) ?_
      exact zZret .boolean rfl (zNarZ (Or.inl rfl)) (by decide +kernel) F
set_option maxHeartbeats 2000000 in
theorem wX7_readStep_0 {G : zG} {d kc ks : Nat} {I : Nat → Nat → Int32} {J : Nat → Nat → Int64} {R : Nat → Nat → Option Nat} {K : Nat → Nat × Nat} {n : Nat} {Q : Option Value → zH → Prop} (q t : Nat) (S0_ : hSpr G R K n q) (S1_ : hTape G R K n t) (p2 : Int32) (F : zC G d mX9_next 0 0 [.ref (t)] (I, J, R, K, n) (fun r h => ∃ (x1 : Int32) (I2 : Nat → Nat → Int32), r = some (.int x1) ∧ h = (I2, J, R, K, n) ∧ zC G d mX7_kindOf 0 0 [.int (x1)] (I2, J, R, K, n) (fun r h => ∃ (x3 : Int32) (I4 : Nat → Nat → Int32), r = some (.int x3) ∧ h = (I4, J, R, K, n) ∧ ((x3 = (-1) → Q (some (.int (0))) (I4, J, R, K, n)) ∧ (¬ (x3 = (-1)) → (∀ I6 : Nat → Nat → Int32, I6 = zU I4 t 2 ((I4 t 2) + 1) → (vp_in p2 16 ∧ ∀ I7 : Nat → Nat → Int32, I7 = zU I6 (q + 1) p2.toNatClampNeg (x3) → (vp_in p2 16 ∧ ∀ I8 : Nat → Nat → Int32, I8 = zU I7 (q + 2) p2.toNatClampNeg ((-1)) → (vp_in p2 16 ∧ ∀ I9 : Nat → Nat → Int32, I9 = zU I8 (q + 3) p2.toNatClampNeg ((-1)) → ((x3 = 3 → ((x3 = 1 → zC G d mX9_digit 0 0 [.ref (t)] (I9, J, R, K, n) (fun r h => ∃ (x12 : Int32) (I13 : Nat → Nat → Int32), r = some (.int x12) ∧ h = (I13, J, R, K, n) ∧ (vp_in p2 16 ∧ ∀ I14 : Nat → Nat → Int32, I14 = zU I13 (q + 3) p2.toNatClampNeg (x12) → ((vp_in p2 16) ∧ Q (some (.int ((if (I14 (q + 3) p2.toNatClampNeg : Int32) = (-1) then 0 else 1)))) (I14, J, R, K, n))))) ∧ (¬ (x3 = 1) → Q (some (.int (1))) (I9, J, R, K, n)))) ∧ (¬ (x3 = 3) → zC G d mX9_digit 0 0 [.ref (t)] (I9, J, R, K, n) (fun r h => ∃ (x17 : Int32) (I18 : Nat → Nat → Int32), r = some (.int x17) ∧ h = (I18, J, R, K, n) ∧ (vp_in p2 16 ∧ ∀ I19 : Nat → Nat → Int32, I19 = zU I18 (q + 2) p2.toNatClampNeg (x17) → ((vp_in p2 16) ∧ (((I19 (q + 2) p2.toNatClampNeg : Int32) = (-1) → Q (some (.int (0))) (I19, J, R, K, n)) ∧ (¬ ((I19 (q + 2) p2.toNatClampNeg : Int32) = (-1)) → ((x3 = 1 → zC G d mX9_digit 0 0 [.ref (t)] (I19, J, R, K, n) (fun r h => ∃ (x23 : Int32) (I24 : Nat → Nat → Int32), r = some (.int x23) ∧ h = (I24, J, R, K, n) ∧ (vp_in p2 16 ∧ ∀ I25 : Nat → Nat → Int32, I25 = zU I24 (q + 3) p2.toNatClampNeg (x23) → ((vp_in p2 16) ∧ Q (some (.int ((if (I25 (q + 3) p2.toNatClampNeg : Int32) = (-1) then 0 else 1)))) (I25, J, R, K, n))))) ∧ (¬ (x3 = 1) → Q (some (.int (1))) (I19, J, R, K, n))))))))))))))))))) : zV G (d + 1) mX7_readStep kc ks 0 [(0, .ref (q)), (1, .ref (t)), (2, .int (p2))] [] (I, J, R, K, n) Q := by
  refine zAload_n 1 1 1 (by decide +kernel) rfl rfl ?_
  refine zCallV 9 zcls9 mX9_next 34 0 0 0 _ _ 4 [] [] okX9_next mlX7_34 imX9_next seX9_next (by decide +kernel) rfl rfl (Nat.le_of_ble_eq_true rfl) rfl rfl (Tape_0 S1_) (zC.mono F ?_)
  rintro _ _ ⟨x1, I2, rfl, rfl, F⟩
  change zV G (d + 1) mX7_readStep kc ks 4 [(0, .ref (q)), (1, .ref (t)), (2, .int (p2))] [.int (x1)] (I2, J, R, K, n) Q
  refine zCallS mX7_kindOf 42 1 0 0 _ _ 7 [.int (x1)] [] okX7_kindOf mlX7_42 smX7_kindOf (by decide +kernel) rfl rfl (Nat.le_of_ble_eq_true rfl) rfl rfl (zC.mono F ?_)
  rintro _ _ ⟨x3, I4, rfl, rfl, F⟩
  change zV G (d + 1) mX7_readStep kc ks 7 [(0, .ref (q)), (1, .ref (t)), (2, .int (p2))] [.int (x3)] (I4, J, R, K, n) Q
  refine zIstore_n 3 [(3, .int (x3)), (0, .ref (q)), (1, .ref (t)), (2, .int (p2))] 8 (by decide +kernel) rfl (by decide) rfl ?_
  refine zIload_n 3 0 9 (by decide +kernel) rfl rfl ?_
  refine zIconst (-1) (-1) 10 (by decide +kernel) rfl (by decide) ?_
  refine zIcmp_ne 5 15 13 (by decide +kernel) rfl rfl ⟨fun q5 => ?_, fun q5 => ?_⟩
  · replace F := F.2 q5
    refine zAload_n 1 2 16 (by decide +kernel) rfl rfl ?_
    refine zDup 17 (by decide +kernel) rfl rfl ?_
    refine gf9_2 25 20 (by decide +kernel) rfl flX7_25 (Tape_0 S1_) ?_
    refine zIconst 1 1 21 (by decide +kernel) rfl (by decide) ?_
    refine zIadd 22 (by decide +kernel) rfl ?_
    refine pf9_2 25 25 (by decide +kernel) rfl flX7_25 (Tape_0 S1_) ?_
    replace F := F _ rfl
    generalize zU I4 t 2 ((I4 t 2) + 1) = I6 at F ⊢
    refine zAload_n 0 1 26 (by decide +kernel) rfl rfl ?_
    refine gf7_0 11 29 (by decide +kernel) rfl flX7_11 (Spr_0 S0_) (Spr_1 S0_) ?_
    refine zIload_n 2 3 30 (by decide +kernel) rfl rfl ?_
    refine zIload_n 3 0 31 (by decide +kernel) rfl rfl ?_
    refine yIastore 16 32 (by decide +kernel) rfl (Spr_2 S0_) F.1 ?_
    replace F := F.2 _ rfl
    generalize zU I6 (q + 1) p2.toNatClampNeg (x3) = I7 at F ⊢
    refine zAload_n 0 1 33 (by decide +kernel) rfl rfl ?_
    refine gf7_1 15 36 (by decide +kernel) rfl flX7_15 (Spr_0 S0_) (Spr_3 S0_) ?_
    refine zIload_n 2 3 37 (by decide +kernel) rfl rfl ?_
    refine zIconst (-1) (-1) 38 (by decide +kernel) rfl (by decide) ?_
    refine yIastore 16 39 (by decide +kernel) rfl (Spr_4 S0_) F.1 ?_
    replace F := F.2 _ rfl
    generalize zU I7 (q + 2) p2.toNatClampNeg ((-1)) = I8 at F ⊢
    refine zAload_n 0 1 40 (by decide +kernel) rfl rfl ?_
    refine gf7_2 18 43 (by decide +kernel) rfl flX7_18 (Spr_0 S0_) (Spr_5 S0_) ?_
    refine zIload_n 2 3 44 (by decide +kernel) rfl rfl ?_
    refine zIconst (-1) (-1) 45 (by decide +kernel) rfl (by decide) ?_
    refine yIastore 16 46 (by decide +kernel) rfl (Spr_6 S0_) F.1 ?_
    replace F := F.2 _ rfl
    generalize zU I8 (q + 3) p2.toNatClampNeg ((-1)) = I9 at F ⊢
    refine zIload_n 3 0 47 (by decide +kernel) rfl rfl ?_
    refine zIconst 3 3 48 (by decide +kernel) rfl (by decide) ?_
    refine zIcmp_eq 25 73 51 (by decide +kernel) rfl rfl ⟨fun q10 => ?_, fun q10 => ?_⟩
    · replace F := F.1 q10
      refine zIload_n 3 0 74 (by decide +kernel) rfl rfl ?_
      refine zIconst 1 1 75 (by decide +kernel) rfl (by decide) ?_
      refine zIcmp_ne 29 104 78 (by decide +kernel) rfl rfl ⟨fun q11 => ?_, fun q11 => ?_⟩
      · replace F := F.2 q11
        refine zIconst 1 1 105 (by decide +kernel) rfl (by decide) ?_
        exact zZret .boolean rfl (zNarZ (Or.inr rfl)) (by decide +kernel) F
      · replace F := F.1 q11
        refine zAload_n 0 1 79 (by decide +kernel) rfl rfl ?_
        refine gf7_2 18 82 (by decide +kernel) rfl flX7_18 (Spr_0 S0_) (Spr_5 S0_) ?_
        refine zIload_n 2 3 83 (by decide +kernel) rfl rfl ?_
        refine zAload_n 1 2 84 (by decide +kernel) rfl rfl ?_
        refine zCallV 9 zcls9 mX9_digit 46 0 0 0 _ _ 87 [] [.int (p2), .ref (q + 3)] okX9_digit mlX7_46 imX9_digit seX9_digit (by decide +kernel) rfl rfl (Nat.le_of_ble_eq_true rfl) rfl rfl (Tape_0 S1_) (zC.mono F ?_)
        rintro _ _ ⟨x12, I13, rfl, rfl, F⟩
        change zV G (d + 1) mX7_readStep kc ks 87 [(3, .int (x3)), (0, .ref (q)), (1, .ref (t)), (2, .int (p2))] [.int (x12), .int (p2), .ref (q + 3)] (I13, J, R, K, n) Q
        refine yIastore 16 88 (by decide +kernel) rfl (Spr_6 S0_) F.1 ?_
        replace F := F.2 _ rfl
        generalize zU I13 (q + 3) p2.toNatClampNeg (x12) = I14 at F ⊢
        refine zAload_n 0 1 89 (by decide +kernel) rfl rfl ?_
        refine gf7_2 18 92 (by decide +kernel) rfl flX7_18 (Spr_0 S0_) (Spr_5 S0_) ?_
        refine zIload_n 2 3 93 (by decide +kernel) rfl rfl ?_
        obtain ⟨w15, F⟩ := F
        refine yIaload 16 94 (by decide +kernel) rfl (Spr_6 S0_) (w15) ?_
        refine zIconst (-1) (-1) 95 (by decide +kernel) rfl (by decide) ?_
        suffices KK : zV G (d + 1) mX7_readStep kc ks 103 [(3, .int (x3)), (0, .ref (q)), (1, .ref (t)), (2, .int (p2))] [.int ((if (I14 (q + 3) p2.toNatClampNeg : Int32) = (-1) then 0 else 1))] (I14, J, R, K, n) Q by
          refine zIcmp_eq 7 102 98 (by decide +kernel) rfl rfl ⟨fun q16 => ?_, fun q16 => ?_⟩
          · refine zIconst 0 0 103 (by decide +kernel) rfl (by decide) ?_
            exact zTop (by rw [if_pos q16]) KK
          · refine zIconst 1 1 99 (by decide +kernel) rfl (by decide) ?_
            refine zGoto 4 103 (by decide +kernel) rfl ?_
            exact zTop (by rw [if_neg q16]) KK
        exact zZret .boolean rfl (zNarZ (zOrIte (Or.inl rfl) (Or.inr rfl))) (by decide +kernel) F
    · replace F := F.2 q10
      refine zAload_n 0 1 52 (by decide +kernel) rfl rfl ?_
      refine gf7_1 15 55 (by decide +kernel) rfl flX7_15 (Spr_0 S0_) (Spr_3 S0_) ?_
      refine zIload_n 2 3 56 (by decide +kernel) rfl rfl ?_
      refine zAload_n 1 2 57 (by decide +kernel) rfl rfl ?_
      refine zCallV 9 zcls9 mX9_digit 46 0 0 0 _ _ 60 [] [.int (p2), .ref (q + 2)] okX9_digit mlX7_46 imX9_digit seX9_digit (by decide +kernel) rfl rfl (Nat.le_of_ble_eq_true rfl) rfl rfl (Tape_0 S1_) (zC.mono F ?_)
      rintro _ _ ⟨x17, I18, rfl, rfl, F⟩
      change zV G (d + 1) mX7_readStep kc ks 60 [(3, .int (x3)), (0, .ref (q)), (1, .ref (t)), (2, .int (p2))] [.int (x17), .int (p2), .ref (q + 2)] (I18, J, R, K, n) Q
      refine yIastore 16 61 (by decide +kernel) rfl (Spr_4 S0_) F.1 ?_
      replace F := F.2 _ rfl
      generalize zU I18 (q + 2) p2.toNatClampNeg (x17) = I19 at F ⊢
      refine zAload_n 0 1 62 (by decide +kernel) rfl rfl ?_
      refine gf7_1 15 65 (by decide +kernel) rfl flX7_15 (Spr_0 S0_) (Spr_3 S0_) ?_
      refine zIload_n 2 3 66 (by decide +kernel) rfl rfl ?_
      obtain ⟨w20, F⟩ := F
      refine yIaload 16 67 (by decide +kernel) rfl (Spr_4 S0_) (w20) ?_
      refine zIconst (-1) (-1) 68 (by decide +kernel) rfl (by decide) ?_
      refine zIcmp_ne 5 73 71 (by decide +kernel) rfl rfl ⟨fun q21 => ?_, fun q21 => ?_⟩
      · replace F := F.2 q21
        refine zIload_n 3 0 74 (by decide +kernel) rfl rfl ?_
        refine zIconst 1 1 75 (by decide +kernel) rfl (by decide) ?_
        refine zIcmp_ne 29 104 78 (by decide +kernel) rfl rfl ⟨fun q22 => ?_, fun q22 => ?_⟩
        · replace F := F.2 q22
          refine zIconst 1 1 105 (by decide +kernel) rfl (by decide) ?_
          exact zZret .boolean rfl (zNarZ (Or.inr rfl)) (by decide +kernel) F
        · replace F := F.1 q22
          refine zAload_n 0 1 79 (by decide +kernel) rfl rfl ?_
          refine gf7_2 18 82 (by decide +kernel) rfl flX7_18 (Spr_0 S0_) (Spr_5 S0_) ?_
          refine zIload_n 2 3 83 (by decide +kernel) rfl rfl ?_
          refine zAload_n 1 2 84 (by decide +kernel) rfl rfl ?_
          refine zCallV 9 zcls9 mX9_digit 46 0 0 0 _ _ 87 [] [.int (p2), .ref (q + 3)] okX9_digit mlX7_46 imX9_digit seX9_digit (by decide +kernel) rfl rfl (Nat.le_of_ble_eq_true rfl) rfl rfl (Tape_0 S1_) (zC.mono F ?_)
          rintro _ _ ⟨x23, I24, rfl, rfl, F⟩
          change zV G (d + 1) mX7_readStep kc ks 87 [(3, .int (x3)), (0, .ref (q)), (1, .ref (t)), (2, .int (p2))] [.int (x23), .int (p2), .ref (q + 3)] (I24, J, R, K, n) Q
          refine yIastore 16 88 (by decide +kernel) rfl (Spr_6 S0_) F.1 ?_
          replace F := F.2 _ rfl
          generalize zU I24 (q + 3) p2.toNatClampNeg (x23) = I25 at F ⊢
          refine zAload_n 0 1 89 (by decide +kernel) rfl rfl ?_
          refine gf7_2 18 92 (by decide +kernel) rfl flX7_18 (Spr_0 S0_) (Spr_5 S0_) ?_
          refine zIload_n 2 3 93 (by decide +kernel) rfl rfl ?_
          obtain ⟨w26, F⟩ := F
          refine yIaload 16 94 (by decide +kernel) rfl (Spr_6 S0_) (w26) ?_
          refine zIconst (-1) (-1) 95 (by decide +kernel) rfl (by decide) ?_
          suffices KK : zV G (d + 1) mX7_readStep kc ks 103 [(3, .int (x3)), (0, .ref (q)), (1, .ref (t)), (2, .int (p2))] [.int ((if (I25 (q + 3) p2.toNatClampNeg : Int32) = (-1) then 0 else 1))] (I25, J, R, K, n) Q by
            refine zIcmp_eq 7 102 98 (by decide +kernel) rfl rfl ⟨fun q27 => ?_, fun q27 => ?_⟩
            · refine zIconst 0 0 103 (by decide +kernel) rfl (by decide) ?_
              exact zTop (by rw [if_pos q27]) KK
            · refine zIconst 1 1 99 (by decide +kernel) rfl (by decide) ?_
              refine zGoto 4 103 (by decide +kernel) rfl ?_
              exact zTop (by rw [if_neg q27]) KK
          exact zZret .boolean rfl (zNarZ (zOrIte (Or.inl rfl) (Or.inr rfl))) (by decide +kernel) F
      · replace F := F.1 q21
        refine zIconst 0 0 72 (by decide +kernel) rfl (by decide) ?_
        exact zZret .boolean rfl (zNarZ (Or.inl rfl)) (by decide +kernel) F
  · replace F := F.1 q5
    refine zIconst 0 0 14 (by decide +kernel) rfl (by decide) ?_
    exact zZret .boolean rfl (zNarZ (Or.inl rfl)) (by decide +kernel) F
set_option maxHeartbeats 2000000 in
theorem wX7_kindOf_0 {G : zG} {d kc ks : Nat} {I : Nat → Nat → Int32} {J : Nat → Nat → Int64} {R : Nat → Nat → Option Nat} {K : Nat → Nat × Nat} {n : Nat} {Q : Option Value → zH → Prop}  (p0 : Int32) (F : ((p0 = 102 → Q (some (.int (0))) (I, J, R, K, n)) ∧ (p0 = 105 → Q (some (.int (2))) (I, J, R, K, n)) ∧ (p0 = 110 → Q (some (.int (3))) (I, J, R, K, n)) ∧ (p0 = 112 → Q (some (.int (1))) (I, J, R, K, n)) ∧ (¬ p0 = 102 → ¬ p0 = 105 → ¬ p0 = 110 → ¬ p0 = 112 → Q (some (.int ((-1)))) (I, J, R, K, n)))) : zV G (d + 1) mX7_kindOf kc ks 0 [(0, .int (p0))] [] (I, J, R, K, n) Q := by
  refine zIload_n 0 0 1 (by decide +kernel) rfl rfl ?_
  by_cases q1 : p0 = 102
  · replace F := F.1 q1
    have zt := zEqT q1 (show (102 : Int32).toInt = 102 by decide)
    refine zLookup 51 #[(102, 43), (105, 47), (110, 49), (112, 45)] 43 43 44 (by decide +kernel) (by decide) (by rw [zt]; decide +kernel) rfl ?_
    refine zIconst 0 0 45 (by decide +kernel) rfl (by decide) ?_
    exact zIret rfl (by decide +kernel) F
  · skip
    by_cases q2 : p0 = 105
    · replace F := F.2.1 q2
      have zt := zEqT q2 (show (105 : Int32).toInt = 105 by decide)
      refine zLookup 51 #[(102, 43), (105, 47), (110, 49), (112, 45)] 43 47 48 (by decide +kernel) (by decide) (by rw [zt]; decide +kernel) rfl ?_
      refine zIconst 2 2 49 (by decide +kernel) rfl (by decide) ?_
      exact zIret rfl (by decide +kernel) F
    · skip
      by_cases q3 : p0 = 110
      · replace F := F.2.2.1 q3
        have zt := zEqT q3 (show (110 : Int32).toInt = 110 by decide)
        refine zLookup 51 #[(102, 43), (105, 47), (110, 49), (112, 45)] 43 49 50 (by decide +kernel) (by decide) (by rw [zt]; decide +kernel) rfl ?_
        refine zIconst 3 3 51 (by decide +kernel) rfl (by decide) ?_
        exact zIret rfl (by decide +kernel) F
      · skip
        by_cases q4 : p0 = 112
        · replace F := F.2.2.2.1 q4
          have zt := zEqT q4 (show (112 : Int32).toInt = 112 by decide)
          refine zLookup 51 #[(102, 43), (105, 47), (110, 49), (112, 45)] 43 45 46 (by decide +kernel) (by decide) (by rw [zt]; decide +kernel) rfl ?_
          refine zIconst 1 1 47 (by decide +kernel) rfl (by decide) ?_
          exact zIret rfl (by decide +kernel) F
        · skip
          replace F := F.2.2.2.2 q1 q2 q3 q4
          have zq1 := zNeT q1 (show (102 : Int32).toInt = 102 by decide)
          have zq2 := zNeT q2 (show (105 : Int32).toInt = 105 by decide)
          have zq3 := zNeT q3 (show (110 : Int32).toInt = 110 by decide)
          have zq4 := zNeT q4 (show (112 : Int32).toInt = 112 by decide)
          refine zLookup 51 #[(102, 43), (105, 47), (110, 49), (112, 45)] 43 51 52 (by decide +kernel) (by decide) (by show Op.lookupswitch.offset [(102, 43), (105, 47), (110, 49), (112, 45)] 51 _ = _; rw [lv_osw q1 (show (102 : Int32).toInt = 102 by decide), lv_osw q2 (show (105 : Int32).toInt = 105 by decide), lv_osw q3 (show (110 : Int32).toInt = 110 by decide), lv_osw q4 (show (112 : Int32).toInt = 112 by decide)]; rfl) rfl ?_
          refine zIconst (-1) (-1) 53 (by decide +kernel) rfl (by decide) ?_
          exact zIret rfl (by decide +kernel) F
set_option maxHeartbeats 2000000 in
theorem wX9_bytesIn_0 {G : zG} {d kc ks : Nat} {I : Nat → Nat → Int32} {J : Nat → Nat → Int64} {R : Nat → Nat → Option Nat} {K : Nat → Nat × Nat} {n : Nat} {Q : Option Value → zH → Prop}  (p0 : Int32) (F : zV G (d + 1) mX9_bytesIn kc ks 5 [(0, .int (p0)), (1, .int (0)), (2, .int (24))] [] (I, J, R, K, n) Q) : zV G (d + 1) mX9_bytesIn kc ks 0 [(0, .int (p0))] [] (I, J, R, K, n) Q := by
  refine zIconst 0 0 1 (by decide +kernel) rfl (by decide) ?_
  refine zIstore_n 1 [(1, .int (0)), (0, .int (p0))] 2 (by decide +kernel) rfl (by decide) rfl ?_
  refine zBipush 24 24 4 (by decide +kernel) rfl (by decide) ?_
  refine zIstore_n 2 [(2, .int (24)), (1, .int (0)), (0, .int (p0))] 5 (by decide +kernel) rfl (by decide) rfl ?_
  exact zLoc [2, 1, 0] _ rfl F
set_option maxHeartbeats 2000000 in
theorem wX9_bytesIn_5 {G : zG} {d kc ks : Nat} {I : Nat → Nat → Int32} {J : Nat → Nat → Int64} {R : Nat → Nat → Option Nat} {K : Nat → Nat × Nat} {n : Nat} {Q : Option Value → zH → Prop}  (l0 l1 l2 : Int32) (F : ((l2 < 0 → Q (some (.int (l1))) (I, J, R, K, n)) ∧ (¬ (l2 < 0) → (((((l0.toUInt32 >>> (l2.toUInt32 &&& Int32.toUInt32 31)).toInt32) &&& 255 : Int32) = 0 → zV G (d + 1) mX9_bytesIn kc ks 5 [(0, .int (l0)), (1, .int (l1)), (2, .int (l2 + (-8)))] [] (I, J, R, K, n) Q) ∧ (¬ ((((l0.toUInt32 >>> (l2.toUInt32 &&& Int32.toUInt32 31)).toInt32) &&& 255 : Int32) = 0) → zV G (d + 1) mX9_bytesIn kc ks 5 [(0, .int (l0)), (1, .int (l1 + 1)), (2, .int (l2 + (-8)))] [] (I, J, R, K, n) Q))))) : zV G (d + 1) mX9_bytesIn kc ks 5 [(0, .int (l0)), (1, .int (l1)), (2, .int (l2))] [] (I, J, R, K, n) Q := by
  refine zIload_n 2 2 6 (by decide +kernel) rfl rfl ?_
  refine zIf_lt 22 28 9 (by decide +kernel) rfl rfl ⟨fun q1 => ?_, fun q1 => ?_⟩
  · replace F := F.1 q1
    refine zIload_n 1 1 29 (by decide +kernel) rfl rfl ?_
    exact zIret rfl (by decide +kernel) F
  · replace F := F.2 q1
    refine zIload_n 0 0 10 (by decide +kernel) rfl rfl ?_
    refine zIload_n 2 2 11 (by decide +kernel) rfl rfl ?_
    refine zIushr 12 (by decide +kernel) rfl ?_
    refine zSipush 255 255 15 (by decide +kernel) rfl (by decide) ?_
    refine zIand 16 (by decide +kernel) rfl ?_
    refine zIf_eq 6 22 19 (by decide +kernel) rfl rfl ⟨fun q2 => ?_, fun q2 => ?_⟩
    · replace F := F.1 q2
      refine zIinc 2 (-8) 2 (l2 + (-8)) [(2, .int (l2 + (-8))), (0, .int (l0)), (1, .int (l1))] 25 (by decide +kernel) rfl rfl (by rfl) (by decide) rfl ?_
      refine zGoto (-20) 5 (by decide +kernel) rfl ?_
      exact zLoc [1, 2, 0] _ rfl F
    · replace F := F.2 q2
      refine zIinc 1 1 1 (l1 + 1) [(1, .int (l1 + 1)), (0, .int (l0)), (2, .int (l2))] 22 (by decide +kernel) rfl rfl (by rfl) (by decide) rfl ?_
      refine zIinc 2 (-8) 2 (l2 + (-8)) [(2, .int (l2 + (-8))), (1, .int (l1 + 1)), (0, .int (l0))] 25 (by decide +kernel) rfl rfl (by rfl) (by decide) rfl ?_
      refine zGoto (-20) 5 (by decide +kernel) rfl ?_
      exact zLoc [2, 1, 0] _ rfl F
set_option maxHeartbeats 2000000 in
theorem wX9_append_0 {G : zG} {d kc ks : Nat} {I : Nat → Nat → Int32} {J : Nat → Nat → Int64} {R : Nat → Nat → Option Nat} {K : Nat → Nat × Nat} {n : Nat} {Q : Option Value → zH → Prop} (t : Nat) (S0_ : hTape G R K n t) (p1 : Int32) (F : zV G (d + 1) mX9_append kc ks 3 [(0, .ref (t)), (1, .int (p1)), (2, .int (24))] [] (I, J, R, K, n) Q) : zV G (d + 1) mX9_append kc ks 0 [(0, .ref (t)), (1, .int (p1))] [] (I, J, R, K, n) Q := by
  refine zBipush 24 24 2 (by decide +kernel) rfl (by decide) ?_
  refine zIstore_n 2 [(2, .int (24)), (0, .ref (t)), (1, .int (p1))] 3 (by decide +kernel) rfl (by decide) rfl ?_
  exact zLoc [1, 2, 0] _ rfl F
set_option maxHeartbeats 2000000 in
theorem wX9_append_3 {G : zG} {d kc ks : Nat} {I : Nat → Nat → Int32} {J : Nat → Nat → Int64} {R : Nat → Nat → Option Nat} {K : Nat → Nat × Nat} {n : Nat} {Q : Option Value → zH → Prop} (t : Nat) (S0_ : hTape G R K n t) (l1 l2 : Int32) (F : ((l2 < 0 → Q none (I, J, R, K, n)) ∧ (¬ (l2 < 0) → (((((l1.toUInt32 >>> (l2.toUInt32 &&& Int32.toUInt32 31)).toInt32) &&& 255 : Int32) = 0 → zV G (d + 1) mX9_append kc ks 3 [(0, .ref (t)), (1, .int (l1)), (2, .int (l2 + (-8)))] [] (I, J, R, K, n) Q) ∧ (¬ ((((l1.toUInt32 >>> (l2.toUInt32 &&& Int32.toUInt32 31)).toInt32) &&& 255 : Int32) = 0) → ((240 ≤ (I t 1 : Int32) → zV G (d + 1) mX9_append kc ks 3 [(0, .ref (t)), (1, .int (l1)), (2, .int (l2 + (-8)))] [] (I, J, R, K, n) Q) ∧ (¬ (240 ≤ (I t 1 : Int32)) → (vp_in (I t 1) 240 ∧ ∀ I4 : Nat → Nat → Int32, I4 = zU I (t + 1) (I t 1 : Int32).toNatClampNeg (((l1.toUInt32 >>> (l2.toUInt32 &&& Int32.toUInt32 31)).toInt32) &&& 255) → (∀ I5 : Nat → Nat → Int32, I5 = zU I4 t 1 ((I4 t 1) + 1) → zV G (d + 1) mX9_append kc ks 3 [(0, .ref (t)), (1, .int (l1)), (2, .int (l2 + (-8)))] [] (I5, J, R, K, n) Q))))))))) : zV G (d + 1) mX9_append kc ks 3 [(0, .ref (t)), (1, .int (l1)), (2, .int (l2))] [] (I, J, R, K, n) Q := by
  refine zIload_n 2 2 4 (by decide +kernel) rfl rfl ?_
  refine zIf_lt 51 55 7 (by decide +kernel) rfl rfl ⟨fun q1 => ?_, fun q1 => ?_⟩
  · replace F := F.1 q1
    exact zVret rfl (by decide +kernel) F
  · replace F := F.2 q1
    refine zIload_n 1 1 8 (by decide +kernel) rfl rfl ?_
    refine zIload_n 2 2 9 (by decide +kernel) rfl rfl ?_
    refine zIushr 10 (by decide +kernel) rfl ?_
    refine zSipush 255 255 13 (by decide +kernel) rfl (by decide) ?_
    refine zIand 14 (by decide +kernel) rfl ?_
    refine zIstore_n 3 [(3, .int (((l1.toUInt32 >>> (l2.toUInt32 &&& Int32.toUInt32 31)).toInt32) &&& 255)), (0, .ref (t)), (1, .int (l1)), (2, .int (l2))] 15 (by decide +kernel) rfl (by decide) rfl ?_
    refine zIload_n 3 0 16 (by decide +kernel) rfl rfl ?_
    refine zIf_eq 33 49 19 (by decide +kernel) rfl rfl ⟨fun q2 => ?_, fun q2 => ?_⟩
    · replace F := F.1 q2
      refine zIinc 2 (-8) 3 (l2 + (-8)) [(2, .int (l2 + (-8))), (3, .int (((l1.toUInt32 >>> (l2.toUInt32 &&& Int32.toUInt32 31)).toInt32) &&& 255)), (0, .ref (t)), (1, .int (l1))] 52 (by decide +kernel) rfl rfl (by rfl) (by decide) rfl ?_
      refine zGoto (-49) 3 (by decide +kernel) rfl ?_
      exact zLoc [2, 3, 0] _ rfl F
    · replace F := F.2 q2
      refine zAload_n 0 1 20 (by decide +kernel) rfl rfl ?_
      refine gf9_1 15 23 (by decide +kernel) rfl flX9_15 (Tape_0 S0_) ?_
      refine zSipush 240 240 26 (by decide +kernel) rfl (by decide) ?_
      refine zIcmp_ge 23 49 29 (by decide +kernel) rfl rfl ⟨fun q3 => ?_, fun q3 => ?_⟩
      · replace F := F.1 q3
        refine zIinc 2 (-8) 3 (l2 + (-8)) [(2, .int (l2 + (-8))), (3, .int (((l1.toUInt32 >>> (l2.toUInt32 &&& Int32.toUInt32 31)).toInt32) &&& 255)), (0, .ref (t)), (1, .int (l1))] 52 (by decide +kernel) rfl rfl (by rfl) (by decide) rfl ?_
        refine zGoto (-49) 3 (by decide +kernel) rfl ?_
        exact zLoc [2, 3, 0] _ rfl F
      · replace F := F.2 q3
        refine zAload_n 0 1 30 (by decide +kernel) rfl rfl ?_
        refine gf9_0 11 33 (by decide +kernel) rfl flX9_11 (Tape_0 S0_) (Tape_1 S0_) ?_
        refine zAload_n 0 1 34 (by decide +kernel) rfl rfl ?_
        refine gf9_1 15 37 (by decide +kernel) rfl flX9_15 (Tape_0 S0_) ?_
        refine zIload_n 3 0 38 (by decide +kernel) rfl rfl ?_
        refine yIastore 240 39 (by decide +kernel) rfl (Tape_2 S0_) F.1 ?_
        replace F := F.2 _ rfl
        generalize zU I (t + 1) (I t 1 : Int32).toNatClampNeg (((l1.toUInt32 >>> (l2.toUInt32 &&& Int32.toUInt32 31)).toInt32) &&& 255) = I4 at F ⊢
        refine zAload_n 0 1 40 (by decide +kernel) rfl rfl ?_
        refine zDup 41 (by decide +kernel) rfl rfl ?_
        refine gf9_1 15 44 (by decide +kernel) rfl flX9_15 (Tape_0 S0_) ?_
        refine zIconst 1 1 45 (by decide +kernel) rfl (by decide) ?_
        refine zIadd 46 (by decide +kernel) rfl ?_
        refine pf9_1 15 49 (by decide +kernel) rfl flX9_15 (Tape_0 S0_) ?_
        replace F := F _ rfl
        generalize zU I4 t 1 ((I4 t 1) + 1) = I5 at F ⊢
        refine zIinc 2 (-8) 3 (l2 + (-8)) [(2, .int (l2 + (-8))), (3, .int (((l1.toUInt32 >>> (l2.toUInt32 &&& Int32.toUInt32 31)).toInt32) &&& 255)), (0, .ref (t)), (1, .int (l1))] 52 (by decide +kernel) rfl rfl (by rfl) (by decide) rfl ?_
        refine zGoto (-49) 3 (by decide +kernel) rfl ?_
        exact zLoc [2, 3, 0] _ rfl F
set_option maxHeartbeats 2000000 in
theorem wX9_next_0 {G : zG} {d kc ks : Nat} {I : Nat → Nat → Int32} {J : Nat → Nat → Int64} {R : Nat → Nat → Option Nat} {K : Nat → Nat × Nat} {n : Nat} {Q : Option Value → zH → Prop} (t : Nat) (S0_ : hTape G R K n t) (F : (((I t 1 : Int32) ≤ (I t 2 : Int32) → (((¬ ((I t 1 : Int32) ≤ (I t 2 : Int32))) → vp_in (I t 2) 240) ∧ Q (some (.int ((if (I t 1 : Int32) ≤ (I t 2 : Int32) then (-1) else I (t + 1) (I t 2 : Int32).toNatClampNeg)))) (I, J, R, K, n))) ∧ (¬ ((I t 1 : Int32) ≤ (I t 2 : Int32)) → ((vp_in (I t 2) 240) ∧ (((I (t + 1) (I t 2 : Int32).toNatClampNeg : Int32) = 32 → (∀ I8 : Nat → Nat → Int32, I8 = zU I t 2 ((I t 2) + 1) → zV G (d + 1) mX9_next kc ks 0 [(0, .ref (t))] [] (I8, J, R, K, n) Q)) ∧ (¬ ((I (t + 1) (I t 2 : Int32).toNatClampNeg : Int32) = 32) → (((¬ ((I t 1 : Int32) ≤ (I t 2 : Int32))) → vp_in (I t 2) 240) ∧ Q (some (.int ((if (I t 1 : Int32) ≤ (I t 2 : Int32) then (-1) else I (t + 1) (I t 2 : Int32).toNatClampNeg)))) (I, J, R, K, n)))))))) : zV G (d + 1) mX9_next kc ks 0 [(0, .ref (t))] [] (I, J, R, K, n) Q := by
  refine zAload_n 0 0 1 (by decide +kernel) rfl rfl ?_
  refine gf9_2 19 4 (by decide +kernel) rfl flX9_19 (Tape_0 S0_) ?_
  refine zAload_n 0 0 5 (by decide +kernel) rfl rfl ?_
  refine gf9_1 15 8 (by decide +kernel) rfl flX9_15 (Tape_0 S0_) ?_
  refine zIcmp_ge 30 38 11 (by decide +kernel) rfl rfl ⟨fun q1 => ?_, fun q1 => ?_⟩
  · replace F := F.1 q1
    refine zAload_n 0 0 39 (by decide +kernel) rfl rfl ?_
    refine gf9_2 19 42 (by decide +kernel) rfl flX9_19 (Tape_0 S0_) ?_
    refine zAload_n 0 0 43 (by decide +kernel) rfl rfl ?_
    refine gf9_1 15 46 (by decide +kernel) rfl flX9_15 (Tape_0 S0_) ?_
    obtain ⟨w3, F⟩ := F
    suffices KK : zV G (d + 1) mX9_next kc ks 62 [(0, .ref (t))] [.int ((if (I t 1 : Int32) ≤ (I t 2 : Int32) then (-1) else I (t + 1) (I t 2 : Int32).toNatClampNeg))] (I, J, R, K, n) Q by
      refine zIcmp_ge 15 61 49 (by decide +kernel) rfl rfl ⟨fun q2 => ?_, fun q2 => ?_⟩
      · refine zIconst (-1) (-1) 62 (by decide +kernel) rfl (by decide) ?_
        exact zTop (by rw [if_pos q2]) KK
      · refine zAload_n 0 0 50 (by decide +kernel) rfl rfl ?_
        refine gf9_0 11 53 (by decide +kernel) rfl flX9_11 (Tape_0 S0_) (Tape_1 S0_) ?_
        refine zAload_n 0 0 54 (by decide +kernel) rfl rfl ?_
        refine gf9_2 19 57 (by decide +kernel) rfl flX9_19 (Tape_0 S0_) ?_
        refine yIaload 240 58 (by decide +kernel) rfl (Tape_2 S0_) (w3 q2) ?_
        refine zGoto 4 62 (by decide +kernel) rfl ?_
        exact zTop (by rw [if_neg q2]) KK
    exact zIret rfl (by decide +kernel) F
  · replace F := F.2 q1
    refine zAload_n 0 0 12 (by decide +kernel) rfl rfl ?_
    refine gf9_0 11 15 (by decide +kernel) rfl flX9_11 (Tape_0 S0_) (Tape_1 S0_) ?_
    refine zAload_n 0 0 16 (by decide +kernel) rfl rfl ?_
    refine gf9_2 19 19 (by decide +kernel) rfl flX9_19 (Tape_0 S0_) ?_
    obtain ⟨w4, F⟩ := F
    refine yIaload 240 20 (by decide +kernel) rfl (Tape_2 S0_) (w4) ?_
    refine zBipush 32 32 22 (by decide +kernel) rfl (by decide) ?_
    refine zIcmp_ne 16 38 25 (by decide +kernel) rfl rfl ⟨fun q5 => ?_, fun q5 => ?_⟩
    · replace F := F.2 q5
      refine zAload_n 0 0 39 (by decide +kernel) rfl rfl ?_
      refine gf9_2 19 42 (by decide +kernel) rfl flX9_19 (Tape_0 S0_) ?_
      refine zAload_n 0 0 43 (by decide +kernel) rfl rfl ?_
      refine gf9_1 15 46 (by decide +kernel) rfl flX9_15 (Tape_0 S0_) ?_
      obtain ⟨w7, F⟩ := F
      suffices KK : zV G (d + 1) mX9_next kc ks 62 [(0, .ref (t))] [.int ((if (I t 1 : Int32) ≤ (I t 2 : Int32) then (-1) else I (t + 1) (I t 2 : Int32).toNatClampNeg))] (I, J, R, K, n) Q by
        refine zIcmp_ge 15 61 49 (by decide +kernel) rfl rfl ⟨fun q6 => ?_, fun q6 => ?_⟩
        · refine zIconst (-1) (-1) 62 (by decide +kernel) rfl (by decide) ?_
          exact zTop (by rw [if_pos q6]) KK
        · refine zAload_n 0 0 50 (by decide +kernel) rfl rfl ?_
          refine gf9_0 11 53 (by decide +kernel) rfl flX9_11 (Tape_0 S0_) (Tape_1 S0_) ?_
          refine zAload_n 0 0 54 (by decide +kernel) rfl rfl ?_
          refine gf9_2 19 57 (by decide +kernel) rfl flX9_19 (Tape_0 S0_) ?_
          refine yIaload 240 58 (by decide +kernel) rfl (Tape_2 S0_) (w7 q6) ?_
          refine zGoto 4 62 (by decide +kernel) rfl ?_
          exact zTop (by rw [if_neg q6]) KK
      exact zIret rfl (by decide +kernel) F
    · replace F := F.1 q5
      refine zAload_n 0 0 26 (by decide +kernel) rfl rfl ?_
      refine zDup 27 (by decide +kernel) rfl rfl ?_
      refine gf9_2 19 30 (by decide +kernel) rfl flX9_19 (Tape_0 S0_) ?_
      refine zIconst 1 1 31 (by decide +kernel) rfl (by decide) ?_
      refine zIadd 32 (by decide +kernel) rfl ?_
      refine pf9_2 19 35 (by decide +kernel) rfl flX9_19 (Tape_0 S0_) ?_
      replace F := F _ rfl
      generalize zU I t 2 ((I t 2) + 1) = I8 at F ⊢
      refine zGoto (-35) 0 (by decide +kernel) rfl ?_
      exact zLoc [0] _ rfl F
set_option maxHeartbeats 2000000 in
theorem wX9_accept_0 {G : zG} {d kc ks : Nat} {I : Nat → Nat → Int32} {J : Nat → Nat → Int64} {R : Nat → Nat → Option Nat} {K : Nat → Nat × Nat} {n : Nat} {Q : Option Value → zH → Prop} (t : Nat) (S0_ : hTape G R K n t) (p1 : Int32) (F : zC G d mX9_next 0 0 [.ref (t)] (I, J, R, K, n) (fun r h => ∃ (x1 : Int32) (I2 : Nat → Nat → Int32), r = some (.int x1) ∧ h = (I2, J, R, K, n) ∧ ((x1 = p1 → (∀ I4 : Nat → Nat → Int32, I4 = zU I2 t 2 ((I2 t 2) + 1) → Q (some (.int (1))) (I4, J, R, K, n))) ∧ (¬ (x1 = p1) → Q (some (.int (0))) (I2, J, R, K, n))))) : zV G (d + 1) mX9_accept kc ks 0 [(0, .ref (t)), (1, .int (p1))] [] (I, J, R, K, n) Q := by
  refine zAload_n 0 0 1 (by decide +kernel) rfl rfl ?_
  refine zCallV 9 zcls9 mX9_next 22 0 0 0 _ _ 4 [] [] okX9_next mlX9_22 imX9_next seX9_next (by decide +kernel) rfl rfl (Nat.le_of_ble_eq_true rfl) rfl rfl (Tape_0 S0_) (zC.mono F ?_)
  rintro _ _ ⟨x1, I2, rfl, rfl, F⟩
  change zV G (d + 1) mX9_accept kc ks 4 [(0, .ref (t)), (1, .int (p1))] [.int (x1)] (I2, J, R, K, n) Q
  refine zIload_n 1 1 5 (by decide +kernel) rfl rfl ?_
  refine zIcmp_eq 5 10 8 (by decide +kernel) rfl rfl ⟨fun q3 => ?_, fun q3 => ?_⟩
  · replace F := F.1 q3
    refine zAload_n 0 0 11 (by decide +kernel) rfl rfl ?_
    refine zDup 12 (by decide +kernel) rfl rfl ?_
    refine gf9_2 19 15 (by decide +kernel) rfl flX9_19 (Tape_0 S0_) ?_
    refine zIconst 1 1 16 (by decide +kernel) rfl (by decide) ?_
    refine zIadd 17 (by decide +kernel) rfl ?_
    refine pf9_2 19 20 (by decide +kernel) rfl flX9_19 (Tape_0 S0_) ?_
    replace F := F _ rfl
    generalize zU I2 t 2 ((I2 t 2) + 1) = I4 at F ⊢
    refine zIconst 1 1 21 (by decide +kernel) rfl (by decide) ?_
    exact zZret .boolean rfl (zNarZ (Or.inr rfl)) (by decide +kernel) F
  · replace F := F.2 q3
    refine zIconst 0 0 9 (by decide +kernel) rfl (by decide) ?_
    exact zZret .boolean rfl (zNarZ (Or.inl rfl)) (by decide +kernel) F
set_option maxHeartbeats 2000000 in
theorem wX9_digit_0 {G : zG} {d kc ks : Nat} {I : Nat → Nat → Int32} {J : Nat → Nat → Int64} {R : Nat → Nat → Option Nat} {K : Nat → Nat × Nat} {n : Nat} {Q : Option Value → zH → Prop} (t : Nat) (S0_ : hTape G R K n t) (F : zC G d mX9_next 0 0 [.ref (t)] (I, J, R, K, n) (fun r h => ∃ (x1 : Int32) (I2 : Nat → Nat → Int32), r = some (.int x1) ∧ h = (I2, J, R, K, n) ∧ ((x1 < 48 → Q (some (.int ((-1)))) (I2, J, R, K, n)) ∧ (¬ (x1 < 48) → ((x1 ≤ 57 → (∀ I5 : Nat → Nat → Int32, I5 = zU I2 t 2 ((I2 t 2) + 1) → Q (some (.int (x1 - 48))) (I5, J, R, K, n))) ∧ (¬ (x1 ≤ 57) → Q (some (.int ((-1)))) (I2, J, R, K, n))))))) : zV G (d + 1) mX9_digit kc ks 0 [(0, .ref (t))] [] (I, J, R, K, n) Q := by
  refine zAload_n 0 0 1 (by decide +kernel) rfl rfl ?_
  refine zCallV 9 zcls9 mX9_next 22 0 0 0 _ _ 4 [] [] okX9_next mlX9_22 imX9_next seX9_next (by decide +kernel) rfl rfl (Nat.le_of_ble_eq_true rfl) rfl rfl (Tape_0 S0_) (zC.mono F ?_)
  rintro _ _ ⟨x1, I2, rfl, rfl, F⟩
  change zV G (d + 1) mX9_digit kc ks 4 [(0, .ref (t))] [.int (x1)] (I2, J, R, K, n) Q
  refine zIstore_n 1 [(1, .int (x1)), (0, .ref (t))] 5 (by decide +kernel) rfl (by decide) rfl ?_
  refine zIload_n 1 0 6 (by decide +kernel) rfl rfl ?_
  refine zBipush 48 48 8 (by decide +kernel) rfl (by decide) ?_
  refine zIcmp_lt 9 17 11 (by decide +kernel) rfl rfl ⟨fun q3 => ?_, fun q3 => ?_⟩
  · replace F := F.1 q3
    refine zIconst (-1) (-1) 18 (by decide +kernel) rfl (by decide) ?_
    exact zIret rfl (by decide +kernel) F
  · replace F := F.2 q3
    refine zIload_n 1 0 12 (by decide +kernel) rfl rfl ?_
    refine zBipush 57 57 14 (by decide +kernel) rfl (by decide) ?_
    refine zIcmp_le 5 19 17 (by decide +kernel) rfl rfl ⟨fun q4 => ?_, fun q4 => ?_⟩
    · replace F := F.1 q4
      refine zAload_n 0 1 20 (by decide +kernel) rfl rfl ?_
      refine zDup 21 (by decide +kernel) rfl rfl ?_
      refine gf9_2 19 24 (by decide +kernel) rfl flX9_19 (Tape_0 S0_) ?_
      refine zIconst 1 1 25 (by decide +kernel) rfl (by decide) ?_
      refine zIadd 26 (by decide +kernel) rfl ?_
      refine pf9_2 19 29 (by decide +kernel) rfl flX9_19 (Tape_0 S0_) ?_
      replace F := F _ rfl
      generalize zU I2 t 2 ((I2 t 2) + 1) = I5 at F ⊢
      refine zIload_n 1 0 30 (by decide +kernel) rfl rfl ?_
      refine zBipush 48 48 32 (by decide +kernel) rfl (by decide) ?_
      refine zIsub 33 (by decide +kernel) rfl ?_
      exact zIret rfl (by decide +kernel) F
    · replace F := F.2 q4
      refine zIconst (-1) (-1) 18 (by decide +kernel) rfl (by decide) ?_
      exact zIret rfl (by decide +kernel) F
set_option maxHeartbeats 2000000 in
theorem wX9_number_0 {G : zG} {d kc ks : Nat} {I : Nat → Nat → Int32} {J : Nat → Nat → Int64} {R : Nat → Nat → Option Nat} {K : Nat → Nat × Nat} {n : Nat} {Q : Option Value → zH → Prop} (t : Nat) (S0_ : hTape G R K n t) (p1 : Int32) (F : zC G d mX9_next 0 0 [.ref (t)] (I, J, R, K, n) (fun r h => ∃ (x1 : Int32) (I2 : Nat → Nat → Int32), r = some (.int x1) ∧ h = (I2, J, R, K, n) ∧ zC G d mX9_atDigit 0 0 [.ref (t)] (I2, J, R, K, n) (fun r h => ∃ (x3 : Int32) (I4 : Nat → Nat → Int32), r = some (.int x3) ∧ h = (I4, J, R, K, n) ∧ ((x3 = 0 → Q (some (.int ((-1)))) (I4, J, R, K, n)) ∧ (¬ (x3 = 0) → zV G (d + 1) mX9_number kc ks 18 [(0, .ref (t)), (1, .int (p1)), (2, .int (0)), (3, .int (0))] [] (I4, J, R, K, n) Q))))) : zV G (d + 1) mX9_number kc ks 0 [(0, .ref (t)), (1, .int (p1))] [] (I, J, R, K, n) Q := by
  refine zAload_n 0 0 1 (by decide +kernel) rfl rfl ?_
  refine zCallV 9 zcls9 mX9_next 22 0 0 0 _ _ 4 [] [] okX9_next mlX9_22 imX9_next seX9_next (by decide +kernel) rfl rfl (Nat.le_of_ble_eq_true rfl) rfl rfl (Tape_0 S0_) (zC.mono F ?_)
  rintro _ _ ⟨x1, I2, rfl, rfl, F⟩
  change zV G (d + 1) mX9_number kc ks 4 [(0, .ref (t)), (1, .int (p1))] [.int (x1)] (I2, J, R, K, n) Q
  refine zPop 5 (by decide +kernel) rfl rfl ?_
  refine zAload_n 0 0 6 (by decide +kernel) rfl rfl ?_
  refine zCallV 9 zcls9 mX9_atDigit 26 0 0 0 _ _ 9 [] [] okX9_atDigit mlX9_26 imX9_atDigit seX9_atDigit (by decide +kernel) rfl rfl (Nat.le_of_ble_eq_true rfl) rfl rfl (Tape_0 S0_) (zC.mono F ?_)
  rintro _ _ ⟨x3, I4, rfl, rfl, F⟩
  change zV G (d + 1) mX9_number kc ks 9 [(0, .ref (t)), (1, .int (p1))] [.int (x3)] (I4, J, R, K, n) Q
  refine zIf_ne 5 14 12 (by decide +kernel) rfl rfl ⟨fun q5 => ?_, fun q5 => ?_⟩
  · replace F := F.2 q5
    refine zIconst 0 0 15 (by decide +kernel) rfl (by decide) ?_
    refine zIstore_n 2 [(2, .int (0)), (0, .ref (t)), (1, .int (p1))] 16 (by decide +kernel) rfl (by decide) rfl ?_
    refine zIconst 0 0 17 (by decide +kernel) rfl (by decide) ?_
    refine zIstore_n 3 [(3, .int (0)), (2, .int (0)), (0, .ref (t)), (1, .int (p1))] 18 (by decide +kernel) rfl (by decide) rfl ?_
    exact zLoc [2, 3, 1, 0] _ rfl F
  · replace F := F.1 q5
    refine zIconst (-1) (-1) 13 (by decide +kernel) rfl (by decide) ?_
    exact zIret rfl (by decide +kernel) F
set_option maxHeartbeats 2000000 in
theorem wX9_number_18 {G : zG} {d kc ks : Nat} {I : Nat → Nat → Int32} {J : Nat → Nat → Int64} {R : Nat → Nat → Option Nat} {K : Nat → Nat × Nat} {n : Nat} {Q : Option Value → zH → Prop} (t : Nat) (S0_ : hTape G R K n t) (l1 l2 l3 : Int32) (F : ((l1 ≤ l3 → zC G d mX9_atDigit 0 0 [.ref (t)] (I, J, R, K, n) (fun r h => ∃ (x7 : Int32) (I8 : Nat → Nat → Int32), r = some (.int x7) ∧ h = (I8, J, R, K, n) ∧ Q (some (.int ((if x7 = 0 then l2 else (-1))))) (I8, J, R, K, n))) ∧ (¬ (l1 ≤ l3) → zC G d mX9_atDigit 0 0 [.ref (t)] (I, J, R, K, n) (fun r h => ∃ (x10 : Int32) (I11 : Nat → Nat → Int32), r = some (.int x10) ∧ h = (I11, J, R, K, n) ∧ ((x10 = 0 → zC G d mX9_atDigit 0 0 [.ref (t)] (I11, J, R, K, n) (fun r h => ∃ (x13 : Int32) (I14 : Nat → Nat → Int32), r = some (.int x13) ∧ h = (I14, J, R, K, n) ∧ Q (some (.int ((if x13 = 0 then l2 else (-1))))) (I14, J, R, K, n))) ∧ (¬ (x10 = 0) → ((vp_in (I11 t 2) 240) ∧ (∀ I17 : Nat → Nat → Int32, I17 = zU I11 t 2 ((I11 t 2) + 1) → zV G (d + 1) mX9_number kc ks 18 [(0, .ref (t)), (1, .int (l1)), (2, .int (((10 * l2) + (I11 (t + 1) (I11 t 2 : Int32).toNatClampNeg)) - 48)), (3, .int (l3 + 1))] [] (I17, J, R, K, n) Q)))))))) : zV G (d + 1) mX9_number kc ks 18 [(0, .ref (t)), (1, .int (l1)), (2, .int (l2)), (3, .int (l3))] [] (I, J, R, K, n) Q := by
  refine zIload_n 3 3 19 (by decide +kernel) rfl rfl ?_
  refine zIload_n 1 1 20 (by decide +kernel) rfl rfl ?_
  refine zIcmp_ge 44 64 23 (by decide +kernel) rfl rfl ⟨fun q6 => ?_, fun q6 => ?_⟩
  · replace F := F.1 q6
    refine zAload_n 0 0 65 (by decide +kernel) rfl rfl ?_
    refine zCallV 9 zcls9 mX9_atDigit 26 0 0 0 _ _ 68 [] [] okX9_atDigit mlX9_26 imX9_atDigit seX9_atDigit (by decide +kernel) rfl rfl (Nat.le_of_ble_eq_true rfl) rfl rfl (Tape_0 S0_) (zC.mono F ?_)
    rintro _ _ ⟨x7, I8, rfl, rfl, F⟩
    change zV G (d + 1) mX9_number kc ks 68 [(0, .ref (t)), (1, .int (l1)), (2, .int (l2)), (3, .int (l3))] [.int (x7)] (I8, J, R, K, n) Q
    suffices KK : zV G (d + 1) mX9_number kc ks 76 [(0, .ref (t)), (1, .int (l1)), (2, .int (l2)), (3, .int (l3))] [.int ((if x7 = 0 then l2 else (-1)))] (I8, J, R, K, n) Q by
      refine zIf_eq 7 75 71 (by decide +kernel) rfl rfl ⟨fun q9 => ?_, fun q9 => ?_⟩
      · refine zIload_n 2 2 76 (by decide +kernel) rfl rfl ?_
        exact zTop (by rw [if_pos q9]) KK
      · refine zIconst (-1) (-1) 72 (by decide +kernel) rfl (by decide) ?_
        refine zGoto 4 76 (by decide +kernel) rfl ?_
        exact zTop (by rw [if_neg q9]) KK
    exact zIret rfl (by decide +kernel) F
  · replace F := F.2 q6
    refine zAload_n 0 0 24 (by decide +kernel) rfl rfl ?_
    refine zCallV 9 zcls9 mX9_atDigit 26 0 0 0 _ _ 27 [] [] okX9_atDigit mlX9_26 imX9_atDigit seX9_atDigit (by decide +kernel) rfl rfl (Nat.le_of_ble_eq_true rfl) rfl rfl (Tape_0 S0_) (zC.mono F ?_)
    rintro _ _ ⟨x10, I11, rfl, rfl, F⟩
    change zV G (d + 1) mX9_number kc ks 27 [(0, .ref (t)), (1, .int (l1)), (2, .int (l2)), (3, .int (l3))] [.int (x10)] (I11, J, R, K, n) Q
    refine zIf_eq 37 64 30 (by decide +kernel) rfl rfl ⟨fun q12 => ?_, fun q12 => ?_⟩
    · replace F := F.1 q12
      refine zAload_n 0 0 65 (by decide +kernel) rfl rfl ?_
      refine zCallV 9 zcls9 mX9_atDigit 26 0 0 0 _ _ 68 [] [] okX9_atDigit mlX9_26 imX9_atDigit seX9_atDigit (by decide +kernel) rfl rfl (Nat.le_of_ble_eq_true rfl) rfl rfl (Tape_0 S0_) (zC.mono F ?_)
      rintro _ _ ⟨x13, I14, rfl, rfl, F⟩
      change zV G (d + 1) mX9_number kc ks 68 [(0, .ref (t)), (1, .int (l1)), (2, .int (l2)), (3, .int (l3))] [.int (x13)] (I14, J, R, K, n) Q
      suffices KK : zV G (d + 1) mX9_number kc ks 76 [(0, .ref (t)), (1, .int (l1)), (2, .int (l2)), (3, .int (l3))] [.int ((if x13 = 0 then l2 else (-1)))] (I14, J, R, K, n) Q by
        refine zIf_eq 7 75 71 (by decide +kernel) rfl rfl ⟨fun q15 => ?_, fun q15 => ?_⟩
        · refine zIload_n 2 2 76 (by decide +kernel) rfl rfl ?_
          exact zTop (by rw [if_pos q15]) KK
        · refine zIconst (-1) (-1) 72 (by decide +kernel) rfl (by decide) ?_
          refine zGoto 4 76 (by decide +kernel) rfl ?_
          exact zTop (by rw [if_neg q15]) KK
      exact zIret rfl (by decide +kernel) F
    · replace F := F.2 q12
      refine zBipush 10 10 32 (by decide +kernel) rfl (by decide) ?_
      refine zIload_n 2 2 33 (by decide +kernel) rfl rfl ?_
      refine zImul 34 (by decide +kernel) rfl ?_
      refine zAload_n 0 0 35 (by decide +kernel) rfl rfl ?_
      refine gf9_0 11 38 (by decide +kernel) rfl flX9_11 (Tape_0 S0_) (Tape_1 S0_) ?_
      refine zAload_n 0 0 39 (by decide +kernel) rfl rfl ?_
      refine gf9_2 19 42 (by decide +kernel) rfl flX9_19 (Tape_0 S0_) ?_
      obtain ⟨w16, F⟩ := F
      refine yIaload 240 43 (by decide +kernel) rfl (Tape_2 S0_) (w16) ?_
      refine zIadd 44 (by decide +kernel) rfl ?_
      refine zBipush 48 48 46 (by decide +kernel) rfl (by decide) ?_
      refine zIsub 47 (by decide +kernel) rfl ?_
      refine zIstore_n 2 [(2, .int (((10 * l2) + (I11 (t + 1) (I11 t 2 : Int32).toNatClampNeg)) - 48)), (0, .ref (t)), (1, .int (l1)), (3, .int (l3))] 48 (by decide +kernel) rfl (by decide) rfl ?_
      refine zAload_n 0 1 49 (by decide +kernel) rfl rfl ?_
      refine zDup 50 (by decide +kernel) rfl rfl ?_
      refine gf9_2 19 53 (by decide +kernel) rfl flX9_19 (Tape_0 S0_) ?_
      refine zIconst 1 1 54 (by decide +kernel) rfl (by decide) ?_
      refine zIadd 55 (by decide +kernel) rfl ?_
      refine pf9_2 19 58 (by decide +kernel) rfl flX9_19 (Tape_0 S0_) ?_
      replace F := F _ rfl
      generalize zU I11 t 2 ((I11 t 2) + 1) = I17 at F ⊢
      refine zIinc 3 1 3 (l3 + 1) [(3, .int (l3 + 1)), (2, .int (((10 * l2) + (I11 (t + 1) (I11 t 2 : Int32).toNatClampNeg)) - 48)), (0, .ref (t)), (1, .int (l1))] 61 (by decide +kernel) rfl rfl (by rfl) (by decide) rfl ?_
      refine zGoto (-43) 18 (by decide +kernel) rfl ?_
      exact zLoc [2, 3, 1, 0] _ rfl F
set_option maxHeartbeats 2000000 in
theorem wX9_atDigit_0 {G : zG} {d kc ks : Nat} {I : Nat → Nat → Int32} {J : Nat → Nat → Int64} {R : Nat → Nat → Option Nat} {K : Nat → Nat × Nat} {n : Nat} {Q : Option Value → zH → Prop} (t : Nat) (S0_ : hTape G R K n t) (F : (((¬ ((I t 1 : Int32) ≤ (I t 2 : Int32))) → vp_in (I t 2) 240) ∧ ((¬ ((I t 1 : Int32) ≤ (I t 2 : Int32))) → (¬ ((I (t + 1) (I t 2 : Int32).toNatClampNeg : Int32) < 48)) → vp_in (I t 2) 240) ∧ Q (some (.int ((if (I t 1 : Int32) ≤ (I t 2 : Int32) then 0 else (if (I (t + 1) (I t 2 : Int32).toNatClampNeg : Int32) < 48 then 0 else (if 57 < (I (t + 1) (I t 2 : Int32).toNatClampNeg : Int32) then 0 else 1)))))) (I, J, R, K, n))) : zV G (d + 1) mX9_atDigit kc ks 0 [(0, .ref (t))] [] (I, J, R, K, n) Q := by
  refine zAload_n 0 0 1 (by decide +kernel) rfl rfl ?_
  refine gf9_2 19 4 (by decide +kernel) rfl flX9_19 (Tape_0 S0_) ?_
  refine zAload_n 0 0 5 (by decide +kernel) rfl rfl ?_
  refine gf9_1 15 8 (by decide +kernel) rfl flX9_15 (Tape_0 S0_) ?_
  obtain ⟨w2, F⟩ := F
  obtain ⟨w4, F⟩ := F
  suffices KK : zV G (d + 1) mX9_atDigit kc ks 44 [(0, .ref (t))] [.int ((if (I t 1 : Int32) ≤ (I t 2 : Int32) then 0 else (if (I (t + 1) (I t 2 : Int32).toNatClampNeg : Int32) < 48 then 0 else (if 57 < (I (t + 1) (I t 2 : Int32).toNatClampNeg : Int32) then 0 else 1))))] (I, J, R, K, n) Q by
    refine zIcmp_ge 35 43 11 (by decide +kernel) rfl rfl ⟨fun q1 => ?_, fun q1 => ?_⟩
    · refine zIconst 0 0 44 (by decide +kernel) rfl (by decide) ?_
      exact zTop (by rw [if_pos q1]) KK
    · refine zAload_n 0 0 12 (by decide +kernel) rfl rfl ?_
      refine gf9_0 11 15 (by decide +kernel) rfl flX9_11 (Tape_0 S0_) (Tape_1 S0_) ?_
      refine zAload_n 0 0 16 (by decide +kernel) rfl rfl ?_
      refine gf9_2 19 19 (by decide +kernel) rfl flX9_19 (Tape_0 S0_) ?_
      refine yIaload 240 20 (by decide +kernel) rfl (Tape_2 S0_) (w2 q1) ?_
      refine zBipush 48 48 22 (by decide +kernel) rfl (by decide) ?_
      refine zIcmp_lt 21 43 25 (by decide +kernel) rfl rfl ⟨fun q3 => ?_, fun q3 => ?_⟩
      · refine zIconst 0 0 44 (by decide +kernel) rfl (by decide) ?_
        exact zTop (by rw [if_neg q1, if_pos q3]) KK
      · refine zAload_n 0 0 26 (by decide +kernel) rfl rfl ?_
        refine gf9_0 11 29 (by decide +kernel) rfl flX9_11 (Tape_0 S0_) (Tape_1 S0_) ?_
        refine zAload_n 0 0 30 (by decide +kernel) rfl rfl ?_
        refine gf9_2 19 33 (by decide +kernel) rfl flX9_19 (Tape_0 S0_) ?_
        refine yIaload 240 34 (by decide +kernel) rfl (Tape_2 S0_) (w4 q1 q3) ?_
        refine zBipush 57 57 36 (by decide +kernel) rfl (by decide) ?_
        refine zIcmp_gt 7 43 39 (by decide +kernel) rfl rfl ⟨fun q5 => ?_, fun q5 => ?_⟩
        · refine zIconst 0 0 44 (by decide +kernel) rfl (by decide) ?_
          exact zTop (by rw [if_neg q1, if_neg q3, if_pos q5]) KK
        · refine zIconst 1 1 40 (by decide +kernel) rfl (by decide) ?_
          refine zGoto 4 44 (by decide +kernel) rfl ?_
          exact zTop (by rw [if_neg q1, if_neg q3, if_neg q5]) KK
  exact zZret .boolean rfl (zNarZ (zOrIte (Or.inl rfl) (zOrIte (Or.inl rfl) (zOrIte (Or.inl rfl) (Or.inr rfl))))) (by decide +kernel) F
set_option maxHeartbeats 2000000 in
theorem wX10_isFarm_0 {G : zG} {d kc ks : Nat} {I : Nat → Nat → Int32} {J : Nat → Nat → Int64} {R : Nat → Nat → Option Nat} {K : Nat → Nat × Nat} {n : Nat} {Q : Option Value → zH → Prop} (v : Nat) (S0_ : hVil G R K n v) (p1 : Int32) (F : Q (some (.int ((if p1 < 0 then 0 else (if (I v 5 : Int32) ≤ p1 then 0 else 1))))) (I, J, R, K, n)) : zV G (d + 1) mX10_isFarm kc ks 0 [(0, .ref (v)), (1, .int (p1))] [] (I, J, R, K, n) Q := by
  refine zIload_n 1 1 1 (by decide +kernel) rfl rfl ?_
  suffices KK : zV G (d + 1) mX10_isFarm kc ks 17 [(0, .ref (v)), (1, .int (p1))] [.int ((if p1 < 0 then 0 else (if (I v 5 : Int32) ≤ p1 then 0 else 1)))] (I, J, R, K, n) Q by
    refine zIf_lt 15 16 4 (by decide +kernel) rfl rfl ⟨fun q1 => ?_, fun q1 => ?_⟩
    · refine zIconst 0 0 17 (by decide +kernel) rfl (by decide) ?_
      exact zTop (by rw [if_pos q1]) KK
    · refine zIload_n 1 1 5 (by decide +kernel) rfl rfl ?_
      refine zAload_n 0 0 6 (by decide +kernel) rfl rfl ?_
      refine gf10_5 27 9 (by decide +kernel) rfl flX10_27 (Vil_0 S0_) ?_
      refine zIcmp_ge 7 16 12 (by decide +kernel) rfl rfl ⟨fun q2 => ?_, fun q2 => ?_⟩
      · refine zIconst 0 0 17 (by decide +kernel) rfl (by decide) ?_
        exact zTop (by rw [if_neg q1, if_pos q2]) KK
      · refine zIconst 1 1 13 (by decide +kernel) rfl (by decide) ?_
        refine zGoto 4 17 (by decide +kernel) rfl ?_
        exact zTop (by rw [if_neg q1, if_neg q2]) KK
  exact zZret .boolean rfl (zNarZ (zOrIte (Or.inl rfl) (zOrIte (Or.inl rfl) (Or.inr rfl)))) (by decide +kernel) F
set_option maxHeartbeats 2000000 in
theorem wX10_read_0 {G : zG} {d kc ks : Nat} {I : Nat → Nat → Int32} {J : Nat → Nat → Int64} {R : Nat → Nat → Option Nat} {K : Nat → Nat × Nat} {n : Nat} {Q : Option Value → zH → Prop} (v t : Nat) (S0_ : hVil G R K n v) (S1_ : hTape G R K n t) (F : (∀ I1 : Nat → Nat → Int32, I1 = zU I t 2 (0) → (∀ I2 : Nat → Nat → Int32, I2 = zU I1 v 5 (0) → (∀ I3 : Nat → Nat → Int32, I3 = zU I2 v 6 (0) → (∀ I4 : Nat → Nat → Int32, I4 = zU I3 v 7 (40) → (∀ I5 : Nat → Nat → Int32, I5 = zU I4 v 8 (20) → (∀ I6 : Nat → Nat → Int32, I6 = zU I5 v 9 (0) → zV G (d + 1) mX10_read kc ks 34 [(0, .ref (v)), (1, .ref (t)), (2, .int (0))] [] (I6, J, R, K, n) Q))))))) : zV G (d + 1) mX10_read kc ks 0 [(0, .ref (v)), (1, .ref (t))] [] (I, J, R, K, n) Q := by
  refine zAload_n 1 1 1 (by decide +kernel) rfl rfl ?_
  refine zIconst 0 0 2 (by decide +kernel) rfl (by decide) ?_
  refine pf9_2 47 5 (by decide +kernel) rfl flX10_47 (Tape_0 S1_) ?_
  replace F := F _ rfl
  generalize zU I t 2 (0) = I1 at F ⊢
  refine zAload_n 0 0 6 (by decide +kernel) rfl rfl ?_
  refine zIconst 0 0 7 (by decide +kernel) rfl (by decide) ?_
  refine pf10_5 27 10 (by decide +kernel) rfl flX10_27 (Vil_0 S0_) ?_
  replace F := F _ rfl
  generalize zU I1 v 5 (0) = I2 at F ⊢
  refine zAload_n 0 0 11 (by decide +kernel) rfl rfl ?_
  refine zIconst 0 0 12 (by decide +kernel) rfl (by decide) ?_
  refine pf10_6 31 15 (by decide +kernel) rfl flX10_31 (Vil_0 S0_) ?_
  replace F := F _ rfl
  generalize zU I2 v 6 (0) = I3 at F ⊢
  refine zAload_n 0 0 16 (by decide +kernel) rfl rfl ?_
  refine zBipush 40 40 18 (by decide +kernel) rfl (by decide) ?_
  refine pf10_7 34 21 (by decide +kernel) rfl flX10_34 (Vil_0 S0_) ?_
  replace F := F _ rfl
  generalize zU I3 v 7 (40) = I4 at F ⊢
  refine zAload_n 0 0 22 (by decide +kernel) rfl rfl ?_
  refine zBipush 20 20 24 (by decide +kernel) rfl (by decide) ?_
  refine pf10_8 37 27 (by decide +kernel) rfl flX10_37 (Vil_0 S0_) ?_
  replace F := F _ rfl
  generalize zU I4 v 8 (20) = I5 at F ⊢
  refine zAload_n 0 0 28 (by decide +kernel) rfl rfl ?_
  refine zIconst 0 0 29 (by decide +kernel) rfl (by decide) ?_
  refine pf10_9 40 32 (by decide +kernel) rfl flX10_40 (Or.inl rfl) (Vil_0 S0_) ?_
  replace F := F _ rfl
  generalize zU I5 v 9 (0) = I6 at F ⊢
  refine zIconst 0 0 33 (by decide +kernel) rfl (by decide) ?_
  refine zIstore_n 2 [(2, .int (0)), (0, .ref (v)), (1, .ref (t))] 34 (by decide +kernel) rfl (by decide) rfl ?_
  exact zLoc [1, 2, 0] _ rfl F
set_option maxHeartbeats 2000000 in
theorem wX10_read_34 {G : zG} {d kc ks : Nat} {I : Nat → Nat → Int32} {J : Nat → Nat → Int64} {R : Nat → Nat → Option Nat} {K : Nat → Nat × Nat} {n : Nat} {Q : Option Value → zH → Prop} (v t : Nat) (S0_ : hVil G R K n v) (S1_ : hTape G R K n t) (l2 : Int32) (F : ((240 ≤ l2 → Q (some (.int (0))) (I, J, R, K, n)) ∧ (¬ (240 ≤ l2) → zC G d mX10_readClause 0 0 [.ref (v), .ref (t)] (I, J, R, K, n) (fun r h => ∃ (x8 : Int32) (I9 : Nat → Nat → Int32), r = some (.int x8) ∧ h = (I9, J, R, K, n) ∧ ((x8 = 0 → Q (some (.int (0))) (I9, J, R, K, n)) ∧ (¬ (x8 = 0) → zC G d mX9_next 0 0 [.ref (t)] (I9, J, R, K, n) (fun r h => ∃ (x11 : Int32) (I12 : Nat → Nat → Int32), r = some (.int x11) ∧ h = (I12, J, R, K, n) ∧ ((x11 = (-1) → zC G d mX10_isWhole 0 0 [.ref (v)] (I12, J, R, K, n) (fun r h => ∃ (x17 : Int32) (I18 : Nat → Nat → Int32), r = some (.int x17) ∧ h = (I18, J, R, K, n) ∧ ((x17 = 0 ∨ x17 = 1) ∧ Q (some (.int (x17))) (I18, J, R, K, n)))) ∧ (¬ (x11 = (-1)) → zC G d mX9_accept 0 0 [.ref (t), .int (59)] (I12, J, R, K, n) (fun r h => ∃ (x14 : Int32) (I15 : Nat → Nat → Int32), r = some (.int x14) ∧ h = (I15, J, R, K, n) ∧ ((x14 = 0 → Q (some (.int (0))) (I15, J, R, K, n)) ∧ (¬ (x14 = 0) → zV G (d + 1) mX10_read kc ks 34 [(0, .ref (v)), (1, .ref (t)), (2, .int (l2 + 1))] [] (I15, J, R, K, n) Q)))))))))))) : zV G (d + 1) mX10_read kc ks 34 [(0, .ref (v)), (1, .ref (t)), (2, .int (l2))] [] (I, J, R, K, n) Q := by
  refine zIload_n 2 2 35 (by decide +kernel) rfl rfl ?_
  refine zSipush 240 240 38 (by decide +kernel) rfl (by decide) ?_
  refine zIcmp_ge 43 81 41 (by decide +kernel) rfl rfl ⟨fun q7 => ?_, fun q7 => ?_⟩
  · replace F := F.1 q7
    refine zIconst 0 0 82 (by decide +kernel) rfl (by decide) ?_
    exact zZret .boolean rfl (zNarZ (Or.inl rfl)) (by decide +kernel) F
  · replace F := F.2 q7
    refine zAload_n 0 0 42 (by decide +kernel) rfl rfl ?_
    refine zAload_n 1 1 43 (by decide +kernel) rfl rfl ?_
    refine zCallV 10 zcls10 mX10_readClause 52 1 0 0 _ _ 46 [.ref (t)] [] okX10_readClause mlX10_52 imX10_readClause seX10_readClause (by decide +kernel) rfl rfl (Nat.le_of_ble_eq_true rfl) rfl rfl (Vil_0 S0_) (zC.mono F ?_)
    rintro _ _ ⟨x8, I9, rfl, rfl, F⟩
    change zV G (d + 1) mX10_read kc ks 46 [(0, .ref (v)), (1, .ref (t)), (2, .int (l2))] [.int (x8)] (I9, J, R, K, n) Q
    refine zIf_ne 5 51 49 (by decide +kernel) rfl rfl ⟨fun q10 => ?_, fun q10 => ?_⟩
    · replace F := F.2 q10
      refine zAload_n 1 1 52 (by decide +kernel) rfl rfl ?_
      refine zCallV 9 zcls9 mX9_next 56 0 0 0 _ _ 55 [] [] okX9_next mlX10_56 imX9_next seX9_next (by decide +kernel) rfl rfl (Nat.le_of_ble_eq_true rfl) rfl rfl (Tape_0 S1_) (zC.mono F ?_)
      rintro _ _ ⟨x11, I12, rfl, rfl, F⟩
      change zV G (d + 1) mX10_read kc ks 55 [(0, .ref (v)), (1, .ref (t)), (2, .int (l2))] [.int (x11)] (I12, J, R, K, n) Q
      refine zIconst (-1) (-1) 56 (by decide +kernel) rfl (by decide) ?_
      refine zIcmp_ne 8 64 59 (by decide +kernel) rfl rfl ⟨fun q13 => ?_, fun q13 => ?_⟩
      · replace F := F.2 q13
        refine zAload_n 1 1 65 (by decide +kernel) rfl rfl ?_
        refine zBipush 59 59 67 (by decide +kernel) rfl (by decide) ?_
        refine zCallV 9 zcls9 mX9_accept 64 1 0 0 _ _ 70 [.int (59)] [] okX9_accept mlX10_64 imX9_accept seX9_accept (by decide +kernel) rfl rfl (Nat.le_of_ble_eq_true rfl) rfl rfl (Tape_0 S1_) (zC.mono F ?_)
        rintro _ _ ⟨x14, I15, rfl, rfl, F⟩
        change zV G (d + 1) mX10_read kc ks 70 [(0, .ref (v)), (1, .ref (t)), (2, .int (l2))] [.int (x14)] (I15, J, R, K, n) Q
        refine zIf_ne 5 75 73 (by decide +kernel) rfl rfl ⟨fun q16 => ?_, fun q16 => ?_⟩
        · replace F := F.2 q16
          refine zIinc 2 1 2 (l2 + 1) [(2, .int (l2 + 1)), (0, .ref (v)), (1, .ref (t))] 78 (by decide +kernel) rfl rfl (by rfl) (by decide) rfl ?_
          refine zGoto (-44) 34 (by decide +kernel) rfl ?_
          exact zLoc [1, 2, 0] _ rfl F
        · replace F := F.1 q16
          refine zIconst 0 0 74 (by decide +kernel) rfl (by decide) ?_
          exact zZret .boolean rfl (zNarZ (Or.inl rfl)) (by decide +kernel) F
      · replace F := F.1 q13
        refine zAload_n 0 0 60 (by decide +kernel) rfl rfl ?_
        refine zCallV 10 zcls10 mX10_isWhole 60 0 0 0 _ _ 63 [] [] okX10_isWhole mlX10_60 imX10_isWhole seX10_isWhole (by decide +kernel) rfl rfl (Nat.le_of_ble_eq_true rfl) rfl rfl (Vil_0 S0_) (zC.mono F ?_)
        rintro _ _ ⟨x17, I18, rfl, rfl, F⟩
        change zV G (d + 1) mX10_read kc ks 63 [(0, .ref (v)), (1, .ref (t)), (2, .int (l2))] [.int (x17)] (I18, J, R, K, n) Q
        exact zZret .boolean rfl (zNarZ F.1) (by decide +kernel) F.2
    · replace F := F.1 q10
      refine zIconst 0 0 50 (by decide +kernel) rfl (by decide) ?_
      exact zZret .boolean rfl (zNarZ (Or.inl rfl)) (by decide +kernel) F
set_option maxHeartbeats 2000000 in
theorem wX10_readClause_0 {G : zG} {d kc ks : Nat} {I : Nat → Nat → Int32} {J : Nat → Nat → Int64} {R : Nat → Nat → Option Nat} {K : Nat → Nat × Nat} {n : Nat} {Q : Option Value → zH → Prop} (v t : Nat) (S0_ : hVil G R K n v) (S1_ : hTape G R K n t) (F : zC G d mX9_next 0 0 [.ref (t)] (I, J, R, K, n) (fun r h => ∃ (x1 : Int32) (I2 : Nat → Nat → Int32), r = some (.int x1) ∧ h = (I2, J, R, K, n) ∧ ((x1 = 102 → ((6 ≤ (I2 v 5 : Int32) → Q (some (.int (0))) (I2, J, R, K, n)) ∧ (¬ (6 ≤ (I2 v 5 : Int32)) → zC G d mX10_readFarm 0 0 [.ref (v), .ref (t)] (I2, J, R, K, n) (fun r h => ∃ (x5 : Int32) (I6 : Nat → Nat → Int32), r = some (.int x5) ∧ h = (I6, J, R, K, n) ∧ Q (some (.int ((if x5 = 0 then 0 else 1)))) (I6, J, R, K, n))))) ∧ (x1 = 115 → (((I2 v 9 : Int32) = 0 → zC G d mX10_readRules 0 0 [.ref (v), .ref (t)] (I2, J, R, K, n) (fun r h => ∃ (x10 : Int32) (I11 : Nat → Nat → Int32), r = some (.int x10) ∧ h = (I11, J, R, K, n) ∧ Q (some (.int ((if x10 = 0 then 0 else 1)))) (I11, J, R, K, n))) ∧ (¬ ((I2 v 9 : Int32) = 0) → Q (some (.int (0))) (I2, J, R, K, n)))) ∧ (x1 = 119 → ((9 ≤ (I2 v 6 : Int32) → Q (some (.int (0))) (I2, J, R, K, n)) ∧ (¬ (9 ≤ (I2 v 6 : Int32)) → zC G d mX10_readWrong 0 0 [.ref (v), .ref (t)] (I2, J, R, K, n) (fun r h => ∃ (x15 : Int32) (I16 : Nat → Nat → Int32), r = some (.int x15) ∧ h = (I16, J, R, K, n) ∧ Q (some (.int ((if x15 = 0 then 0 else 1)))) (I16, J, R, K, n))))) ∧ (¬ x1 = 102 → ¬ x1 = 115 → ¬ x1 = 119 → Q (some (.int (0))) (I2, J, R, K, n))))) : zV G (d + 1) mX10_readClause kc ks 0 [(0, .ref (v)), (1, .ref (t))] [] (I, J, R, K, n) Q := by
  refine zAload_n 1 1 1 (by decide +kernel) rfl rfl ?_
  refine zCallV 9 zcls9 mX9_next 56 0 0 0 _ _ 4 [] [] okX9_next mlX10_56 imX9_next seX9_next (by decide +kernel) rfl rfl (Nat.le_of_ble_eq_true rfl) rfl rfl (Tape_0 S1_) (zC.mono F ?_)
  rintro _ _ ⟨x1, I2, rfl, rfl, F⟩
  change zV G (d + 1) mX10_readClause kc ks 4 [(0, .ref (v)), (1, .ref (t))] [.int (x1)] (I2, J, R, K, n) Q
  by_cases q3 : x1 = 102
  · replace F := F.1 q3
    have zt := zEqT q3 (show (102 : Int32).toInt = 102 by decide)
    refine zLookup 103 #[(102, 57), (115, 36), (119, 80)] 36 57 61 (by decide +kernel) (by decide) (by rw [zt]; decide +kernel) rfl ?_
    refine zAload_n 0 0 62 (by decide +kernel) rfl rfl ?_
    refine gf10_5 27 65 (by decide +kernel) rfl flX10_27 (Vil_0 S0_) ?_
    refine zBipush 6 6 67 (by decide +kernel) rfl (by decide) ?_
    refine zIcmp_ge 15 82 70 (by decide +kernel) rfl rfl ⟨fun q4 => ?_, fun q4 => ?_⟩
    · replace F := F.1 q4
      refine zIconst 0 0 83 (by decide +kernel) rfl (by decide) ?_
      exact zZret .boolean rfl (zNarZ (Or.inl rfl)) (by decide +kernel) F
    · replace F := F.2 q4
      refine zAload_n 0 0 71 (by decide +kernel) rfl rfl ?_
      refine zAload_n 1 1 72 (by decide +kernel) rfl rfl ?_
      refine zCallV 10 zcls10 mX10_readFarm 71 1 0 0 _ _ 75 [.ref (t)] [] okX10_readFarm mlX10_71 imX10_readFarm seX10_readFarm (by decide +kernel) rfl rfl (Nat.le_of_ble_eq_true rfl) rfl rfl (Vil_0 S0_) (zC.mono F ?_)
      rintro _ _ ⟨x5, I6, rfl, rfl, F⟩
      change zV G (d + 1) mX10_readClause kc ks 75 [(0, .ref (v)), (1, .ref (t))] [.int (x5)] (I6, J, R, K, n) Q
      suffices KK : zV G (d + 1) mX10_readClause kc ks 83 [(0, .ref (v)), (1, .ref (t))] [.int ((if x5 = 0 then 0 else 1))] (I6, J, R, K, n) Q by
        refine zIf_eq 7 82 78 (by decide +kernel) rfl rfl ⟨fun q7 => ?_, fun q7 => ?_⟩
        · refine zIconst 0 0 83 (by decide +kernel) rfl (by decide) ?_
          exact zTop (by rw [if_pos q7]) KK
        · refine zIconst 1 1 79 (by decide +kernel) rfl (by decide) ?_
          refine zGoto 4 83 (by decide +kernel) rfl ?_
          exact zTop (by rw [if_neg q7]) KK
      exact zZret .boolean rfl (zNarZ (zOrIte (Or.inl rfl) (Or.inr rfl))) (by decide +kernel) F
  · skip
    by_cases q8 : x1 = 115
    · replace F := F.2.1 q8
      have zt := zEqT q8 (show (115 : Int32).toInt = 115 by decide)
      refine zLookup 103 #[(102, 57), (115, 36), (119, 80)] 36 36 40 (by decide +kernel) (by decide) (by rw [zt]; decide +kernel) rfl ?_
      refine zAload_n 0 0 41 (by decide +kernel) rfl rfl ?_
      refine gf10_9 40 44 (by decide +kernel) rfl flX10_40 (Vil_0 S0_) ?_
      refine zIf_ne 15 59 47 (by decide +kernel) rfl rfl ⟨fun q9 => ?_, fun q9 => ?_⟩
      · replace F := F.2 q9
        refine zIconst 0 0 60 (by decide +kernel) rfl (by decide) ?_
        exact zZret .boolean rfl (zNarZ (Or.inl rfl)) (by decide +kernel) F
      · replace F := F.1 q9
        refine zAload_n 0 0 48 (by decide +kernel) rfl rfl ?_
        refine zAload_n 1 1 49 (by decide +kernel) rfl rfl ?_
        refine zCallV 10 zcls10 mX10_readRules 68 1 0 0 _ _ 52 [.ref (t)] [] okX10_readRules mlX10_68 imX10_readRules seX10_readRules (by decide +kernel) rfl rfl (Nat.le_of_ble_eq_true rfl) rfl rfl (Vil_0 S0_) (zC.mono F ?_)
        rintro _ _ ⟨x10, I11, rfl, rfl, F⟩
        change zV G (d + 1) mX10_readClause kc ks 52 [(0, .ref (v)), (1, .ref (t))] [.int (x10)] (I11, J, R, K, n) Q
        suffices KK : zV G (d + 1) mX10_readClause kc ks 60 [(0, .ref (v)), (1, .ref (t))] [.int ((if x10 = 0 then 0 else 1))] (I11, J, R, K, n) Q by
          refine zIf_eq 7 59 55 (by decide +kernel) rfl rfl ⟨fun q12 => ?_, fun q12 => ?_⟩
          · refine zIconst 0 0 60 (by decide +kernel) rfl (by decide) ?_
            exact zTop (by rw [if_pos q12]) KK
          · refine zIconst 1 1 56 (by decide +kernel) rfl (by decide) ?_
            refine zGoto 4 60 (by decide +kernel) rfl ?_
            exact zTop (by rw [if_neg q12]) KK
        exact zZret .boolean rfl (zNarZ (zOrIte (Or.inl rfl) (Or.inr rfl))) (by decide +kernel) F
    · skip
      by_cases q13 : x1 = 119
      · replace F := F.2.2.1 q13
        have zt := zEqT q13 (show (119 : Int32).toInt = 119 by decide)
        refine zLookup 103 #[(102, 57), (115, 36), (119, 80)] 36 80 84 (by decide +kernel) (by decide) (by rw [zt]; decide +kernel) rfl ?_
        refine zAload_n 0 0 85 (by decide +kernel) rfl rfl ?_
        refine gf10_6 31 88 (by decide +kernel) rfl flX10_31 (Vil_0 S0_) ?_
        refine zBipush 9 9 90 (by decide +kernel) rfl (by decide) ?_
        refine zIcmp_ge 15 105 93 (by decide +kernel) rfl rfl ⟨fun q14 => ?_, fun q14 => ?_⟩
        · replace F := F.1 q14
          refine zIconst 0 0 106 (by decide +kernel) rfl (by decide) ?_
          exact zZret .boolean rfl (zNarZ (Or.inl rfl)) (by decide +kernel) F
        · replace F := F.2 q14
          refine zAload_n 0 0 94 (by decide +kernel) rfl rfl ?_
          refine zAload_n 1 1 95 (by decide +kernel) rfl rfl ?_
          refine zCallV 10 zcls10 mX10_readWrong 74 1 0 0 _ _ 98 [.ref (t)] [] okX10_readWrong mlX10_74 imX10_readWrong seX10_readWrong (by decide +kernel) rfl rfl (Nat.le_of_ble_eq_true rfl) rfl rfl (Vil_0 S0_) (zC.mono F ?_)
          rintro _ _ ⟨x15, I16, rfl, rfl, F⟩
          change zV G (d + 1) mX10_readClause kc ks 98 [(0, .ref (v)), (1, .ref (t))] [.int (x15)] (I16, J, R, K, n) Q
          suffices KK : zV G (d + 1) mX10_readClause kc ks 106 [(0, .ref (v)), (1, .ref (t))] [.int ((if x15 = 0 then 0 else 1))] (I16, J, R, K, n) Q by
            refine zIf_eq 7 105 101 (by decide +kernel) rfl rfl ⟨fun q17 => ?_, fun q17 => ?_⟩
            · refine zIconst 0 0 106 (by decide +kernel) rfl (by decide) ?_
              exact zTop (by rw [if_pos q17]) KK
            · refine zIconst 1 1 102 (by decide +kernel) rfl (by decide) ?_
              refine zGoto 4 106 (by decide +kernel) rfl ?_
              exact zTop (by rw [if_neg q17]) KK
          exact zZret .boolean rfl (zNarZ (zOrIte (Or.inl rfl) (Or.inr rfl))) (by decide +kernel) F
      · skip
        replace F := F.2.2.2 q3 q8 q13
        have zq3 := zNeT q3 (show (102 : Int32).toInt = 102 by decide)
        have zq8 := zNeT q8 (show (115 : Int32).toInt = 115 by decide)
        have zq13 := zNeT q13 (show (119 : Int32).toInt = 119 by decide)
        refine zLookup 103 #[(102, 57), (115, 36), (119, 80)] 36 103 107 (by decide +kernel) (by decide) (by show Op.lookupswitch.offset [(102, 57), (115, 36), (119, 80)] 103 _ = _; rw [lv_osw q3 (show (102 : Int32).toInt = 102 by decide), lv_osw q8 (show (115 : Int32).toInt = 115 by decide), lv_osw q13 (show (119 : Int32).toInt = 119 by decide)]; rfl) rfl ?_
        refine zIconst 0 0 108 (by decide +kernel) rfl (by decide) ?_
        exact zZret .boolean rfl (zNarZ (Or.inl rfl)) (by decide +kernel) F
set_option maxHeartbeats 2000000 in
theorem wX10_readRules_0 {G : zG} {d kc ks : Nat} {I : Nat → Nat → Int32} {J : Nat → Nat → Int64} {R : Nat → Nat → Option Nat} {K : Nat → Nat × Nat} {n : Nat} {Q : Option Value → zH → Prop} (v t : Nat) (S0_ : hVil G R K n v) (S1_ : hTape G R K n t) (F : (∀ I1 : Nat → Nat → Int32, I1 = zU I v 9 (1) → (vp_in 0 3 ∧ ∀ I2 : Nat → Nat → Int32, I2 = zU I1 (v + 6) (0 : Int32).toNatClampNeg (I1 v 7) → (vp_in 1 3 ∧ ∀ I3 : Nat → Nat → Int32, I3 = zU I2 (v + 6) (1 : Int32).toNatClampNeg (I2 v 8) → zC G d mX10_readItems 0 0 [.ref (v), .ref (t), .ref (G.2.2.2.1 0), .ref (G.2.2.2.2.2.1 0)] (I3, J, R, K, n) (fun r h => ∃ (x4 : Int32) (I5 : Nat → Nat → Int32), r = some (.int x4) ∧ h = (I5, J, R, K, n) ∧ ((x4 = 0 → Q (some (.int (0))) (I5, J, R, K, n)) ∧ (¬ (x4 = 0) → ((vp_in 0 3) ∧ (∀ I8 : Nat → Nat → Int32, I8 = zU I5 v 7 (I5 (v + 6) (0 : Int32).toNatClampNeg) → ((vp_in 1 3) ∧ (∀ I10 : Nat → Nat → Int32, I10 = zU I8 v 8 (I8 (v + 6) (1 : Int32).toNatClampNeg) → Q (some (.int (1))) (I10, J, R, K, n)))))))))))) : zV G (d + 1) mX10_readRules kc ks 0 [(0, .ref (v)), (1, .ref (t))] [] (I, J, R, K, n) Q := by
  refine zAload_n 0 0 1 (by decide +kernel) rfl rfl ?_
  refine zIconst 1 1 2 (by decide +kernel) rfl (by decide) ?_
  refine pf10_9 40 5 (by decide +kernel) rfl flX10_40 (Or.inr rfl) (Vil_0 S0_) ?_
  replace F := F _ rfl
  generalize zU I v 9 (1) = I1 at F ⊢
  refine zAload_n 0 0 6 (by decide +kernel) rfl rfl ?_
  refine gf10_10 44 9 (by decide +kernel) rfl flX10_44 (Vil_0 S0_) (Vil_11 S0_) ?_
  refine zIconst 0 0 10 (by decide +kernel) rfl (by decide) ?_
  refine zAload_n 0 0 11 (by decide +kernel) rfl rfl ?_
  refine gf10_7 34 14 (by decide +kernel) rfl flX10_34 (Vil_0 S0_) ?_
  refine yIastore 3 15 (by decide +kernel) rfl (Vil_12 S0_) F.1 ?_
  replace F := F.2 _ rfl
  generalize zU I1 (v + 6) (0 : Int32).toNatClampNeg (I1 v 7) = I2 at F ⊢
  refine zAload_n 0 0 16 (by decide +kernel) rfl rfl ?_
  refine gf10_10 44 19 (by decide +kernel) rfl flX10_44 (Vil_0 S0_) (Vil_11 S0_) ?_
  refine zIconst 1 1 20 (by decide +kernel) rfl (by decide) ?_
  refine zAload_n 0 0 21 (by decide +kernel) rfl rfl ?_
  refine gf10_8 37 24 (by decide +kernel) rfl flX10_37 (Vil_0 S0_) ?_
  refine yIastore 3 25 (by decide +kernel) rfl (Vil_12 S0_) F.1 ?_
  replace F := F.2 _ rfl
  generalize zU I2 (v + 6) (1 : Int32).toNatClampNeg (I2 v 8) = I3 at F ⊢
  refine zAload_n 0 0 26 (by decide +kernel) rfl rfl ?_
  refine zAload_n 1 1 27 (by decide +kernel) rfl rfl ?_
  refine zLdcS 77 "lc" 0 29 (by decide +kernel) rfl (by decide) ?_
  refine zGetsT 0 79 32 (by decide +kernel) rfl (by decide) flX10_79 ?_
  refine zCallV 10 zcls10 mX10_readItems 82 3 0 0 _ _ 35 [.ref (t), .ref (G.2.2.2.1 0), .ref (G.2.2.2.2.2.1 0)] [] okX10_readItems mlX10_82 imX10_readItems seX10_readItems (by decide +kernel) rfl rfl (Nat.le_of_ble_eq_true rfl) rfl rfl (Vil_0 S0_) (zC.mono F ?_)
  rintro _ _ ⟨x4, I5, rfl, rfl, F⟩
  change zV G (d + 1) mX10_readRules kc ks 35 [(0, .ref (v)), (1, .ref (t))] [.int (x4)] (I5, J, R, K, n) Q
  refine zIf_ne 5 40 38 (by decide +kernel) rfl rfl ⟨fun q6 => ?_, fun q6 => ?_⟩
  · replace F := F.2 q6
    refine zAload_n 0 0 41 (by decide +kernel) rfl rfl ?_
    refine zAload_n 0 0 42 (by decide +kernel) rfl rfl ?_
    refine gf10_10 44 45 (by decide +kernel) rfl flX10_44 (Vil_0 S0_) (Vil_11 S0_) ?_
    refine zIconst 0 0 46 (by decide +kernel) rfl (by decide) ?_
    obtain ⟨w7, F⟩ := F
    refine yIaload 3 47 (by decide +kernel) rfl (Vil_12 S0_) (w7) ?_
    refine pf10_7 34 50 (by decide +kernel) rfl flX10_34 (Vil_0 S0_) ?_
    replace F := F _ rfl
    generalize zU I5 v 7 (I5 (v + 6) (0 : Int32).toNatClampNeg) = I8 at F ⊢
    refine zAload_n 0 0 51 (by decide +kernel) rfl rfl ?_
    refine zAload_n 0 0 52 (by decide +kernel) rfl rfl ?_
    refine gf10_10 44 55 (by decide +kernel) rfl flX10_44 (Vil_0 S0_) (Vil_11 S0_) ?_
    refine zIconst 1 1 56 (by decide +kernel) rfl (by decide) ?_
    obtain ⟨w9, F⟩ := F
    refine yIaload 3 57 (by decide +kernel) rfl (Vil_12 S0_) (w9) ?_
    refine pf10_8 37 60 (by decide +kernel) rfl flX10_37 (Vil_0 S0_) ?_
    replace F := F _ rfl
    generalize zU I8 v 8 (I8 (v + 6) (1 : Int32).toNatClampNeg) = I10 at F ⊢
    refine zIconst 1 1 61 (by decide +kernel) rfl (by decide) ?_
    exact zZret .boolean rfl (zNarZ (Or.inr rfl)) (by decide +kernel) F
  · replace F := F.1 q6
    refine zIconst 0 0 39 (by decide +kernel) rfl (by decide) ?_
    exact zZret .boolean rfl (zNarZ (Or.inl rfl)) (by decide +kernel) F
set_option maxHeartbeats 2000000 in
theorem wX10_readFarm_0 {G : zG} {d kc ks : Nat} {I : Nat → Nat → Int32} {J : Nat → Nat → Int64} {R : Nat → Nat → Option Nat} {K : Nat → Nat × Nat} {n : Nat} {Q : Option Value → zH → Prop} (v t : Nat) (S0_ : hVil G R K n v) (S1_ : hTape G R K n t) (F : (vp_in 0 3 ∧ ∀ I1 : Nat → Nat → Int32, I1 = zU I (v + 6) (0 : Int32).toNatClampNeg (10) → (vp_in 1 3 ∧ ∀ I2 : Nat → Nat → Int32, I2 = zU I1 (v + 6) (1 : Int32).toNatClampNeg (3) → zC G d mX10_readItems 0 0 [.ref (v), .ref (t), .ref (G.2.2.2.1 1), .ref (G.2.2.2.2.2.1 1)] (I2, J, R, K, n) (fun r h => ∃ (x3 : Int32) (I4 : Nat → Nat → Int32), r = some (.int x3) ∧ h = (I4, J, R, K, n) ∧ ((x3 = 0 → Q (some (.int (0))) (I4, J, R, K, n)) ∧ (¬ (x3 = 0) → ((vp_in 0 3) ∧ (vp_in (I4 v 5) 6 ∧ ∀ I7 : Nat → Nat → Int32, I7 = zU I4 (v + 1) (I4 v 5 : Int32).toNatClampNeg (I4 (v + 6) (0 : Int32).toNatClampNeg) → ((vp_in 1 3) ∧ (vp_in (I7 v 5) 6 ∧ ∀ I9 : Nat → Nat → Int32, I9 = zU I7 (v + 2) (I7 v 5 : Int32).toNatClampNeg (I7 (v + 6) (1 : Int32).toNatClampNeg) → (∀ I10 : Nat → Nat → Int32, I10 = zU I9 v 5 ((I9 v 5) + 1) → Q (some (.int (1))) (I10, J, R, K, n)))))))))))) : zV G (d + 1) mX10_readFarm kc ks 0 [(0, .ref (v)), (1, .ref (t))] [] (I, J, R, K, n) Q := by
  refine zAload_n 0 0 1 (by decide +kernel) rfl rfl ?_
  refine gf10_10 44 4 (by decide +kernel) rfl flX10_44 (Vil_0 S0_) (Vil_11 S0_) ?_
  refine zIconst 0 0 5 (by decide +kernel) rfl (by decide) ?_
  refine zBipush 10 10 7 (by decide +kernel) rfl (by decide) ?_
  refine yIastore 3 8 (by decide +kernel) rfl (Vil_12 S0_) F.1 ?_
  replace F := F.2 _ rfl
  generalize zU I (v + 6) (0 : Int32).toNatClampNeg (10) = I1 at F ⊢
  refine zAload_n 0 0 9 (by decide +kernel) rfl rfl ?_
  refine gf10_10 44 12 (by decide +kernel) rfl flX10_44 (Vil_0 S0_) (Vil_11 S0_) ?_
  refine zIconst 1 1 13 (by decide +kernel) rfl (by decide) ?_
  refine zIconst 3 3 14 (by decide +kernel) rfl (by decide) ?_
  refine yIastore 3 15 (by decide +kernel) rfl (Vil_12 S0_) F.1 ?_
  replace F := F.2 _ rfl
  generalize zU I1 (v + 6) (1 : Int32).toNatClampNeg (3) = I2 at F ⊢
  refine zAload_n 0 0 16 (by decide +kernel) rfl rfl ?_
  refine zAload_n 1 1 17 (by decide +kernel) rfl rfl ?_
  refine zLdcS 86 "yg" 1 19 (by decide +kernel) rfl (by decide) ?_
  refine zGetsT 1 88 22 (by decide +kernel) rfl (by decide) flX10_88 ?_
  refine zCallV 10 zcls10 mX10_readItems 82 3 0 0 _ _ 25 [.ref (t), .ref (G.2.2.2.1 1), .ref (G.2.2.2.2.2.1 1)] [] okX10_readItems mlX10_82 imX10_readItems seX10_readItems (by decide +kernel) rfl rfl (Nat.le_of_ble_eq_true rfl) rfl rfl (Vil_0 S0_) (zC.mono F ?_)
  rintro _ _ ⟨x3, I4, rfl, rfl, F⟩
  change zV G (d + 1) mX10_readFarm kc ks 25 [(0, .ref (v)), (1, .ref (t))] [.int (x3)] (I4, J, R, K, n) Q
  refine zIf_ne 5 30 28 (by decide +kernel) rfl rfl ⟨fun q5 => ?_, fun q5 => ?_⟩
  · replace F := F.2 q5
    refine zAload_n 0 0 31 (by decide +kernel) rfl rfl ?_
    refine gf10_0 9 34 (by decide +kernel) rfl flX10_9 (Vil_0 S0_) (Vil_1 S0_) ?_
    refine zAload_n 0 0 35 (by decide +kernel) rfl rfl ?_
    refine gf10_5 27 38 (by decide +kernel) rfl flX10_27 (Vil_0 S0_) ?_
    refine zAload_n 0 0 39 (by decide +kernel) rfl rfl ?_
    refine gf10_10 44 42 (by decide +kernel) rfl flX10_44 (Vil_0 S0_) (Vil_11 S0_) ?_
    refine zIconst 0 0 43 (by decide +kernel) rfl (by decide) ?_
    obtain ⟨w6, F⟩ := F
    refine yIaload 3 44 (by decide +kernel) rfl (Vil_12 S0_) (w6) ?_
    refine yIastore 6 45 (by decide +kernel) rfl (Vil_2 S0_) F.1 ?_
    replace F := F.2 _ rfl
    generalize zU I4 (v + 1) (I4 v 5 : Int32).toNatClampNeg (I4 (v + 6) (0 : Int32).toNatClampNeg) = I7 at F ⊢
    refine zAload_n 0 0 46 (by decide +kernel) rfl rfl ?_
    refine gf10_1 15 49 (by decide +kernel) rfl flX10_15 (Vil_0 S0_) (Vil_3 S0_) ?_
    refine zAload_n 0 0 50 (by decide +kernel) rfl rfl ?_
    refine gf10_5 27 53 (by decide +kernel) rfl flX10_27 (Vil_0 S0_) ?_
    refine zAload_n 0 0 54 (by decide +kernel) rfl rfl ?_
    refine gf10_10 44 57 (by decide +kernel) rfl flX10_44 (Vil_0 S0_) (Vil_11 S0_) ?_
    refine zIconst 1 1 58 (by decide +kernel) rfl (by decide) ?_
    obtain ⟨w8, F⟩ := F
    refine yIaload 3 59 (by decide +kernel) rfl (Vil_12 S0_) (w8) ?_
    refine yIastore 6 60 (by decide +kernel) rfl (Vil_4 S0_) F.1 ?_
    replace F := F.2 _ rfl
    generalize zU I7 (v + 2) (I7 v 5 : Int32).toNatClampNeg (I7 (v + 6) (1 : Int32).toNatClampNeg) = I9 at F ⊢
    refine zAload_n 0 0 61 (by decide +kernel) rfl rfl ?_
    refine zDup 62 (by decide +kernel) rfl rfl ?_
    refine gf10_5 27 65 (by decide +kernel) rfl flX10_27 (Vil_0 S0_) ?_
    refine zIconst 1 1 66 (by decide +kernel) rfl (by decide) ?_
    refine zIadd 67 (by decide +kernel) rfl ?_
    refine pf10_5 27 70 (by decide +kernel) rfl flX10_27 (Vil_0 S0_) ?_
    replace F := F _ rfl
    generalize zU I9 v 5 ((I9 v 5) + 1) = I10 at F ⊢
    refine zIconst 1 1 71 (by decide +kernel) rfl (by decide) ?_
    exact zZret .boolean rfl (zNarZ (Or.inr rfl)) (by decide +kernel) F
  · replace F := F.1 q5
    refine zIconst 0 0 29 (by decide +kernel) rfl (by decide) ?_
    exact zZret .boolean rfl (zNarZ (Or.inl rfl)) (by decide +kernel) F
set_option maxHeartbeats 2000000 in
theorem wX10_readWrong_0 {G : zG} {d kc ks : Nat} {I : Nat → Nat → Int32} {J : Nat → Nat → Int64} {R : Nat → Nat → Option Nat} {K : Nat → Nat × Nat} {n : Nat} {Q : Option Value → zH → Prop} (v t : Nat) (S0_ : hVil G R K n v) (S1_ : hTape G R K n t) (F : (vp_in 0 3 ∧ ∀ I1 : Nat → Nat → Int32, I1 = zU I (v + 6) (0 : Int32).toNatClampNeg (0) → (vp_in 1 3 ∧ ∀ I2 : Nat → Nat → Int32, I2 = zU I1 (v + 6) (1 : Int32).toNatClampNeg (1) → (vp_in 2 3 ∧ ∀ I3 : Nat → Nat → Int32, I3 = zU I2 (v + 6) (2 : Int32).toNatClampNeg (3) → zC G d mX10_readItems 0 0 [.ref (v), .ref (t), .ref (G.2.2.2.1 2), .ref (G.2.2.2.2.2.1 2)] (I3, J, R, K, n) (fun r h => ∃ (x4 : Int32) (I5 : Nat → Nat → Int32), r = some (.int x4) ∧ h = (I5, J, R, K, n) ∧ ((x4 = 0 → Q (some (.int (0))) (I5, J, R, K, n)) ∧ (¬ (x4 = 0) → ((vp_in 0 3) ∧ (vp_in (I5 v 6) 9 ∧ ∀ I8 : Nat → Nat → Int32, I8 = zU I5 (v + 3) (I5 v 6 : Int32).toNatClampNeg (I5 (v + 6) (0 : Int32).toNatClampNeg) → ((vp_in 1 3) ∧ (vp_in (I8 v 6) 9 ∧ ∀ I10 : Nat → Nat → Int32, I10 = zU I8 (v + 4) (I8 v 6 : Int32).toNatClampNeg (I8 (v + 6) (1 : Int32).toNatClampNeg) → ((vp_in 2 3) ∧ (vp_in (I10 v 6) 9 ∧ ∀ I12 : Nat → Nat → Int32, I12 = zU I10 (v + 5) (I10 v 6 : Int32).toNatClampNeg (I10 (v + 6) (2 : Int32).toNatClampNeg) → (∀ I13 : Nat → Nat → Int32, I13 = zU I12 v 6 ((I12 v 6) + 1) → Q (some (.int (1))) (I13, J, R, K, n))))))))))))))) : zV G (d + 1) mX10_readWrong kc ks 0 [(0, .ref (v)), (1, .ref (t))] [] (I, J, R, K, n) Q := by
  refine zAload_n 0 0 1 (by decide +kernel) rfl rfl ?_
  refine gf10_10 44 4 (by decide +kernel) rfl flX10_44 (Vil_0 S0_) (Vil_11 S0_) ?_
  refine zIconst 0 0 5 (by decide +kernel) rfl (by decide) ?_
  refine zIconst 0 0 6 (by decide +kernel) rfl (by decide) ?_
  refine yIastore 3 7 (by decide +kernel) rfl (Vil_12 S0_) F.1 ?_
  replace F := F.2 _ rfl
  generalize zU I (v + 6) (0 : Int32).toNatClampNeg (0) = I1 at F ⊢
  refine zAload_n 0 0 8 (by decide +kernel) rfl rfl ?_
  refine gf10_10 44 11 (by decide +kernel) rfl flX10_44 (Vil_0 S0_) (Vil_11 S0_) ?_
  refine zIconst 1 1 12 (by decide +kernel) rfl (by decide) ?_
  refine zIconst 1 1 13 (by decide +kernel) rfl (by decide) ?_
  refine yIastore 3 14 (by decide +kernel) rfl (Vil_12 S0_) F.1 ?_
  replace F := F.2 _ rfl
  generalize zU I1 (v + 6) (1 : Int32).toNatClampNeg (1) = I2 at F ⊢
  refine zAload_n 0 0 15 (by decide +kernel) rfl rfl ?_
  refine gf10_10 44 18 (by decide +kernel) rfl flX10_44 (Vil_0 S0_) (Vil_11 S0_) ?_
  refine zIconst 2 2 19 (by decide +kernel) rfl (by decide) ?_
  refine zIconst 3 3 20 (by decide +kernel) rfl (by decide) ?_
  refine yIastore 3 21 (by decide +kernel) rfl (Vil_12 S0_) F.1 ?_
  replace F := F.2 _ rfl
  generalize zU I2 (v + 6) (2 : Int32).toNatClampNeg (3) = I3 at F ⊢
  refine zAload_n 0 0 22 (by decide +kernel) rfl rfl ?_
  refine zAload_n 1 1 23 (by decide +kernel) rfl rfl ?_
  refine zLdcS 91 "avk" 2 25 (by decide +kernel) rfl (by decide) ?_
  refine zGetsT 2 93 28 (by decide +kernel) rfl (by decide) flX10_93 ?_
  refine zCallV 10 zcls10 mX10_readItems 82 3 0 0 _ _ 31 [.ref (t), .ref (G.2.2.2.1 2), .ref (G.2.2.2.2.2.1 2)] [] okX10_readItems mlX10_82 imX10_readItems seX10_readItems (by decide +kernel) rfl rfl (Nat.le_of_ble_eq_true rfl) rfl rfl (Vil_0 S0_) (zC.mono F ?_)
  rintro _ _ ⟨x4, I5, rfl, rfl, F⟩
  change zV G (d + 1) mX10_readWrong kc ks 31 [(0, .ref (v)), (1, .ref (t))] [.int (x4)] (I5, J, R, K, n) Q
  refine zIf_ne 5 36 34 (by decide +kernel) rfl rfl ⟨fun q6 => ?_, fun q6 => ?_⟩
  · replace F := F.2 q6
    refine zAload_n 0 0 37 (by decide +kernel) rfl rfl ?_
    refine gf10_2 18 40 (by decide +kernel) rfl flX10_18 (Vil_0 S0_) (Vil_5 S0_) ?_
    refine zAload_n 0 0 41 (by decide +kernel) rfl rfl ?_
    refine gf10_6 31 44 (by decide +kernel) rfl flX10_31 (Vil_0 S0_) ?_
    refine zAload_n 0 0 45 (by decide +kernel) rfl rfl ?_
    refine gf10_10 44 48 (by decide +kernel) rfl flX10_44 (Vil_0 S0_) (Vil_11 S0_) ?_
    refine zIconst 0 0 49 (by decide +kernel) rfl (by decide) ?_
    obtain ⟨w7, F⟩ := F
    refine yIaload 3 50 (by decide +kernel) rfl (Vil_12 S0_) (w7) ?_
    refine yIastore 9 51 (by decide +kernel) rfl (Vil_6 S0_) F.1 ?_
    replace F := F.2 _ rfl
    generalize zU I5 (v + 3) (I5 v 6 : Int32).toNatClampNeg (I5 (v + 6) (0 : Int32).toNatClampNeg) = I8 at F ⊢
    refine zAload_n 0 0 52 (by decide +kernel) rfl rfl ?_
    refine gf10_3 21 55 (by decide +kernel) rfl flX10_21 (Vil_0 S0_) (Vil_7 S0_) ?_
    refine zAload_n 0 0 56 (by decide +kernel) rfl rfl ?_
    refine gf10_6 31 59 (by decide +kernel) rfl flX10_31 (Vil_0 S0_) ?_
    refine zAload_n 0 0 60 (by decide +kernel) rfl rfl ?_
    refine gf10_10 44 63 (by decide +kernel) rfl flX10_44 (Vil_0 S0_) (Vil_11 S0_) ?_
    refine zIconst 1 1 64 (by decide +kernel) rfl (by decide) ?_
    obtain ⟨w9, F⟩ := F
    refine yIaload 3 65 (by decide +kernel) rfl (Vil_12 S0_) (w9) ?_
    refine yIastore 9 66 (by decide +kernel) rfl (Vil_8 S0_) F.1 ?_
    replace F := F.2 _ rfl
    generalize zU I8 (v + 4) (I8 v 6 : Int32).toNatClampNeg (I8 (v + 6) (1 : Int32).toNatClampNeg) = I10 at F ⊢
    refine zAload_n 0 0 67 (by decide +kernel) rfl rfl ?_
    refine gf10_4 24 70 (by decide +kernel) rfl flX10_24 (Vil_0 S0_) (Vil_9 S0_) ?_
    refine zAload_n 0 0 71 (by decide +kernel) rfl rfl ?_
    refine gf10_6 31 74 (by decide +kernel) rfl flX10_31 (Vil_0 S0_) ?_
    refine zAload_n 0 0 75 (by decide +kernel) rfl rfl ?_
    refine gf10_10 44 78 (by decide +kernel) rfl flX10_44 (Vil_0 S0_) (Vil_11 S0_) ?_
    refine zIconst 2 2 79 (by decide +kernel) rfl (by decide) ?_
    obtain ⟨w11, F⟩ := F
    refine yIaload 3 80 (by decide +kernel) rfl (Vil_12 S0_) (w11) ?_
    refine yIastore 9 81 (by decide +kernel) rfl (Vil_10 S0_) F.1 ?_
    replace F := F.2 _ rfl
    generalize zU I10 (v + 5) (I10 v 6 : Int32).toNatClampNeg (I10 (v + 6) (2 : Int32).toNatClampNeg) = I12 at F ⊢
    refine zAload_n 0 0 82 (by decide +kernel) rfl rfl ?_
    refine zDup 83 (by decide +kernel) rfl rfl ?_
    refine gf10_6 31 86 (by decide +kernel) rfl flX10_31 (Vil_0 S0_) ?_
    refine zIconst 1 1 87 (by decide +kernel) rfl (by decide) ?_
    refine zIadd 88 (by decide +kernel) rfl ?_
    refine pf10_6 31 91 (by decide +kernel) rfl flX10_31 (Vil_0 S0_) ?_
    replace F := F _ rfl
    generalize zU I12 v 6 ((I12 v 6) + 1) = I13 at F ⊢
    refine zIconst 1 1 92 (by decide +kernel) rfl (by decide) ?_
    exact zZret .boolean rfl (zNarZ (Or.inr rfl)) (by decide +kernel) F
  · replace F := F.1 q6
    refine zIconst 0 0 35 (by decide +kernel) rfl (by decide) ?_
    exact zZret .boolean rfl (zNarZ (Or.inl rfl)) (by decide +kernel) F
set_option maxHeartbeats 2000000 in
theorem wX10_readItems_0 {G : zG} {d kc ks : Nat} {I : Nat → Nat → Int32} {J : Nat → Nat → Int64} {R : Nat → Nat → Option Nat} {K : Nat → Nat × Nat} {n : Nat} {Q : Option Value → zH → Prop} (v t : Nat) (i : Nat) (hi : i < 6) (j : Nat) (hj : j < 3) (S0_ : hVil G R K n v) (S1_ : hTape G R K n t) (F : (∀ I1 : Nat → Nat → Int32, I1 = zU I t 2 ((I t 2) + 1) → zV G (d + 1) mX10_readItems kc ks 16 [(0, .ref (v)), (1, .ref (t)), (2, .ref (G.2.2.2.1 i)), (3, .ref (G.2.2.2.2.2.1 j)), (4, .int (0)), (5, .int (0))] [] (I1, J, R, K, n) Q)) : zV G (d + 1) mX10_readItems kc ks 0 [(0, .ref (v)), (1, .ref (t)), (2, .ref (G.2.2.2.1 i)), (3, .ref (G.2.2.2.2.2.1 j))] [] (I, J, R, K, n) Q := by
  refine zAload_n 1 1 1 (by decide +kernel) rfl rfl ?_
  refine zDup 2 (by decide +kernel) rfl rfl ?_
  refine gf9_2 47 5 (by decide +kernel) rfl flX10_47 (Tape_0 S1_) ?_
  refine zIconst 1 1 6 (by decide +kernel) rfl (by decide) ?_
  refine zIadd 7 (by decide +kernel) rfl ?_
  refine pf9_2 47 10 (by decide +kernel) rfl flX10_47 (Tape_0 S1_) ?_
  replace F := F _ rfl
  generalize zU I t 2 ((I t 2) + 1) = I1 at F ⊢
  refine zIconst 0 0 11 (by decide +kernel) rfl (by decide) ?_
  refine zIstore 4 [(4, .int (0)), (0, .ref (v)), (1, .ref (t)), (2, .ref (G.2.2.2.1 i)), (3, .ref (G.2.2.2.2.2.1 j))] 13 (by decide +kernel) rfl (by decide) rfl ?_
  refine zIconst 0 0 14 (by decide +kernel) rfl (by decide) ?_
  refine zIstore 5 [(5, .int (0)), (4, .int (0)), (0, .ref (v)), (1, .ref (t)), (2, .ref (G.2.2.2.1 i)), (3, .ref (G.2.2.2.2.2.1 j))] 16 (by decide +kernel) rfl (by decide) rfl ?_
  exact zLoc [2, 3, 4, 5, 1, 0] _ rfl F
set_option maxHeartbeats 2000000 in
theorem wX10_readItems_16 {G : zG} {d kc ks : Nat} {I : Nat → Nat → Int32} {J : Nat → Nat → Int64} {R : Nat → Nat → Option Nat} {K : Nat → Nat × Nat} {n : Nat} {Q : Option Value → zH → Prop} (v t : Nat) (i : Nat) (hi : i < 6) (j : Nat) (hj : j < 3) (S0_ : hVil G R K n v) (S1_ : hTape G R K n t) (l4 l5 : Int32) (F : zC G d mJ0_length_8abf5 0 0 [.ref (G.2.2.2.1 i)] (I, J, R, K, n) (fun r h => ∃ (x2 : Int32), r = some (.int x2) ∧ h = (I, J, R, K, n) ∧ ((x2 < l5 → Q (some (.int (1))) (I, J, R, K, n)) ∧ (¬ (x2 < l5) → zC G d mX9_next 0 0 [.ref (t)] (I, J, R, K, n) (fun r h => ∃ (x4 : Int32) (I5 : Nat → Nat → Int32), r = some (.int x4) ∧ h = (I5, J, R, K, n) ∧ ((x4 = (-1) → ((((-1) : Int32) = (-1) → Q (some (.int (1))) (I5, J, R, K, n)) ∧ (¬ (((-1) : Int32) = (-1)) → ((((l4 >>> (((-1) : Int32) &&& 31)) &&& 1 : Int32) = 1 → Q (some (.int (0))) (I5, J, R, K, n)) ∧ (¬ (((l4 >>> (((-1) : Int32) &&& 31)) &&& 1 : Int32) = 1) → (∀ I23 : Nat → Nat → Int32, I23 = zU I5 t 2 ((I5 t 2) + 1) → zC G d mX9_number 0 0 [.ref (t), .int (2)] (I23, J, R, K, n) (fun r h => ∃ (x24 : Int32) (I25 : Nat → Nat → Int32), r = some (.int x24) ∧ h = (I25, J, R, K, n) ∧ ((x24 = (-1) → Q (some (.int (0))) (I25, J, R, K, n)) ∧ (¬ (x24 = (-1)) → ((vp_in (2 * (-1)) (zTbl j).length) ∧ ((x24 < ((zTbl j).getD (2 * (-1) : Int32).toNatClampNeg 0 : Int32) → (∀ I29 : Nat → Nat → Int32, I29 = zU I25 t 2 ((I25 t 2) - 1) → Q (some (.int (0))) (I29, J, R, K, n))) ∧ (¬ (x24 < ((zTbl j).getD (2 * (-1) : Int32).toNatClampNeg 0 : Int32)) → ((vp_in ((2 * (-1)) + 1) (zTbl j).length) ∧ ((x24 ≤ ((zTbl j).getD ((2 * (-1)) + 1 : Int32).toNatClampNeg 0 : Int32) → (vp_in (-1) 3 ∧ ∀ I32 : Nat → Nat → Int32, I32 = zU I25 (v + 6) ((-1) : Int32).toNatClampNeg (x24) → zV G (d + 1) mX10_readItems kc ks 16 [(0, .ref (v)), (1, .ref (t)), (2, .ref (G.2.2.2.1 i)), (3, .ref (G.2.2.2.2.2.1 j)), (4, .int (l4 ||| ((1 : Int32) <<< (((-1) : Int32) &&& 31)))), (5, .int (l5 + 1))] [] (I32, J, R, K, n) Q)) ∧ (¬ (x24 ≤ ((zTbl j).getD ((2 * (-1)) + 1 : Int32).toNatClampNeg 0 : Int32)) → (∀ I33 : Nat → Nat → Int32, I33 = zU I25 t 2 ((I25 t 2) - 1) → Q (some (.int (0))) (I33, J, R, K, n))))))))))))))))) ∧ (¬ (x4 = (-1)) → zC G d mJ0_indexOf_0f7a4 0 0 [.ref (G.2.2.2.1 i), .int ((x4.toUInt32 % 65536).toInt32)] (I5, J, R, K, n) (fun r h => ∃ (x7 : Int32), r = some (.int x7) ∧ h = (I5, J, R, K, n) ∧ ((x7 = (-1) → Q (some (.int (1))) (I5, J, R, K, n)) ∧ (¬ (x7 = (-1)) → ((((l4 >>> (x7 &&& 31)) &&& 1 : Int32) = 1 → Q (some (.int (0))) (I5, J, R, K, n)) ∧ (¬ (((l4 >>> (x7 &&& 31)) &&& 1 : Int32) = 1) → (∀ I10 : Nat → Nat → Int32, I10 = zU I5 t 2 ((I5 t 2) + 1) → zC G d mX9_number 0 0 [.ref (t), .int (2)] (I10, J, R, K, n) (fun r h => ∃ (x11 : Int32) (I12 : Nat → Nat → Int32), r = some (.int x11) ∧ h = (I12, J, R, K, n) ∧ ((x11 = (-1) → Q (some (.int (0))) (I12, J, R, K, n)) ∧ (¬ (x11 = (-1)) → ((vp_in (2 * x7) (zTbl j).length) ∧ ((x11 < ((zTbl j).getD (2 * x7 : Int32).toNatClampNeg 0 : Int32) → (∀ I16 : Nat → Nat → Int32, I16 = zU I12 t 2 ((I12 t 2) - 1) → Q (some (.int (0))) (I16, J, R, K, n))) ∧ (¬ (x11 < ((zTbl j).getD (2 * x7 : Int32).toNatClampNeg 0 : Int32)) → ((vp_in ((2 * x7) + 1) (zTbl j).length) ∧ ((x11 ≤ ((zTbl j).getD ((2 * x7) + 1 : Int32).toNatClampNeg 0 : Int32) → (vp_in x7 3 ∧ ∀ I19 : Nat → Nat → Int32, I19 = zU I12 (v + 6) x7.toNatClampNeg (x11) → zV G (d + 1) mX10_readItems kc ks 16 [(0, .ref (v)), (1, .ref (t)), (2, .ref (G.2.2.2.1 i)), (3, .ref (G.2.2.2.2.2.1 j)), (4, .int (l4 ||| ((1 : Int32) <<< (x7 &&& 31)))), (5, .int (l5 + 1))] [] (I19, J, R, K, n) Q)) ∧ (¬ (x11 ≤ ((zTbl j).getD ((2 * x7) + 1 : Int32).toNatClampNeg 0 : Int32)) → (∀ I20 : Nat → Nat → Int32, I20 = zU I12 t 2 ((I12 t 2) - 1) → Q (some (.int (0))) (I20, J, R, K, n)))))))))))))))))))))))) : zV G (d + 1) mX10_readItems kc ks 16 [(0, .ref (v)), (1, .ref (t)), (2, .ref (G.2.2.2.1 i)), (3, .ref (G.2.2.2.2.2.1 j)), (4, .int (l4)), (5, .int (l5))] [] (I, J, R, K, n) Q := by
  refine zIload 5 5 18 (by decide +kernel) rfl rfl ?_
  refine zAload_n 2 2 19 (by decide +kernel) rfl rfl ?_
  refine zCallStr i hi mJ0_length_8abf5 96 0 0 0 _ _ 22 [] [.int (l5)] okJ0_length_8abf5 mlX10_96 imJ0_length_8abf5 seJ0_length_8abf5 (by decide +kernel) rfl rfl (Nat.le_of_ble_eq_true rfl) rfl rfl (zC.mono F ?_)
  rintro _ _ ⟨x2, rfl, rfl, F⟩
  change zV G (d + 1) mX10_readItems kc ks 22 [(0, .ref (v)), (1, .ref (t)), (2, .ref (G.2.2.2.1 i)), (3, .ref (G.2.2.2.2.2.1 j)), (4, .int (l4)), (5, .int (l5))] [.int (x2), .int (l5)] (I, J, R, K, n) Q
  refine zIcmp_gt 134 156 25 (by decide +kernel) rfl rfl ⟨fun q3 => ?_, fun q3 => ?_⟩
  · replace F := F.1 q3
    refine zIconst 1 1 157 (by decide +kernel) rfl (by decide) ?_
    exact zZret .boolean rfl (zNarZ (Or.inr rfl)) (by decide +kernel) F
  · replace F := F.2 q3
    refine zAload_n 1 1 26 (by decide +kernel) rfl rfl ?_
    refine zCallV 9 zcls9 mX9_next 56 0 0 0 _ _ 29 [] [] okX9_next mlX10_56 imX9_next seX9_next (by decide +kernel) rfl rfl (Nat.le_of_ble_eq_true rfl) rfl rfl (Tape_0 S1_) (zC.mono F ?_)
    rintro _ _ ⟨x4, I5, rfl, rfl, F⟩
    change zV G (d + 1) mX10_readItems kc ks 29 [(0, .ref (v)), (1, .ref (t)), (2, .ref (G.2.2.2.1 i)), (3, .ref (G.2.2.2.2.2.1 j)), (4, .int (l4)), (5, .int (l5))] [.int (x4)] (I5, J, R, K, n) Q
    refine zIstore 6 [(6, .int (x4)), (0, .ref (v)), (1, .ref (t)), (2, .ref (G.2.2.2.1 i)), (3, .ref (G.2.2.2.2.2.1 j)), (4, .int (l4)), (5, .int (l5))] 31 (by decide +kernel) rfl (by decide) rfl ?_
    refine zIload 6 0 33 (by decide +kernel) rfl rfl ?_
    refine zIconst (-1) (-1) 34 (by decide +kernel) rfl (by decide) ?_
    refine zIcmp_ne 7 41 37 (by decide +kernel) rfl rfl ⟨fun q6 => ?_, fun q6 => ?_⟩
    · replace F := F.2 q6
      refine zAload_n 2 3 42 (by decide +kernel) rfl rfl ?_
      refine zIload 6 0 44 (by decide +kernel) rfl rfl ?_
      refine zI2c 45 (by decide +kernel) rfl ?_
      refine zCallStr i hi mJ0_indexOf_0f7a4 101 1 0 0 _ _ 48 [.int ((x4.toUInt32 % 65536).toInt32)] [] okJ0_indexOf_0f7a4 mlX10_101 imJ0_indexOf_0f7a4 seJ0_indexOf_0f7a4 (by decide +kernel) rfl rfl (Nat.le_of_ble_eq_true rfl) rfl rfl (zC.mono F ?_)
      rintro _ _ ⟨x7, rfl, rfl, F⟩
      change zV G (d + 1) mX10_readItems kc ks 48 [(6, .int (x4)), (0, .ref (v)), (1, .ref (t)), (2, .ref (G.2.2.2.1 i)), (3, .ref (G.2.2.2.2.2.1 j)), (4, .int (l4)), (5, .int (l5))] [.int (x7)] (I5, J, R, K, n) Q
      refine zIstore 7 [(7, .int (x7)), (6, .int (x4)), (0, .ref (v)), (1, .ref (t)), (2, .ref (G.2.2.2.1 i)), (3, .ref (G.2.2.2.2.2.1 j)), (4, .int (l4)), (5, .int (l5))] 50 (by decide +kernel) rfl (by decide) rfl ?_
      refine zIload 7 0 52 (by decide +kernel) rfl rfl ?_
      refine zIconst (-1) (-1) 53 (by decide +kernel) rfl (by decide) ?_
      refine zIcmp_ne 5 58 56 (by decide +kernel) rfl rfl ⟨fun q8 => ?_, fun q8 => ?_⟩
      · replace F := F.2 q8
        refine zIload 4 6 60 (by decide +kernel) rfl rfl ?_
        refine zIload 7 0 62 (by decide +kernel) rfl rfl ?_
        refine zIshr 63 (by decide +kernel) rfl ?_
        refine zIconst 1 1 64 (by decide +kernel) rfl (by decide) ?_
        refine zIand 65 (by decide +kernel) rfl ?_
        refine zIconst 1 1 66 (by decide +kernel) rfl (by decide) ?_
        refine zIcmp_ne 5 71 69 (by decide +kernel) rfl rfl ⟨fun q9 => ?_, fun q9 => ?_⟩
        · replace F := F.2 q9
          refine zIload 4 6 73 (by decide +kernel) rfl rfl ?_
          refine zIconst 1 1 74 (by decide +kernel) rfl (by decide) ?_
          refine zIload 7 0 76 (by decide +kernel) rfl rfl ?_
          refine zIshl 77 (by decide +kernel) rfl ?_
          refine zIor 78 (by decide +kernel) rfl ?_
          refine zIstore 4 [(4, .int (l4 ||| ((1 : Int32) <<< (x7 &&& 31)))), (7, .int (x7)), (6, .int (x4)), (0, .ref (v)), (1, .ref (t)), (2, .ref (G.2.2.2.1 i)), (3, .ref (G.2.2.2.2.2.1 j)), (5, .int (l5))] 80 (by decide +kernel) rfl (by decide) rfl ?_
          refine zAload_n 1 4 81 (by decide +kernel) rfl rfl ?_
          refine zDup 82 (by decide +kernel) rfl rfl ?_
          refine gf9_2 47 85 (by decide +kernel) rfl flX10_47 (Tape_0 S1_) ?_
          refine zIconst 1 1 86 (by decide +kernel) rfl (by decide) ?_
          refine zIadd 87 (by decide +kernel) rfl ?_
          refine pf9_2 47 90 (by decide +kernel) rfl flX10_47 (Tape_0 S1_) ?_
          replace F := F _ rfl
          generalize zU I5 t 2 ((I5 t 2) + 1) = I10 at F ⊢
          refine zAload_n 1 4 91 (by decide +kernel) rfl rfl ?_
          refine zIconst 2 2 92 (by decide +kernel) rfl (by decide) ?_
          refine zCallV 9 zcls9 mX9_number 105 1 0 0 _ _ 95 [.int (2)] [] okX9_number mlX10_105 imX9_number seX9_number (by decide +kernel) rfl rfl (Nat.le_of_ble_eq_true rfl) rfl rfl (Tape_0 S1_) (zC.mono F ?_)
          rintro _ _ ⟨x11, I12, rfl, rfl, F⟩
          change zV G (d + 1) mX10_readItems kc ks 95 [(4, .int (l4 ||| ((1 : Int32) <<< (x7 &&& 31)))), (7, .int (x7)), (6, .int (x4)), (0, .ref (v)), (1, .ref (t)), (2, .ref (G.2.2.2.1 i)), (3, .ref (G.2.2.2.2.2.1 j)), (5, .int (l5))] [.int (x11)] (I12, J, R, K, n) Q
          refine zIstore 8 [(8, .int (x11)), (4, .int (l4 ||| ((1 : Int32) <<< (x7 &&& 31)))), (7, .int (x7)), (6, .int (x4)), (0, .ref (v)), (1, .ref (t)), (2, .ref (G.2.2.2.1 i)), (3, .ref (G.2.2.2.2.2.1 j)), (5, .int (l5))] 97 (by decide +kernel) rfl (by decide) rfl ?_
          refine zIload 8 0 99 (by decide +kernel) rfl rfl ?_
          refine zIconst (-1) (-1) 100 (by decide +kernel) rfl (by decide) ?_
          refine zIcmp_ne 5 105 103 (by decide +kernel) rfl rfl ⟨fun q13 => ?_, fun q13 => ?_⟩
          · replace F := F.2 q13
            refine zIload 8 0 107 (by decide +kernel) rfl rfl ?_
            refine zAload_n 3 7 108 (by decide +kernel) rfl rfl ?_
            refine zIconst 2 2 109 (by decide +kernel) rfl (by decide) ?_
            refine zIload 7 2 111 (by decide +kernel) rfl rfl ?_
            refine zImul 112 (by decide +kernel) rfl ?_
            obtain ⟨w14, F⟩ := F
            refine zTaload j 113 (by decide +kernel) rfl hj (w14) ?_
            refine zIcmp_lt 16 129 116 (by decide +kernel) rfl rfl ⟨fun q15 => ?_, fun q15 => ?_⟩
            · replace F := F.1 q15
              refine zAload_n 1 5 130 (by decide +kernel) rfl rfl ?_
              refine zDup 131 (by decide +kernel) rfl rfl ?_
              refine gf9_2 47 134 (by decide +kernel) rfl flX10_47 (Tape_0 S1_) ?_
              refine zIconst 1 1 135 (by decide +kernel) rfl (by decide) ?_
              refine zIsub 136 (by decide +kernel) rfl ?_
              refine pf9_2 47 139 (by decide +kernel) rfl flX10_47 (Tape_0 S1_) ?_
              replace F := F _ rfl
              generalize zU I12 t 2 ((I12 t 2) - 1) = I16 at F ⊢
              refine zIconst 0 0 140 (by decide +kernel) rfl (by decide) ?_
              exact zZret .boolean rfl (zNarZ (Or.inl rfl)) (by decide +kernel) F
            · replace F := F.2 q15
              refine zIload 8 0 118 (by decide +kernel) rfl rfl ?_
              refine zAload_n 3 7 119 (by decide +kernel) rfl rfl ?_
              refine zIconst 2 2 120 (by decide +kernel) rfl (by decide) ?_
              refine zIload 7 2 122 (by decide +kernel) rfl rfl ?_
              refine zImul 123 (by decide +kernel) rfl ?_
              refine zIconst 1 1 124 (by decide +kernel) rfl (by decide) ?_
              refine zIadd 125 (by decide +kernel) rfl ?_
              obtain ⟨w17, F⟩ := F
              refine zTaload j 126 (by decide +kernel) rfl hj (w17) ?_
              refine zIcmp_le 15 141 129 (by decide +kernel) rfl rfl ⟨fun q18 => ?_, fun q18 => ?_⟩
              · replace F := F.1 q18
                refine zAload_n 0 4 142 (by decide +kernel) rfl rfl ?_
                refine gf10_10 44 145 (by decide +kernel) rfl flX10_44 (Vil_0 S0_) (Vil_11 S0_) ?_
                refine zIload 7 2 147 (by decide +kernel) rfl rfl ?_
                refine zIload 8 0 149 (by decide +kernel) rfl rfl ?_
                refine yIastore 3 150 (by decide +kernel) rfl (Vil_12 S0_) F.1 ?_
                replace F := F.2 _ rfl
                generalize zU I12 (v + 6) x7.toNatClampNeg (x11) = I19 at F ⊢
                refine zIinc 5 1 8 (l5 + 1) [(5, .int (l5 + 1)), (8, .int (x11)), (4, .int (l4 ||| ((1 : Int32) <<< (x7 &&& 31)))), (7, .int (x7)), (6, .int (x4)), (0, .ref (v)), (1, .ref (t)), (2, .ref (G.2.2.2.1 i)), (3, .ref (G.2.2.2.2.2.1 j))] 153 (by decide +kernel) rfl rfl (by rfl) (by decide) rfl ?_
                refine zGoto (-137) 16 (by decide +kernel) rfl ?_
                exact zLoc [5, 6, 7, 8, 2, 0] _ rfl F
              · replace F := F.2 q18
                refine zAload_n 1 5 130 (by decide +kernel) rfl rfl ?_
                refine zDup 131 (by decide +kernel) rfl rfl ?_
                refine gf9_2 47 134 (by decide +kernel) rfl flX10_47 (Tape_0 S1_) ?_
                refine zIconst 1 1 135 (by decide +kernel) rfl (by decide) ?_
                refine zIsub 136 (by decide +kernel) rfl ?_
                refine pf9_2 47 139 (by decide +kernel) rfl flX10_47 (Tape_0 S1_) ?_
                replace F := F _ rfl
                generalize zU I12 t 2 ((I12 t 2) - 1) = I20 at F ⊢
                refine zIconst 0 0 140 (by decide +kernel) rfl (by decide) ?_
                exact zZret .boolean rfl (zNarZ (Or.inl rfl)) (by decide +kernel) F
          · replace F := F.1 q13
            refine zIconst 0 0 104 (by decide +kernel) rfl (by decide) ?_
            exact zZret .boolean rfl (zNarZ (Or.inl rfl)) (by decide +kernel) F
        · replace F := F.1 q9
          refine zIconst 0 0 70 (by decide +kernel) rfl (by decide) ?_
          exact zZret .boolean rfl (zNarZ (Or.inl rfl)) (by decide +kernel) F
      · replace F := F.1 q8
        refine zIconst 1 1 57 (by decide +kernel) rfl (by decide) ?_
        exact zZret .boolean rfl (zNarZ (Or.inr rfl)) (by decide +kernel) F
    · replace F := F.1 q6
      refine zIconst (-1) (-1) 38 (by decide +kernel) rfl (by decide) ?_
      refine zGoto 10 48 (by decide +kernel) rfl ?_
      refine zIstore 7 [(7, .int ((-1))), (6, .int (x4)), (0, .ref (v)), (1, .ref (t)), (2, .ref (G.2.2.2.1 i)), (3, .ref (G.2.2.2.2.2.1 j)), (4, .int (l4)), (5, .int (l5))] 50 (by decide +kernel) rfl (by decide) rfl ?_
      refine zIload 7 0 52 (by decide +kernel) rfl rfl ?_
      refine zIconst (-1) (-1) 53 (by decide +kernel) rfl (by decide) ?_
      refine zIcmp_ne 5 58 56 (by decide +kernel) rfl rfl ⟨fun q21 => ?_, fun q21 => ?_⟩
      · replace F := F.2 q21
        refine zIload 4 6 60 (by decide +kernel) rfl rfl ?_
        refine zIload 7 0 62 (by decide +kernel) rfl rfl ?_
        refine zIshr 63 (by decide +kernel) rfl ?_
        refine zIconst 1 1 64 (by decide +kernel) rfl (by decide) ?_
        refine zIand 65 (by decide +kernel) rfl ?_
        refine zIconst 1 1 66 (by decide +kernel) rfl (by decide) ?_
        refine zIcmp_ne 5 71 69 (by decide +kernel) rfl rfl ⟨fun q22 => ?_, fun q22 => ?_⟩
        · replace F := F.2 q22
          refine zIload 4 6 73 (by decide +kernel) rfl rfl ?_
          refine zIconst 1 1 74 (by decide +kernel) rfl (by decide) ?_
          refine zIload 7 0 76 (by decide +kernel) rfl rfl ?_
          refine zIshl 77 (by decide +kernel) rfl ?_
          refine zIor 78 (by decide +kernel) rfl ?_
          refine zIstore 4 [(4, .int (l4 ||| ((1 : Int32) <<< (((-1) : Int32) &&& 31)))), (7, .int ((-1))), (6, .int (x4)), (0, .ref (v)), (1, .ref (t)), (2, .ref (G.2.2.2.1 i)), (3, .ref (G.2.2.2.2.2.1 j)), (5, .int (l5))] 80 (by decide +kernel) rfl (by decide) rfl ?_
          refine zAload_n 1 4 81 (by decide +kernel) rfl rfl ?_
          refine zDup 82 (by decide +kernel) rfl rfl ?_
          refine gf9_2 47 85 (by decide +kernel) rfl flX10_47 (Tape_0 S1_) ?_
          refine zIconst 1 1 86 (by decide +kernel) rfl (by decide) ?_
          refine zIadd 87 (by decide +kernel) rfl ?_
          refine pf9_2 47 90 (by decide +kernel) rfl flX10_47 (Tape_0 S1_) ?_
          replace F := F _ rfl
          generalize zU I5 t 2 ((I5 t 2) + 1) = I23 at F ⊢
          refine zAload_n 1 4 91 (by decide +kernel) rfl rfl ?_
          refine zIconst 2 2 92 (by decide +kernel) rfl (by decide) ?_
          refine zCallV 9 zcls9 mX9_number 105 1 0 0 _ _ 95 [.int (2)] [] okX9_number mlX10_105 imX9_number seX9_number (by decide +kernel) rfl rfl (Nat.le_of_ble_eq_true rfl) rfl rfl (Tape_0 S1_) (zC.mono F ?_)
          rintro _ _ ⟨x24, I25, rfl, rfl, F⟩
          change zV G (d + 1) mX10_readItems kc ks 95 [(4, .int (l4 ||| ((1 : Int32) <<< (((-1) : Int32) &&& 31)))), (7, .int ((-1))), (6, .int (x4)), (0, .ref (v)), (1, .ref (t)), (2, .ref (G.2.2.2.1 i)), (3, .ref (G.2.2.2.2.2.1 j)), (5, .int (l5))] [.int (x24)] (I25, J, R, K, n) Q
          refine zIstore 8 [(8, .int (x24)), (4, .int (l4 ||| ((1 : Int32) <<< (((-1) : Int32) &&& 31)))), (7, .int ((-1))), (6, .int (x4)), (0, .ref (v)), (1, .ref (t)), (2, .ref (G.2.2.2.1 i)), (3, .ref (G.2.2.2.2.2.1 j)), (5, .int (l5))] 97 (by decide +kernel) rfl (by decide) rfl ?_
          refine zIload 8 0 99 (by decide +kernel) rfl rfl ?_
          refine zIconst (-1) (-1) 100 (by decide +kernel) rfl (by decide) ?_
          refine zIcmp_ne 5 105 103 (by decide +kernel) rfl rfl ⟨fun q26 => ?_, fun q26 => ?_⟩
          · replace F := F.2 q26
            refine zIload 8 0 107 (by decide +kernel) rfl rfl ?_
            refine zAload_n 3 7 108 (by decide +kernel) rfl rfl ?_
            refine zIconst 2 2 109 (by decide +kernel) rfl (by decide) ?_
            refine zIload 7 2 111 (by decide +kernel) rfl rfl ?_
            refine zImul 112 (by decide +kernel) rfl ?_
            obtain ⟨w27, F⟩ := F
            refine zTaload j 113 (by decide +kernel) rfl hj (w27) ?_
            refine zIcmp_lt 16 129 116 (by decide +kernel) rfl rfl ⟨fun q28 => ?_, fun q28 => ?_⟩
            · replace F := F.1 q28
              refine zAload_n 1 5 130 (by decide +kernel) rfl rfl ?_
              refine zDup 131 (by decide +kernel) rfl rfl ?_
              refine gf9_2 47 134 (by decide +kernel) rfl flX10_47 (Tape_0 S1_) ?_
              refine zIconst 1 1 135 (by decide +kernel) rfl (by decide) ?_
              refine zIsub 136 (by decide +kernel) rfl ?_
              refine pf9_2 47 139 (by decide +kernel) rfl flX10_47 (Tape_0 S1_) ?_
              replace F := F _ rfl
              generalize zU I25 t 2 ((I25 t 2) - 1) = I29 at F ⊢
              refine zIconst 0 0 140 (by decide +kernel) rfl (by decide) ?_
              exact zZret .boolean rfl (zNarZ (Or.inl rfl)) (by decide +kernel) F
            · replace F := F.2 q28
              refine zIload 8 0 118 (by decide +kernel) rfl rfl ?_
              refine zAload_n 3 7 119 (by decide +kernel) rfl rfl ?_
              refine zIconst 2 2 120 (by decide +kernel) rfl (by decide) ?_
              refine zIload 7 2 122 (by decide +kernel) rfl rfl ?_
              refine zImul 123 (by decide +kernel) rfl ?_
              refine zIconst 1 1 124 (by decide +kernel) rfl (by decide) ?_
              refine zIadd 125 (by decide +kernel) rfl ?_
              obtain ⟨w30, F⟩ := F
              refine zTaload j 126 (by decide +kernel) rfl hj (w30) ?_
              refine zIcmp_le 15 141 129 (by decide +kernel) rfl rfl ⟨fun q31 => ?_, fun q31 => ?_⟩
              · replace F := F.1 q31
                refine zAload_n 0 4 142 (by decide +kernel) rfl rfl ?_
                refine gf10_10 44 145 (by decide +kernel) rfl flX10_44 (Vil_0 S0_) (Vil_11 S0_) ?_
                refine zIload 7 2 147 (by decide +kernel) rfl rfl ?_
                refine zIload 8 0 149 (by decide +kernel) rfl rfl ?_
                refine yIastore 3 150 (by decide +kernel) rfl (Vil_12 S0_) F.1 ?_
                replace F := F.2 _ rfl
                generalize zU I25 (v + 6) ((-1) : Int32).toNatClampNeg (x24) = I32 at F ⊢
                refine zIinc 5 1 8 (l5 + 1) [(5, .int (l5 + 1)), (8, .int (x24)), (4, .int (l4 ||| ((1 : Int32) <<< (((-1) : Int32) &&& 31)))), (7, .int ((-1))), (6, .int (x4)), (0, .ref (v)), (1, .ref (t)), (2, .ref (G.2.2.2.1 i)), (3, .ref (G.2.2.2.2.2.1 j))] 153 (by decide +kernel) rfl rfl (by rfl) (by decide) rfl ?_
                refine zGoto (-137) 16 (by decide +kernel) rfl ?_
                exact zLoc [5, 6, 7, 8, 2, 0] _ rfl F
              · replace F := F.2 q31
                refine zAload_n 1 5 130 (by decide +kernel) rfl rfl ?_
                refine zDup 131 (by decide +kernel) rfl rfl ?_
                refine gf9_2 47 134 (by decide +kernel) rfl flX10_47 (Tape_0 S1_) ?_
                refine zIconst 1 1 135 (by decide +kernel) rfl (by decide) ?_
                refine zIsub 136 (by decide +kernel) rfl ?_
                refine pf9_2 47 139 (by decide +kernel) rfl flX10_47 (Tape_0 S1_) ?_
                replace F := F _ rfl
                generalize zU I25 t 2 ((I25 t 2) - 1) = I33 at F ⊢
                refine zIconst 0 0 140 (by decide +kernel) rfl (by decide) ?_
                exact zZret .boolean rfl (zNarZ (Or.inl rfl)) (by decide +kernel) F
          · replace F := F.1 q26
            refine zIconst 0 0 104 (by decide +kernel) rfl (by decide) ?_
            exact zZret .boolean rfl (zNarZ (Or.inl rfl)) (by decide +kernel) F
        · replace F := F.1 q22
          refine zIconst 0 0 70 (by decide +kernel) rfl (by decide) ?_
          exact zZret .boolean rfl (zNarZ (Or.inl rfl)) (by decide +kernel) F
      · replace F := F.1 q21
        refine zIconst 1 1 57 (by decide +kernel) rfl (by decide) ?_
        exact zZret .boolean rfl (zNarZ (Or.inr rfl)) (by decide +kernel) F
set_option maxHeartbeats 2000000 in
theorem wX10_isWhole_0 {G : zG} {d kc ks : Nat} {I : Nat → Nat → Int32} {J : Nat → Nat → Int64} {R : Nat → Nat → Option Nat} {K : Nat → Nat × Nat} {n : Nat} {Q : Option Value → zH → Prop} (v : Nat) (S0_ : hVil G R K n v) (F : zV G (d + 1) mX10_isWhole kc ks 2 [(0, .ref (v)), (1, .int (0))] [] (I, J, R, K, n) Q) : zV G (d + 1) mX10_isWhole kc ks 0 [(0, .ref (v))] [] (I, J, R, K, n) Q := by
  refine zIconst 0 0 1 (by decide +kernel) rfl (by decide) ?_
  refine zIstore_n 1 [(1, .int (0)), (0, .ref (v))] 2 (by decide +kernel) rfl (by decide) rfl ?_
  exact zLoc [1, 0] _ rfl F
set_option maxHeartbeats 2000000 in
theorem wX10_isWhole_2 {G : zG} {d kc ks : Nat} {I : Nat → Nat → Int32} {J : Nat → Nat → Int64} {R : Nat → Nat → Option Nat} {K : Nat → Nat × Nat} {n : Nat} {Q : Option Value → zH → Prop} (v : Nat) (S0_ : hVil G R K n v) (l1 : Int32) (F : (((I v 6 : Int32) ≤ l1 → Q (some (.int ((if (I v 5 : Int32) ≤ 0 then 0 else 1)))) (I, J, R, K, n)) ∧ (¬ ((I v 6 : Int32) ≤ l1) → ((vp_in l1 9) ∧ zC G d mX10_isFarm 0 0 [.ref (v), .int (I (v + 3) l1.toNatClampNeg)] (I, J, R, K, n) (fun r h => ∃ (x4 : Int32) (I5 : Nat → Nat → Int32), r = some (.int x4) ∧ h = (I5, J, R, K, n) ∧ ((x4 = 0 → Q (some (.int (0))) (I5, J, R, K, n)) ∧ (¬ (x4 = 0) → ((vp_in l1 9) ∧ zC G d mX10_isFarm 0 0 [.ref (v), .int (I5 (v + 4) l1.toNatClampNeg)] (I5, J, R, K, n) (fun r h => ∃ (x8 : Int32) (I9 : Nat → Nat → Int32), r = some (.int x8) ∧ h = (I9, J, R, K, n) ∧ ((x8 = 0 → Q (some (.int (0))) (I9, J, R, K, n)) ∧ (¬ (x8 = 0) → ((vp_in l1 9) ∧ ((vp_in l1 9) ∧ (((I9 (v + 3) l1.toNatClampNeg : Int32) = (I9 (v + 4) l1.toNatClampNeg : Int32) → Q (some (.int (0))) (I9, J, R, K, n)) ∧ (¬ ((I9 (v + 3) l1.toNatClampNeg : Int32) = (I9 (v + 4) l1.toNatClampNeg : Int32)) → zV G (d + 1) mX10_isWhole kc ks 2 [(0, .ref (v)), (1, .int (l1 + 1))] [] (I9, J, R, K, n) Q))))))))))))))) : zV G (d + 1) mX10_isWhole kc ks 2 [(0, .ref (v)), (1, .int (l1))] [] (I, J, R, K, n) Q := by
  refine zIload_n 1 1 3 (by decide +kernel) rfl rfl ?_
  refine zAload_n 0 0 4 (by decide +kernel) rfl rfl ?_
  refine gf10_6 31 7 (by decide +kernel) rfl flX10_31 (Vil_0 S0_) ?_
  refine zIcmp_ge 52 59 10 (by decide +kernel) rfl rfl ⟨fun q1 => ?_, fun q1 => ?_⟩
  · replace F := F.1 q1
    refine zAload_n 0 0 60 (by decide +kernel) rfl rfl ?_
    refine gf10_5 27 63 (by decide +kernel) rfl flX10_27 (Vil_0 S0_) ?_
    suffices KK : zV G (d + 1) mX10_isWhole kc ks 71 [(0, .ref (v)), (1, .int (l1))] [.int ((if (I v 5 : Int32) ≤ 0 then 0 else 1))] (I, J, R, K, n) Q by
      refine zIf_le 7 70 66 (by decide +kernel) rfl rfl ⟨fun q2 => ?_, fun q2 => ?_⟩
      · refine zIconst 0 0 71 (by decide +kernel) rfl (by decide) ?_
        exact zTop (by rw [if_pos q2]) KK
      · refine zIconst 1 1 67 (by decide +kernel) rfl (by decide) ?_
        refine zGoto 4 71 (by decide +kernel) rfl ?_
        exact zTop (by rw [if_neg q2]) KK
    exact zZret .boolean rfl (zNarZ (zOrIte (Or.inl rfl) (Or.inr rfl))) (by decide +kernel) F
  · replace F := F.2 q1
    refine zAload_n 0 0 11 (by decide +kernel) rfl rfl ?_
    refine zAload_n 0 0 12 (by decide +kernel) rfl rfl ?_
    refine gf10_2 18 15 (by decide +kernel) rfl flX10_18 (Vil_0 S0_) (Vil_5 S0_) ?_
    refine zIload_n 1 1 16 (by decide +kernel) rfl rfl ?_
    obtain ⟨w3, F⟩ := F
    refine yIaload 9 17 (by decide +kernel) rfl (Vil_6 S0_) (w3) ?_
    refine zCallV 10 zcls10 mX10_isFarm 108 1 0 0 _ _ 20 [.int (I (v + 3) l1.toNatClampNeg)] [] okX10_isFarm mlX10_108 imX10_isFarm seX10_isFarm (by decide +kernel) rfl rfl (Nat.le_of_ble_eq_true rfl) rfl rfl (Vil_0 S0_) (zC.mono F ?_)
    rintro _ _ ⟨x4, I5, rfl, rfl, F⟩
    change zV G (d + 1) mX10_isWhole kc ks 20 [(0, .ref (v)), (1, .int (l1))] [.int (x4)] (I5, J, R, K, n) Q
    refine zIf_eq 31 51 23 (by decide +kernel) rfl rfl ⟨fun q6 => ?_, fun q6 => ?_⟩
    · replace F := F.1 q6
      refine zIconst 0 0 52 (by decide +kernel) rfl (by decide) ?_
      exact zZret .boolean rfl (zNarZ (Or.inl rfl)) (by decide +kernel) F
    · replace F := F.2 q6
      refine zAload_n 0 0 24 (by decide +kernel) rfl rfl ?_
      refine zAload_n 0 0 25 (by decide +kernel) rfl rfl ?_
      refine gf10_3 21 28 (by decide +kernel) rfl flX10_21 (Vil_0 S0_) (Vil_7 S0_) ?_
      refine zIload_n 1 1 29 (by decide +kernel) rfl rfl ?_
      obtain ⟨w7, F⟩ := F
      refine yIaload 9 30 (by decide +kernel) rfl (Vil_8 S0_) (w7) ?_
      refine zCallV 10 zcls10 mX10_isFarm 108 1 0 0 _ _ 33 [.int (I5 (v + 4) l1.toNatClampNeg)] [] okX10_isFarm mlX10_108 imX10_isFarm seX10_isFarm (by decide +kernel) rfl rfl (Nat.le_of_ble_eq_true rfl) rfl rfl (Vil_0 S0_) (zC.mono F ?_)
      rintro _ _ ⟨x8, I9, rfl, rfl, F⟩
      change zV G (d + 1) mX10_isWhole kc ks 33 [(0, .ref (v)), (1, .int (l1))] [.int (x8)] (I9, J, R, K, n) Q
      refine zIf_eq 18 51 36 (by decide +kernel) rfl rfl ⟨fun q10 => ?_, fun q10 => ?_⟩
      · replace F := F.1 q10
        refine zIconst 0 0 52 (by decide +kernel) rfl (by decide) ?_
        exact zZret .boolean rfl (zNarZ (Or.inl rfl)) (by decide +kernel) F
      · replace F := F.2 q10
        refine zAload_n 0 0 37 (by decide +kernel) rfl rfl ?_
        refine gf10_2 18 40 (by decide +kernel) rfl flX10_18 (Vil_0 S0_) (Vil_5 S0_) ?_
        refine zIload_n 1 1 41 (by decide +kernel) rfl rfl ?_
        obtain ⟨w11, F⟩ := F
        refine yIaload 9 42 (by decide +kernel) rfl (Vil_6 S0_) (w11) ?_
        refine zAload_n 0 0 43 (by decide +kernel) rfl rfl ?_
        refine gf10_3 21 46 (by decide +kernel) rfl flX10_21 (Vil_0 S0_) (Vil_7 S0_) ?_
        refine zIload_n 1 1 47 (by decide +kernel) rfl rfl ?_
        obtain ⟨w12, F⟩ := F
        refine yIaload 9 48 (by decide +kernel) rfl (Vil_8 S0_) (w12) ?_
        refine zIcmp_ne 5 53 51 (by decide +kernel) rfl rfl ⟨fun q13 => ?_, fun q13 => ?_⟩
        · replace F := F.2 q13
          refine zIinc 1 1 1 (l1 + 1) [(1, .int (l1 + 1)), (0, .ref (v))] 56 (by decide +kernel) rfl rfl (by rfl) (by decide) rfl ?_
          refine zGoto (-54) 2 (by decide +kernel) rfl ?_
          exact zLoc [1, 0] _ rfl F
        · replace F := F.1 q13
          refine zIconst 0 0 52 (by decide +kernel) rfl (by decide) ?_
          exact zZret .boolean rfl (zNarZ (Or.inl rfl)) (by decide +kernel) F
