set_option maxHeartbeats 2000000 in
theorem wX8_begin_0 {G : zG} {d kc ks : Nat} {I : Nat → Nat → Int32} {J : Nat → Nat → Int64} {R : Nat → Nat → Option Nat} {K : Nat → Nat × Nat} {n : Nat} {Q : Option Value → zH → Prop} (a s v : Nat) (S0_ : hSt G R K n a s v) (F : zV G (d + 1) mX8_begin kc ks 10 [(0, .ref (a)), (1, .ref (v)), (2, .int (0))] [] (I, J, R, K, n) Q) : zV G (d + 1) mX8_begin kc ks 0 [(0, .ref (a))] [] (I, J, R, K, n) Q := by
  refine zAload_n 0 0 1 (by decide +kernel) rfl rfl ?_
  refine gf8_12 52 4 (by decide +kernel) rfl flX8_52 (St_0 S0_) (St_13 S0_) ?_
  refine gf5_0 56 7 (by decide +kernel) rfl flX8_56 (Set_0 (St_14 S0_)) (Set_1 (St_14 S0_)) ?_
  refine zAstore_n 1 [(1, .ref (v)), (0, .ref (a))] 8 (by decide +kernel) rfl (by decide) rfl ?_
  refine zIconst 0 0 9 (by decide +kernel) rfl (by decide) ?_
  refine zIstore_n 2 [(2, .int (0)), (1, .ref (v)), (0, .ref (a))] 10 (by decide +kernel) rfl (by decide) rfl ?_
  exact zLoc [2, 1, 0] _ rfl F
set_option maxHeartbeats 2000000 in
theorem wX8_begin_10 {G : zG} {d kc ks : Nat} {I : Nat → Nat → Int32} {J : Nat → Nat → Int64} {R : Nat → Nat → Option Nat} {K : Nat → Nat × Nat} {n : Nat} {Q : Option Value → zH → Prop} (a s v : Nat) (S0_ : hSt G R K n a s v) (l2 : Int32) (F : ((9 ≤ l2 → zC G d mJ7_fill_53178 0 0 [.ref (a + 4), .int (0)] (I, J, R, K, n) (fun r h => ∃ (I2 : Nat → Nat → Int32), r = none ∧ h = (I2, J, R, K, n) ∧ zC G d mJ7_fill_53178 0 0 [.ref (a + 5), .int (0)] (I2, J, R, K, n) (fun r h => ∃ (I3 : Nat → Nat → Int32), r = none ∧ h = (I3, J, R, K, n) ∧ zC G d mJ7_fill_53178 0 0 [.ref (a + 6), .int (0)] (I3, J, R, K, n) (fun r h => ∃ (I4 : Nat → Nat → Int32), r = none ∧ h = (I4, J, R, K, n) ∧ (∀ I5 : Nat → Nat → Int32, I5 = zU I4 a 6 (0) → (∀ I6 : Nat → Nat → Int32, I6 = zU I5 a 7 (0) → (∀ I7 : Nat → Nat → Int32, I7 = zU I6 a 8 (I6 v 7) → (∀ I8 : Nat → Nat → Int32, I8 = zU I7 a 9 (I7 v 8) → (∀ I9 : Nat → Nat → Int32, I9 = zU I8 a 10 (0) → Q none (I9, J, R, K, n)))))))))) ∧ (¬ (9 ≤ l2) → (((¬ (((if (I v 6 : Int32) ≤ l2 then 0 else 1) : Int32) = 0)) → vp_in l2 9) ∧ (vp_in l2 9 ∧ ∀ I13 : Nat → Nat → Int32, I13 = zU I (a + 1) l2.toNatClampNeg ((if ((if (I v 6 : Int32) ≤ l2 then 0 else 1) : Int32) = 0 then 0 else I (v + 3) l2.toNatClampNeg)) → (((¬ (((if (I v 6 : Int32) ≤ l2 then 0 else 1) : Int32) = 0)) → vp_in l2 9) ∧ (vp_in l2 9 ∧ ∀ I16 : Nat → Nat → Int32, I16 = zU I13 (a + 2) l2.toNatClampNeg ((if ((if (I v 6 : Int32) ≤ l2 then 0 else 1) : Int32) = 0 then 0 else I13 (v + 4) l2.toNatClampNeg)) → (((¬ (((if (I v 6 : Int32) ≤ l2 then 0 else 1) : Int32) = 0)) → vp_in l2 9) ∧ (vp_in l2 9 ∧ ∀ I19 : Nat → Nat → Int32, I19 = zU I16 (a + 3) l2.toNatClampNeg ((if ((if (I v 6 : Int32) ≤ l2 then 0 else 1) : Int32) = 0 then 0 else I16 (v + 5) l2.toNatClampNeg)) → zV G (d + 1) mX8_begin kc ks 10 [(0, .ref (a)), (1, .ref (v)), (2, .int (l2 + 1))] [] (I19, J, R, K, n) Q))))))))) : zV G (d + 1) mX8_begin kc ks 10 [(0, .ref (a)), (1, .ref (v)), (2, .int (l2))] [] (I, J, R, K, n) Q := by
  refine zIload_n 2 2 11 (by decide +kernel) rfl rfl ?_
  refine zBipush 9 9 13 (by decide +kernel) rfl (by decide) ?_
  refine zIcmp_ge 83 96 16 (by decide +kernel) rfl rfl ⟨fun q1 => ?_, fun q1 => ?_⟩
  · replace F := F.1 q1
    refine zAload_n 0 0 97 (by decide +kernel) rfl rfl ?_
    refine gf8_3 21 100 (by decide +kernel) rfl flX8_21 (St_0 S0_) (St_7 S0_) ?_
    refine zIconst 0 0 101 (by decide +kernel) rfl (by decide) ?_
    refine zCallS mJ7_fill_53178 70 2 0 0 _ _ 104 [.ref (a + 4), .int (0)] [] okJ7_fill_53178 mlX8_70 smJ7_fill_53178 (by decide +kernel) rfl rfl (Nat.le_of_ble_eq_true rfl) rfl rfl (zC.mono F ?_)
    rintro _ _ ⟨I2, rfl, rfl, F⟩
    change zV G (d + 1) mX8_begin kc ks 104 [(0, .ref (a)), (1, .ref (v)), (2, .int (l2))] [] (I2, J, R, K, n) Q
    refine zAload_n 0 0 105 (by decide +kernel) rfl rfl ?_
    refine gf8_4 24 108 (by decide +kernel) rfl flX8_24 (St_0 S0_) (St_9 S0_) ?_
    refine zIconst 0 0 109 (by decide +kernel) rfl (by decide) ?_
    refine zCallS mJ7_fill_53178 70 2 0 0 _ _ 112 [.ref (a + 5), .int (0)] [] okJ7_fill_53178 mlX8_70 smJ7_fill_53178 (by decide +kernel) rfl rfl (Nat.le_of_ble_eq_true rfl) rfl rfl (zC.mono F ?_)
    rintro _ _ ⟨I3, rfl, rfl, F⟩
    change zV G (d + 1) mX8_begin kc ks 112 [(0, .ref (a)), (1, .ref (v)), (2, .int (l2))] [] (I3, J, R, K, n) Q
    refine zAload_n 0 0 113 (by decide +kernel) rfl rfl ?_
    refine gf8_5 27 116 (by decide +kernel) rfl flX8_27 (St_0 S0_) (St_11 S0_) ?_
    refine zIconst 0 0 117 (by decide +kernel) rfl (by decide) ?_
    refine zCallS mJ7_fill_53178 70 2 0 0 _ _ 120 [.ref (a + 6), .int (0)] [] okJ7_fill_53178 mlX8_70 smJ7_fill_53178 (by decide +kernel) rfl rfl (Nat.le_of_ble_eq_true rfl) rfl rfl (zC.mono F ?_)
    rintro _ _ ⟨I4, rfl, rfl, F⟩
    change zV G (d + 1) mX8_begin kc ks 120 [(0, .ref (a)), (1, .ref (v)), (2, .int (l2))] [] (I4, J, R, K, n) Q
    refine zAload_n 0 0 121 (by decide +kernel) rfl rfl ?_
    refine zIconst 0 0 122 (by decide +kernel) rfl (by decide) ?_
    refine pf8_6 30 125 (by decide +kernel) rfl flX8_30 (St_0 S0_) ?_
    replace F := F _ rfl
    generalize zU I4 a 6 (0) = I5 at F ⊢
    refine zAload_n 0 0 126 (by decide +kernel) rfl rfl ?_
    refine zIconst 0 0 127 (by decide +kernel) rfl (by decide) ?_
    refine pf8_7 34 130 (by decide +kernel) rfl flX8_34 (St_0 S0_) ?_
    replace F := F _ rfl
    generalize zU I5 a 7 (0) = I6 at F ⊢
    refine zAload_n 0 0 131 (by decide +kernel) rfl rfl ?_
    refine zAload_n 1 1 132 (by decide +kernel) rfl rfl ?_
    refine gf10_7 76 135 (by decide +kernel) rfl flX8_76 (Vil_0 (Set_2 (St_14 S0_))) ?_
    refine pf8_8 37 138 (by decide +kernel) rfl flX8_37 (St_0 S0_) ?_
    replace F := F _ rfl
    generalize zU I6 a 8 (I6 v 7) = I7 at F ⊢
    refine zAload_n 0 0 139 (by decide +kernel) rfl rfl ?_
    refine zAload_n 1 1 140 (by decide +kernel) rfl rfl ?_
    refine gf10_8 77 143 (by decide +kernel) rfl flX8_77 (Vil_0 (Set_2 (St_14 S0_))) ?_
    refine pf8_9 40 146 (by decide +kernel) rfl flX8_40 (St_0 S0_) ?_
    replace F := F _ rfl
    generalize zU I7 a 9 (I7 v 8) = I8 at F ⊢
    refine zAload_n 0 0 147 (by decide +kernel) rfl rfl ?_
    refine zIconst 0 0 148 (by decide +kernel) rfl (by decide) ?_
    refine pf8_10 43 151 (by decide +kernel) rfl flX8_43 (St_0 S0_) ?_
    replace F := F _ rfl
    generalize zU I8 a 10 (0) = I9 at F ⊢
    exact zVret rfl (by decide +kernel) F
  · replace F := F.2 q1
    refine zIload_n 2 2 17 (by decide +kernel) rfl rfl ?_
    refine zAload_n 1 1 18 (by decide +kernel) rfl rfl ?_
    refine gf10_6 62 21 (by decide +kernel) rfl flX8_62 (Vil_0 (Set_2 (St_14 S0_))) ?_
    suffices KK : zV G (d + 1) mX8_begin kc ks 29 [(0, .ref (a)), (1, .ref (v)), (2, .int (l2))] [.int ((if (I v 6 : Int32) ≤ l2 then 0 else 1))] (I, J, R, K, n) Q by
      refine zIcmp_ge 7 28 24 (by decide +kernel) rfl rfl ⟨fun q10 => ?_, fun q10 => ?_⟩
      · refine zIconst 0 0 29 (by decide +kernel) rfl (by decide) ?_
        exact zTop (by rw [if_pos q10]) KK
      · refine zIconst 1 1 25 (by decide +kernel) rfl (by decide) ?_
        refine zGoto 4 29 (by decide +kernel) rfl ?_
        exact zTop (by rw [if_neg q10]) KK
    refine zIstore_n 3 [(3, .int ((if (I v 6 : Int32) ≤ l2 then 0 else 1))), (0, .ref (a)), (1, .ref (v)), (2, .int (l2))] 30 (by decide +kernel) rfl (by decide) rfl ?_
    refine zAload_n 0 1 31 (by decide +kernel) rfl rfl ?_
    refine gf8_0 11 34 (by decide +kernel) rfl flX8_11 (St_0 S0_) (St_1 S0_) ?_
    refine zIload_n 2 3 35 (by decide +kernel) rfl rfl ?_
    refine zIload_n 3 0 36 (by decide +kernel) rfl rfl ?_
    obtain ⟨w12, F⟩ := F
    suffices KK : zV G (d + 1) mX8_begin kc ks 49 [(3, .int ((if (I v 6 : Int32) ≤ l2 then 0 else 1))), (0, .ref (a)), (1, .ref (v)), (2, .int (l2))] [.int ((if ((if (I v 6 : Int32) ≤ l2 then 0 else 1) : Int32) = 0 then 0 else I (v + 3) l2.toNatClampNeg)), .int (l2), .ref (a + 1)] (I, J, R, K, n) Q by
      refine zIf_eq 12 48 39 (by decide +kernel) rfl rfl ⟨fun q11 => ?_, fun q11 => ?_⟩
      · refine zIconst 0 0 49 (by decide +kernel) rfl (by decide) ?_
        exact zTop (by rw [if_pos q11]) KK
      · refine zAload_n 1 2 40 (by decide +kernel) rfl rfl ?_
        refine gf10_2 67 43 (by decide +kernel) rfl flX8_67 (Vil_0 (Set_2 (St_14 S0_))) (Vil_5 (Set_2 (St_14 S0_))) ?_
        refine zIload_n 2 3 44 (by decide +kernel) rfl rfl ?_
        refine yIaload 9 45 (by decide +kernel) rfl (Vil_6 (Set_2 (St_14 S0_))) (w12 q11) ?_
        refine zGoto 4 49 (by decide +kernel) rfl ?_
        exact zTop (by rw [if_neg q11]) KK
    refine yIastore 9 50 (by decide +kernel) rfl (St_2 S0_) F.1 ?_
    replace F := F.2 _ rfl
    generalize zU I (a + 1) l2.toNatClampNeg ((if ((if (I v 6 : Int32) ≤ l2 then 0 else 1) : Int32) = 0 then 0 else I (v + 3) l2.toNatClampNeg)) = I13 at F ⊢
    refine zAload_n 0 1 51 (by decide +kernel) rfl rfl ?_
    refine gf8_1 15 54 (by decide +kernel) rfl flX8_15 (St_0 S0_) (St_3 S0_) ?_
    refine zIload_n 2 3 55 (by decide +kernel) rfl rfl ?_
    refine zIload_n 3 0 56 (by decide +kernel) rfl rfl ?_
    obtain ⟨w15, F⟩ := F
    suffices KK : zV G (d + 1) mX8_begin kc ks 69 [(3, .int ((if (I v 6 : Int32) ≤ l2 then 0 else 1))), (0, .ref (a)), (1, .ref (v)), (2, .int (l2))] [.int ((if ((if (I v 6 : Int32) ≤ l2 then 0 else 1) : Int32) = 0 then 0 else I13 (v + 4) l2.toNatClampNeg)), .int (l2), .ref (a + 2)] (I13, J, R, K, n) Q by
      refine zIf_eq 12 68 59 (by decide +kernel) rfl rfl ⟨fun q14 => ?_, fun q14 => ?_⟩
      · refine zIconst 0 0 69 (by decide +kernel) rfl (by decide) ?_
        exact zTop (by rw [if_pos q14]) KK
      · refine zAload_n 1 2 60 (by decide +kernel) rfl rfl ?_
        refine gf10_3 68 63 (by decide +kernel) rfl flX8_68 (Vil_0 (Set_2 (St_14 S0_))) (Vil_7 (Set_2 (St_14 S0_))) ?_
        refine zIload_n 2 3 64 (by decide +kernel) rfl rfl ?_
        refine yIaload 9 65 (by decide +kernel) rfl (Vil_8 (Set_2 (St_14 S0_))) (w15 q14) ?_
        refine zGoto 4 69 (by decide +kernel) rfl ?_
        exact zTop (by rw [if_neg q14]) KK
    refine yIastore 9 70 (by decide +kernel) rfl (St_4 S0_) F.1 ?_
    replace F := F.2 _ rfl
    generalize zU I13 (a + 2) l2.toNatClampNeg ((if ((if (I v 6 : Int32) ≤ l2 then 0 else 1) : Int32) = 0 then 0 else I13 (v + 4) l2.toNatClampNeg)) = I16 at F ⊢
    refine zAload_n 0 1 71 (by decide +kernel) rfl rfl ?_
    refine gf8_2 18 74 (by decide +kernel) rfl flX8_18 (St_0 S0_) (St_5 S0_) ?_
    refine zIload_n 2 3 75 (by decide +kernel) rfl rfl ?_
    refine zIload_n 3 0 76 (by decide +kernel) rfl rfl ?_
    obtain ⟨w18, F⟩ := F
    suffices KK : zV G (d + 1) mX8_begin kc ks 89 [(3, .int ((if (I v 6 : Int32) ≤ l2 then 0 else 1))), (0, .ref (a)), (1, .ref (v)), (2, .int (l2))] [.int ((if ((if (I v 6 : Int32) ≤ l2 then 0 else 1) : Int32) = 0 then 0 else I16 (v + 5) l2.toNatClampNeg)), .int (l2), .ref (a + 3)] (I16, J, R, K, n) Q by
      refine zIf_eq 12 88 79 (by decide +kernel) rfl rfl ⟨fun q17 => ?_, fun q17 => ?_⟩
      · refine zIconst 0 0 89 (by decide +kernel) rfl (by decide) ?_
        exact zTop (by rw [if_pos q17]) KK
      · refine zAload_n 1 2 80 (by decide +kernel) rfl rfl ?_
        refine gf10_4 69 83 (by decide +kernel) rfl flX8_69 (Vil_0 (Set_2 (St_14 S0_))) (Vil_9 (Set_2 (St_14 S0_))) ?_
        refine zIload_n 2 3 84 (by decide +kernel) rfl rfl ?_
        refine yIaload 9 85 (by decide +kernel) rfl (Vil_10 (Set_2 (St_14 S0_))) (w18 q17) ?_
        refine zGoto 4 89 (by decide +kernel) rfl ?_
        exact zTop (by rw [if_neg q17]) KK
    refine yIastore 9 90 (by decide +kernel) rfl (St_6 S0_) F.1 ?_
    replace F := F.2 _ rfl
    generalize zU I16 (a + 3) l2.toNatClampNeg ((if ((if (I v 6 : Int32) ≤ l2 then 0 else 1) : Int32) = 0 then 0 else I16 (v + 5) l2.toNatClampNeg)) = I19 at F ⊢
    refine zIinc 2 1 3 (l2 + 1) [(2, .int (l2 + 1)), (3, .int ((if (I v 6 : Int32) ≤ l2 then 0 else 1))), (0, .ref (a)), (1, .ref (v))] 93 (by decide +kernel) rfl rfl (by rfl) (by decide) rfl ?_
    refine zGoto (-83) 10 (by decide +kernel) rfl ?_
    exact zLoc [2, 3, 0] _ rfl F
set_option maxHeartbeats 2000000 in
theorem wX8_keep_0 {G : zG} {d kc ks : Nat} {I : Nat → Nat → Int32} {J : Nat → Nat → Int64} {R : Nat → Nat → Option Nat} {K : Nat → Nat × Nat} {n : Nat} {Q : Option Value → zH → Prop} (a s v : Nat) (b : Nat) (hb : sA G K n b 32 50) (S0_ : hSt G R K n a s v) (F : (∀ I1 : Nat → Nat → Int32, I1 = zRow I b (va_cpy (I (a + 1)) (I b) (0 : Int32).toNatClampNeg (0 : Int32).toNatClampNeg (9 : Int32).toNatClampNeg) → (∀ I2 : Nat → Nat → Int32, I2 = zRow I1 b (va_cpy (I1 (a + 2)) (I1 b) (0 : Int32).toNatClampNeg (9 : Int32).toNatClampNeg (9 : Int32).toNatClampNeg) → (∀ I3 : Nat → Nat → Int32, I3 = zRow I2 b (va_cpy (I2 (a + 3)) (I2 b) (0 : Int32).toNatClampNeg (18 : Int32).toNatClampNeg (9 : Int32).toNatClampNeg) → (∀ I4 : Nat → Nat → Int32, I4 = zRow I3 b (va_cpy (I3 (a + 4)) (I3 b) (0 : Int32).toNatClampNeg (27 : Int32).toNatClampNeg (6 : Int32).toNatClampNeg) → (∀ I5 : Nat → Nat → Int32, I5 = zRow I4 b (va_cpy (I4 (a + 5)) (I4 b) (0 : Int32).toNatClampNeg (33 : Int32).toNatClampNeg (6 : Int32).toNatClampNeg) → (∀ I6 : Nat → Nat → Int32, I6 = zRow I5 b (va_cpy (I5 (a + 6)) (I5 b) (0 : Int32).toNatClampNeg (39 : Int32).toNatClampNeg (6 : Int32).toNatClampNeg) → (vp_in 45 50 ∧ ∀ I7 : Nat → Nat → Int32, I7 = zU I6 b (45 : Int32).toNatClampNeg (I6 a 6) → (vp_in 46 50 ∧ ∀ I8 : Nat → Nat → Int32, I8 = zU I7 b (46 : Int32).toNatClampNeg (I7 a 7) → (vp_in 47 50 ∧ ∀ I9 : Nat → Nat → Int32, I9 = zU I8 b (47 : Int32).toNatClampNeg (I8 a 8) → (vp_in 48 50 ∧ ∀ I10 : Nat → Nat → Int32, I10 = zU I9 b (48 : Int32).toNatClampNeg (I9 a 9) → (vp_in 49 50 ∧ ∀ I11 : Nat → Nat → Int32, I11 = zU I10 b (49 : Int32).toNatClampNeg (I10 a 10) → Q none (I11, J, R, K, n))))))))))))) : zV G (d + 1) mX8_keep kc ks 0 [(0, .ref (a)), (1, .ref (b))] [] (I, J, R, K, n) Q := by
  refine zAload_n 0 0 1 (by decide +kernel) rfl rfl ?_
  refine gf8_0 11 4 (by decide +kernel) rfl flX8_11 (St_0 S0_) (St_1 S0_) ?_
  refine zIconst 0 0 5 (by decide +kernel) rfl (by decide) ?_
  refine zAload_n 1 1 6 (by decide +kernel) rfl rfl ?_
  refine zIconst 0 0 7 (by decide +kernel) rfl (by decide) ?_
  refine zBipush 9 9 9 (by decide +kernel) rfl (by decide) ?_
  refine yCopy 78 9 50 12 (by decide +kernel) rfl mlX8_78 (Nat.le_of_ble_eq_true rfl) (St_2 S0_) hb (by decide) (by decide) (by decide) (by decide) (by decide) ?_
  replace F := F _ rfl
  generalize zRow I b (va_cpy (I (a + 1)) (I b) (0 : Int32).toNatClampNeg (0 : Int32).toNatClampNeg (9 : Int32).toNatClampNeg) = I1 at F ⊢
  refine zAload_n 0 0 13 (by decide +kernel) rfl rfl ?_
  refine gf8_1 15 16 (by decide +kernel) rfl flX8_15 (St_0 S0_) (St_3 S0_) ?_
  refine zIconst 0 0 17 (by decide +kernel) rfl (by decide) ?_
  refine zAload_n 1 1 18 (by decide +kernel) rfl rfl ?_
  refine zBipush 9 9 20 (by decide +kernel) rfl (by decide) ?_
  refine zBipush 9 9 22 (by decide +kernel) rfl (by decide) ?_
  refine yCopy 78 9 50 25 (by decide +kernel) rfl mlX8_78 (Nat.le_of_ble_eq_true rfl) (St_4 S0_) hb (by decide) (by decide) (by decide) (by decide) (by decide) ?_
  replace F := F _ rfl
  generalize zRow I1 b (va_cpy (I1 (a + 2)) (I1 b) (0 : Int32).toNatClampNeg (9 : Int32).toNatClampNeg (9 : Int32).toNatClampNeg) = I2 at F ⊢
  refine zAload_n 0 0 26 (by decide +kernel) rfl rfl ?_
  refine gf8_2 18 29 (by decide +kernel) rfl flX8_18 (St_0 S0_) (St_5 S0_) ?_
  refine zIconst 0 0 30 (by decide +kernel) rfl (by decide) ?_
  refine zAload_n 1 1 31 (by decide +kernel) rfl rfl ?_
  refine zBipush 18 18 33 (by decide +kernel) rfl (by decide) ?_
  refine zBipush 9 9 35 (by decide +kernel) rfl (by decide) ?_
  refine yCopy 78 9 50 38 (by decide +kernel) rfl mlX8_78 (Nat.le_of_ble_eq_true rfl) (St_6 S0_) hb (by decide) (by decide) (by decide) (by decide) (by decide) ?_
  replace F := F _ rfl
  generalize zRow I2 b (va_cpy (I2 (a + 3)) (I2 b) (0 : Int32).toNatClampNeg (18 : Int32).toNatClampNeg (9 : Int32).toNatClampNeg) = I3 at F ⊢
  refine zAload_n 0 0 39 (by decide +kernel) rfl rfl ?_
  refine gf8_3 21 42 (by decide +kernel) rfl flX8_21 (St_0 S0_) (St_7 S0_) ?_
  refine zIconst 0 0 43 (by decide +kernel) rfl (by decide) ?_
  refine zAload_n 1 1 44 (by decide +kernel) rfl rfl ?_
  refine zBipush 27 27 46 (by decide +kernel) rfl (by decide) ?_
  refine zBipush 6 6 48 (by decide +kernel) rfl (by decide) ?_
  refine yCopy 78 6 50 51 (by decide +kernel) rfl mlX8_78 (Nat.le_of_ble_eq_true rfl) (St_8 S0_) hb (by decide) (by decide) (by decide) (by decide) (by decide) ?_
  replace F := F _ rfl
  generalize zRow I3 b (va_cpy (I3 (a + 4)) (I3 b) (0 : Int32).toNatClampNeg (27 : Int32).toNatClampNeg (6 : Int32).toNatClampNeg) = I4 at F ⊢
  refine zAload_n 0 0 52 (by decide +kernel) rfl rfl ?_
  refine gf8_4 24 55 (by decide +kernel) rfl flX8_24 (St_0 S0_) (St_9 S0_) ?_
  refine zIconst 0 0 56 (by decide +kernel) rfl (by decide) ?_
  refine zAload_n 1 1 57 (by decide +kernel) rfl rfl ?_
  refine zBipush 33 33 59 (by decide +kernel) rfl (by decide) ?_
  refine zBipush 6 6 61 (by decide +kernel) rfl (by decide) ?_
  refine yCopy 78 6 50 64 (by decide +kernel) rfl mlX8_78 (Nat.le_of_ble_eq_true rfl) (St_10 S0_) hb (by decide) (by decide) (by decide) (by decide) (by decide) ?_
  replace F := F _ rfl
  generalize zRow I4 b (va_cpy (I4 (a + 5)) (I4 b) (0 : Int32).toNatClampNeg (33 : Int32).toNatClampNeg (6 : Int32).toNatClampNeg) = I5 at F ⊢
  refine zAload_n 0 0 65 (by decide +kernel) rfl rfl ?_
  refine gf8_5 27 68 (by decide +kernel) rfl flX8_27 (St_0 S0_) (St_11 S0_) ?_
  refine zIconst 0 0 69 (by decide +kernel) rfl (by decide) ?_
  refine zAload_n 1 1 70 (by decide +kernel) rfl rfl ?_
  refine zBipush 39 39 72 (by decide +kernel) rfl (by decide) ?_
  refine zBipush 6 6 74 (by decide +kernel) rfl (by decide) ?_
  refine yCopy 78 6 50 77 (by decide +kernel) rfl mlX8_78 (Nat.le_of_ble_eq_true rfl) (St_12 S0_) hb (by decide) (by decide) (by decide) (by decide) (by decide) ?_
  replace F := F _ rfl
  generalize zRow I5 b (va_cpy (I5 (a + 6)) (I5 b) (0 : Int32).toNatClampNeg (39 : Int32).toNatClampNeg (6 : Int32).toNatClampNeg) = I6 at F ⊢
  refine zAload_n 1 1 78 (by decide +kernel) rfl rfl ?_
  refine zBipush 45 45 80 (by decide +kernel) rfl (by decide) ?_
  refine zAload_n 0 0 81 (by decide +kernel) rfl rfl ?_
  refine gf8_6 30 84 (by decide +kernel) rfl flX8_30 (St_0 S0_) ?_
  refine yIastore 50 85 (by decide +kernel) rfl hb F.1 ?_
  replace F := F.2 _ rfl
  generalize zU I6 b (45 : Int32).toNatClampNeg (I6 a 6) = I7 at F ⊢
  refine zAload_n 1 1 86 (by decide +kernel) rfl rfl ?_
  refine zBipush 46 46 88 (by decide +kernel) rfl (by decide) ?_
  refine zAload_n 0 0 89 (by decide +kernel) rfl rfl ?_
  refine gf8_7 34 92 (by decide +kernel) rfl flX8_34 (St_0 S0_) ?_
  refine yIastore 50 93 (by decide +kernel) rfl hb F.1 ?_
  replace F := F.2 _ rfl
  generalize zU I7 b (46 : Int32).toNatClampNeg (I7 a 7) = I8 at F ⊢
  refine zAload_n 1 1 94 (by decide +kernel) rfl rfl ?_
  refine zBipush 47 47 96 (by decide +kernel) rfl (by decide) ?_
  refine zAload_n 0 0 97 (by decide +kernel) rfl rfl ?_
  refine gf8_8 37 100 (by decide +kernel) rfl flX8_37 (St_0 S0_) ?_
  refine yIastore 50 101 (by decide +kernel) rfl hb F.1 ?_
  replace F := F.2 _ rfl
  generalize zU I8 b (47 : Int32).toNatClampNeg (I8 a 8) = I9 at F ⊢
  refine zAload_n 1 1 102 (by decide +kernel) rfl rfl ?_
  refine zBipush 48 48 104 (by decide +kernel) rfl (by decide) ?_
  refine zAload_n 0 0 105 (by decide +kernel) rfl rfl ?_
  refine gf8_9 40 108 (by decide +kernel) rfl flX8_40 (St_0 S0_) ?_
  refine yIastore 50 109 (by decide +kernel) rfl hb F.1 ?_
  replace F := F.2 _ rfl
  generalize zU I9 b (48 : Int32).toNatClampNeg (I9 a 9) = I10 at F ⊢
  refine zAload_n 1 1 110 (by decide +kernel) rfl rfl ?_
  refine zBipush 49 49 112 (by decide +kernel) rfl (by decide) ?_
  refine zAload_n 0 0 113 (by decide +kernel) rfl rfl ?_
  refine gf8_10 43 116 (by decide +kernel) rfl flX8_43 (St_0 S0_) ?_
  refine yIastore 50 117 (by decide +kernel) rfl hb F.1 ?_
  replace F := F.2 _ rfl
  generalize zU I10 b (49 : Int32).toNatClampNeg (I10 a 10) = I11 at F ⊢
  exact zVret rfl (by decide +kernel) F
set_option maxHeartbeats 2000000 in
theorem wX8_recall_0 {G : zG} {d kc ks : Nat} {I : Nat → Nat → Int32} {J : Nat → Nat → Int64} {R : Nat → Nat → Option Nat} {K : Nat → Nat × Nat} {n : Nat} {Q : Option Value → zH → Prop} (a s v : Nat) (b : Nat) (hb : sA G K n b 32 50) (S0_ : hSt G R K n a s v) (F : (∀ I1 : Nat → Nat → Int32, I1 = zRow I (a + 1) (va_cpy (I b) (I (a + 1)) (0 : Int32).toNatClampNeg (0 : Int32).toNatClampNeg (9 : Int32).toNatClampNeg) → (∀ I2 : Nat → Nat → Int32, I2 = zRow I1 (a + 2) (va_cpy (I1 b) (I1 (a + 2)) (9 : Int32).toNatClampNeg (0 : Int32).toNatClampNeg (9 : Int32).toNatClampNeg) → (∀ I3 : Nat → Nat → Int32, I3 = zRow I2 (a + 3) (va_cpy (I2 b) (I2 (a + 3)) (18 : Int32).toNatClampNeg (0 : Int32).toNatClampNeg (9 : Int32).toNatClampNeg) → (∀ I4 : Nat → Nat → Int32, I4 = zRow I3 (a + 4) (va_cpy (I3 b) (I3 (a + 4)) (27 : Int32).toNatClampNeg (0 : Int32).toNatClampNeg (6 : Int32).toNatClampNeg) → (∀ I5 : Nat → Nat → Int32, I5 = zRow I4 (a + 5) (va_cpy (I4 b) (I4 (a + 5)) (33 : Int32).toNatClampNeg (0 : Int32).toNatClampNeg (6 : Int32).toNatClampNeg) → (∀ I6 : Nat → Nat → Int32, I6 = zRow I5 (a + 6) (va_cpy (I5 b) (I5 (a + 6)) (39 : Int32).toNatClampNeg (0 : Int32).toNatClampNeg (6 : Int32).toNatClampNeg) → ((vp_in 45 50) ∧ (∀ I8 : Nat → Nat → Int32, I8 = zU I6 a 6 (I6 b (45 : Int32).toNatClampNeg) → ((vp_in 46 50) ∧ (∀ I10 : Nat → Nat → Int32, I10 = zU I8 a 7 (I8 b (46 : Int32).toNatClampNeg) → ((vp_in 47 50) ∧ (∀ I12 : Nat → Nat → Int32, I12 = zU I10 a 8 (I10 b (47 : Int32).toNatClampNeg) → ((vp_in 48 50) ∧ (∀ I14 : Nat → Nat → Int32, I14 = zU I12 a 9 (I12 b (48 : Int32).toNatClampNeg) → ((vp_in 49 50) ∧ (∀ I16 : Nat → Nat → Int32, I16 = zU I14 a 10 (I14 b (49 : Int32).toNatClampNeg) → Q none (I16, J, R, K, n)))))))))))))))))) : zV G (d + 1) mX8_recall kc ks 0 [(0, .ref (a)), (1, .ref (b))] [] (I, J, R, K, n) Q := by
  refine zAload_n 1 1 1 (by decide +kernel) rfl rfl ?_
  refine zIconst 0 0 2 (by decide +kernel) rfl (by decide) ?_
  refine zAload_n 0 0 3 (by decide +kernel) rfl rfl ?_
  refine gf8_0 11 6 (by decide +kernel) rfl flX8_11 (St_0 S0_) (St_1 S0_) ?_
  refine zIconst 0 0 7 (by decide +kernel) rfl (by decide) ?_
  refine zBipush 9 9 9 (by decide +kernel) rfl (by decide) ?_
  refine yCopy 78 50 9 12 (by decide +kernel) rfl mlX8_78 (Nat.le_of_ble_eq_true rfl) hb (St_2 S0_) (by decide) (by decide) (by decide) (by decide) (by decide) ?_
  replace F := F _ rfl
  generalize zRow I (a + 1) (va_cpy (I b) (I (a + 1)) (0 : Int32).toNatClampNeg (0 : Int32).toNatClampNeg (9 : Int32).toNatClampNeg) = I1 at F ⊢
  refine zAload_n 1 1 13 (by decide +kernel) rfl rfl ?_
  refine zBipush 9 9 15 (by decide +kernel) rfl (by decide) ?_
  refine zAload_n 0 0 16 (by decide +kernel) rfl rfl ?_
  refine gf8_1 15 19 (by decide +kernel) rfl flX8_15 (St_0 S0_) (St_3 S0_) ?_
  refine zIconst 0 0 20 (by decide +kernel) rfl (by decide) ?_
  refine zBipush 9 9 22 (by decide +kernel) rfl (by decide) ?_
  refine yCopy 78 50 9 25 (by decide +kernel) rfl mlX8_78 (Nat.le_of_ble_eq_true rfl) hb (St_4 S0_) (by decide) (by decide) (by decide) (by decide) (by decide) ?_
  replace F := F _ rfl
  generalize zRow I1 (a + 2) (va_cpy (I1 b) (I1 (a + 2)) (9 : Int32).toNatClampNeg (0 : Int32).toNatClampNeg (9 : Int32).toNatClampNeg) = I2 at F ⊢
  refine zAload_n 1 1 26 (by decide +kernel) rfl rfl ?_
  refine zBipush 18 18 28 (by decide +kernel) rfl (by decide) ?_
  refine zAload_n 0 0 29 (by decide +kernel) rfl rfl ?_
  refine gf8_2 18 32 (by decide +kernel) rfl flX8_18 (St_0 S0_) (St_5 S0_) ?_
  refine zIconst 0 0 33 (by decide +kernel) rfl (by decide) ?_
  refine zBipush 9 9 35 (by decide +kernel) rfl (by decide) ?_
  refine yCopy 78 50 9 38 (by decide +kernel) rfl mlX8_78 (Nat.le_of_ble_eq_true rfl) hb (St_6 S0_) (by decide) (by decide) (by decide) (by decide) (by decide) ?_
  replace F := F _ rfl
  generalize zRow I2 (a + 3) (va_cpy (I2 b) (I2 (a + 3)) (18 : Int32).toNatClampNeg (0 : Int32).toNatClampNeg (9 : Int32).toNatClampNeg) = I3 at F ⊢
  refine zAload_n 1 1 39 (by decide +kernel) rfl rfl ?_
  refine zBipush 27 27 41 (by decide +kernel) rfl (by decide) ?_
  refine zAload_n 0 0 42 (by decide +kernel) rfl rfl ?_
  refine gf8_3 21 45 (by decide +kernel) rfl flX8_21 (St_0 S0_) (St_7 S0_) ?_
  refine zIconst 0 0 46 (by decide +kernel) rfl (by decide) ?_
  refine zBipush 6 6 48 (by decide +kernel) rfl (by decide) ?_
  refine yCopy 78 50 6 51 (by decide +kernel) rfl mlX8_78 (Nat.le_of_ble_eq_true rfl) hb (St_8 S0_) (by decide) (by decide) (by decide) (by decide) (by decide) ?_
  replace F := F _ rfl
  generalize zRow I3 (a + 4) (va_cpy (I3 b) (I3 (a + 4)) (27 : Int32).toNatClampNeg (0 : Int32).toNatClampNeg (6 : Int32).toNatClampNeg) = I4 at F ⊢
  refine zAload_n 1 1 52 (by decide +kernel) rfl rfl ?_
  refine zBipush 33 33 54 (by decide +kernel) rfl (by decide) ?_
  refine zAload_n 0 0 55 (by decide +kernel) rfl rfl ?_
  refine gf8_4 24 58 (by decide +kernel) rfl flX8_24 (St_0 S0_) (St_9 S0_) ?_
  refine zIconst 0 0 59 (by decide +kernel) rfl (by decide) ?_
  refine zBipush 6 6 61 (by decide +kernel) rfl (by decide) ?_
  refine yCopy 78 50 6 64 (by decide +kernel) rfl mlX8_78 (Nat.le_of_ble_eq_true rfl) hb (St_10 S0_) (by decide) (by decide) (by decide) (by decide) (by decide) ?_
  replace F := F _ rfl
  generalize zRow I4 (a + 5) (va_cpy (I4 b) (I4 (a + 5)) (33 : Int32).toNatClampNeg (0 : Int32).toNatClampNeg (6 : Int32).toNatClampNeg) = I5 at F ⊢
  refine zAload_n 1 1 65 (by decide +kernel) rfl rfl ?_
  refine zBipush 39 39 67 (by decide +kernel) rfl (by decide) ?_
  refine zAload_n 0 0 68 (by decide +kernel) rfl rfl ?_
  refine gf8_5 27 71 (by decide +kernel) rfl flX8_27 (St_0 S0_) (St_11 S0_) ?_
  refine zIconst 0 0 72 (by decide +kernel) rfl (by decide) ?_
  refine zBipush 6 6 74 (by decide +kernel) rfl (by decide) ?_
  refine yCopy 78 50 6 77 (by decide +kernel) rfl mlX8_78 (Nat.le_of_ble_eq_true rfl) hb (St_12 S0_) (by decide) (by decide) (by decide) (by decide) (by decide) ?_
  replace F := F _ rfl
  generalize zRow I5 (a + 6) (va_cpy (I5 b) (I5 (a + 6)) (39 : Int32).toNatClampNeg (0 : Int32).toNatClampNeg (6 : Int32).toNatClampNeg) = I6 at F ⊢
  refine zAload_n 0 0 78 (by decide +kernel) rfl rfl ?_
  refine zAload_n 1 1 79 (by decide +kernel) rfl rfl ?_
  refine zBipush 45 45 81 (by decide +kernel) rfl (by decide) ?_
  obtain ⟨w7, F⟩ := F
  refine yIaload 50 82 (by decide +kernel) rfl hb (w7) ?_
  refine pf8_6 30 85 (by decide +kernel) rfl flX8_30 (St_0 S0_) ?_
  replace F := F _ rfl
  generalize zU I6 a 6 (I6 b (45 : Int32).toNatClampNeg) = I8 at F ⊢
  refine zAload_n 0 0 86 (by decide +kernel) rfl rfl ?_
  refine zAload_n 1 1 87 (by decide +kernel) rfl rfl ?_
  refine zBipush 46 46 89 (by decide +kernel) rfl (by decide) ?_
  obtain ⟨w9, F⟩ := F
  refine yIaload 50 90 (by decide +kernel) rfl hb (w9) ?_
  refine pf8_7 34 93 (by decide +kernel) rfl flX8_34 (St_0 S0_) ?_
  replace F := F _ rfl
  generalize zU I8 a 7 (I8 b (46 : Int32).toNatClampNeg) = I10 at F ⊢
  refine zAload_n 0 0 94 (by decide +kernel) rfl rfl ?_
  refine zAload_n 1 1 95 (by decide +kernel) rfl rfl ?_
  refine zBipush 47 47 97 (by decide +kernel) rfl (by decide) ?_
  obtain ⟨w11, F⟩ := F
  refine yIaload 50 98 (by decide +kernel) rfl hb (w11) ?_
  refine pf8_8 37 101 (by decide +kernel) rfl flX8_37 (St_0 S0_) ?_
  replace F := F _ rfl
  generalize zU I10 a 8 (I10 b (47 : Int32).toNatClampNeg) = I12 at F ⊢
  refine zAload_n 0 0 102 (by decide +kernel) rfl rfl ?_
  refine zAload_n 1 1 103 (by decide +kernel) rfl rfl ?_
  refine zBipush 48 48 105 (by decide +kernel) rfl (by decide) ?_
  obtain ⟨w13, F⟩ := F
  refine yIaload 50 106 (by decide +kernel) rfl hb (w13) ?_
  refine pf8_9 40 109 (by decide +kernel) rfl flX8_40 (St_0 S0_) ?_
  replace F := F _ rfl
  generalize zU I12 a 9 (I12 b (48 : Int32).toNatClampNeg) = I14 at F ⊢
  refine zAload_n 0 0 110 (by decide +kernel) rfl rfl ?_
  refine zAload_n 1 1 111 (by decide +kernel) rfl rfl ?_
  refine zBipush 49 49 113 (by decide +kernel) rfl (by decide) ?_
  obtain ⟨w15, F⟩ := F
  refine yIaload 50 114 (by decide +kernel) rfl hb (w15) ?_
  refine pf8_10 43 117 (by decide +kernel) rfl flX8_43 (St_0 S0_) ?_
  replace F := F _ rfl
  generalize zU I14 a 10 (I14 b (49 : Int32).toNatClampNeg) = I16 at F ⊢
  exact zVret rfl (by decide +kernel) F
set_option maxHeartbeats 2000000 in
theorem wX8_copyFrom_0 {G : zG} {d kc ks : Nat} {I : Nat → Nat → Int32} {J : Nat → Nat → Int64} {R : Nat → Nat → Option Nat} {K : Nat → Nat × Nat} {n : Nat} {Q : Option Value → zH → Prop} (a s v b : Nat) (S0_ : hSt G R K n a s v) (S1_ : hSt G R K n b s v) (F : zC G d mX8_keep 0 0 [.ref (b), .ref (a + 7)] (I, J, R, K, n) (fun r h => ∃ (I1 : Nat → Nat → Int32), r = none ∧ h = (I1, J, R, K, n) ∧ zC G d mX8_recall 0 0 [.ref (a), .ref (a + 7)] (I1, J, R, K, n) (fun r h => ∃ (I2 : Nat → Nat → Int32), r = none ∧ h = (I2, J, R, K, n) ∧ Q none (I2, J, R, K, n)))) : zV G (d + 1) mX8_copyFrom kc ks 0 [(0, .ref (a)), (1, .ref (b))] [] (I, J, R, K, n) Q := by
  refine zAload_n 1 1 1 (by decide +kernel) rfl rfl ?_
  refine zAload_n 0 0 2 (by decide +kernel) rfl rfl ?_
  refine gf8_13 49 5 (by decide +kernel) rfl flX8_49 (St_0 S0_) (St_15 S0_) ?_
  refine zCallV 8 zcls8 mX8_keep 84 1 0 0 _ _ 8 [.ref (a + 7)] [] okX8_keep mlX8_84 imX8_keep seX8_keep (by decide +kernel) rfl rfl (Nat.le_of_ble_eq_true rfl) rfl rfl (St_0 S1_) (zC.mono F ?_)
  rintro _ _ ⟨I1, rfl, rfl, F⟩
  change zV G (d + 1) mX8_copyFrom kc ks 8 [(0, .ref (a)), (1, .ref (b))] [] (I1, J, R, K, n) Q
  refine zAload_n 0 0 9 (by decide +kernel) rfl rfl ?_
  refine zAload_n 0 0 10 (by decide +kernel) rfl rfl ?_
  refine gf8_13 49 13 (by decide +kernel) rfl flX8_49 (St_0 S0_) (St_15 S0_) ?_
  refine zCallV 8 zcls8 mX8_recall 88 1 0 0 _ _ 16 [.ref (a + 7)] [] okX8_recall mlX8_88 imX8_recall seX8_recall (by decide +kernel) rfl rfl (Nat.le_of_ble_eq_true rfl) rfl rfl (St_0 S0_) (zC.mono F ?_)
  rintro _ _ ⟨I2, rfl, rfl, F⟩
  change zV G (d + 1) mX8_copyFrom kc ks 16 [(0, .ref (a)), (1, .ref (b))] [] (I2, J, R, K, n) Q
  exact zVret rfl (by decide +kernel) F
set_option maxHeartbeats 2000000 in
theorem wX8_isOpen_0 {G : zG} {d kc ks : Nat} {I : Nat → Nat → Int32} {J : Nat → Nat → Int64} {R : Nat → Nat → Option Nat} {K : Nat → Nat × Nat} {n : Nat} {Q : Option Value → zH → Prop} (a s v : Nat) (S0_ : hSt G R K n a s v) (p1 : Int32) (F : (((¬ (p1 < 0)) → (¬ (9 ≤ p1)) → vp_in p1 9) ∧ Q (some (.int ((if p1 < 0 then 0 else (if 9 ≤ p1 then 0 else (if (I (a + 3) p1.toNatClampNeg : Int32) ≤ 0 then 0 else 1)))))) (I, J, R, K, n))) : zV G (d + 1) mX8_isOpen kc ks 0 [(0, .ref (a)), (1, .int (p1))] [] (I, J, R, K, n) Q := by
  refine zIload_n 1 1 1 (by decide +kernel) rfl rfl ?_
  obtain ⟨w3, F⟩ := F
  suffices KK : zV G (d + 1) mX8_isOpen kc ks 24 [(0, .ref (a)), (1, .int (p1))] [.int ((if p1 < 0 then 0 else (if 9 ≤ p1 then 0 else (if (I (a + 3) p1.toNatClampNeg : Int32) ≤ 0 then 0 else 1))))] (I, J, R, K, n) Q by
    refine zIf_lt 22 23 4 (by decide +kernel) rfl rfl ⟨fun q1 => ?_, fun q1 => ?_⟩
    · refine zIconst 0 0 24 (by decide +kernel) rfl (by decide) ?_
      exact zTop (by rw [if_pos q1]) KK
    · refine zIload_n 1 1 5 (by decide +kernel) rfl rfl ?_
      refine zBipush 9 9 7 (by decide +kernel) rfl (by decide) ?_
      refine zIcmp_ge 16 23 10 (by decide +kernel) rfl rfl ⟨fun q2 => ?_, fun q2 => ?_⟩
      · refine zIconst 0 0 24 (by decide +kernel) rfl (by decide) ?_
        exact zTop (by rw [if_neg q1, if_pos q2]) KK
      · refine zAload_n 0 0 11 (by decide +kernel) rfl rfl ?_
        refine gf8_2 18 14 (by decide +kernel) rfl flX8_18 (St_0 S0_) (St_5 S0_) ?_
        refine zIload_n 1 1 15 (by decide +kernel) rfl rfl ?_
        refine yIaload 9 16 (by decide +kernel) rfl (St_6 S0_) (w3 q1 q2) ?_
        refine zIf_le 7 23 19 (by decide +kernel) rfl rfl ⟨fun q4 => ?_, fun q4 => ?_⟩
        · refine zIconst 0 0 24 (by decide +kernel) rfl (by decide) ?_
          exact zTop (by rw [if_neg q1, if_neg q2, if_pos q4]) KK
        · refine zIconst 1 1 20 (by decide +kernel) rfl (by decide) ?_
          refine zGoto 4 24 (by decide +kernel) rfl ?_
          exact zTop (by rw [if_neg q1, if_neg q2, if_neg q4]) KK
  exact zZret .boolean rfl (zNarZ (zOrIte (Or.inl rfl) (zOrIte (Or.inl rfl) (zOrIte (Or.inl rfl) (Or.inr rfl))))) (by decide +kernel) F
set_option maxHeartbeats 2000000 in
theorem wX8_whiteYards_0 {G : zG} {d kc ks : Nat} {I : Nat → Nat → Int32} {J : Nat → Nat → Int64} {R : Nat → Nat → Option Nat} {K : Nat → Nat × Nat} {n : Nat} {Q : Option Value → zH → Prop} (a s v : Nat) (S0_ : hSt G R K n a s v) (p1 : Int32) (F : ((vp_in p1 6) ∧ ((vp_in p1 6) ∧ Q (some (.int ((I (a + 4) p1.toNatClampNeg) + (I (a + 5) p1.toNatClampNeg)))) (I, J, R, K, n)))) : zV G (d + 1) mX8_whiteYards kc ks 0 [(0, .ref (a)), (1, .int (p1))] [] (I, J, R, K, n) Q := by
  refine zAload_n 0 0 1 (by decide +kernel) rfl rfl ?_
  refine gf8_3 21 4 (by decide +kernel) rfl flX8_21 (St_0 S0_) (St_7 S0_) ?_
  refine zIload_n 1 1 5 (by decide +kernel) rfl rfl ?_
  obtain ⟨w1, F⟩ := F
  refine yIaload 6 6 (by decide +kernel) rfl (St_8 S0_) (w1) ?_
  refine zAload_n 0 0 7 (by decide +kernel) rfl rfl ?_
  refine gf8_4 24 10 (by decide +kernel) rfl flX8_24 (St_0 S0_) (St_9 S0_) ?_
  refine zIload_n 1 1 11 (by decide +kernel) rfl rfl ?_
  obtain ⟨w2, F⟩ := F
  refine yIaload 6 12 (by decide +kernel) rfl (St_10 S0_) (w2) ?_
  refine zIadd 13 (by decide +kernel) rfl ?_
  exact zIret rfl (by decide +kernel) F
set_option maxHeartbeats 2000000 in
theorem wX8_bare_0 {G : zG} {d kc ks : Nat} {I : Nat → Nat → Int32} {J : Nat → Nat → Int64} {R : Nat → Nat → Option Nat} {K : Nat → Nat × Nat} {n : Nat} {Q : Option Value → zH → Prop} (a s v : Nat) (S0_ : hSt G R K n a s v) (p1 : Int32) (F : ((vp_in p1 6) ∧ zC G d mX8_whiteYards 0 0 [.ref (a), .int (p1)] (I, J, R, K, n) (fun r h => ∃ (x2 : Int32) (I3 : Nat → Nat → Int32), r = some (.int x2) ∧ h = (I3, J, R, K, n) ∧ Q (some (.int ((I (v + 1) p1.toNatClampNeg) - x2))) (I3, J, R, K, n)))) : zV G (d + 1) mX8_bare kc ks 0 [(0, .ref (a)), (1, .int (p1))] [] (I, J, R, K, n) Q := by
  refine zAload_n 0 0 1 (by decide +kernel) rfl rfl ?_
  refine gf8_12 52 4 (by decide +kernel) rfl flX8_52 (St_0 S0_) (St_13 S0_) ?_
  refine gf5_0 56 7 (by decide +kernel) rfl flX8_56 (Set_0 (St_14 S0_)) (Set_1 (St_14 S0_)) ?_
  refine gf10_0 91 10 (by decide +kernel) rfl flX8_91 (Vil_0 (Set_2 (St_14 S0_))) (Vil_1 (Set_2 (St_14 S0_))) ?_
  refine zIload_n 1 1 11 (by decide +kernel) rfl rfl ?_
  obtain ⟨w1, F⟩ := F
  refine yIaload 6 12 (by decide +kernel) rfl (Vil_2 (Set_2 (St_14 S0_))) (w1) ?_
  refine zAload_n 0 0 13 (by decide +kernel) rfl rfl ?_
  refine zIload_n 1 1 14 (by decide +kernel) rfl rfl ?_
  refine zCallV 8 zcls8 mX8_whiteYards 94 1 0 0 _ _ 17 [.int (p1)] [.int (I (v + 1) p1.toNatClampNeg)] okX8_whiteYards mlX8_94 imX8_whiteYards seX8_whiteYards (by decide +kernel) rfl rfl (Nat.le_of_ble_eq_true rfl) rfl rfl (St_0 S0_) (zC.mono F ?_)
  rintro _ _ ⟨x2, I3, rfl, rfl, F⟩
  change zV G (d + 1) mX8_bare kc ks 17 [(0, .ref (a)), (1, .int (p1))] [.int (x2), .int (I (v + 1) p1.toNatClampNeg)] (I3, J, R, K, n) Q
  refine zIsub 18 (by decide +kernel) rfl ?_
  exact zIret rfl (by decide +kernel) F
set_option maxHeartbeats 2000000 in
theorem wX8_bareInAll_0 {G : zG} {d kc ks : Nat} {I : Nat → Nat → Int32} {J : Nat → Nat → Int64} {R : Nat → Nat → Option Nat} {K : Nat → Nat × Nat} {n : Nat} {Q : Option Value → zH → Prop} (a s v : Nat) (S0_ : hSt G R K n a s v) (F : zV G (d + 1) mX8_bareInAll kc ks 4 [(0, .ref (a)), (1, .int (0)), (2, .int (0))] [] (I, J, R, K, n) Q) : zV G (d + 1) mX8_bareInAll kc ks 0 [(0, .ref (a))] [] (I, J, R, K, n) Q := by
  refine zIconst 0 0 1 (by decide +kernel) rfl (by decide) ?_
  refine zIstore_n 1 [(1, .int (0)), (0, .ref (a))] 2 (by decide +kernel) rfl (by decide) rfl ?_
  refine zIconst 0 0 3 (by decide +kernel) rfl (by decide) ?_
  refine zIstore_n 2 [(2, .int (0)), (1, .int (0)), (0, .ref (a))] 4 (by decide +kernel) rfl (by decide) rfl ?_
  exact zLoc [2, 1, 0] _ rfl F
set_option maxHeartbeats 2000000 in
theorem wX8_bareInAll_4 {G : zG} {d kc ks : Nat} {I : Nat → Nat → Int32} {J : Nat → Nat → Int64} {R : Nat → Nat → Option Nat} {K : Nat → Nat × Nat} {n : Nat} {Q : Option Value → zH → Prop} (a s v : Nat) (S0_ : hSt G R K n a s v) (l1 l2 : Int32) (F : (((I v 5 : Int32) ≤ l2 → Q (some (.int (l1))) (I, J, R, K, n)) ∧ (¬ ((I v 5 : Int32) ≤ l2) → zC G d mX8_bare 0 0 [.ref (a), .int (l2)] (I, J, R, K, n) (fun r h => ∃ (x2 : Int32) (I3 : Nat → Nat → Int32), r = some (.int x2) ∧ h = (I3, J, R, K, n) ∧ zV G (d + 1) mX8_bareInAll kc ks 4 [(0, .ref (a)), (1, .int (l1 + x2)), (2, .int (l2 + 1))] [] (I3, J, R, K, n) Q)))) : zV G (d + 1) mX8_bareInAll kc ks 4 [(0, .ref (a)), (1, .int (l1)), (2, .int (l2))] [] (I, J, R, K, n) Q := by
  refine zIload_n 2 2 5 (by decide +kernel) rfl rfl ?_
  refine zAload_n 0 0 6 (by decide +kernel) rfl rfl ?_
  refine gf8_12 52 9 (by decide +kernel) rfl flX8_52 (St_0 S0_) (St_13 S0_) ?_
  refine gf5_0 56 12 (by decide +kernel) rfl flX8_56 (Set_0 (St_14 S0_)) (Set_1 (St_14 S0_)) ?_
  refine gf10_5 98 15 (by decide +kernel) rfl flX8_98 (Vil_0 (Set_2 (St_14 S0_))) ?_
  refine zIcmp_ge 17 32 18 (by decide +kernel) rfl rfl ⟨fun q1 => ?_, fun q1 => ?_⟩
  · replace F := F.1 q1
    refine zIload_n 1 1 33 (by decide +kernel) rfl rfl ?_
    exact zIret rfl (by decide +kernel) F
  · replace F := F.2 q1
    refine zIload_n 1 1 19 (by decide +kernel) rfl rfl ?_
    refine zAload_n 0 0 20 (by decide +kernel) rfl rfl ?_
    refine zIload_n 2 2 21 (by decide +kernel) rfl rfl ?_
    refine zCallV 8 zcls8 mX8_bare 101 1 0 0 _ _ 24 [.int (l2)] [.int (l1)] okX8_bare mlX8_101 imX8_bare seX8_bare (by decide +kernel) rfl rfl (Nat.le_of_ble_eq_true rfl) rfl rfl (St_0 S0_) (zC.mono F ?_)
    rintro _ _ ⟨x2, I3, rfl, rfl, F⟩
    change zV G (d + 1) mX8_bareInAll kc ks 24 [(0, .ref (a)), (1, .int (l1)), (2, .int (l2))] [.int (x2), .int (l1)] (I3, J, R, K, n) Q
    refine zIadd 25 (by decide +kernel) rfl ?_
    refine zIstore_n 1 [(1, .int (l1 + x2)), (0, .ref (a)), (2, .int (l2))] 26 (by decide +kernel) rfl (by decide) rfl ?_
    refine zIinc 2 1 2 (l2 + 1) [(2, .int (l2 + 1)), (1, .int (l1 + x2)), (0, .ref (a))] 29 (by decide +kernel) rfl rfl (by rfl) (by decide) rfl ?_
    refine zGoto (-25) 4 (by decide +kernel) rfl ?_
    exact zLoc [2, 1, 0] _ rfl F
set_option maxHeartbeats 2000000 in
theorem wX8_whites_0 {G : zG} {d kc ks : Nat} {I : Nat → Nat → Int32} {J : Nat → Nat → Int64} {R : Nat → Nat → Option Nat} {K : Nat → Nat × Nat} {n : Nat} {Q : Option Value → zH → Prop} (a s v : Nat) (S0_ : hSt G R K n a s v) (F : zV G (d + 1) mX8_whites kc ks 4 [(0, .ref (a)), (1, .int (0)), (2, .int (0))] [] (I, J, R, K, n) Q) : zV G (d + 1) mX8_whites kc ks 0 [(0, .ref (a))] [] (I, J, R, K, n) Q := by
  refine zIconst 0 0 1 (by decide +kernel) rfl (by decide) ?_
  refine zIstore_n 1 [(1, .int (0)), (0, .ref (a))] 2 (by decide +kernel) rfl (by decide) rfl ?_
  refine zIconst 0 0 3 (by decide +kernel) rfl (by decide) ?_
  refine zIstore_n 2 [(2, .int (0)), (1, .int (0)), (0, .ref (a))] 4 (by decide +kernel) rfl (by decide) rfl ?_
  exact zLoc [2, 1, 0] _ rfl F
set_option maxHeartbeats 2000000 in
theorem wX8_whites_4 {G : zG} {d kc ks : Nat} {I : Nat → Nat → Int32} {J : Nat → Nat → Int64} {R : Nat → Nat → Option Nat} {K : Nat → Nat × Nat} {n : Nat} {Q : Option Value → zH → Prop} (a s v : Nat) (S0_ : hSt G R K n a s v) (l1 l2 : Int32) (F : (((I v 5 : Int32) ≤ l2 → Q (some (.int (l1))) (I, J, R, K, n)) ∧ (¬ ((I v 5 : Int32) ≤ l2) → zC G d mX8_bare 0 0 [.ref (a), .int (l2)] (I, J, R, K, n) (fun r h => ∃ (x2 : Int32) (I3 : Nat → Nat → Int32), r = some (.int x2) ∧ h = (I3, J, R, K, n) ∧ zV G (d + 1) mX8_whites kc ks 4 [(0, .ref (a)), (1, .int (l1 ||| (if x2 = 0 then (1 : Int32) <<< (l2 &&& 31) else 0))), (2, .int (l2 + 1))] [] (I3, J, R, K, n) Q)))) : zV G (d + 1) mX8_whites kc ks 4 [(0, .ref (a)), (1, .int (l1)), (2, .int (l2))] [] (I, J, R, K, n) Q := by
  refine zIload_n 2 2 5 (by decide +kernel) rfl rfl ?_
  refine zAload_n 0 0 6 (by decide +kernel) rfl rfl ?_
  refine gf8_12 52 9 (by decide +kernel) rfl flX8_52 (St_0 S0_) (St_13 S0_) ?_
  refine gf5_0 56 12 (by decide +kernel) rfl flX8_56 (Set_0 (St_14 S0_)) (Set_1 (St_14 S0_)) ?_
  refine gf10_5 98 15 (by decide +kernel) rfl flX8_98 (Vil_0 (Set_2 (St_14 S0_))) ?_
  refine zIcmp_ge 27 42 18 (by decide +kernel) rfl rfl ⟨fun q1 => ?_, fun q1 => ?_⟩
  · replace F := F.1 q1
    refine zIload_n 1 1 43 (by decide +kernel) rfl rfl ?_
    exact zIret rfl (by decide +kernel) F
  · replace F := F.2 q1
    refine zIload_n 1 1 19 (by decide +kernel) rfl rfl ?_
    refine zAload_n 0 0 20 (by decide +kernel) rfl rfl ?_
    refine zIload_n 2 2 21 (by decide +kernel) rfl rfl ?_
    refine zCallV 8 zcls8 mX8_bare 101 1 0 0 _ _ 24 [.int (l2)] [.int (l1)] okX8_bare mlX8_101 imX8_bare seX8_bare (by decide +kernel) rfl rfl (Nat.le_of_ble_eq_true rfl) rfl rfl (St_0 S0_) (zC.mono F ?_)
    rintro _ _ ⟨x2, I3, rfl, rfl, F⟩
    change zV G (d + 1) mX8_whites kc ks 24 [(0, .ref (a)), (1, .int (l1)), (2, .int (l2))] [.int (x2), .int (l1)] (I3, J, R, K, n) Q
    suffices KK : zV G (d + 1) mX8_whites kc ks 34 [(0, .ref (a)), (1, .int (l1)), (2, .int (l2))] [.int ((if x2 = 0 then (1 : Int32) <<< (l2 &&& 31) else 0)), .int (l1)] (I3, J, R, K, n) Q by
      refine zIf_ne 9 33 27 (by decide +kernel) rfl rfl ⟨fun q4 => ?_, fun q4 => ?_⟩
      · refine zIconst 0 0 34 (by decide +kernel) rfl (by decide) ?_
        exact zTop (by rw [if_neg q4]) KK
      · refine zIconst 1 1 28 (by decide +kernel) rfl (by decide) ?_
        refine zIload_n 2 2 29 (by decide +kernel) rfl rfl ?_
        refine zIshl 30 (by decide +kernel) rfl ?_
        refine zGoto 4 34 (by decide +kernel) rfl ?_
        exact zTop (by rw [if_pos q4]) KK
    refine zIor 35 (by decide +kernel) rfl ?_
    refine zIstore_n 1 [(1, .int (l1 ||| (if x2 = 0 then (1 : Int32) <<< (l2 &&& 31) else 0))), (0, .ref (a)), (2, .int (l2))] 36 (by decide +kernel) rfl (by decide) rfl ?_
    refine zIinc 2 1 2 (l2 + 1) [(2, .int (l2 + 1)), (1, .int (l1 ||| (if x2 = 0 then (1 : Int32) <<< (l2 &&& 31) else 0))), (0, .ref (a))] 39 (by decide +kernel) rfl rfl (by rfl) (by decide) rfl ?_
    refine zGoto (-35) 4 (by decide +kernel) rfl ?_
    exact zLoc [2, 1, 0] _ rfl F
set_option maxHeartbeats 2000000 in
theorem wX8_falseFarms_0 {G : zG} {d kc ks : Nat} {I : Nat → Nat → Int32} {J : Nat → Nat → Int64} {R : Nat → Nat → Option Nat} {K : Nat → Nat × Nat} {n : Nat} {Q : Option Value → zH → Prop} (a s v : Nat) (S0_ : hSt G R K n a s v) (F : zV G (d + 1) mX8_falseFarms kc ks 4 [(0, .ref (a)), (1, .int (0)), (2, .int (0))] [] (I, J, R, K, n) Q) : zV G (d + 1) mX8_falseFarms kc ks 0 [(0, .ref (a))] [] (I, J, R, K, n) Q := by
  refine zIconst 0 0 1 (by decide +kernel) rfl (by decide) ?_
  refine zIstore_n 1 [(1, .int (0)), (0, .ref (a))] 2 (by decide +kernel) rfl (by decide) rfl ?_
  refine zIconst 0 0 3 (by decide +kernel) rfl (by decide) ?_
  refine zIstore_n 2 [(2, .int (0)), (1, .int (0)), (0, .ref (a))] 4 (by decide +kernel) rfl (by decide) rfl ?_
  exact zLoc [2, 1, 0] _ rfl F
set_option maxHeartbeats 2000000 in
theorem wX8_falseFarms_4 {G : zG} {d kc ks : Nat} {I : Nat → Nat → Int32} {J : Nat → Nat → Int64} {R : Nat → Nat → Option Nat} {K : Nat → Nat × Nat} {n : Nat} {Q : Option Value → zH → Prop} (a s v : Nat) (S0_ : hSt G R K n a s v) (l1 l2 : Int32) (F : (((I v 5 : Int32) ≤ l2 → Q (some (.int (l1))) (I, J, R, K, n)) ∧ (¬ ((I v 5 : Int32) ≤ l2) → ((vp_in l2 6) ∧ zV G (d + 1) mX8_falseFarms kc ks 4 [(0, .ref (a)), (1, .int (l1 ||| (if (I (a + 5) l2.toNatClampNeg : Int32) ≤ 0 then 0 else (1 : Int32) <<< (l2 &&& 31)))), (2, .int (l2 + 1))] [] (I, J, R, K, n) Q)))) : zV G (d + 1) mX8_falseFarms kc ks 4 [(0, .ref (a)), (1, .int (l1)), (2, .int (l2))] [] (I, J, R, K, n) Q := by
  refine zIload_n 2 2 5 (by decide +kernel) rfl rfl ?_
  refine zAload_n 0 0 6 (by decide +kernel) rfl rfl ?_
  refine gf8_12 52 9 (by decide +kernel) rfl flX8_52 (St_0 S0_) (St_13 S0_) ?_
  refine gf5_0 56 12 (by decide +kernel) rfl flX8_56 (Set_0 (St_14 S0_)) (Set_1 (St_14 S0_)) ?_
  refine gf10_5 98 15 (by decide +kernel) rfl flX8_98 (Vil_0 (Set_2 (St_14 S0_))) ?_
  refine zIcmp_ge 28 43 18 (by decide +kernel) rfl rfl ⟨fun q1 => ?_, fun q1 => ?_⟩
  · replace F := F.1 q1
    refine zIload_n 1 1 44 (by decide +kernel) rfl rfl ?_
    exact zIret rfl (by decide +kernel) F
  · replace F := F.2 q1
    refine zIload_n 1 1 19 (by decide +kernel) rfl rfl ?_
    refine zAload_n 0 0 20 (by decide +kernel) rfl rfl ?_
    refine gf8_4 24 23 (by decide +kernel) rfl flX8_24 (St_0 S0_) (St_9 S0_) ?_
    refine zIload_n 2 2 24 (by decide +kernel) rfl rfl ?_
    obtain ⟨w2, F⟩ := F
    refine yIaload 6 25 (by decide +kernel) rfl (St_10 S0_) (w2) ?_
    suffices KK : zV G (d + 1) mX8_falseFarms kc ks 35 [(0, .ref (a)), (1, .int (l1)), (2, .int (l2))] [.int ((if (I (a + 5) l2.toNatClampNeg : Int32) ≤ 0 then 0 else (1 : Int32) <<< (l2 &&& 31))), .int (l1)] (I, J, R, K, n) Q by
      refine zIf_le 9 34 28 (by decide +kernel) rfl rfl ⟨fun q3 => ?_, fun q3 => ?_⟩
      · refine zIconst 0 0 35 (by decide +kernel) rfl (by decide) ?_
        exact zTop (by rw [if_pos q3]) KK
      · refine zIconst 1 1 29 (by decide +kernel) rfl (by decide) ?_
        refine zIload_n 2 2 30 (by decide +kernel) rfl rfl ?_
        refine zIshl 31 (by decide +kernel) rfl ?_
        refine zGoto 4 35 (by decide +kernel) rfl ?_
        exact zTop (by rw [if_neg q3]) KK
    refine zIor 36 (by decide +kernel) rfl ?_
    refine zIstore_n 1 [(1, .int (l1 ||| (if (I (a + 5) l2.toNatClampNeg : Int32) ≤ 0 then 0 else (1 : Int32) <<< (l2 &&& 31)))), (0, .ref (a)), (2, .int (l2))] 37 (by decide +kernel) rfl (by decide) rfl ?_
    refine zIinc 2 1 2 (l2 + 1) [(2, .int (l2 + 1)), (1, .int (l1 ||| (if (I (a + 5) l2.toNatClampNeg : Int32) ≤ 0 then 0 else (1 : Int32) <<< (l2 &&& 31)))), (0, .ref (a))] 40 (by decide +kernel) rfl rfl (by rfl) (by decide) rfl ?_
    refine zGoto (-36) 4 (by decide +kernel) rfl ?_
    exact zLoc [2, 1, 0] _ rfl F
set_option maxHeartbeats 2000000 in
theorem wX8_opens_0 {G : zG} {d kc ks : Nat} {I : Nat → Nat → Int32} {J : Nat → Nat → Int64} {R : Nat → Nat → Option Nat} {K : Nat → Nat × Nat} {n : Nat} {Q : Option Value → zH → Prop} (a s v : Nat) (S0_ : hSt G R K n a s v) (F : zV G (d + 1) mX8_opens kc ks 4 [(0, .ref (a)), (1, .int (0)), (2, .int (0))] [] (I, J, R, K, n) Q) : zV G (d + 1) mX8_opens kc ks 0 [(0, .ref (a))] [] (I, J, R, K, n) Q := by
  refine zIconst 0 0 1 (by decide +kernel) rfl (by decide) ?_
  refine zIstore_n 1 [(1, .int (0)), (0, .ref (a))] 2 (by decide +kernel) rfl (by decide) rfl ?_
  refine zIconst 0 0 3 (by decide +kernel) rfl (by decide) ?_
  refine zIstore_n 2 [(2, .int (0)), (1, .int (0)), (0, .ref (a))] 4 (by decide +kernel) rfl (by decide) rfl ?_
  exact zLoc [2, 1, 0] _ rfl F
set_option maxHeartbeats 2000000 in
theorem wX8_opens_4 {G : zG} {d kc ks : Nat} {I : Nat → Nat → Int32} {J : Nat → Nat → Int64} {R : Nat → Nat → Option Nat} {K : Nat → Nat × Nat} {n : Nat} {Q : Option Value → zH → Prop} (a s v : Nat) (S0_ : hSt G R K n a s v) (l1 l2 : Int32) (F : ((9 ≤ l2 → Q (some (.int (l1))) (I, J, R, K, n)) ∧ (¬ (9 ≤ l2) → ((vp_in l2 9) ∧ zV G (d + 1) mX8_opens kc ks 4 [(0, .ref (a)), (1, .int (l1 ||| (if (I (a + 3) l2.toNatClampNeg : Int32) ≤ 0 then 0 else (1 : Int32) <<< (l2 &&& 31)))), (2, .int (l2 + 1))] [] (I, J, R, K, n) Q)))) : zV G (d + 1) mX8_opens kc ks 4 [(0, .ref (a)), (1, .int (l1)), (2, .int (l2))] [] (I, J, R, K, n) Q := by
  refine zIload_n 2 2 5 (by decide +kernel) rfl rfl ?_
  refine zBipush 9 9 7 (by decide +kernel) rfl (by decide) ?_
  refine zIcmp_ge 28 35 10 (by decide +kernel) rfl rfl ⟨fun q1 => ?_, fun q1 => ?_⟩
  · replace F := F.1 q1
    refine zIload_n 1 1 36 (by decide +kernel) rfl rfl ?_
    exact zIret rfl (by decide +kernel) F
  · replace F := F.2 q1
    refine zIload_n 1 1 11 (by decide +kernel) rfl rfl ?_
    refine zAload_n 0 0 12 (by decide +kernel) rfl rfl ?_
    refine gf8_2 18 15 (by decide +kernel) rfl flX8_18 (St_0 S0_) (St_5 S0_) ?_
    refine zIload_n 2 2 16 (by decide +kernel) rfl rfl ?_
    obtain ⟨w2, F⟩ := F
    refine yIaload 9 17 (by decide +kernel) rfl (St_6 S0_) (w2) ?_
    suffices KK : zV G (d + 1) mX8_opens kc ks 27 [(0, .ref (a)), (1, .int (l1)), (2, .int (l2))] [.int ((if (I (a + 3) l2.toNatClampNeg : Int32) ≤ 0 then 0 else (1 : Int32) <<< (l2 &&& 31))), .int (l1)] (I, J, R, K, n) Q by
      refine zIf_le 9 26 20 (by decide +kernel) rfl rfl ⟨fun q3 => ?_, fun q3 => ?_⟩
      · refine zIconst 0 0 27 (by decide +kernel) rfl (by decide) ?_
        exact zTop (by rw [if_pos q3]) KK
      · refine zIconst 1 1 21 (by decide +kernel) rfl (by decide) ?_
        refine zIload_n 2 2 22 (by decide +kernel) rfl rfl ?_
        refine zIshl 23 (by decide +kernel) rfl ?_
        refine zGoto 4 27 (by decide +kernel) rfl ?_
        exact zTop (by rw [if_neg q3]) KK
    refine zIor 28 (by decide +kernel) rfl ?_
    refine zIstore_n 1 [(1, .int (l1 ||| (if (I (a + 3) l2.toNatClampNeg : Int32) ≤ 0 then 0 else (1 : Int32) <<< (l2 &&& 31)))), (0, .ref (a)), (2, .int (l2))] 29 (by decide +kernel) rfl (by decide) rfl ?_
    refine zIinc 2 1 2 (l2 + 1) [(2, .int (l2 + 1)), (1, .int (l1 ||| (if (I (a + 3) l2.toNatClampNeg : Int32) ≤ 0 then 0 else (1 : Int32) <<< (l2 &&& 31)))), (0, .ref (a))] 32 (by decide +kernel) rfl rfl (by rfl) (by decide) rfl ?_
    refine zGoto (-28) 4 (by decide +kernel) rfl ?_
    exact zLoc [2, 1, 0] _ rfl F
set_option maxHeartbeats 2000000 in
theorem wX8_doneBy_0 {G : zG} {d kc ks : Nat} {I : Nat → Nat → Int32} {J : Nat → Nat → Int64} {R : Nat → Nat → Option Nat} {K : Nat → Nat × Nat} {n : Nat} {Q : Option Value → zH → Prop} (a s v : Nat) (S0_ : hSt G R K n a s v) (p1 : Int32) (F : zV G (d + 1) mX8_doneBy kc ks 4 [(0, .ref (a)), (1, .int (p1)), (2, .int (0)), (3, .int (0))] [] (I, J, R, K, n) Q) : zV G (d + 1) mX8_doneBy kc ks 0 [(0, .ref (a)), (1, .int (p1))] [] (I, J, R, K, n) Q := by
  refine zIconst 0 0 1 (by decide +kernel) rfl (by decide) ?_
  refine zIstore_n 2 [(2, .int (0)), (0, .ref (a)), (1, .int (p1))] 2 (by decide +kernel) rfl (by decide) rfl ?_
  refine zIconst 0 0 3 (by decide +kernel) rfl (by decide) ?_
  refine zIstore_n 3 [(3, .int (0)), (2, .int (0)), (0, .ref (a)), (1, .int (p1))] 4 (by decide +kernel) rfl (by decide) rfl ?_
  exact zLoc [2, 3, 1, 0] _ rfl F
set_option maxHeartbeats 2000000 in
theorem wX8_doneBy_4 {G : zG} {d kc ks : Nat} {I : Nat → Nat → Int32} {J : Nat → Nat → Int64} {R : Nat → Nat → Option Nat} {K : Nat → Nat × Nat} {n : Nat} {Q : Option Value → zH → Prop} (a s v : Nat) (S0_ : hSt G R K n a s v) (l1 l2 l3 : Int32) (F : ((9 ≤ l3 → Q (some (.int (l2))) (I, J, R, K, n)) ∧ (¬ (9 ≤ l3) → ((vp_in l3 9) ∧ (((¬ ((I (a + 3) l3.toNatClampNeg : Int32) ≤ 0)) → vp_in l3 9) ∧ zV G (d + 1) mX8_doneBy kc ks 4 [(0, .ref (a)), (1, .int (l1)), (2, .int (l2 ||| (if (I (a + 3) l3.toNatClampNeg : Int32) ≤ 0 then 0 else (if (I (a + 1) l3.toNatClampNeg : Int32) = l1 then (1 : Int32) <<< (l3 &&& 31) else 0)))), (3, .int (l3 + 1))] [] (I, J, R, K, n) Q))))) : zV G (d + 1) mX8_doneBy kc ks 4 [(0, .ref (a)), (1, .int (l1)), (2, .int (l2)), (3, .int (l3))] [] (I, J, R, K, n) Q := by
  refine zIload_n 3 3 5 (by decide +kernel) rfl rfl ?_
  refine zBipush 9 9 7 (by decide +kernel) rfl (by decide) ?_
  refine zIcmp_ge 38 45 10 (by decide +kernel) rfl rfl ⟨fun q1 => ?_, fun q1 => ?_⟩
  · replace F := F.1 q1
    refine zIload_n 2 2 46 (by decide +kernel) rfl rfl ?_
    exact zIret rfl (by decide +kernel) F
  · replace F := F.2 q1
    refine zIload_n 2 2 11 (by decide +kernel) rfl rfl ?_
    refine zAload_n 0 0 12 (by decide +kernel) rfl rfl ?_
    refine gf8_2 18 15 (by decide +kernel) rfl flX8_18 (St_0 S0_) (St_5 S0_) ?_
    refine zIload_n 3 3 16 (by decide +kernel) rfl rfl ?_
    obtain ⟨w2, F⟩ := F
    refine yIaload 9 17 (by decide +kernel) rfl (St_6 S0_) (w2) ?_
    obtain ⟨w4, F⟩ := F
    suffices KK : zV G (d + 1) mX8_doneBy kc ks 37 [(0, .ref (a)), (1, .int (l1)), (2, .int (l2)), (3, .int (l3))] [.int ((if (I (a + 3) l3.toNatClampNeg : Int32) ≤ 0 then 0 else (if (I (a + 1) l3.toNatClampNeg : Int32) = l1 then (1 : Int32) <<< (l3 &&& 31) else 0))), .int (l2)] (I, J, R, K, n) Q by
      refine zIf_le 19 36 20 (by decide +kernel) rfl rfl ⟨fun q3 => ?_, fun q3 => ?_⟩
      · refine zIconst 0 0 37 (by decide +kernel) rfl (by decide) ?_
        exact zTop (by rw [if_pos q3]) KK
      · refine zAload_n 0 0 21 (by decide +kernel) rfl rfl ?_
        refine gf8_0 11 24 (by decide +kernel) rfl flX8_11 (St_0 S0_) (St_1 S0_) ?_
        refine zIload_n 3 3 25 (by decide +kernel) rfl rfl ?_
        refine yIaload 9 26 (by decide +kernel) rfl (St_2 S0_) (w4 q3) ?_
        refine zIload_n 1 1 27 (by decide +kernel) rfl rfl ?_
        refine zIcmp_ne 9 36 30 (by decide +kernel) rfl rfl ⟨fun q5 => ?_, fun q5 => ?_⟩
        · refine zIconst 0 0 37 (by decide +kernel) rfl (by decide) ?_
          exact zTop (by rw [if_neg q3, if_neg q5]) KK
        · refine zIconst 1 1 31 (by decide +kernel) rfl (by decide) ?_
          refine zIload_n 3 3 32 (by decide +kernel) rfl rfl ?_
          refine zIshl 33 (by decide +kernel) rfl ?_
          refine zGoto 4 37 (by decide +kernel) rfl ?_
          exact zTop (by rw [if_neg q3, if_pos q5]) KK
    refine zIor 38 (by decide +kernel) rfl ?_
    refine zIstore_n 2 [(2, .int (l2 ||| (if (I (a + 3) l3.toNatClampNeg : Int32) ≤ 0 then 0 else (if (I (a + 1) l3.toNatClampNeg : Int32) = l1 then (1 : Int32) <<< (l3 &&& 31) else 0)))), (0, .ref (a)), (1, .int (l1)), (3, .int (l3))] 39 (by decide +kernel) rfl (by decide) rfl ?_
    refine zIinc 3 1 3 (l3 + 1) [(3, .int (l3 + 1)), (2, .int (l2 ||| (if (I (a + 3) l3.toNatClampNeg : Int32) ≤ 0 then 0 else (if (I (a + 1) l3.toNatClampNeg : Int32) = l1 then (1 : Int32) <<< (l3 &&& 31) else 0)))), (0, .ref (a)), (1, .int (l1))] 42 (by decide +kernel) rfl rfl (by rfl) (by decide) rfl ?_
    refine zGoto (-38) 4 (by decide +kernel) rfl ?_
    exact zLoc [2, 3, 1, 0] _ rfl F
set_option maxHeartbeats 2000000 in
theorem wX8_doneTo_0 {G : zG} {d kc ks : Nat} {I : Nat → Nat → Int32} {J : Nat → Nat → Int64} {R : Nat → Nat → Option Nat} {K : Nat → Nat × Nat} {n : Nat} {Q : Option Value → zH → Prop} (a s v : Nat) (S0_ : hSt G R K n a s v) (p1 : Int32) (F : zV G (d + 1) mX8_doneTo kc ks 4 [(0, .ref (a)), (1, .int (p1)), (2, .int (0)), (3, .int (0))] [] (I, J, R, K, n) Q) : zV G (d + 1) mX8_doneTo kc ks 0 [(0, .ref (a)), (1, .int (p1))] [] (I, J, R, K, n) Q := by
  refine zIconst 0 0 1 (by decide +kernel) rfl (by decide) ?_
  refine zIstore_n 2 [(2, .int (0)), (0, .ref (a)), (1, .int (p1))] 2 (by decide +kernel) rfl (by decide) rfl ?_
  refine zIconst 0 0 3 (by decide +kernel) rfl (by decide) ?_
  refine zIstore_n 3 [(3, .int (0)), (2, .int (0)), (0, .ref (a)), (1, .int (p1))] 4 (by decide +kernel) rfl (by decide) rfl ?_
  exact zLoc [2, 3, 1, 0] _ rfl F
set_option maxHeartbeats 2000000 in
theorem wX8_doneTo_4 {G : zG} {d kc ks : Nat} {I : Nat → Nat → Int32} {J : Nat → Nat → Int64} {R : Nat → Nat → Option Nat} {K : Nat → Nat × Nat} {n : Nat} {Q : Option Value → zH → Prop} (a s v : Nat) (S0_ : hSt G R K n a s v) (l1 l2 l3 : Int32) (F : ((9 ≤ l3 → Q (some (.int (l2))) (I, J, R, K, n)) ∧ (¬ (9 ≤ l3) → ((vp_in l3 9) ∧ (((¬ ((I (a + 3) l3.toNatClampNeg : Int32) ≤ 0)) → vp_in l3 9) ∧ zV G (d + 1) mX8_doneTo kc ks 4 [(0, .ref (a)), (1, .int (l1)), (2, .int (l2 ||| (if (I (a + 3) l3.toNatClampNeg : Int32) ≤ 0 then 0 else (if (I (a + 2) l3.toNatClampNeg : Int32) = l1 then (1 : Int32) <<< (l3 &&& 31) else 0)))), (3, .int (l3 + 1))] [] (I, J, R, K, n) Q))))) : zV G (d + 1) mX8_doneTo kc ks 4 [(0, .ref (a)), (1, .int (l1)), (2, .int (l2)), (3, .int (l3))] [] (I, J, R, K, n) Q := by
  refine zIload_n 3 3 5 (by decide +kernel) rfl rfl ?_
  refine zBipush 9 9 7 (by decide +kernel) rfl (by decide) ?_
  refine zIcmp_ge 38 45 10 (by decide +kernel) rfl rfl ⟨fun q1 => ?_, fun q1 => ?_⟩
  · replace F := F.1 q1
    refine zIload_n 2 2 46 (by decide +kernel) rfl rfl ?_
    exact zIret rfl (by decide +kernel) F
  · replace F := F.2 q1
    refine zIload_n 2 2 11 (by decide +kernel) rfl rfl ?_
    refine zAload_n 0 0 12 (by decide +kernel) rfl rfl ?_
    refine gf8_2 18 15 (by decide +kernel) rfl flX8_18 (St_0 S0_) (St_5 S0_) ?_
    refine zIload_n 3 3 16 (by decide +kernel) rfl rfl ?_
    obtain ⟨w2, F⟩ := F
    refine yIaload 9 17 (by decide +kernel) rfl (St_6 S0_) (w2) ?_
    obtain ⟨w4, F⟩ := F
    suffices KK : zV G (d + 1) mX8_doneTo kc ks 37 [(0, .ref (a)), (1, .int (l1)), (2, .int (l2)), (3, .int (l3))] [.int ((if (I (a + 3) l3.toNatClampNeg : Int32) ≤ 0 then 0 else (if (I (a + 2) l3.toNatClampNeg : Int32) = l1 then (1 : Int32) <<< (l3 &&& 31) else 0))), .int (l2)] (I, J, R, K, n) Q by
      refine zIf_le 19 36 20 (by decide +kernel) rfl rfl ⟨fun q3 => ?_, fun q3 => ?_⟩
      · refine zIconst 0 0 37 (by decide +kernel) rfl (by decide) ?_
        exact zTop (by rw [if_pos q3]) KK
      · refine zAload_n 0 0 21 (by decide +kernel) rfl rfl ?_
        refine gf8_1 15 24 (by decide +kernel) rfl flX8_15 (St_0 S0_) (St_3 S0_) ?_
        refine zIload_n 3 3 25 (by decide +kernel) rfl rfl ?_
        refine yIaload 9 26 (by decide +kernel) rfl (St_4 S0_) (w4 q3) ?_
        refine zIload_n 1 1 27 (by decide +kernel) rfl rfl ?_
        refine zIcmp_ne 9 36 30 (by decide +kernel) rfl rfl ⟨fun q5 => ?_, fun q5 => ?_⟩
        · refine zIconst 0 0 37 (by decide +kernel) rfl (by decide) ?_
          exact zTop (by rw [if_neg q3, if_neg q5]) KK
        · refine zIconst 1 1 31 (by decide +kernel) rfl (by decide) ?_
          refine zIload_n 3 3 32 (by decide +kernel) rfl rfl ?_
          refine zIshl 33 (by decide +kernel) rfl ?_
          refine zGoto 4 37 (by decide +kernel) rfl ?_
          exact zTop (by rw [if_neg q3, if_pos q5]) KK
    refine zIor 38 (by decide +kernel) rfl ?_
    refine zIstore_n 2 [(2, .int (l2 ||| (if (I (a + 3) l3.toNatClampNeg : Int32) ≤ 0 then 0 else (if (I (a + 2) l3.toNatClampNeg : Int32) = l1 then (1 : Int32) <<< (l3 &&& 31) else 0)))), (0, .ref (a)), (1, .int (l1)), (3, .int (l3))] 39 (by decide +kernel) rfl (by decide) rfl ?_
    refine zIinc 3 1 3 (l3 + 1) [(3, .int (l3 + 1)), (2, .int (l2 ||| (if (I (a + 3) l3.toNatClampNeg : Int32) ≤ 0 then 0 else (if (I (a + 2) l3.toNatClampNeg : Int32) = l1 then (1 : Int32) <<< (l3 &&& 31) else 0)))), (0, .ref (a)), (1, .int (l1))] 42 (by decide +kernel) rfl rfl (by rfl) (by decide) rfl ?_
    refine zGoto (-38) 4 (by decide +kernel) rfl ?_
    exact zLoc [2, 3, 1, 0] _ rfl F
set_option maxHeartbeats 2000000 in
theorem wX8_reachedFrom_0 {G : zG} {d kc ks : Nat} {I : Nat → Nat → Int32} {J : Nat → Nat → Int64} {R : Nat → Nat → Option Nat} {K : Nat → Nat × Nat} {n : Nat} {Q : Option Value → zH → Prop} (a s v : Nat) (S0_ : hSt G R K n a s v) (p1 : Int32) (F : zV G (d + 1) mX8_reachedFrom kc ks 4 [(0, .ref (a)), (1, .int (p1)), (2, .int (0)), (3, .int (0))] [] (I, J, R, K, n) Q) : zV G (d + 1) mX8_reachedFrom kc ks 0 [(0, .ref (a)), (1, .int (p1))] [] (I, J, R, K, n) Q := by
  refine zIconst 0 0 1 (by decide +kernel) rfl (by decide) ?_
  refine zIstore_n 2 [(2, .int (0)), (0, .ref (a)), (1, .int (p1))] 2 (by decide +kernel) rfl (by decide) rfl ?_
  refine zIconst 0 0 3 (by decide +kernel) rfl (by decide) ?_
  refine zIstore_n 3 [(3, .int (0)), (2, .int (0)), (0, .ref (a)), (1, .int (p1))] 4 (by decide +kernel) rfl (by decide) rfl ?_
  exact zLoc [2, 3, 1, 0] _ rfl F
set_option maxHeartbeats 2000000 in
theorem wX8_reachedFrom_4 {G : zG} {d kc ks : Nat} {I : Nat → Nat → Int32} {J : Nat → Nat → Int64} {R : Nat → Nat → Option Nat} {K : Nat → Nat × Nat} {n : Nat} {Q : Option Value → zH → Prop} (a s v : Nat) (S0_ : hSt G R K n a s v) (l1 l2 l3 : Int32) (F : ((9 ≤ l3 → Q (some (.int (l2))) (I, J, R, K, n)) ∧ (¬ (9 ≤ l3) → ((vp_in l3 9) ∧ (((¬ ((I (a + 3) l3.toNatClampNeg : Int32) ≤ 0)) → vp_in l3 9) ∧ ((¬ ((I (a + 3) l3.toNatClampNeg : Int32) ≤ 0)) → (((l1 >>> ((I (a + 1) l3.toNatClampNeg : Int32) &&& 31)) &&& 1 : Int32) = 1) → vp_in l3 9) ∧ zV G (d + 1) mX8_reachedFrom kc ks 4 [(0, .ref (a)), (1, .int (l1)), (2, .int (l2 ||| (if (I (a + 3) l3.toNatClampNeg : Int32) ≤ 0 then 0 else (if ((l1 >>> ((I (a + 1) l3.toNatClampNeg : Int32) &&& 31)) &&& 1 : Int32) = 1 then (1 : Int32) <<< ((I (a + 2) l3.toNatClampNeg : Int32) &&& 31) else 0)))), (3, .int (l3 + 1))] [] (I, J, R, K, n) Q))))) : zV G (d + 1) mX8_reachedFrom kc ks 4 [(0, .ref (a)), (1, .int (l1)), (2, .int (l2)), (3, .int (l3))] [] (I, J, R, K, n) Q := by
  refine zIload_n 3 3 5 (by decide +kernel) rfl rfl ?_
  refine zBipush 9 9 7 (by decide +kernel) rfl (by decide) ?_
  refine zIcmp_ge 47 54 10 (by decide +kernel) rfl rfl ⟨fun q1 => ?_, fun q1 => ?_⟩
  · replace F := F.1 q1
    refine zIload_n 2 2 55 (by decide +kernel) rfl rfl ?_
    exact zIret rfl (by decide +kernel) F
  · replace F := F.2 q1
    refine zIload_n 2 2 11 (by decide +kernel) rfl rfl ?_
    refine zAload_n 0 0 12 (by decide +kernel) rfl rfl ?_
    refine gf8_2 18 15 (by decide +kernel) rfl flX8_18 (St_0 S0_) (St_5 S0_) ?_
    refine zIload_n 3 3 16 (by decide +kernel) rfl rfl ?_
    obtain ⟨w2, F⟩ := F
    refine yIaload 9 17 (by decide +kernel) rfl (St_6 S0_) (w2) ?_
    obtain ⟨w4, F⟩ := F
    obtain ⟨w6, F⟩ := F
    suffices KK : zV G (d + 1) mX8_reachedFrom kc ks 46 [(0, .ref (a)), (1, .int (l1)), (2, .int (l2)), (3, .int (l3))] [.int ((if (I (a + 3) l3.toNatClampNeg : Int32) ≤ 0 then 0 else (if ((l1 >>> ((I (a + 1) l3.toNatClampNeg : Int32) &&& 31)) &&& 1 : Int32) = 1 then (1 : Int32) <<< ((I (a + 2) l3.toNatClampNeg : Int32) &&& 31) else 0))), .int (l2)] (I, J, R, K, n) Q by
      refine zIf_le 28 45 20 (by decide +kernel) rfl rfl ⟨fun q3 => ?_, fun q3 => ?_⟩
      · refine zIconst 0 0 46 (by decide +kernel) rfl (by decide) ?_
        exact zTop (by rw [if_pos q3]) KK
      · refine zIload_n 1 1 21 (by decide +kernel) rfl rfl ?_
        refine zAload_n 0 0 22 (by decide +kernel) rfl rfl ?_
        refine gf8_0 11 25 (by decide +kernel) rfl flX8_11 (St_0 S0_) (St_1 S0_) ?_
        refine zIload_n 3 3 26 (by decide +kernel) rfl rfl ?_
        refine yIaload 9 27 (by decide +kernel) rfl (St_2 S0_) (w4 q3) ?_
        refine zIshr 28 (by decide +kernel) rfl ?_
        refine zIconst 1 1 29 (by decide +kernel) rfl (by decide) ?_
        refine zIand 30 (by decide +kernel) rfl ?_
        refine zIconst 1 1 31 (by decide +kernel) rfl (by decide) ?_
        refine zIcmp_ne 14 45 34 (by decide +kernel) rfl rfl ⟨fun q5 => ?_, fun q5 => ?_⟩
        · refine zIconst 0 0 46 (by decide +kernel) rfl (by decide) ?_
          exact zTop (by rw [if_neg q3, if_neg q5]) KK
        · refine zIconst 1 1 35 (by decide +kernel) rfl (by decide) ?_
          refine zAload_n 0 0 36 (by decide +kernel) rfl rfl ?_
          refine gf8_1 15 39 (by decide +kernel) rfl flX8_15 (St_0 S0_) (St_3 S0_) ?_
          refine zIload_n 3 3 40 (by decide +kernel) rfl rfl ?_
          refine yIaload 9 41 (by decide +kernel) rfl (St_4 S0_) (w6 q3 q5) ?_
          refine zIshl 42 (by decide +kernel) rfl ?_
          refine zGoto 4 46 (by decide +kernel) rfl ?_
          exact zTop (by rw [if_neg q3, if_pos q5]) KK
    refine zIor 47 (by decide +kernel) rfl ?_
    refine zIstore_n 2 [(2, .int (l2 ||| (if (I (a + 3) l3.toNatClampNeg : Int32) ≤ 0 then 0 else (if ((l1 >>> ((I (a + 1) l3.toNatClampNeg : Int32) &&& 31)) &&& 1 : Int32) = 1 then (1 : Int32) <<< ((I (a + 2) l3.toNatClampNeg : Int32) &&& 31) else 0)))), (0, .ref (a)), (1, .int (l1)), (3, .int (l3))] 48 (by decide +kernel) rfl (by decide) rfl ?_
    refine zIinc 3 1 3 (l3 + 1) [(3, .int (l3 + 1)), (2, .int (l2 ||| (if (I (a + 3) l3.toNatClampNeg : Int32) ≤ 0 then 0 else (if ((l1 >>> ((I (a + 1) l3.toNatClampNeg : Int32) &&& 31)) &&& 1 : Int32) = 1 then (1 : Int32) <<< ((I (a + 2) l3.toNatClampNeg : Int32) &&& 31) else 0)))), (0, .ref (a)), (1, .int (l1))] 51 (by decide +kernel) rfl rfl (by rfl) (by decide) rfl ?_
    refine zGoto (-47) 4 (by decide +kernel) rfl ?_
    exact zLoc [2, 3, 1, 0] _ rfl F
set_option maxHeartbeats 2000000 in
theorem wX8_links_0 {G : zG} {d kc ks : Nat} {I : Nat → Nat → Int32} {J : Nat → Nat → Int64} {R : Nat → Nat → Option Nat} {K : Nat → Nat × Nat} {n : Nat} {Q : Option Value → zH → Prop} (a s v : Nat) (S0_ : hSt G R K n a s v) (p1 p2 : Int32) (F : zV G (d + 1) mX8_links kc ks 5 [(0, .ref (a)), (1, .int (p1)), (2, .int (p2)), (3, .int (p1)), (4, .int (0))] [] (I, J, R, K, n) Q) : zV G (d + 1) mX8_links kc ks 0 [(0, .ref (a)), (1, .int (p1)), (2, .int (p2))] [] (I, J, R, K, n) Q := by
  refine zIload_n 1 1 1 (by decide +kernel) rfl rfl ?_
  refine zIstore_n 3 [(3, .int (p1)), (0, .ref (a)), (1, .int (p1)), (2, .int (p2))] 2 (by decide +kernel) rfl (by decide) rfl ?_
  refine zIconst 0 0 3 (by decide +kernel) rfl (by decide) ?_
  refine zIstore 4 [(4, .int (0)), (3, .int (p1)), (0, .ref (a)), (1, .int (p1)), (2, .int (p2))] 5 (by decide +kernel) rfl (by decide) rfl ?_
  exact zLoc [2, 3, 4, 1, 0] _ rfl F
set_option maxHeartbeats 2000000 in
theorem wX8_links_5 {G : zG} {d kc ks : Nat} {I : Nat → Nat → Int32} {J : Nat → Nat → Int64} {R : Nat → Nat → Option Nat} {K : Nat → Nat × Nat} {n : Nat} {Q : Option Value → zH → Prop} (a s v : Nat) (S0_ : hSt G R K n a s v) (l1 l2 l3 l4 : Int32) (F : ((6 ≤ l4 → Q (some (.int ((-1)))) (I, J, R, K, n)) ∧ (¬ (6 ≤ l4) → ((((l3 >>> (l2 &&& 31)) &&& 1 : Int32) = 1 → Q (some (.int (l4))) (I, J, R, K, n)) ∧ (¬ (((l3 >>> (l2 &&& 31)) &&& 1 : Int32) = 1) → zC G d mX8_reachedFrom 0 0 [.ref (a), .int (l3)] (I, J, R, K, n) (fun r h => ∃ (x3 : Int32) (I4 : Nat → Nat → Int32), r = some (.int x3) ∧ h = (I4, J, R, K, n) ∧ zV G (d + 1) mX8_links kc ks 5 [(0, .ref (a)), (1, .int (l1)), (2, .int (l2)), (3, .int (l3 ||| x3)), (4, .int (l4 + 1))] [] (I4, J, R, K, n) Q)))))) : zV G (d + 1) mX8_links kc ks 5 [(0, .ref (a)), (1, .int (l1)), (2, .int (l2)), (3, .int (l3)), (4, .int (l4))] [] (I, J, R, K, n) Q := by
  refine zIload 4 4 7 (by decide +kernel) rfl rfl ?_
  refine zBipush 6 6 9 (by decide +kernel) rfl (by decide) ?_
  refine zIcmp_ge 29 38 12 (by decide +kernel) rfl rfl ⟨fun q1 => ?_, fun q1 => ?_⟩
  · replace F := F.1 q1
    refine zIconst (-1) (-1) 39 (by decide +kernel) rfl (by decide) ?_
    exact zIret rfl (by decide +kernel) F
  · replace F := F.2 q1
    refine zIload_n 3 3 13 (by decide +kernel) rfl rfl ?_
    refine zIload_n 2 2 14 (by decide +kernel) rfl rfl ?_
    refine zIshr 15 (by decide +kernel) rfl ?_
    refine zIconst 1 1 16 (by decide +kernel) rfl (by decide) ?_
    refine zIand 17 (by decide +kernel) rfl ?_
    refine zIconst 1 1 18 (by decide +kernel) rfl (by decide) ?_
    refine zIcmp_ne 6 24 21 (by decide +kernel) rfl rfl ⟨fun q2 => ?_, fun q2 => ?_⟩
    · replace F := F.2 q2
      refine zIload_n 3 3 25 (by decide +kernel) rfl rfl ?_
      refine zAload_n 0 0 26 (by decide +kernel) rfl rfl ?_
      refine zIload_n 3 3 27 (by decide +kernel) rfl rfl ?_
      refine zCallV 8 zcls8 mX8_reachedFrom 104 1 0 0 _ _ 30 [.int (l3)] [.int (l3)] okX8_reachedFrom mlX8_104 imX8_reachedFrom seX8_reachedFrom (by decide +kernel) rfl rfl (Nat.le_of_ble_eq_true rfl) rfl rfl (St_0 S0_) (zC.mono F ?_)
      rintro _ _ ⟨x3, I4, rfl, rfl, F⟩
      change zV G (d + 1) mX8_links kc ks 30 [(0, .ref (a)), (1, .int (l1)), (2, .int (l2)), (3, .int (l3)), (4, .int (l4))] [.int (x3), .int (l3)] (I4, J, R, K, n) Q
      refine zIor 31 (by decide +kernel) rfl ?_
      refine zIstore_n 3 [(3, .int (l3 ||| x3)), (0, .ref (a)), (1, .int (l1)), (2, .int (l2)), (4, .int (l4))] 32 (by decide +kernel) rfl (by decide) rfl ?_
      refine zIinc 4 1 4 (l4 + 1) [(4, .int (l4 + 1)), (3, .int (l3 ||| x3)), (0, .ref (a)), (1, .int (l1)), (2, .int (l2))] 35 (by decide +kernel) rfl rfl (by rfl) (by decide) rfl ?_
      refine zGoto (-30) 5 (by decide +kernel) rfl ?_
      exact zLoc [2, 3, 4, 1, 0] _ rfl F
    · replace F := F.1 q2
      refine zIload 4 4 23 (by decide +kernel) rfl rfl ?_
      exact zIret rfl (by decide +kernel) F
set_option maxHeartbeats 2000000 in
theorem wX8_yardsOf_0 {G : zG} {d kc ks : Nat} {I : Nat → Nat → Int32} {J : Nat → Nat → Int64} {R : Nat → Nat → Option Nat} {K : Nat → Nat × Nat} {n : Nat} {Q : Option Value → zH → Prop} (a s v : Nat) (S0_ : hSt G R K n a s v) (p1 : Int32) (F : ((vp_in p1 9) ∧ ((vp_in (I (a + 2) p1.toNatClampNeg) 6) ∧ ((vp_in p1 9) ∧ ((R s 1 = none → zC G d mX8_bare 0 0 [.ref (a), .int (I (a + 2) p1.toNatClampNeg)] (I, J, R, K, n) (fun r h => ∃ (x4 : Int32) (I5 : Nat → Nat → Int32), r = some (.int x4) ∧ h = (I5, J, R, K, n) ∧ Q (some (.int ((if ((if (I5 a 8 : Int32) < x4 then I5 a 8 else x4) : Int32) < (if ((if (40 : Int32) < (((2 * (I (a + 3) p1.toNatClampNeg)) + 1) - ((I (v + 2) (I (a + 2) p1.toNatClampNeg : Int32).toNatClampNeg) / 3)) then 40 else ((2 * (I (a + 3) p1.toNatClampNeg)) + 1) - ((I (v + 2) (I (a + 2) p1.toNatClampNeg : Int32).toNatClampNeg) / 3)) : Int32) < 0 then 0 else (if (40 : Int32) < (((2 * (I (a + 3) p1.toNatClampNeg)) + 1) - ((I (v + 2) (I (a + 2) p1.toNatClampNeg : Int32).toNatClampNeg) / 3)) then 40 else ((2 * (I (a + 3) p1.toNatClampNeg)) + 1) - ((I (v + 2) (I (a + 2) p1.toNatClampNeg : Int32).toNatClampNeg) / 3))) then (if (I5 a 8 : Int32) < x4 then I5 a 8 else x4) else (if ((if (40 : Int32) < (((2 * (I (a + 3) p1.toNatClampNeg)) + 1) - ((I (v + 2) (I (a + 2) p1.toNatClampNeg : Int32).toNatClampNeg) / 3)) then 40 else ((2 * (I (a + 3) p1.toNatClampNeg)) + 1) - ((I (v + 2) (I (a + 2) p1.toNatClampNeg : Int32).toNatClampNeg) / 3)) : Int32) < 0 then 0 else (if (40 : Int32) < (((2 * (I (a + 3) p1.toNatClampNeg)) + 1) - ((I (v + 2) (I (a + 2) p1.toNatClampNeg : Int32).toNatClampNeg) / 3)) then 40 else ((2 * (I (a + 3) p1.toNatClampNeg)) + 1) - ((I (v + 2) (I (a + 2) p1.toNatClampNeg : Int32).toNatClampNeg) / 3))))))) (I5, J, R, K, n))) ∧ (∀ b6 : Nat, R s 1 = some b6 → ∃ c7 : Nat, hLaw G R K n b6 c7 ∧ ((vp_in p1 9) ∧ (vp_in 0 6 ∧ ∀ I9 : Nat → Nat → Int32, I9 = zU I (s + 8) (0 : Int32).toNatClampNeg (I (a + 3) p1.toNatClampNeg) → (vp_in 1 6 ∧ ∀ I10 : Nat → Nat → Int32, I10 = zU I9 (s + 8) (1 : Int32).toNatClampNeg (I (v + 2) (I (a + 2) p1.toNatClampNeg : Int32).toNatClampNeg) → ((vp_in p1 9) ∧ ((vp_in (I10 (a + 1) p1.toNatClampNeg) 6) ∧ (vp_in 2 6 ∧ ∀ I13 : Nat → Nat → Int32, I13 = zU I10 (s + 8) (2 : Int32).toNatClampNeg (I10 (a + 6) (I10 (a + 1) p1.toNatClampNeg : Int32).toNatClampNeg) → zC G d mX8_bare 0 0 [.ref (a), .int (I (a + 2) p1.toNatClampNeg)] (I13, J, R, K, n) (fun r h => ∃ (x14 : Int32) (I15 : Nat → Nat → Int32), r = some (.int x14) ∧ h = (I15, J, R, K, n) ∧ (vp_in 3 6 ∧ ∀ I16 : Nat → Nat → Int32, I16 = zU I15 (s + 8) (3 : Int32).toNatClampNeg (x14) → (vp_in 4 6 ∧ ∀ I17 : Nat → Nat → Int32, I17 = zU I16 (s + 8) (4 : Int32).toNatClampNeg (I16 a 8) → (vp_in 5 6 ∧ ∀ I18 : Nat → Nat → Int32, I18 = zU I17 (s + 8) (5 : Int32).toNatClampNeg (I17 a 10) → zC G d mX2_worth 0 0 [.ref (b6), .ref (s + 8)] (I18, J, R, K, n) (fun r h => ∃ (x19 : Int32) (I20 : Nat → Nat → Int32), r = some (.int x19) ∧ h = (I20, J, R, K, n) ∧ zC G d mX8_bare 0 0 [.ref (a), .int (I (a + 2) p1.toNatClampNeg)] (I20, J, R, K, n) (fun r h => ∃ (x21 : Int32) (I22 : Nat → Nat → Int32), r = some (.int x21) ∧ h = (I22, J, R, K, n) ∧ Q (some (.int ((if ((if (I22 a 8 : Int32) < x21 then I22 a 8 else x21) : Int32) < (if ((if (40 : Int32) < x19 then 40 else x19) : Int32) < 0 then 0 else (if (40 : Int32) < x19 then 40 else x19)) then (if (I22 a 8 : Int32) < x21 then I22 a 8 else x21) else (if ((if (40 : Int32) < x19 then 40 else x19) : Int32) < 0 then 0 else (if (40 : Int32) < x19 then 40 else x19)))))) (I22, J, R, K, n))))))))))))))))))) : zV G (d + 1) mX8_yardsOf kc ks 0 [(0, .ref (a)), (1, .int (p1))] [] (I, J, R, K, n) Q := by
  refine zAload_n 0 0 1 (by decide +kernel) rfl rfl ?_
  refine gf8_1 15 4 (by decide +kernel) rfl flX8_15 (St_0 S0_) (St_3 S0_) ?_
  refine zIload_n 1 1 5 (by decide +kernel) rfl rfl ?_
  obtain ⟨w1, F⟩ := F
  refine yIaload 9 6 (by decide +kernel) rfl (St_4 S0_) (w1) ?_
  refine zIstore_n 2 [(2, .int (I (a + 2) p1.toNatClampNeg)), (0, .ref (a)), (1, .int (p1))] 7 (by decide +kernel) rfl (by decide) rfl ?_
  refine zAload_n 0 1 8 (by decide +kernel) rfl rfl ?_
  refine gf8_12 52 11 (by decide +kernel) rfl flX8_52 (St_0 S0_) (St_13 S0_) ?_
  refine gf5_0 56 14 (by decide +kernel) rfl flX8_56 (Set_0 (St_14 S0_)) (Set_1 (St_14 S0_)) ?_
  refine gf10_1 107 17 (by decide +kernel) rfl flX8_107 (Vil_0 (Set_2 (St_14 S0_))) (Vil_3 (Set_2 (St_14 S0_))) ?_
  refine zIload_n 2 0 18 (by decide +kernel) rfl rfl ?_
  obtain ⟨w2, F⟩ := F
  refine yIaload 6 19 (by decide +kernel) rfl (Vil_4 (Set_2 (St_14 S0_))) (w2) ?_
  refine zIstore_n 3 [(3, .int (I (v + 2) (I (a + 2) p1.toNatClampNeg : Int32).toNatClampNeg)), (2, .int (I (a + 2) p1.toNatClampNeg)), (0, .ref (a)), (1, .int (p1))] 20 (by decide +kernel) rfl (by decide) rfl ?_
  refine zIconst 2 2 21 (by decide +kernel) rfl (by decide) ?_
  refine zAload_n 0 2 22 (by decide +kernel) rfl rfl ?_
  refine gf8_2 18 25 (by decide +kernel) rfl flX8_18 (St_0 S0_) (St_5 S0_) ?_
  refine zIload_n 1 3 26 (by decide +kernel) rfl rfl ?_
  obtain ⟨w3, F⟩ := F
  refine yIaload 9 27 (by decide +kernel) rfl (St_6 S0_) (w3) ?_
  refine zImul 28 (by decide +kernel) rfl ?_
  refine zIconst 1 1 29 (by decide +kernel) rfl (by decide) ?_
  refine zIadd 30 (by decide +kernel) rfl ?_
  refine zIload_n 3 0 31 (by decide +kernel) rfl rfl ?_
  refine zIconst 3 3 32 (by decide +kernel) rfl (by decide) ?_
  refine zIdiv 33 (by decide +kernel) rfl (by decide) ?_
  refine zIsub 34 (by decide +kernel) rfl ?_
  refine zIstore 4 [(4, .int (((2 * (I (a + 3) p1.toNatClampNeg)) + 1) - ((I (v + 2) (I (a + 2) p1.toNatClampNeg : Int32).toNatClampNeg) / 3))), (3, .int (I (v + 2) (I (a + 2) p1.toNatClampNeg : Int32).toNatClampNeg)), (2, .int (I (a + 2) p1.toNatClampNeg)), (0, .ref (a)), (1, .int (p1))] 36 (by decide +kernel) rfl (by decide) rfl ?_
  refine zAload_n 0 3 37 (by decide +kernel) rfl rfl ?_
  refine gf8_12 52 40 (by decide +kernel) rfl flX8_52 (St_0 S0_) (St_13 S0_) ?_
  refine gn5_1 110 43 (by decide +kernel) rfl flX8_110 (Set_0 (St_14 S0_)) ?_
  refine zIfnull 81 124 46 (by decide +kernel) rfl rfl ⟨fun q => ?_, fun b6 eb6 => ?_⟩
  · replace F := F.1 q
    refine zIload 4 0 126 (by decide +kernel) rfl rfl ?_
    refine zBipush 40 40 128 (by decide +kernel) rfl (by decide) ?_
    refine yMin 123 131 (by decide +kernel) rfl mlX8_123 (Nat.le_of_ble_eq_true rfl) ?_
    refine zIconst 0 0 132 (by decide +kernel) rfl (by decide) ?_
    refine yMax 129 135 (by decide +kernel) rfl mlX8_129 (Nat.le_of_ble_eq_true rfl) ?_
    refine zIstore 5 [(5, .int ((if ((if (40 : Int32) < (((2 * (I (a + 3) p1.toNatClampNeg)) + 1) - ((I (v + 2) (I (a + 2) p1.toNatClampNeg : Int32).toNatClampNeg) / 3)) then 40 else ((2 * (I (a + 3) p1.toNatClampNeg)) + 1) - ((I (v + 2) (I (a + 2) p1.toNatClampNeg : Int32).toNatClampNeg) / 3)) : Int32) < 0 then 0 else (if (40 : Int32) < (((2 * (I (a + 3) p1.toNatClampNeg)) + 1) - ((I (v + 2) (I (a + 2) p1.toNatClampNeg : Int32).toNatClampNeg) / 3)) then 40 else ((2 * (I (a + 3) p1.toNatClampNeg)) + 1) - ((I (v + 2) (I (a + 2) p1.toNatClampNeg : Int32).toNatClampNeg) / 3))))), (4, .int (((2 * (I (a + 3) p1.toNatClampNeg)) + 1) - ((I (v + 2) (I (a + 2) p1.toNatClampNeg : Int32).toNatClampNeg) / 3))), (3, .int (I (v + 2) (I (a + 2) p1.toNatClampNeg : Int32).toNatClampNeg)), (2, .int (I (a + 2) p1.toNatClampNeg)), (0, .ref (a)), (1, .int (p1))] 137 (by decide +kernel) rfl (by decide) rfl ?_
    refine zIload 5 0 139 (by decide +kernel) rfl rfl ?_
    refine zAload_n 0 4 140 (by decide +kernel) rfl rfl ?_
    refine zIload_n 2 3 141 (by decide +kernel) rfl rfl ?_
    refine zCallV 8 zcls8 mX8_bare 101 1 0 0 _ _ 144 [.int (I (a + 2) p1.toNatClampNeg)] [.int ((if ((if (40 : Int32) < (((2 * (I (a + 3) p1.toNatClampNeg)) + 1) - ((I (v + 2) (I (a + 2) p1.toNatClampNeg : Int32).toNatClampNeg) / 3)) then 40 else ((2 * (I (a + 3) p1.toNatClampNeg)) + 1) - ((I (v + 2) (I (a + 2) p1.toNatClampNeg : Int32).toNatClampNeg) / 3)) : Int32) < 0 then 0 else (if (40 : Int32) < (((2 * (I (a + 3) p1.toNatClampNeg)) + 1) - ((I (v + 2) (I (a + 2) p1.toNatClampNeg : Int32).toNatClampNeg) / 3)) then 40 else ((2 * (I (a + 3) p1.toNatClampNeg)) + 1) - ((I (v + 2) (I (a + 2) p1.toNatClampNeg : Int32).toNatClampNeg) / 3))))] okX8_bare mlX8_101 imX8_bare seX8_bare (by decide +kernel) rfl rfl (Nat.le_of_ble_eq_true rfl) rfl rfl (St_0 S0_) (zC.mono F ?_)
    rintro _ _ ⟨x4, I5, rfl, rfl, F⟩
    change zV G (d + 1) mX8_yardsOf kc ks 144 [(5, .int ((if ((if (40 : Int32) < (((2 * (I (a + 3) p1.toNatClampNeg)) + 1) - ((I (v + 2) (I (a + 2) p1.toNatClampNeg : Int32).toNatClampNeg) / 3)) then 40 else ((2 * (I (a + 3) p1.toNatClampNeg)) + 1) - ((I (v + 2) (I (a + 2) p1.toNatClampNeg : Int32).toNatClampNeg) / 3)) : Int32) < 0 then 0 else (if (40 : Int32) < (((2 * (I (a + 3) p1.toNatClampNeg)) + 1) - ((I (v + 2) (I (a + 2) p1.toNatClampNeg : Int32).toNatClampNeg) / 3)) then 40 else ((2 * (I (a + 3) p1.toNatClampNeg)) + 1) - ((I (v + 2) (I (a + 2) p1.toNatClampNeg : Int32).toNatClampNeg) / 3))))), (4, .int (((2 * (I (a + 3) p1.toNatClampNeg)) + 1) - ((I (v + 2) (I (a + 2) p1.toNatClampNeg : Int32).toNatClampNeg) / 3))), (3, .int (I (v + 2) (I (a + 2) p1.toNatClampNeg : Int32).toNatClampNeg)), (2, .int (I (a + 2) p1.toNatClampNeg)), (0, .ref (a)), (1, .int (p1))] [.int (x4), .int ((if ((if (40 : Int32) < (((2 * (I (a + 3) p1.toNatClampNeg)) + 1) - ((I (v + 2) (I (a + 2) p1.toNatClampNeg : Int32).toNatClampNeg) / 3)) then 40 else ((2 * (I (a + 3) p1.toNatClampNeg)) + 1) - ((I (v + 2) (I (a + 2) p1.toNatClampNeg : Int32).toNatClampNeg) / 3)) : Int32) < 0 then 0 else (if (40 : Int32) < (((2 * (I (a + 3) p1.toNatClampNeg)) + 1) - ((I (v + 2) (I (a + 2) p1.toNatClampNeg : Int32).toNatClampNeg) / 3)) then 40 else ((2 * (I (a + 3) p1.toNatClampNeg)) + 1) - ((I (v + 2) (I (a + 2) p1.toNatClampNeg : Int32).toNatClampNeg) / 3))))] (I5, J, R, K, n) Q
    refine zAload_n 0 4 145 (by decide +kernel) rfl rfl ?_
    refine gf8_8 37 148 (by decide +kernel) rfl flX8_37 (St_0 S0_) ?_
    refine yMin 123 151 (by decide +kernel) rfl mlX8_123 (Nat.le_of_ble_eq_true rfl) ?_
    refine yMin 123 154 (by decide +kernel) rfl mlX8_123 (Nat.le_of_ble_eq_true rfl) ?_
    exact zIret rfl (by decide +kernel) F
  · obtain ⟨c7, Sb6, F⟩ := F.2 b6 eb6
    refine zAload_n 0 3 47 (by decide +kernel) rfl rfl ?_
    refine gf8_12 52 50 (by decide +kernel) rfl flX8_52 (St_0 S0_) (St_13 S0_) ?_
    refine gf5_2 114 53 (by decide +kernel) rfl flX8_114 (Set_0 (St_14 S0_)) (Set_3 (St_14 S0_)) ?_
    refine zAstore 5 [(5, .ref (s + 8)), (4, .int (((2 * (I (a + 3) p1.toNatClampNeg)) + 1) - ((I (v + 2) (I (a + 2) p1.toNatClampNeg : Int32).toNatClampNeg) / 3))), (3, .int (I (v + 2) (I (a + 2) p1.toNatClampNeg : Int32).toNatClampNeg)), (2, .int (I (a + 2) p1.toNatClampNeg)), (0, .ref (a)), (1, .int (p1))] 55 (by decide +kernel) rfl (by decide) rfl ?_
    refine zAload 5 0 57 (by decide +kernel) rfl rfl ?_
    refine zIconst 0 0 58 (by decide +kernel) rfl (by decide) ?_
    refine zAload_n 0 4 59 (by decide +kernel) rfl rfl ?_
    refine gf8_2 18 62 (by decide +kernel) rfl flX8_18 (St_0 S0_) (St_5 S0_) ?_
    refine zIload_n 1 5 63 (by decide +kernel) rfl rfl ?_
    obtain ⟨w8, F⟩ := F
    refine yIaload 9 64 (by decide +kernel) rfl (St_6 S0_) (w8) ?_
    refine yIastore 6 65 (by decide +kernel) rfl (Set_4 (St_14 S0_)) F.1 ?_
    replace F := F.2 _ rfl
    generalize zU I (s + 8) (0 : Int32).toNatClampNeg (I (a + 3) p1.toNatClampNeg) = I9 at F ⊢
    refine zAload 5 0 67 (by decide +kernel) rfl rfl ?_
    refine zIconst 1 1 68 (by decide +kernel) rfl (by decide) ?_
    refine zIload_n 3 2 69 (by decide +kernel) rfl rfl ?_
    refine yIastore 6 70 (by decide +kernel) rfl (Set_4 (St_14 S0_)) F.1 ?_
    replace F := F.2 _ rfl
    generalize zU I9 (s + 8) (1 : Int32).toNatClampNeg (I (v + 2) (I (a + 2) p1.toNatClampNeg : Int32).toNatClampNeg) = I10 at F ⊢
    refine zAload 5 0 72 (by decide +kernel) rfl rfl ?_
    refine zIconst 2 2 73 (by decide +kernel) rfl (by decide) ?_
    refine zAload_n 0 4 74 (by decide +kernel) rfl rfl ?_
    refine gf8_5 27 77 (by decide +kernel) rfl flX8_27 (St_0 S0_) (St_11 S0_) ?_
    refine zAload_n 0 4 78 (by decide +kernel) rfl rfl ?_
    refine gf8_0 11 81 (by decide +kernel) rfl flX8_11 (St_0 S0_) (St_1 S0_) ?_
    refine zIload_n 1 5 82 (by decide +kernel) rfl rfl ?_
    obtain ⟨w11, F⟩ := F
    refine yIaload 9 83 (by decide +kernel) rfl (St_2 S0_) (w11) ?_
    obtain ⟨w12, F⟩ := F
    refine yIaload 6 84 (by decide +kernel) rfl (St_12 S0_) (w12) ?_
    refine yIastore 6 85 (by decide +kernel) rfl (Set_4 (St_14 S0_)) F.1 ?_
    replace F := F.2 _ rfl
    generalize zU I10 (s + 8) (2 : Int32).toNatClampNeg (I10 (a + 6) (I10 (a + 1) p1.toNatClampNeg : Int32).toNatClampNeg) = I13 at F ⊢
    refine zAload 5 0 87 (by decide +kernel) rfl rfl ?_
    refine zIconst 3 3 88 (by decide +kernel) rfl (by decide) ?_
    refine zAload_n 0 4 89 (by decide +kernel) rfl rfl ?_
    refine zIload_n 2 3 90 (by decide +kernel) rfl rfl ?_
    refine zCallV 8 zcls8 mX8_bare 101 1 0 0 _ _ 93 [.int (I (a + 2) p1.toNatClampNeg)] [.int (3), .ref (s + 8)] okX8_bare mlX8_101 imX8_bare seX8_bare (by decide +kernel) rfl rfl (Nat.le_of_ble_eq_true rfl) rfl rfl (St_0 S0_) (zC.mono F ?_)
    rintro _ _ ⟨x14, I15, rfl, rfl, F⟩
    change zV G (d + 1) mX8_yardsOf kc ks 93 [(5, .ref (s + 8)), (4, .int (((2 * (I (a + 3) p1.toNatClampNeg)) + 1) - ((I (v + 2) (I (a + 2) p1.toNatClampNeg : Int32).toNatClampNeg) / 3))), (3, .int (I (v + 2) (I (a + 2) p1.toNatClampNeg : Int32).toNatClampNeg)), (2, .int (I (a + 2) p1.toNatClampNeg)), (0, .ref (a)), (1, .int (p1))] [.int (x14), .int (3), .ref (s + 8)] (I15, J, R, K, n) Q
    refine yIastore 6 94 (by decide +kernel) rfl (Set_4 (St_14 S0_)) F.1 ?_
    replace F := F.2 _ rfl
    generalize zU I15 (s + 8) (3 : Int32).toNatClampNeg (x14) = I16 at F ⊢
    refine zAload 5 0 96 (by decide +kernel) rfl rfl ?_
    refine zIconst 4 4 97 (by decide +kernel) rfl (by decide) ?_
    refine zAload_n 0 4 98 (by decide +kernel) rfl rfl ?_
    refine gf8_8 37 101 (by decide +kernel) rfl flX8_37 (St_0 S0_) ?_
    refine yIastore 6 102 (by decide +kernel) rfl (Set_4 (St_14 S0_)) F.1 ?_
    replace F := F.2 _ rfl
    generalize zU I16 (s + 8) (4 : Int32).toNatClampNeg (I16 a 8) = I17 at F ⊢
    refine zAload 5 0 104 (by decide +kernel) rfl rfl ?_
    refine zIconst 5 5 105 (by decide +kernel) rfl (by decide) ?_
    refine zAload_n 0 4 106 (by decide +kernel) rfl rfl ?_
    refine gf8_10 43 109 (by decide +kernel) rfl flX8_43 (St_0 S0_) ?_
    refine yIastore 6 110 (by decide +kernel) rfl (Set_4 (St_14 S0_)) F.1 ?_
    replace F := F.2 _ rfl
    generalize zU I17 (s + 8) (5 : Int32).toNatClampNeg (I17 a 10) = I18 at F ⊢
    refine zAload_n 0 4 111 (by decide +kernel) rfl rfl ?_
    refine gf8_12 52 114 (by decide +kernel) rfl flX8_52 (St_0 S0_) (St_13 S0_) ?_
    refine gn5_1 110 117 (by decide +kernel) rfl flX8_110 (Set_0 (St_14 S0_)) ?_
    refine zRf eb6 ?_
    refine zAload 5 0 119 (by decide +kernel) rfl rfl ?_
    refine zCallV 2 zcls2 mX2_worth 117 1 0 0 _ _ 122 [.ref (s + 8)] [] okX2_worth mlX8_117 imX2_worth seX2_worth (by decide +kernel) rfl rfl (Nat.le_of_ble_eq_true rfl) rfl rfl (Law_0 Sb6) (zC.mono F ?_)
    rintro _ _ ⟨x19, I20, rfl, rfl, F⟩
    change zV G (d + 1) mX8_yardsOf kc ks 122 [(5, .ref (s + 8)), (4, .int (((2 * (I (a + 3) p1.toNatClampNeg)) + 1) - ((I (v + 2) (I (a + 2) p1.toNatClampNeg : Int32).toNatClampNeg) / 3))), (3, .int (I (v + 2) (I (a + 2) p1.toNatClampNeg : Int32).toNatClampNeg)), (2, .int (I (a + 2) p1.toNatClampNeg)), (0, .ref (a)), (1, .int (p1))] [.int (x19)] (I20, J, R, K, n) Q
    refine zIstore 4 [(4, .int (x19)), (5, .ref (s + 8)), (3, .int (I (v + 2) (I (a + 2) p1.toNatClampNeg : Int32).toNatClampNeg)), (2, .int (I (a + 2) p1.toNatClampNeg)), (0, .ref (a)), (1, .int (p1))] 124 (by decide +kernel) rfl (by decide) rfl ?_
    refine zIload 4 0 126 (by decide +kernel) rfl rfl ?_
    refine zBipush 40 40 128 (by decide +kernel) rfl (by decide) ?_
    refine yMin 123 131 (by decide +kernel) rfl mlX8_123 (Nat.le_of_ble_eq_true rfl) ?_
    refine zIconst 0 0 132 (by decide +kernel) rfl (by decide) ?_
    refine yMax 129 135 (by decide +kernel) rfl mlX8_129 (Nat.le_of_ble_eq_true rfl) ?_
    refine zIstore 5 [(5, .int ((if ((if (40 : Int32) < x19 then 40 else x19) : Int32) < 0 then 0 else (if (40 : Int32) < x19 then 40 else x19)))), (4, .int (x19)), (3, .int (I (v + 2) (I (a + 2) p1.toNatClampNeg : Int32).toNatClampNeg)), (2, .int (I (a + 2) p1.toNatClampNeg)), (0, .ref (a)), (1, .int (p1))] 137 (by decide +kernel) rfl (by decide) rfl ?_
    refine zIload 5 0 139 (by decide +kernel) rfl rfl ?_
    refine zAload_n 0 4 140 (by decide +kernel) rfl rfl ?_
    refine zIload_n 2 3 141 (by decide +kernel) rfl rfl ?_
    refine zCallV 8 zcls8 mX8_bare 101 1 0 0 _ _ 144 [.int (I (a + 2) p1.toNatClampNeg)] [.int ((if ((if (40 : Int32) < x19 then 40 else x19) : Int32) < 0 then 0 else (if (40 : Int32) < x19 then 40 else x19)))] okX8_bare mlX8_101 imX8_bare seX8_bare (by decide +kernel) rfl rfl (Nat.le_of_ble_eq_true rfl) rfl rfl (St_0 S0_) (zC.mono F ?_)
    rintro _ _ ⟨x21, I22, rfl, rfl, F⟩
    change zV G (d + 1) mX8_yardsOf kc ks 144 [(5, .int ((if ((if (40 : Int32) < x19 then 40 else x19) : Int32) < 0 then 0 else (if (40 : Int32) < x19 then 40 else x19)))), (4, .int (x19)), (3, .int (I (v + 2) (I (a + 2) p1.toNatClampNeg : Int32).toNatClampNeg)), (2, .int (I (a + 2) p1.toNatClampNeg)), (0, .ref (a)), (1, .int (p1))] [.int (x21), .int ((if ((if (40 : Int32) < x19 then 40 else x19) : Int32) < 0 then 0 else (if (40 : Int32) < x19 then 40 else x19)))] (I22, J, R, K, n) Q
    refine zAload_n 0 4 145 (by decide +kernel) rfl rfl ?_
    refine gf8_8 37 148 (by decide +kernel) rfl flX8_37 (St_0 S0_) ?_
    refine yMin 123 151 (by decide +kernel) rfl mlX8_123 (Nat.le_of_ble_eq_true rfl) ?_
    refine yMin 123 154 (by decide +kernel) rfl mlX8_123 (Nat.le_of_ble_eq_true rfl) ?_
    exact zIret rfl (by decide +kernel) F
set_option maxHeartbeats 2000000 in
theorem wX8_paintOff_0 {G : zG} {d kc ks : Nat} {I : Nat → Nat → Int32} {J : Nat → Nat → Int64} {R : Nat → Nat → Option Nat} {K : Nat → Nat × Nat} {n : Nat} {Q : Option Value → zH → Prop} (a s v : Nat) (S0_ : hSt G R K n a s v) (p1 : Int32) (F : zC G d mX8_yardsOf 0 0 [.ref (a), .int (p1)] (I, J, R, K, n) (fun r h => ∃ (x1 : Int32) (I2 : Nat → Nat → Int32), r = some (.int x1) ∧ h = (I2, J, R, K, n) ∧ ((vp_in p1 9) ∧ ((vp_in (I2 (a + 2) p1.toNatClampNeg) 6) ∧ (vp_in (I2 (a + 2) p1.toNatClampNeg) 6 ∧ ∀ I5 : Nat → Nat → Int32, I5 = zU I2 (a + 4) (I2 (a + 2) p1.toNatClampNeg : Int32).toNatClampNeg ((I2 (a + 4) (I2 (a + 2) p1.toNatClampNeg : Int32).toNatClampNeg) + x1) → (∀ I6 : Nat → Nat → Int32, I6 = zU I5 a 8 ((I5 a 8) - x1) → ((vp_in p1 9) ∧ ((vp_in (I6 (a + 1) p1.toNatClampNeg) 6) ∧ (vp_in (I6 (a + 1) p1.toNatClampNeg) 6 ∧ ∀ I9 : Nat → Nat → Int32, I9 = zU I6 (a + 6) (I6 (a + 1) p1.toNatClampNeg : Int32).toNatClampNeg ((I6 (a + 6) (I6 (a + 1) p1.toNatClampNeg : Int32).toNatClampNeg) + 1) → Q (some (.int (x1))) (I9, J, R, K, n)))))))))) : zV G (d + 1) mX8_paintOff kc ks 0 [(0, .ref (a)), (1, .int (p1))] [] (I, J, R, K, n) Q := by
  refine zAload_n 0 0 1 (by decide +kernel) rfl rfl ?_
  refine zIload_n 1 1 2 (by decide +kernel) rfl rfl ?_
  refine zCallV 8 zcls8 mX8_yardsOf 132 1 0 0 _ _ 5 [.int (p1)] [] okX8_yardsOf mlX8_132 imX8_yardsOf seX8_yardsOf (by decide +kernel) rfl rfl (Nat.le_of_ble_eq_true rfl) rfl rfl (St_0 S0_) (zC.mono F ?_)
  rintro _ _ ⟨x1, I2, rfl, rfl, F⟩
  change zV G (d + 1) mX8_paintOff kc ks 5 [(0, .ref (a)), (1, .int (p1))] [.int (x1)] (I2, J, R, K, n) Q
  refine zIstore_n 2 [(2, .int (x1)), (0, .ref (a)), (1, .int (p1))] 6 (by decide +kernel) rfl (by decide) rfl ?_
  refine zAload_n 0 1 7 (by decide +kernel) rfl rfl ?_
  refine gf8_3 21 10 (by decide +kernel) rfl flX8_21 (St_0 S0_) (St_7 S0_) ?_
  refine zAload_n 0 1 11 (by decide +kernel) rfl rfl ?_
  refine gf8_1 15 14 (by decide +kernel) rfl flX8_15 (St_0 S0_) (St_3 S0_) ?_
  refine zIload_n 1 2 15 (by decide +kernel) rfl rfl ?_
  obtain ⟨w3, F⟩ := F
  refine yIaload 9 16 (by decide +kernel) rfl (St_4 S0_) (w3) ?_
  refine zDup2 17 (by decide +kernel) rfl rfl rfl ?_
  obtain ⟨w4, F⟩ := F
  refine yIaload 6 18 (by decide +kernel) rfl (St_8 S0_) (w4) ?_
  refine zIload_n 2 0 19 (by decide +kernel) rfl rfl ?_
  refine zIadd 20 (by decide +kernel) rfl ?_
  refine yIastore 6 21 (by decide +kernel) rfl (St_8 S0_) F.1 ?_
  replace F := F.2 _ rfl
  generalize zU I2 (a + 4) (I2 (a + 2) p1.toNatClampNeg : Int32).toNatClampNeg ((I2 (a + 4) (I2 (a + 2) p1.toNatClampNeg : Int32).toNatClampNeg) + x1) = I5 at F ⊢
  refine zAload_n 0 1 22 (by decide +kernel) rfl rfl ?_
  refine zDup 23 (by decide +kernel) rfl rfl ?_
  refine gf8_8 37 26 (by decide +kernel) rfl flX8_37 (St_0 S0_) ?_
  refine zIload_n 2 0 27 (by decide +kernel) rfl rfl ?_
  refine zIsub 28 (by decide +kernel) rfl ?_
  refine pf8_8 37 31 (by decide +kernel) rfl flX8_37 (St_0 S0_) ?_
  replace F := F _ rfl
  generalize zU I5 a 8 ((I5 a 8) - x1) = I6 at F ⊢
  refine zAload_n 0 1 32 (by decide +kernel) rfl rfl ?_
  refine gf8_5 27 35 (by decide +kernel) rfl flX8_27 (St_0 S0_) (St_11 S0_) ?_
  refine zAload_n 0 1 36 (by decide +kernel) rfl rfl ?_
  refine gf8_0 11 39 (by decide +kernel) rfl flX8_11 (St_0 S0_) (St_1 S0_) ?_
  refine zIload_n 1 2 40 (by decide +kernel) rfl rfl ?_
  obtain ⟨w7, F⟩ := F
  refine yIaload 9 41 (by decide +kernel) rfl (St_2 S0_) (w7) ?_
  refine zDup2 42 (by decide +kernel) rfl rfl rfl ?_
  obtain ⟨w8, F⟩ := F
  refine yIaload 6 43 (by decide +kernel) rfl (St_12 S0_) (w8) ?_
  refine zIconst 1 1 44 (by decide +kernel) rfl (by decide) ?_
  refine zIadd 45 (by decide +kernel) rfl ?_
  refine yIastore 6 46 (by decide +kernel) rfl (St_12 S0_) F.1 ?_
  replace F := F.2 _ rfl
  generalize zU I6 (a + 6) (I6 (a + 1) p1.toNatClampNeg : Int32).toNatClampNeg ((I6 (a + 6) (I6 (a + 1) p1.toNatClampNeg : Int32).toNatClampNeg) + 1) = I9 at F ⊢
  refine zIload_n 2 0 47 (by decide +kernel) rfl rfl ?_
  exact zIret rfl (by decide +kernel) F
set_option maxHeartbeats 2000000 in
theorem wX8_scrapeOff_0 {G : zG} {d kc ks : Nat} {I : Nat → Nat → Int32} {J : Nat → Nat → Int64} {R : Nat → Nat → Option Nat} {K : Nat → Nat × Nat} {n : Nat} {Q : Option Value → zH → Prop} (a s v : Nat) (S0_ : hSt G R K n a s v) (p1 p2 : Int32) (F : ((vp_in p1 9) ∧ ((vp_in (I (a + 2) p1.toNatClampNeg) 6) ∧ (vp_in (I (a + 2) p1.toNatClampNeg) 6 ∧ ∀ I3 : Nat → Nat → Int32, I3 = zU I (a + 4) (I (a + 2) p1.toNatClampNeg : Int32).toNatClampNeg ((I (a + 4) (I (a + 2) p1.toNatClampNeg : Int32).toNatClampNeg) - p2) → (∀ I4 : Nat → Nat → Int32, I4 = zU I3 a 8 ((I3 a 8) + p2) → ((vp_in p1 9) ∧ ((vp_in (I4 (a + 1) p1.toNatClampNeg) 6) ∧ (vp_in (I4 (a + 1) p1.toNatClampNeg) 6 ∧ ∀ I7 : Nat → Nat → Int32, I7 = zU I4 (a + 6) (I4 (a + 1) p1.toNatClampNeg : Int32).toNatClampNeg ((I4 (a + 6) (I4 (a + 1) p1.toNatClampNeg : Int32).toNatClampNeg) - 1) → Q none (I7, J, R, K, n))))))))) : zV G (d + 1) mX8_scrapeOff kc ks 0 [(0, .ref (a)), (1, .int (p1)), (2, .int (p2))] [] (I, J, R, K, n) Q := by
  refine zAload_n 0 0 1 (by decide +kernel) rfl rfl ?_
  refine gf8_3 21 4 (by decide +kernel) rfl flX8_21 (St_0 S0_) (St_7 S0_) ?_
  refine zAload_n 0 0 5 (by decide +kernel) rfl rfl ?_
  refine gf8_1 15 8 (by decide +kernel) rfl flX8_15 (St_0 S0_) (St_3 S0_) ?_
  refine zIload_n 1 1 9 (by decide +kernel) rfl rfl ?_
  obtain ⟨w1, F⟩ := F
  refine yIaload 9 10 (by decide +kernel) rfl (St_4 S0_) (w1) ?_
  refine zDup2 11 (by decide +kernel) rfl rfl rfl ?_
  obtain ⟨w2, F⟩ := F
  refine yIaload 6 12 (by decide +kernel) rfl (St_8 S0_) (w2) ?_
  refine zIload_n 2 2 13 (by decide +kernel) rfl rfl ?_
  refine zIsub 14 (by decide +kernel) rfl ?_
  refine yIastore 6 15 (by decide +kernel) rfl (St_8 S0_) F.1 ?_
  replace F := F.2 _ rfl
  generalize zU I (a + 4) (I (a + 2) p1.toNatClampNeg : Int32).toNatClampNeg ((I (a + 4) (I (a + 2) p1.toNatClampNeg : Int32).toNatClampNeg) - p2) = I3 at F ⊢
  refine zAload_n 0 0 16 (by decide +kernel) rfl rfl ?_
  refine zDup 17 (by decide +kernel) rfl rfl ?_
  refine gf8_8 37 20 (by decide +kernel) rfl flX8_37 (St_0 S0_) ?_
  refine zIload_n 2 2 21 (by decide +kernel) rfl rfl ?_
  refine zIadd 22 (by decide +kernel) rfl ?_
  refine pf8_8 37 25 (by decide +kernel) rfl flX8_37 (St_0 S0_) ?_
  replace F := F _ rfl
  generalize zU I3 a 8 ((I3 a 8) + p2) = I4 at F ⊢
  refine zAload_n 0 0 26 (by decide +kernel) rfl rfl ?_
  refine gf8_5 27 29 (by decide +kernel) rfl flX8_27 (St_0 S0_) (St_11 S0_) ?_
  refine zAload_n 0 0 30 (by decide +kernel) rfl rfl ?_
  refine gf8_0 11 33 (by decide +kernel) rfl flX8_11 (St_0 S0_) (St_1 S0_) ?_
  refine zIload_n 1 1 34 (by decide +kernel) rfl rfl ?_
  obtain ⟨w5, F⟩ := F
  refine yIaload 9 35 (by decide +kernel) rfl (St_2 S0_) (w5) ?_
  refine zDup2 36 (by decide +kernel) rfl rfl rfl ?_
  obtain ⟨w6, F⟩ := F
  refine yIaload 6 37 (by decide +kernel) rfl (St_12 S0_) (w6) ?_
  refine zIconst 1 1 38 (by decide +kernel) rfl (by decide) ?_
  refine zIsub 39 (by decide +kernel) rfl ?_
  refine yIastore 6 40 (by decide +kernel) rfl (St_12 S0_) F.1 ?_
  replace F := F.2 _ rfl
  generalize zU I4 (a + 6) (I4 (a + 1) p1.toNatClampNeg : Int32).toNatClampNeg ((I4 (a + 6) (I4 (a + 1) p1.toNatClampNeg : Int32).toNatClampNeg) - 1) = I7 at F ⊢
  exact zVret rfl (by decide +kernel) F
set_option maxHeartbeats 2000000 in
theorem wX8_pardon_0 {G : zG} {d kc ks : Nat} {I : Nat → Nat → Int32} {J : Nat → Nat → Int64} {R : Nat → Nat → Option Nat} {K : Nat → Nat × Nat} {n : Nat} {Q : Option Value → zH → Prop} (a s v : Nat) (S0_ : hSt G R K n a s v) (p1 : Int32) (F : zC G d mX8_isOpen 0 0 [.ref (a), .int (p1)] (I, J, R, K, n) (fun r h => ∃ (x1 : Int32) (I2 : Nat → Nat → Int32), r = some (.int x1) ∧ h = (I2, J, R, K, n) ∧ ((x1 = 0 → Q (some (.int ((-1)))) (I2, J, R, K, n)) ∧ (¬ (x1 = 0) → zC G d mX8_paintOff 0 0 [.ref (a), .int (p1)] (I2, J, R, K, n) (fun r h => ∃ (x4 : Int32) (I5 : Nat → Nat → Int32), r = some (.int x4) ∧ h = (I5, J, R, K, n) ∧ (vp_in p1 9 ∧ ∀ I6 : Nat → Nat → Int32, I6 = zU I5 (a + 3) p1.toNatClampNeg (0) → (∀ I7 : Nat → Nat → Int32, I7 = zU I6 a 6 ((if (999 : Int32) < ((I6 a 6) + 1) then 999 else (I6 a 6) + 1)) → Q (some (.int (x4))) (I7, J, R, K, n)))))))) : zV G (d + 1) mX8_pardon kc ks 0 [(0, .ref (a)), (1, .int (p1))] [] (I, J, R, K, n) Q := by
  refine zAload_n 0 0 1 (by decide +kernel) rfl rfl ?_
  refine zIload_n 1 1 2 (by decide +kernel) rfl rfl ?_
  refine zCallV 8 zcls8 mX8_isOpen 135 1 0 0 _ _ 5 [.int (p1)] [] okX8_isOpen mlX8_135 imX8_isOpen seX8_isOpen (by decide +kernel) rfl rfl (Nat.le_of_ble_eq_true rfl) rfl rfl (St_0 S0_) (zC.mono F ?_)
  rintro _ _ ⟨x1, I2, rfl, rfl, F⟩
  change zV G (d + 1) mX8_pardon kc ks 5 [(0, .ref (a)), (1, .int (p1))] [.int (x1)] (I2, J, R, K, n) Q
  refine zIf_ne 5 10 8 (by decide +kernel) rfl rfl ⟨fun q3 => ?_, fun q3 => ?_⟩
  · replace F := F.2 q3
    refine zAload_n 0 0 11 (by decide +kernel) rfl rfl ?_
    refine zIload_n 1 1 12 (by decide +kernel) rfl rfl ?_
    refine zCallV 8 zcls8 mX8_paintOff 139 1 0 0 _ _ 15 [.int (p1)] [] okX8_paintOff mlX8_139 imX8_paintOff seX8_paintOff (by decide +kernel) rfl rfl (Nat.le_of_ble_eq_true rfl) rfl rfl (St_0 S0_) (zC.mono F ?_)
    rintro _ _ ⟨x4, I5, rfl, rfl, F⟩
    change zV G (d + 1) mX8_pardon kc ks 15 [(0, .ref (a)), (1, .int (p1))] [.int (x4)] (I5, J, R, K, n) Q
    refine zIstore_n 2 [(2, .int (x4)), (0, .ref (a)), (1, .int (p1))] 16 (by decide +kernel) rfl (by decide) rfl ?_
    refine zAload_n 0 1 17 (by decide +kernel) rfl rfl ?_
    refine gf8_2 18 20 (by decide +kernel) rfl flX8_18 (St_0 S0_) (St_5 S0_) ?_
    refine zIload_n 1 2 21 (by decide +kernel) rfl rfl ?_
    refine zIconst 0 0 22 (by decide +kernel) rfl (by decide) ?_
    refine yIastore 9 23 (by decide +kernel) rfl (St_6 S0_) F.1 ?_
    replace F := F.2 _ rfl
    generalize zU I5 (a + 3) p1.toNatClampNeg (0) = I6 at F ⊢
    refine zAload_n 0 1 24 (by decide +kernel) rfl rfl ?_
    refine zAload_n 0 1 25 (by decide +kernel) rfl rfl ?_
    refine gf8_6 30 28 (by decide +kernel) rfl flX8_30 (St_0 S0_) ?_
    refine zIconst 1 1 29 (by decide +kernel) rfl (by decide) ?_
    refine zIadd 30 (by decide +kernel) rfl ?_
    refine zSipush 999 999 33 (by decide +kernel) rfl (by decide) ?_
    refine yMin 123 36 (by decide +kernel) rfl mlX8_123 (Nat.le_of_ble_eq_true rfl) ?_
    refine pf8_6 30 39 (by decide +kernel) rfl flX8_30 (St_0 S0_) ?_
    replace F := F _ rfl
    generalize zU I6 a 6 ((if (999 : Int32) < ((I6 a 6) + 1) then 999 else (I6 a 6) + 1)) = I7 at F ⊢
    refine zIload_n 2 0 40 (by decide +kernel) rfl rfl ?_
    exact zIret rfl (by decide +kernel) F
  · replace F := F.1 q3
    refine zIconst (-1) (-1) 9 (by decide +kernel) rfl (by decide) ?_
    exact zIret rfl (by decide +kernel) F
set_option maxHeartbeats 2000000 in
theorem wX8_daub_0 {G : zG} {d kc ks : Nat} {I : Nat → Nat → Int32} {J : Nat → Nat → Int64} {R : Nat → Nat → Option Nat} {K : Nat → Nat × Nat} {n : Nat} {Q : Option Value → zH → Prop} (a s v : Nat) (S0_ : hSt G R K n a s v) (p1 p2 : Int32) (F : zC G d mX10_isFarm 0 0 [.ref (v), .int (p1)] (I, J, R, K, n) (fun r h => ∃ (x1 : Int32) (I2 : Nat → Nat → Int32), r = some (.int x1) ∧ h = (I2, J, R, K, n) ∧ ((x1 = 0 → Q (some (.int ((-1)))) (I2, J, R, K, n)) ∧ (¬ (x1 = 0) → ((p2 < 1 → Q (some (.int ((-1)))) (I2, J, R, K, n)) ∧ (¬ (p2 < 1) → ((9 < p2 → Q (some (.int ((-1)))) (I2, J, R, K, n)) ∧ (¬ (9 < p2) → (((I2 a 8 : Int32) < p2 → Q (some (.int ((-1)))) (I2, J, R, K, n)) ∧ (¬ ((I2 a 8 : Int32) < p2) → zC G d mX8_bare 0 0 [.ref (a), .int (p1)] (I2, J, R, K, n) (fun r h => ∃ (x7 : Int32) (I8 : Nat → Nat → Int32), r = some (.int x7) ∧ h = (I8, J, R, K, n) ∧ ((p2 ≤ x7 → ((vp_in p1 6) ∧ (vp_in p1 6 ∧ ∀ I11 : Nat → Nat → Int32, I11 = zU I8 (a + 5) p1.toNatClampNeg ((I8 (a + 5) p1.toNatClampNeg) + p2) → (∀ I12 : Nat → Nat → Int32, I12 = zU I11 a 8 ((I11 a 8) - p2) → ((vp_in p1 6) ∧ Q (some (.int (I12 (a + 5) p1.toNatClampNeg))) (I12, J, R, K, n)))))) ∧ (¬ (p2 ≤ x7) → Q (some (.int ((-1)))) (I8, J, R, K, n)))))))))))))) : zV G (d + 1) mX8_daub kc ks 0 [(0, .ref (a)), (1, .int (p1)), (2, .int (p2))] [] (I, J, R, K, n) Q := by
  refine zAload_n 0 0 1 (by decide +kernel) rfl rfl ?_
  refine gf8_12 52 4 (by decide +kernel) rfl flX8_52 (St_0 S0_) (St_13 S0_) ?_
  refine gf5_0 56 7 (by decide +kernel) rfl flX8_56 (Set_0 (St_14 S0_)) (Set_1 (St_14 S0_)) ?_
  refine zIload_n 1 1 8 (by decide +kernel) rfl rfl ?_
  refine zCallV 10 zcls10 mX10_isFarm 142 1 0 0 _ _ 11 [.int (p1)] [] okX10_isFarm mlX8_142 imX10_isFarm seX10_isFarm (by decide +kernel) rfl rfl (Nat.le_of_ble_eq_true rfl) rfl rfl (Vil_0 (Set_2 (St_14 S0_))) (zC.mono F ?_)
  rintro _ _ ⟨x1, I2, rfl, rfl, F⟩
  change zV G (d + 1) mX8_daub kc ks 11 [(0, .ref (a)), (1, .int (p1)), (2, .int (p2))] [.int (x1)] (I2, J, R, K, n) Q
  refine zIf_eq 31 42 14 (by decide +kernel) rfl rfl ⟨fun q3 => ?_, fun q3 => ?_⟩
  · replace F := F.1 q3
    refine zIconst (-1) (-1) 43 (by decide +kernel) rfl (by decide) ?_
    exact zIret rfl (by decide +kernel) F
  · replace F := F.2 q3
    refine zIload_n 2 2 15 (by decide +kernel) rfl rfl ?_
    refine zIconst 1 1 16 (by decide +kernel) rfl (by decide) ?_
    refine zIcmp_lt 26 42 19 (by decide +kernel) rfl rfl ⟨fun q4 => ?_, fun q4 => ?_⟩
    · replace F := F.1 q4
      refine zIconst (-1) (-1) 43 (by decide +kernel) rfl (by decide) ?_
      exact zIret rfl (by decide +kernel) F
    · replace F := F.2 q4
      refine zIload_n 2 2 20 (by decide +kernel) rfl rfl ?_
      refine zBipush 9 9 22 (by decide +kernel) rfl (by decide) ?_
      refine zIcmp_gt 20 42 25 (by decide +kernel) rfl rfl ⟨fun q5 => ?_, fun q5 => ?_⟩
      · replace F := F.1 q5
        refine zIconst (-1) (-1) 43 (by decide +kernel) rfl (by decide) ?_
        exact zIret rfl (by decide +kernel) F
      · replace F := F.2 q5
        refine zIload_n 2 2 26 (by decide +kernel) rfl rfl ?_
        refine zAload_n 0 0 27 (by decide +kernel) rfl rfl ?_
        refine gf8_8 37 30 (by decide +kernel) rfl flX8_37 (St_0 S0_) ?_
        refine zIcmp_gt 12 42 33 (by decide +kernel) rfl rfl ⟨fun q6 => ?_, fun q6 => ?_⟩
        · replace F := F.1 q6
          refine zIconst (-1) (-1) 43 (by decide +kernel) rfl (by decide) ?_
          exact zIret rfl (by decide +kernel) F
        · replace F := F.2 q6
          refine zIload_n 2 2 34 (by decide +kernel) rfl rfl ?_
          refine zAload_n 0 0 35 (by decide +kernel) rfl rfl ?_
          refine zIload_n 1 1 36 (by decide +kernel) rfl rfl ?_
          refine zCallV 8 zcls8 mX8_bare 101 1 0 0 _ _ 39 [.int (p1)] [.int (p2)] okX8_bare mlX8_101 imX8_bare seX8_bare (by decide +kernel) rfl rfl (Nat.le_of_ble_eq_true rfl) rfl rfl (St_0 S0_) (zC.mono F ?_)
          rintro _ _ ⟨x7, I8, rfl, rfl, F⟩
          change zV G (d + 1) mX8_daub kc ks 39 [(0, .ref (a)), (1, .int (p1)), (2, .int (p2))] [.int (x7), .int (p2)] (I8, J, R, K, n) Q
          refine zIcmp_le 5 44 42 (by decide +kernel) rfl rfl ⟨fun q9 => ?_, fun q9 => ?_⟩
          · replace F := F.1 q9
            refine zAload_n 0 0 45 (by decide +kernel) rfl rfl ?_
            refine gf8_4 24 48 (by decide +kernel) rfl flX8_24 (St_0 S0_) (St_9 S0_) ?_
            refine zIload_n 1 1 49 (by decide +kernel) rfl rfl ?_
            refine zDup2 50 (by decide +kernel) rfl rfl rfl ?_
            obtain ⟨w10, F⟩ := F
            refine yIaload 6 51 (by decide +kernel) rfl (St_10 S0_) (w10) ?_
            refine zIload_n 2 2 52 (by decide +kernel) rfl rfl ?_
            refine zIadd 53 (by decide +kernel) rfl ?_
            refine yIastore 6 54 (by decide +kernel) rfl (St_10 S0_) F.1 ?_
            replace F := F.2 _ rfl
            generalize zU I8 (a + 5) p1.toNatClampNeg ((I8 (a + 5) p1.toNatClampNeg) + p2) = I11 at F ⊢
            refine zAload_n 0 0 55 (by decide +kernel) rfl rfl ?_
            refine zDup 56 (by decide +kernel) rfl rfl ?_
            refine gf8_8 37 59 (by decide +kernel) rfl flX8_37 (St_0 S0_) ?_
            refine zIload_n 2 2 60 (by decide +kernel) rfl rfl ?_
            refine zIsub 61 (by decide +kernel) rfl ?_
            refine pf8_8 37 64 (by decide +kernel) rfl flX8_37 (St_0 S0_) ?_
            replace F := F _ rfl
            generalize zU I11 a 8 ((I11 a 8) - p2) = I12 at F ⊢
            refine zAload_n 0 0 65 (by decide +kernel) rfl rfl ?_
            refine gf8_4 24 68 (by decide +kernel) rfl flX8_24 (St_0 S0_) (St_9 S0_) ?_
            refine zIload_n 1 1 69 (by decide +kernel) rfl rfl ?_
            obtain ⟨w13, F⟩ := F
            refine yIaload 6 70 (by decide +kernel) rfl (St_10 S0_) (w13) ?_
            exact zIret rfl (by decide +kernel) F
          · replace F := F.2 q9
            refine zIconst (-1) (-1) 43 (by decide +kernel) rfl (by decide) ?_
            exact zIret rfl (by decide +kernel) F
set_option maxHeartbeats 2000000 in
theorem wX8_thumb_0 {G : zG} {d kc ks : Nat} {I : Nat → Nat → Int32} {J : Nat → Nat → Int64} {R : Nat → Nat → Option Nat} {K : Nat → Nat × Nat} {n : Nat} {Q : Option Value → zH → Prop} (a s v : Nat) (S0_ : hSt G R K n a s v) (p1 : Int32) (F : zC G d mX10_isFarm 0 0 [.ref (v), .int (p1)] (I, J, R, K, n) (fun r h => ∃ (x1 : Int32) (I2 : Nat → Nat → Int32), r = some (.int x1) ∧ h = (I2, J, R, K, n) ∧ ((x1 = 0 → Q (some (.int ((-1)))) (I2, J, R, K, n)) ∧ (¬ (x1 = 0) → ((vp_in p1 6) ∧ (((I2 (a + 5) p1.toNatClampNeg : Int32) = 0 → Q (some (.int ((-1)))) (I2, J, R, K, n)) ∧ (¬ ((I2 (a + 5) p1.toNatClampNeg : Int32) = 0) → ((vp_in p1 6) ∧ (vp_in p1 6 ∧ ∀ I7 : Nat → Nat → Int32, I7 = zU I2 (a + 5) p1.toNatClampNeg (0) → (∀ I8 : Nat → Nat → Int32, I8 = zU I7 a 9 ((if ((I7 a 9) - (I2 (a + 5) p1.toNatClampNeg) : Int32) < 0 then 0 else (I7 a 9) - (I2 (a + 5) p1.toNatClampNeg))) → Q (some (.int (I2 (a + 5) p1.toNatClampNeg))) (I8, J, R, K, n))))))))))) : zV G (d + 1) mX8_thumb kc ks 0 [(0, .ref (a)), (1, .int (p1))] [] (I, J, R, K, n) Q := by
  refine zAload_n 0 0 1 (by decide +kernel) rfl rfl ?_
  refine gf8_12 52 4 (by decide +kernel) rfl flX8_52 (St_0 S0_) (St_13 S0_) ?_
  refine gf5_0 56 7 (by decide +kernel) rfl flX8_56 (Set_0 (St_14 S0_)) (Set_1 (St_14 S0_)) ?_
  refine zIload_n 1 1 8 (by decide +kernel) rfl rfl ?_
  refine zCallV 10 zcls10 mX10_isFarm 142 1 0 0 _ _ 11 [.int (p1)] [] okX10_isFarm mlX8_142 imX10_isFarm seX10_isFarm (by decide +kernel) rfl rfl (Nat.le_of_ble_eq_true rfl) rfl rfl (Vil_0 (Set_2 (St_14 S0_))) (zC.mono F ?_)
  rintro _ _ ⟨x1, I2, rfl, rfl, F⟩
  change zV G (d + 1) mX8_thumb kc ks 11 [(0, .ref (a)), (1, .int (p1))] [.int (x1)] (I2, J, R, K, n) Q
  refine zIf_eq 12 23 14 (by decide +kernel) rfl rfl ⟨fun q3 => ?_, fun q3 => ?_⟩
  · replace F := F.1 q3
    refine zIconst (-1) (-1) 24 (by decide +kernel) rfl (by decide) ?_
    exact zIret rfl (by decide +kernel) F
  · replace F := F.2 q3
    refine zAload_n 0 0 15 (by decide +kernel) rfl rfl ?_
    refine gf8_4 24 18 (by decide +kernel) rfl flX8_24 (St_0 S0_) (St_9 S0_) ?_
    refine zIload_n 1 1 19 (by decide +kernel) rfl rfl ?_
    obtain ⟨w4, F⟩ := F
    refine yIaload 6 20 (by decide +kernel) rfl (St_10 S0_) (w4) ?_
    refine zIf_ne 5 25 23 (by decide +kernel) rfl rfl ⟨fun q5 => ?_, fun q5 => ?_⟩
    · replace F := F.2 q5
      refine zAload_n 0 0 26 (by decide +kernel) rfl rfl ?_
      refine gf8_4 24 29 (by decide +kernel) rfl flX8_24 (St_0 S0_) (St_9 S0_) ?_
      refine zIload_n 1 1 30 (by decide +kernel) rfl rfl ?_
      obtain ⟨w6, F⟩ := F
      refine yIaload 6 31 (by decide +kernel) rfl (St_10 S0_) (w6) ?_
      refine zIstore_n 2 [(2, .int (I2 (a + 5) p1.toNatClampNeg)), (0, .ref (a)), (1, .int (p1))] 32 (by decide +kernel) rfl (by decide) rfl ?_
      refine zAload_n 0 1 33 (by decide +kernel) rfl rfl ?_
      refine gf8_4 24 36 (by decide +kernel) rfl flX8_24 (St_0 S0_) (St_9 S0_) ?_
      refine zIload_n 1 2 37 (by decide +kernel) rfl rfl ?_
      refine zIconst 0 0 38 (by decide +kernel) rfl (by decide) ?_
      refine yIastore 6 39 (by decide +kernel) rfl (St_10 S0_) F.1 ?_
      replace F := F.2 _ rfl
      generalize zU I2 (a + 5) p1.toNatClampNeg (0) = I7 at F ⊢
      refine zAload_n 0 1 40 (by decide +kernel) rfl rfl ?_
      refine zAload_n 0 1 41 (by decide +kernel) rfl rfl ?_
      refine gf8_9 40 44 (by decide +kernel) rfl flX8_40 (St_0 S0_) ?_
      refine zIload_n 2 0 45 (by decide +kernel) rfl rfl ?_
      refine zIsub 46 (by decide +kernel) rfl ?_
      refine zIconst 0 0 47 (by decide +kernel) rfl (by decide) ?_
      refine yMax 129 50 (by decide +kernel) rfl mlX8_129 (Nat.le_of_ble_eq_true rfl) ?_
      refine pf8_9 40 53 (by decide +kernel) rfl flX8_40 (St_0 S0_) ?_
      replace F := F _ rfl
      generalize zU I7 a 9 ((if ((I7 a 9) - (I2 (a + 5) p1.toNatClampNeg) : Int32) < 0 then 0 else (I7 a 9) - (I2 (a + 5) p1.toNatClampNeg))) = I8 at F ⊢
      refine zIload_n 2 0 54 (by decide +kernel) rfl rfl ?_
      exact zIret rfl (by decide +kernel) F
    · replace F := F.1 q5
      refine zIconst (-1) (-1) 24 (by decide +kernel) rfl (by decide) ?_
      exact zIret rfl (by decide +kernel) F
set_option maxHeartbeats 2000000 in
theorem wX8_offend_0 {G : zG} {d kc ks : Nat} {I : Nat → Nat → Int32} {J : Nat → Nat → Int64} {R : Nat → Nat → Option Nat} {K : Nat → Nat × Nat} {n : Nat} {Q : Option Value → zH → Prop} (a s v : Nat) (S0_ : hSt G R K n a s v) (p1 p2 p3 : Int32) (F : zC G d mX10_isFarm 0 0 [.ref (v), .int (p1)] (I, J, R, K, n) (fun r h => ∃ (x1 : Int32) (I2 : Nat → Nat → Int32), r = some (.int x1) ∧ h = (I2, J, R, K, n) ∧ ((x1 = 0 → Q (some (.int ((-1)))) (I2, J, R, K, n)) ∧ (¬ (x1 = 0) → zC G d mX10_isFarm 0 0 [.ref (v), .int (p2)] (I2, J, R, K, n) (fun r h => ∃ (x4 : Int32) (I5 : Nat → Nat → Int32), r = some (.int x4) ∧ h = (I5, J, R, K, n) ∧ ((x4 = 0 → Q (some (.int ((-1)))) (I5, J, R, K, n)) ∧ (¬ (x4 = 0) → ((p1 = p2 → Q (some (.int ((-1)))) (I5, J, R, K, n)) ∧ (¬ (p1 = p2) → ((p3 < 1 → Q (some (.int ((-1)))) (I5, J, R, K, n)) ∧ (¬ (p3 < 1) → ((p3 ≤ 9 → zV G (d + 1) mX8_offend kc ks 48 [(0, .ref (a)), (1, .int (p1)), (2, .int (p2)), (3, .int (p3)), (4, .ref (v)), (5, .int (0))] [] (I5, J, R, K, n) Q) ∧ (¬ (p3 ≤ 9) → Q (some (.int ((-1)))) (I5, J, R, K, n)))))))))))))) : zV G (d + 1) mX8_offend kc ks 0 [(0, .ref (a)), (1, .int (p1)), (2, .int (p2)), (3, .int (p3))] [] (I, J, R, K, n) Q := by
  refine zAload_n 0 0 1 (by decide +kernel) rfl rfl ?_
  refine gf8_12 52 4 (by decide +kernel) rfl flX8_52 (St_0 S0_) (St_13 S0_) ?_
  refine gf5_0 56 7 (by decide +kernel) rfl flX8_56 (Set_0 (St_14 S0_)) (Set_1 (St_14 S0_)) ?_
  refine zAstore 4 [(4, .ref (v)), (0, .ref (a)), (1, .int (p1)), (2, .int (p2)), (3, .int (p3))] 9 (by decide +kernel) rfl (by decide) rfl ?_
  refine zAload 4 0 11 (by decide +kernel) rfl rfl ?_
  refine zIload_n 1 2 12 (by decide +kernel) rfl rfl ?_
  refine zCallV 10 zcls10 mX10_isFarm 142 1 0 0 _ _ 15 [.int (p1)] [] okX10_isFarm mlX8_142 imX10_isFarm seX10_isFarm (by decide +kernel) rfl rfl (Nat.le_of_ble_eq_true rfl) rfl rfl (Vil_0 (Set_2 (St_14 S0_))) (zC.mono F ?_)
  rintro _ _ ⟨x1, I2, rfl, rfl, F⟩
  change zV G (d + 1) mX8_offend kc ks 15 [(4, .ref (v)), (0, .ref (a)), (1, .int (p1)), (2, .int (p2)), (3, .int (p3))] [.int (x1)] (I2, J, R, K, n) Q
  refine zIf_eq 28 43 18 (by decide +kernel) rfl rfl ⟨fun q3 => ?_, fun q3 => ?_⟩
  · replace F := F.1 q3
    refine zIconst (-1) (-1) 44 (by decide +kernel) rfl (by decide) ?_
    exact zIret rfl (by decide +kernel) F
  · replace F := F.2 q3
    refine zAload 4 0 20 (by decide +kernel) rfl rfl ?_
    refine zIload_n 2 3 21 (by decide +kernel) rfl rfl ?_
    refine zCallV 10 zcls10 mX10_isFarm 142 1 0 0 _ _ 24 [.int (p2)] [] okX10_isFarm mlX8_142 imX10_isFarm seX10_isFarm (by decide +kernel) rfl rfl (Nat.le_of_ble_eq_true rfl) rfl rfl (Vil_0 (Set_2 (St_14 S0_))) (zC.mono F ?_)
    rintro _ _ ⟨x4, I5, rfl, rfl, F⟩
    change zV G (d + 1) mX8_offend kc ks 24 [(4, .ref (v)), (0, .ref (a)), (1, .int (p1)), (2, .int (p2)), (3, .int (p3))] [.int (x4)] (I5, J, R, K, n) Q
    refine zIf_eq 19 43 27 (by decide +kernel) rfl rfl ⟨fun q6 => ?_, fun q6 => ?_⟩
    · replace F := F.1 q6
      refine zIconst (-1) (-1) 44 (by decide +kernel) rfl (by decide) ?_
      exact zIret rfl (by decide +kernel) F
    · replace F := F.2 q6
      refine zIload_n 1 2 28 (by decide +kernel) rfl rfl ?_
      refine zIload_n 2 3 29 (by decide +kernel) rfl rfl ?_
      refine zIcmp_eq 14 43 32 (by decide +kernel) rfl rfl ⟨fun q7 => ?_, fun q7 => ?_⟩
      · replace F := F.1 q7
        refine zIconst (-1) (-1) 44 (by decide +kernel) rfl (by decide) ?_
        exact zIret rfl (by decide +kernel) F
      · replace F := F.2 q7
        refine zIload_n 3 4 33 (by decide +kernel) rfl rfl ?_
        refine zIconst 1 1 34 (by decide +kernel) rfl (by decide) ?_
        refine zIcmp_lt 9 43 37 (by decide +kernel) rfl rfl ⟨fun q8 => ?_, fun q8 => ?_⟩
        · replace F := F.1 q8
          refine zIconst (-1) (-1) 44 (by decide +kernel) rfl (by decide) ?_
          exact zIret rfl (by decide +kernel) F
        · replace F := F.2 q8
          refine zIload_n 3 4 38 (by decide +kernel) rfl rfl ?_
          refine zBipush 9 9 40 (by decide +kernel) rfl (by decide) ?_
          refine zIcmp_le 5 45 43 (by decide +kernel) rfl rfl ⟨fun q9 => ?_, fun q9 => ?_⟩
          · replace F := F.1 q9
            refine zIconst 0 0 46 (by decide +kernel) rfl (by decide) ?_
            refine zIstore 5 [(5, .int (0)), (4, .ref (v)), (0, .ref (a)), (1, .int (p1)), (2, .int (p2)), (3, .int (p3))] 48 (by decide +kernel) rfl (by decide) rfl ?_
            exact zLoc [2, 3, 4, 5, 1, 0] _ rfl F
          · replace F := F.2 q9
            refine zIconst (-1) (-1) 44 (by decide +kernel) rfl (by decide) ?_
            exact zIret rfl (by decide +kernel) F
set_option maxHeartbeats 2000000 in
theorem wX8_offend_48 {G : zG} {d kc ks : Nat} {I : Nat → Nat → Int32} {J : Nat → Nat → Int64} {R : Nat → Nat → Option Nat} {K : Nat → Nat × Nat} {n : Nat} {Q : Option Value → zH → Prop} (a s v : Nat) (S0_ : hSt G R K n a s v) (l1 l2 l3 l5 : Int32) (F : ((9 ≤ l5 → Q (some (.int ((-1)))) (I, J, R, K, n)) ∧ (¬ (9 ≤ l5) → ((vp_in l5 9) ∧ (((I (a + 3) l5.toNatClampNeg : Int32) = 0 → (vp_in l5 9 ∧ ∀ I13 : Nat → Nat → Int32, I13 = zU I (a + 1) l5.toNatClampNeg (l1) → (vp_in l5 9 ∧ ∀ I14 : Nat → Nat → Int32, I14 = zU I13 (a + 2) l5.toNatClampNeg (l2) → (vp_in l5 9 ∧ ∀ I15 : Nat → Nat → Int32, I15 = zU I14 (a + 3) l5.toNatClampNeg (l3) → Q (some (.int (l5))) (I15, J, R, K, n))))) ∧ (¬ ((I (a + 3) l5.toNatClampNeg : Int32) = 0) → zV G (d + 1) mX8_offend kc ks 48 [(0, .ref (a)), (1, .int (l1)), (2, .int (l2)), (3, .int (l3)), (4, .ref (v)), (5, .int (l5 + 1))] [] (I, J, R, K, n) Q)))))) : zV G (d + 1) mX8_offend kc ks 48 [(0, .ref (a)), (1, .int (l1)), (2, .int (l2)), (3, .int (l3)), (4, .ref (v)), (5, .int (l5))] [] (I, J, R, K, n) Q := by
  refine zIload 5 5 50 (by decide +kernel) rfl rfl ?_
  refine zBipush 9 9 52 (by decide +kernel) rfl (by decide) ?_
  refine zIcmp_ge 46 98 55 (by decide +kernel) rfl rfl ⟨fun q10 => ?_, fun q10 => ?_⟩
  · replace F := F.1 q10
    refine zIconst (-1) (-1) 99 (by decide +kernel) rfl (by decide) ?_
    exact zIret rfl (by decide +kernel) F
  · replace F := F.2 q10
    refine zAload_n 0 0 56 (by decide +kernel) rfl rfl ?_
    refine gf8_2 18 59 (by decide +kernel) rfl flX8_18 (St_0 S0_) (St_5 S0_) ?_
    refine zIload 5 5 61 (by decide +kernel) rfl rfl ?_
    obtain ⟨w11, F⟩ := F
    refine yIaload 9 62 (by decide +kernel) rfl (St_6 S0_) (w11) ?_
    refine zIf_ne 30 92 65 (by decide +kernel) rfl rfl ⟨fun q12 => ?_, fun q12 => ?_⟩
    · replace F := F.2 q12
      refine zIinc 5 1 5 (l5 + 1) [(5, .int (l5 + 1)), (0, .ref (a)), (1, .int (l1)), (2, .int (l2)), (3, .int (l3)), (4, .ref (v))] 95 (by decide +kernel) rfl rfl (by rfl) (by decide) rfl ?_
      refine zGoto (-47) 48 (by decide +kernel) rfl ?_
      exact zLoc [1, 2, 3, 4, 5, 0] _ rfl F
    · replace F := F.1 q12
      refine zAload_n 0 0 66 (by decide +kernel) rfl rfl ?_
      refine gf8_0 11 69 (by decide +kernel) rfl flX8_11 (St_0 S0_) (St_1 S0_) ?_
      refine zIload 5 5 71 (by decide +kernel) rfl rfl ?_
      refine zIload_n 1 1 72 (by decide +kernel) rfl rfl ?_
      refine yIastore 9 73 (by decide +kernel) rfl (St_2 S0_) F.1 ?_
      replace F := F.2 _ rfl
      generalize zU I (a + 1) l5.toNatClampNeg (l1) = I13 at F ⊢
      refine zAload_n 0 0 74 (by decide +kernel) rfl rfl ?_
      refine gf8_1 15 77 (by decide +kernel) rfl flX8_15 (St_0 S0_) (St_3 S0_) ?_
      refine zIload 5 5 79 (by decide +kernel) rfl rfl ?_
      refine zIload_n 2 2 80 (by decide +kernel) rfl rfl ?_
      refine yIastore 9 81 (by decide +kernel) rfl (St_4 S0_) F.1 ?_
      replace F := F.2 _ rfl
      generalize zU I13 (a + 2) l5.toNatClampNeg (l2) = I14 at F ⊢
      refine zAload_n 0 0 82 (by decide +kernel) rfl rfl ?_
      refine gf8_2 18 85 (by decide +kernel) rfl flX8_18 (St_0 S0_) (St_5 S0_) ?_
      refine zIload 5 5 87 (by decide +kernel) rfl rfl ?_
      refine zIload_n 3 3 88 (by decide +kernel) rfl rfl ?_
      refine yIastore 9 89 (by decide +kernel) rfl (St_6 S0_) F.1 ?_
      replace F := F.2 _ rfl
      generalize zU I14 (a + 3) l5.toNatClampNeg (l3) = I15 at F ⊢
      refine zIload 5 5 91 (by decide +kernel) rfl rfl ?_
      exact zIret rfl (by decide +kernel) F
set_option maxHeartbeats 2000000 in
theorem wX8_wear_0 {G : zG} {d kc ks : Nat} {I : Nat → Nat → Int32} {J : Nat → Nat → Int64} {R : Nat → Nat → Option Nat} {K : Nat → Nat × Nat} {n : Nat} {Q : Option Value → zH → Prop} (a s v : Nat) (S0_ : hSt G R K n a s v) (F : (∀ I1 : Nat → Nat → Int32, I1 = zU I a 11 (0) → zV G (d + 1) mX8_wear kc ks 7 [(0, .ref (a)), (1, .int (0))] [] (I1, J, R, K, n) Q)) : zV G (d + 1) mX8_wear kc ks 0 [(0, .ref (a))] [] (I, J, R, K, n) Q := by
  refine zAload_n 0 0 1 (by decide +kernel) rfl rfl ?_
  refine zIconst 0 0 2 (by decide +kernel) rfl (by decide) ?_
  refine pf8_11 46 5 (by decide +kernel) rfl flX8_46 (St_0 S0_) ?_
  replace F := F _ rfl
  generalize zU I a 11 (0) = I1 at F ⊢
  refine zIconst 0 0 6 (by decide +kernel) rfl (by decide) ?_
  refine zIstore_n 1 [(1, .int (0)), (0, .ref (a))] 7 (by decide +kernel) rfl (by decide) rfl ?_
  exact zLoc [1, 0] _ rfl F
set_option maxHeartbeats 2000000 in
theorem wX8_wear_7 {G : zG} {d kc ks : Nat} {I : Nat → Nat → Int32} {J : Nat → Nat → Int64} {R : Nat → Nat → Option Nat} {K : Nat → Nat × Nat} {n : Nat} {Q : Option Value → zH → Prop} (a s v : Nat) (S0_ : hSt G R K n a s v) (l1 : Int32) (F : (((I v 5 : Int32) ≤ l1 → (∀ I3 : Nat → Nat → Int32, I3 = zU I a 7 ((if (9999 : Int32) < ((I a 7) + (I a 11)) then 9999 else (I a 7) + (I a 11))) → zC G d mX8_whites 0 0 [.ref (a)] (I3, J, R, K, n) (fun r h => ∃ (x4 : Int32) (I5 : Nat → Nat → Int32), r = some (.int x4) ∧ h = (I5, J, R, K, n) ∧ zC G d mJ6_bitCount_0f7a4 0 0 [.int (x4)] (I5, J, R, K, n) (fun r h => ∃ (x6 : Int32), r = some (.int x6) ∧ h = (I5, J, R, K, n) ∧ (∀ I7 : Nat → Nat → Int32, I7 = zU I5 a 9 ((if (999 : Int32) < ((I3 a 9) + x6) then 999 else (I3 a 9) + x6)) → (∀ I8 : Nat → Nat → Int32, I8 = zU I7 a 10 ((I7 a 10) + 1) → Q none (I8, J, R, K, n))))))) ∧ (¬ ((I v 5 : Int32) ≤ l1) → ((vp_in l1 6) ∧ ((vp_in l1 6) ∧ (vp_in l1 6 ∧ ∀ I11 : Nat → Nat → Int32, I11 = zU I (a + 5) l1.toNatClampNeg ((I (a + 5) l1.toNatClampNeg) - (((I (a + 5) l1.toNatClampNeg) + 1) / 2)) → (∀ I12 : Nat → Nat → Int32, I12 = zU I11 a 11 ((I11 a 11) + (((I (a + 5) l1.toNatClampNeg) + 1) / 2)) → ((((I12 a 10) - (I12 a 10) / 3 * 3 : Int32) = 2 → ((vp_in l1 6) ∧ (((I12 (a + 4) l1.toNatClampNeg : Int32) ≤ 0 → zV G (d + 1) mX8_wear kc ks 7 [(0, .ref (a)), (1, .int (l1 + 1))] [] (I12, J, R, K, n) Q) ∧ (¬ ((I12 (a + 4) l1.toNatClampNeg : Int32) ≤ 0) → ((vp_in l1 6) ∧ (vp_in l1 6 ∧ ∀ I17 : Nat → Nat → Int32, I17 = zU I12 (a + 4) l1.toNatClampNeg ((I12 (a + 4) l1.toNatClampNeg) - 1) → zV G (d + 1) mX8_wear kc ks 7 [(0, .ref (a)), (1, .int (l1 + 1))] [] (I17, J, R, K, n) Q)))))) ∧ (¬ (((I12 a 10) - (I12 a 10) / 3 * 3 : Int32) = 2) → zV G (d + 1) mX8_wear kc ks 7 [(0, .ref (a)), (1, .int (l1 + 1))] [] (I12, J, R, K, n) Q))))))))) : zV G (d + 1) mX8_wear kc ks 7 [(0, .ref (a)), (1, .int (l1))] [] (I, J, R, K, n) Q := by
  refine zIload_n 1 1 8 (by decide +kernel) rfl rfl ?_
  refine zAload_n 0 0 9 (by decide +kernel) rfl rfl ?_
  refine gf8_12 52 12 (by decide +kernel) rfl flX8_52 (St_0 S0_) (St_13 S0_) ?_
  refine gf5_0 56 15 (by decide +kernel) rfl flX8_56 (Set_0 (St_14 S0_)) (Set_1 (St_14 S0_)) ?_
  refine gf10_5 98 18 (by decide +kernel) rfl flX8_98 (Vil_0 (Set_2 (St_14 S0_))) ?_
  refine zIcmp_ge 69 87 21 (by decide +kernel) rfl rfl ⟨fun q2 => ?_, fun q2 => ?_⟩
  · replace F := F.1 q2
    refine zAload_n 0 0 88 (by decide +kernel) rfl rfl ?_
    refine zAload_n 0 0 89 (by decide +kernel) rfl rfl ?_
    refine gf8_7 34 92 (by decide +kernel) rfl flX8_34 (St_0 S0_) ?_
    refine zAload_n 0 0 93 (by decide +kernel) rfl rfl ?_
    refine gf8_11 46 96 (by decide +kernel) rfl flX8_46 (St_0 S0_) ?_
    refine zIadd 97 (by decide +kernel) rfl ?_
    refine zSipush 9999 9999 100 (by decide +kernel) rfl (by decide) ?_
    refine yMin 123 103 (by decide +kernel) rfl mlX8_123 (Nat.le_of_ble_eq_true rfl) ?_
    refine pf8_7 34 106 (by decide +kernel) rfl flX8_34 (St_0 S0_) ?_
    replace F := F _ rfl
    generalize zU I a 7 ((if (9999 : Int32) < ((I a 7) + (I a 11)) then 9999 else (I a 7) + (I a 11))) = I3 at F ⊢
    refine zAload_n 0 0 107 (by decide +kernel) rfl rfl ?_
    refine zAload_n 0 0 108 (by decide +kernel) rfl rfl ?_
    refine gf8_9 40 111 (by decide +kernel) rfl flX8_40 (St_0 S0_) ?_
    refine zAload_n 0 0 112 (by decide +kernel) rfl rfl ?_
    refine zCallV 8 zcls8 mX8_whites 145 0 0 0 _ _ 115 [] [.int (I3 a 9), .ref (a)] okX8_whites mlX8_145 imX8_whites seX8_whites (by decide +kernel) rfl rfl (Nat.le_of_ble_eq_true rfl) rfl rfl (St_0 S0_) (zC.mono F ?_)
    rintro _ _ ⟨x4, I5, rfl, rfl, F⟩
    change zV G (d + 1) mX8_wear kc ks 115 [(0, .ref (a)), (1, .int (l1))] [.int (x4), .int (I3 a 9), .ref (a)] (I5, J, R, K, n) Q
    refine zCallS mJ6_bitCount_0f7a4 149 1 0 0 _ _ 118 [.int (x4)] [.int (I3 a 9), .ref (a)] okJ6_bitCount_0f7a4 mlX8_149 smJ6_bitCount_0f7a4 (by decide +kernel) rfl rfl (Nat.le_of_ble_eq_true rfl) rfl rfl (zC.mono F ?_)
    rintro _ _ ⟨x6, rfl, rfl, F⟩
    change zV G (d + 1) mX8_wear kc ks 118 [(0, .ref (a)), (1, .int (l1))] [.int (x6), .int (I3 a 9), .ref (a)] (I5, J, R, K, n) Q
    refine zIadd 119 (by decide +kernel) rfl ?_
    refine zSipush 999 999 122 (by decide +kernel) rfl (by decide) ?_
    refine yMin 123 125 (by decide +kernel) rfl mlX8_123 (Nat.le_of_ble_eq_true rfl) ?_
    refine pf8_9 40 128 (by decide +kernel) rfl flX8_40 (St_0 S0_) ?_
    replace F := F _ rfl
    generalize zU I5 a 9 ((if (999 : Int32) < ((I3 a 9) + x6) then 999 else (I3 a 9) + x6)) = I7 at F ⊢
    refine zAload_n 0 0 129 (by decide +kernel) rfl rfl ?_
    refine zDup 130 (by decide +kernel) rfl rfl ?_
    refine gf8_10 43 133 (by decide +kernel) rfl flX8_43 (St_0 S0_) ?_
    refine zIconst 1 1 134 (by decide +kernel) rfl (by decide) ?_
    refine zIadd 135 (by decide +kernel) rfl ?_
    refine pf8_10 43 138 (by decide +kernel) rfl flX8_43 (St_0 S0_) ?_
    replace F := F _ rfl
    generalize zU I7 a 10 ((I7 a 10) + 1) = I8 at F ⊢
    exact zVret rfl (by decide +kernel) F
  · replace F := F.2 q2
    refine zAload_n 0 0 22 (by decide +kernel) rfl rfl ?_
    refine gf8_4 24 25 (by decide +kernel) rfl flX8_24 (St_0 S0_) (St_9 S0_) ?_
    refine zIload_n 1 1 26 (by decide +kernel) rfl rfl ?_
    obtain ⟨w9, F⟩ := F
    refine yIaload 6 27 (by decide +kernel) rfl (St_10 S0_) (w9) ?_
    refine zIconst 1 1 28 (by decide +kernel) rfl (by decide) ?_
    refine zIadd 29 (by decide +kernel) rfl ?_
    refine zIconst 2 2 30 (by decide +kernel) rfl (by decide) ?_
    refine zIdiv 31 (by decide +kernel) rfl (by decide) ?_
    refine zIstore_n 2 [(2, .int (((I (a + 5) l1.toNatClampNeg) + 1) / 2)), (0, .ref (a)), (1, .int (l1))] 32 (by decide +kernel) rfl (by decide) rfl ?_
    refine zAload_n 0 1 33 (by decide +kernel) rfl rfl ?_
    refine gf8_4 24 36 (by decide +kernel) rfl flX8_24 (St_0 S0_) (St_9 S0_) ?_
    refine zIload_n 1 2 37 (by decide +kernel) rfl rfl ?_
    refine zDup2 38 (by decide +kernel) rfl rfl rfl ?_
    obtain ⟨w10, F⟩ := F
    refine yIaload 6 39 (by decide +kernel) rfl (St_10 S0_) (w10) ?_
    refine zIload_n 2 0 40 (by decide +kernel) rfl rfl ?_
    refine zIsub 41 (by decide +kernel) rfl ?_
    refine yIastore 6 42 (by decide +kernel) rfl (St_10 S0_) F.1 ?_
    replace F := F.2 _ rfl
    generalize zU I (a + 5) l1.toNatClampNeg ((I (a + 5) l1.toNatClampNeg) - (((I (a + 5) l1.toNatClampNeg) + 1) / 2)) = I11 at F ⊢
    refine zAload_n 0 1 43 (by decide +kernel) rfl rfl ?_
    refine zDup 44 (by decide +kernel) rfl rfl ?_
    refine gf8_11 46 47 (by decide +kernel) rfl flX8_46 (St_0 S0_) ?_
    refine zIload_n 2 0 48 (by decide +kernel) rfl rfl ?_
    refine zIadd 49 (by decide +kernel) rfl ?_
    refine pf8_11 46 52 (by decide +kernel) rfl flX8_46 (St_0 S0_) ?_
    replace F := F _ rfl
    generalize zU I11 a 11 ((I11 a 11) + (((I (a + 5) l1.toNatClampNeg) + 1) / 2)) = I12 at F ⊢
    refine zAload_n 0 1 53 (by decide +kernel) rfl rfl ?_
    refine gf8_10 43 56 (by decide +kernel) rfl flX8_43 (St_0 S0_) ?_
    refine zIconst 3 3 57 (by decide +kernel) rfl (by decide) ?_
    refine zIrem 58 (by decide +kernel) rfl (by decide) ?_
    refine zIconst 2 2 59 (by decide +kernel) rfl (by decide) ?_
    refine zIcmp_ne 22 81 62 (by decide +kernel) rfl rfl ⟨fun q13 => ?_, fun q13 => ?_⟩
    · replace F := F.2 q13
      refine zIinc 1 1 2 (l1 + 1) [(1, .int (l1 + 1)), (2, .int (((I (a + 5) l1.toNatClampNeg) + 1) / 2)), (0, .ref (a))] 84 (by decide +kernel) rfl rfl (by rfl) (by decide) rfl ?_
      refine zGoto (-77) 7 (by decide +kernel) rfl ?_
      exact zLoc [2, 0] _ rfl F
    · replace F := F.1 q13
      refine zAload_n 0 1 63 (by decide +kernel) rfl rfl ?_
      refine gf8_3 21 66 (by decide +kernel) rfl flX8_21 (St_0 S0_) (St_7 S0_) ?_
      refine zIload_n 1 2 67 (by decide +kernel) rfl rfl ?_
      obtain ⟨w14, F⟩ := F
      refine yIaload 6 68 (by decide +kernel) rfl (St_8 S0_) (w14) ?_
      refine zIf_le 13 81 71 (by decide +kernel) rfl rfl ⟨fun q15 => ?_, fun q15 => ?_⟩
      · replace F := F.1 q15
        refine zIinc 1 1 2 (l1 + 1) [(1, .int (l1 + 1)), (2, .int (((I (a + 5) l1.toNatClampNeg) + 1) / 2)), (0, .ref (a))] 84 (by decide +kernel) rfl rfl (by rfl) (by decide) rfl ?_
        refine zGoto (-77) 7 (by decide +kernel) rfl ?_
        exact zLoc [2, 0] _ rfl F
      · replace F := F.2 q15
        refine zAload_n 0 1 72 (by decide +kernel) rfl rfl ?_
        refine gf8_3 21 75 (by decide +kernel) rfl flX8_21 (St_0 S0_) (St_7 S0_) ?_
        refine zIload_n 1 2 76 (by decide +kernel) rfl rfl ?_
        refine zDup2 77 (by decide +kernel) rfl rfl rfl ?_
        obtain ⟨w16, F⟩ := F
        refine yIaload 6 78 (by decide +kernel) rfl (St_8 S0_) (w16) ?_
        refine zIconst 1 1 79 (by decide +kernel) rfl (by decide) ?_
        refine zIsub 80 (by decide +kernel) rfl ?_
        refine yIastore 6 81 (by decide +kernel) rfl (St_8 S0_) F.1 ?_
        replace F := F.2 _ rfl
        generalize zU I12 (a + 4) l1.toNatClampNeg ((I12 (a + 4) l1.toNatClampNeg) - 1) = I17 at F ⊢
        refine zIinc 1 1 2 (l1 + 1) [(1, .int (l1 + 1)), (2, .int (((I (a + 5) l1.toNatClampNeg) + 1) / 2)), (0, .ref (a))] 84 (by decide +kernel) rfl rfl (by rfl) (by decide) rfl ?_
        refine zGoto (-77) 7 (by decide +kernel) rfl ?_
        exact zLoc [2, 0] _ rfl F
set_option maxHeartbeats 2000000 in
theorem wX8_take_0 {G : zG} {d kc ks : Nat} {I : Nat → Nat → Int32} {J : Nat → Nat → Int64} {R : Nat → Nat → Option Nat} {K : Nat → Nat × Nat} {n : Nat} {Q : Option Value → zH → Prop} (a s v q : Nat) (S0_ : hSt G R K n a s v) (S1_ : hSpr G R K n q) (p2 : Int32) (F : ((vp_in p2 16) ∧ (((I (q + 1) p2.toNatClampNeg) = 0 → ((vp_in p2 16) ∧ zC G d mX8_pardon 0 0 [.ref (a), .int (I (q + 2) p2.toNatClampNeg)] (I, J, R, K, n) (fun r h => ∃ (x4 : Int32) (I5 : Nat → Nat → Int32), r = some (.int x4) ∧ h = (I5, J, R, K, n) ∧ Q (some (.int (x4))) (I5, J, R, K, n)))) ∧ ((I (q + 1) p2.toNatClampNeg) = 1 → ((vp_in p2 16) ∧ ((vp_in p2 16) ∧ zC G d mX8_daub 0 0 [.ref (a), .int (I (q + 2) p2.toNatClampNeg), .int (I (q + 3) p2.toNatClampNeg)] (I, J, R, K, n) (fun r h => ∃ (x9 : Int32) (I10 : Nat → Nat → Int32), r = some (.int x9) ∧ h = (I10, J, R, K, n) ∧ Q (some (.int ((if x9 = (-1) then (-1) else 0)))) (I10, J, R, K, n))))) ∧ ((I (q + 1) p2.toNatClampNeg) = 2 → ((vp_in p2 16) ∧ zC G d mX8_thumb 0 0 [.ref (a), .int (I (q + 2) p2.toNatClampNeg)] (I, J, R, K, n) (fun r h => ∃ (x14 : Int32) (I15 : Nat → Nat → Int32), r = some (.int x14) ∧ h = (I15, J, R, K, n) ∧ Q (some (.int ((if x14 = (-1) then (-1) else 0)))) (I15, J, R, K, n)))) ∧ (¬ (I (q + 1) p2.toNatClampNeg) = 0 → ¬ (I (q + 1) p2.toNatClampNeg) = 1 → ¬ (I (q + 1) p2.toNatClampNeg) = 2 → (((I a 10 : Int32) < 999 → zC G d mX8_wear 0 0 [.ref (a)] (I, J, R, K, n) (fun r h => ∃ (I18 : Nat → Nat → Int32), r = none ∧ h = (I18, J, R, K, n) ∧ Q (some (.int (0))) (I18, J, R, K, n))) ∧ (¬ ((I a 10 : Int32) < 999) → Q (some (.int ((-1)))) (I, J, R, K, n))))))) : zV G (d + 1) mX8_take kc ks 0 [(0, .ref (a)), (1, .ref (q)), (2, .int (p2))] [] (I, J, R, K, n) Q := by
  refine zAload_n 1 1 1 (by decide +kernel) rfl rfl ?_
  refine gf7_0 154 4 (by decide +kernel) rfl flX8_154 (Spr_0 S1_) (Spr_1 S1_) ?_
  refine zIload_n 2 2 5 (by decide +kernel) rfl rfl ?_
  obtain ⟨w1, F⟩ := F
  refine yIaload 16 6 (by decide +kernel) rfl (Spr_2 S1_) (w1) ?_
  by_cases q2 : (I (q + 1) p2.toNatClampNeg) = 0
  · replace F := F.1 q2
    have zt := zEqT q2 (show (0 : Int32).toInt = 0 by decide)
    refine zTableIn 83 0 2 #[26, 37, 63] 26 26 32 (by decide +kernel) (by omega) (by omega) (by rw [zt]; decide) rfl ?_
    refine zAload_n 0 0 33 (by decide +kernel) rfl rfl ?_
    refine zAload_n 1 1 34 (by decide +kernel) rfl rfl ?_
    refine gf7_1 159 37 (by decide +kernel) rfl flX8_159 (Spr_0 S1_) (Spr_3 S1_) ?_
    refine zIload_n 2 2 38 (by decide +kernel) rfl rfl ?_
    obtain ⟨w3, F⟩ := F
    refine yIaload 16 39 (by decide +kernel) rfl (Spr_4 S1_) (w3) ?_
    refine zCallV 8 zcls8 mX8_pardon 162 1 0 0 _ _ 42 [.int (I (q + 2) p2.toNatClampNeg)] [] okX8_pardon mlX8_162 imX8_pardon seX8_pardon (by decide +kernel) rfl rfl (Nat.le_of_ble_eq_true rfl) rfl rfl (St_0 S0_) (zC.mono F ?_)
    rintro _ _ ⟨x4, I5, rfl, rfl, F⟩
    change zV G (d + 1) mX8_take kc ks 42 [(0, .ref (a)), (1, .ref (q)), (2, .int (p2))] [.int (x4)] (I5, J, R, K, n) Q
    exact zIret rfl (by decide +kernel) F
  · skip
    by_cases q6 : (I (q + 1) p2.toNatClampNeg) = 1
    · replace F := F.2.1 q6
      have zt := zEqT q6 (show (1 : Int32).toInt = 1 by decide)
      refine zTableIn 83 0 2 #[26, 37, 63] 26 37 43 (by decide +kernel) (by omega) (by omega) (by rw [zt]; decide) rfl ?_
      refine zAload_n 0 0 44 (by decide +kernel) rfl rfl ?_
      refine zAload_n 1 1 45 (by decide +kernel) rfl rfl ?_
      refine gf7_1 159 48 (by decide +kernel) rfl flX8_159 (Spr_0 S1_) (Spr_3 S1_) ?_
      refine zIload_n 2 2 49 (by decide +kernel) rfl rfl ?_
      obtain ⟨w7, F⟩ := F
      refine yIaload 16 50 (by decide +kernel) rfl (Spr_4 S1_) (w7) ?_
      refine zAload_n 1 1 51 (by decide +kernel) rfl rfl ?_
      refine gf7_2 165 54 (by decide +kernel) rfl flX8_165 (Spr_0 S1_) (Spr_5 S1_) ?_
      refine zIload_n 2 2 55 (by decide +kernel) rfl rfl ?_
      obtain ⟨w8, F⟩ := F
      refine yIaload 16 56 (by decide +kernel) rfl (Spr_6 S1_) (w8) ?_
      refine zCallV 8 zcls8 mX8_daub 168 2 0 0 _ _ 59 [.int (I (q + 2) p2.toNatClampNeg), .int (I (q + 3) p2.toNatClampNeg)] [] okX8_daub mlX8_168 imX8_daub seX8_daub (by decide +kernel) rfl rfl (Nat.le_of_ble_eq_true rfl) rfl rfl (St_0 S0_) (zC.mono F ?_)
      rintro _ _ ⟨x9, I10, rfl, rfl, F⟩
      change zV G (d + 1) mX8_take kc ks 59 [(0, .ref (a)), (1, .ref (q)), (2, .int (p2))] [.int (x9)] (I10, J, R, K, n) Q
      refine zIconst (-1) (-1) 60 (by decide +kernel) rfl (by decide) ?_
      suffices KK : zV G (d + 1) mX8_take kc ks 68 [(0, .ref (a)), (1, .ref (q)), (2, .int (p2))] [.int ((if x9 = (-1) then (-1) else 0))] (I10, J, R, K, n) Q by
        refine zIcmp_ne 7 67 63 (by decide +kernel) rfl rfl ⟨fun q11 => ?_, fun q11 => ?_⟩
        · refine zIconst 0 0 68 (by decide +kernel) rfl (by decide) ?_
          exact zTop (by rw [if_neg q11]) KK
        · refine zIconst (-1) (-1) 64 (by decide +kernel) rfl (by decide) ?_
          refine zGoto 4 68 (by decide +kernel) rfl ?_
          exact zTop (by rw [if_pos q11]) KK
      exact zIret rfl (by decide +kernel) F
    · skip
      by_cases q12 : (I (q + 1) p2.toNatClampNeg) = 2
      · replace F := F.2.2.1 q12
        have zt := zEqT q12 (show (2 : Int32).toInt = 2 by decide)
        refine zTableIn 83 0 2 #[26, 37, 63] 26 63 69 (by decide +kernel) (by omega) (by omega) (by rw [zt]; decide) rfl ?_
        refine zAload_n 0 0 70 (by decide +kernel) rfl rfl ?_
        refine zAload_n 1 1 71 (by decide +kernel) rfl rfl ?_
        refine gf7_1 159 74 (by decide +kernel) rfl flX8_159 (Spr_0 S1_) (Spr_3 S1_) ?_
        refine zIload_n 2 2 75 (by decide +kernel) rfl rfl ?_
        obtain ⟨w13, F⟩ := F
        refine yIaload 16 76 (by decide +kernel) rfl (Spr_4 S1_) (w13) ?_
        refine zCallV 8 zcls8 mX8_thumb 171 1 0 0 _ _ 79 [.int (I (q + 2) p2.toNatClampNeg)] [] okX8_thumb mlX8_171 imX8_thumb seX8_thumb (by decide +kernel) rfl rfl (Nat.le_of_ble_eq_true rfl) rfl rfl (St_0 S0_) (zC.mono F ?_)
        rintro _ _ ⟨x14, I15, rfl, rfl, F⟩
        change zV G (d + 1) mX8_take kc ks 79 [(0, .ref (a)), (1, .ref (q)), (2, .int (p2))] [.int (x14)] (I15, J, R, K, n) Q
        refine zIconst (-1) (-1) 80 (by decide +kernel) rfl (by decide) ?_
        suffices KK : zV G (d + 1) mX8_take kc ks 88 [(0, .ref (a)), (1, .ref (q)), (2, .int (p2))] [.int ((if x14 = (-1) then (-1) else 0))] (I15, J, R, K, n) Q by
          refine zIcmp_ne 7 87 83 (by decide +kernel) rfl rfl ⟨fun q16 => ?_, fun q16 => ?_⟩
          · refine zIconst 0 0 88 (by decide +kernel) rfl (by decide) ?_
            exact zTop (by rw [if_neg q16]) KK
          · refine zIconst (-1) (-1) 84 (by decide +kernel) rfl (by decide) ?_
            refine zGoto 4 88 (by decide +kernel) rfl ?_
            exact zTop (by rw [if_pos q16]) KK
        exact zIret rfl (by decide +kernel) F
      · skip
        replace F := F.2.2.2 q2 q6 q12
        have zq2 := zNeT q2 (show (0 : Int32).toInt = 0 by decide)
        have zq6 := zNeT q6 (show (1 : Int32).toInt = 1 by decide)
        have zq12 := zNeT q12 (show (2 : Int32).toInt = 2 by decide)
        refine zTableOut 83 0 2 #[26, 37, 63] 26 89 (by decide +kernel) (by omega) rfl ?_
        refine zAload_n 0 0 90 (by decide +kernel) rfl rfl ?_
        refine gf8_10 43 93 (by decide +kernel) rfl flX8_43 (St_0 S0_) ?_
        refine zSipush 999 999 96 (by decide +kernel) rfl (by decide) ?_
        refine zIcmp_lt 5 101 99 (by decide +kernel) rfl rfl ⟨fun q17 => ?_, fun q17 => ?_⟩
        · replace F := F.1 q17
          refine zAload_n 0 0 102 (by decide +kernel) rfl rfl ?_
          refine zCallV 8 zcls8 mX8_wear 174 0 0 0 _ _ 105 [] [] okX8_wear mlX8_174 imX8_wear seX8_wear (by decide +kernel) rfl rfl (Nat.le_of_ble_eq_true rfl) rfl rfl (St_0 S0_) (zC.mono F ?_)
          rintro _ _ ⟨I18, rfl, rfl, F⟩
          change zV G (d + 1) mX8_take kc ks 105 [(0, .ref (a)), (1, .ref (q)), (2, .int (p2))] [] (I18, J, R, K, n) Q
          refine zIconst 0 0 106 (by decide +kernel) rfl (by decide) ?_
          exact zIret rfl (by decide +kernel) F
        · replace F := F.2 q17
          refine zIconst (-1) (-1) 100 (by decide +kernel) rfl (by decide) ?_
          exact zIret rfl (by decide +kernel) F
