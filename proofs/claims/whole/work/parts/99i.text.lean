/-! THE FACE: text: the class, its new cells counted -/
set_option maxHeartbeats 2000000 in
theorem wX11_textN {G : zG} {d kc ks : Nat} {I : Nat → Nat → Int32} {J : Nat → Nat → Int64} {R : Nat → Nat → Option Nat} {K : Nat → Nat × Nat} {n : Nat} {Q : Option Value → zH → Prop} (x v w q : Nat) (S0_ : hX G R K n x v w q) (p1 : Int32) (F : zC G d mX11_hasRoom 0 0 [.ref (x), .int (p1)] (I, J, R, K, n) (fun r h => ∃ (x1 : Int32) (I2 : Nat → Nat → Int32), r = some (.int x1) ∧ h = (I2, J, R, K, n) ∧ ((x1 = 0 → Q (some (.int ((-1)))) (I2, J, R, K, n)) ∧ (¬ (x1 = 0) → zC G d mX11_reads 0 0 [.ref (x), .int (p1)] (I2, J, R, K, n) (fun r h => ∃ (x4 : Int32) (I5 : Nat → Nat → Int32) (R6 : Nat → Nat → Option Nat), r = some (.int x4) ∧ h = (I5, J, R6, K, n) ∧ ∃ u7 u8 u9 : Nat, hX G R6 K n x u7 u8 u9 ∧ ((x4 = 0 → Q (some (.int ((-1)))) (I5, J, R6, K, n)) ∧ (¬ (x4 = 0) → (∀ I12 : Nat → Nat → Int32, I12 = zU I5 (x + 1) 1 (0) → ((p1 = 0 → zC G d mX11_settle 0 0 [.ref (x)] (I12, J, R6, K, n) (fun r h => ∃ (x35 : Int32) (I36 : Nat → Nat → Int32) (R37 : Nat → Nat → Option Nat), r = some (.int x35) ∧ h = (I36, J, R37, K, n) ∧ ∃ u38 u39 u40 : Nat, hX G R37 K n x u38 u39 u40 ∧ Q (some (.int (x35))) (I36, J, R37, K, n))) ∧ (¬ (p1 = 0) → ((p1 = 1 → zC G d mX11_keepLaw 4 300 [.ref (x)] (I12, J, R6, K, n) (fun r h => ∃ (x25 : Int32) (I26 : Nat → Nat → Int32) (J27 : Nat → Nat → Int64) (R28 : Nat → Nat → Option Nat) (K29 : Nat → Nat × Nat) (n30 : Nat), r = some (.int x25) ∧ h = (I26, J27, R28, K29, n30) ∧ ∃ u31 u32 u33 : Nat, hX G R28 K29 n30 x u31 u32 u33 ∧ Q (some (.int (x25))) (I26, J27, R28, K29, n30))) ∧ (¬ (p1 = 1) → zC G d mX11_keepSpring 4 300 [.ref (x)] (I12, J, R6, K, n) (fun r h => ∃ (x15 : Int32) (I16 : Nat → Nat → Int32) (J17 : Nat → Nat → Int64) (R18 : Nat → Nat → Option Nat) (K19 : Nat → Nat × Nat) (n20 : Nat), r = some (.int x15) ∧ h = (I16, J17, R18, K19, n20) ∧ ∃ u21 u22 u23 : Nat, hX G R18 K19 n20 x u21 u22 u23 ∧ Q (some (.int (x15))) (I16, J17, R18, K19, n20)))))))))))))) : zV G (d + 1) mX11_text (kc + 4) (ks + 300) 0 [(0, .ref (x)), (1, .int (p1))] [] (I, J, R, K, n) Q := by
  refine zAload_n 0 0 1 (by decide +kernel) rfl rfl ?_
  refine zIload_n 1 1 2 (by decide +kernel) rfl rfl ?_
  refine zCallV 11 zcls11 mX11_hasRoom 133 1 0 0 _ _ 5 [.int (p1)] [] okX11_hasRoom mlX11_133 imX11_hasRoom seX11_hasRoom (by decide +kernel) rfl rfl (Nat.le_of_ble_eq_true rfl) rfl rfl (X_0 S0_) (zC.mono F ?_)
  rintro _ _ ⟨x1, I2, rfl, rfl, F⟩
  change zV G (d + 1) mX11_text (kc + 4) (ks + 300) 5 [(0, .ref (x)), (1, .int (p1))] [.int (x1)] (I2, J, R, K, n) Q
  refine zIf_eq 11 16 8 (by decide +kernel) rfl rfl ⟨fun q3 => ?_, fun q3 => ?_⟩
  · replace F := F.1 q3
    refine zIconst (-1) (-1) 17 (by decide +kernel) rfl (by decide) ?_
    exact zIret rfl (by decide +kernel) F
  · replace F := F.2 q3
    refine zAload_n 0 0 9 (by decide +kernel) rfl rfl ?_
    refine zIload_n 1 1 10 (by decide +kernel) rfl rfl ?_
    refine zCallV 11 zcls11 mX11_reads 126 1 0 0 _ _ 13 [.int (p1)] [] okX11_reads mlX11_126 imX11_reads seX11_reads (by decide +kernel) rfl rfl (Nat.le_of_ble_eq_true rfl) rfl rfl (X_0 S0_) (zC.mono F ?_)
    rintro _ _ ⟨x4, I5, R6, rfl, rfl, F⟩
    change zV G (d + 1) mX11_text (kc + 4) (ks + 300) 13 [(0, .ref (x)), (1, .int (p1))] [.int (x4)] (I5, J, R6, K, n) Q
    obtain ⟨u7, u8, u9, S10, F⟩ := F
    refine zIf_ne 5 18 16 (by decide +kernel) rfl rfl ⟨fun q11 => ?_, fun q11 => ?_⟩
    · replace F := F.2 q11
      refine zAload_n 0 0 19 (by decide +kernel) rfl rfl ?_
      refine gf11_0 10 22 (by decide +kernel) rfl flX11_10 (X_0 S10) (X_1 S10) ?_
      refine zIconst 0 0 23 (by decide +kernel) rfl (by decide) ?_
      refine pf9_1 119 26 (by decide +kernel) rfl flX11_119 (Tape_0 (X_2 S10)) ?_
      replace F := F _ rfl
      generalize zU I5 (x + 1) 1 (0) = I12 at F ⊢
      refine zIload_n 1 1 27 (by decide +kernel) rfl rfl ?_
      refine zIf_ne 8 35 30 (by decide +kernel) rfl rfl ⟨fun q13 => ?_, fun q13 => ?_⟩
      · replace F := F.2 q13
        refine zIload_n 1 1 36 (by decide +kernel) rfl rfl ?_
        refine zIconst 1 1 37 (by decide +kernel) rfl (by decide) ?_
        refine zIcmp_ne 10 47 40 (by decide +kernel) rfl rfl ⟨fun q14 => ?_, fun q14 => ?_⟩
        · replace F := F.2 q14
          refine zAload_n 0 0 48 (by decide +kernel) rfl rfl ?_
          refine zCallV 11 zcls11 mX11_keepSpring 143 0 4 300 kc ks 51 [] [] okX11_keepSpring mlX11_143 imX11_keepSpring seX11_keepSpring (by decide +kernel) rfl rfl (Nat.le_of_ble_eq_true rfl) (by omega) (by omega) (X_0 S10) (zC.mono F ?_)
          rintro _ _ ⟨x15, I16, J17, R18, K19, n20, rfl, rfl, F⟩
          change zV G (d + 1) mX11_text kc ks 51 [(0, .ref (x)), (1, .int (p1))] [.int (x15)] (I16, J17, R18, K19, n20) Q
          obtain ⟨u21, u22, u23, S24, F⟩ := F
          exact zIret rfl (by decide +kernel) F
        · replace F := F.1 q14
          refine zAload_n 0 0 41 (by decide +kernel) rfl rfl ?_
          refine zCallV 11 zcls11 mX11_keepLaw 140 0 4 300 kc ks 44 [] [] okX11_keepLaw mlX11_140 imX11_keepLaw seX11_keepLaw (by decide +kernel) rfl rfl (Nat.le_of_ble_eq_true rfl) (by omega) (by omega) (X_0 S10) (zC.mono F ?_)
          rintro _ _ ⟨x25, I26, J27, R28, K29, n30, rfl, rfl, F⟩
          change zV G (d + 1) mX11_text kc ks 44 [(0, .ref (x)), (1, .int (p1))] [.int (x25)] (I26, J27, R28, K29, n30) Q
          obtain ⟨u31, u32, u33, S34, F⟩ := F
          refine zGoto 7 51 (by decide +kernel) rfl ?_
          exact zIret rfl (by decide +kernel) F
      · replace F := F.1 q13
        refine zAload_n 0 0 31 (by decide +kernel) rfl rfl ?_
        refine zCallV 11 zcls11 mX11_settle 136 0 0 0 _ _ 34 [] [] okX11_settle mlX11_136 imX11_settle seX11_settle (by decide +kernel) rfl rfl (Nat.le_of_ble_eq_true rfl) rfl rfl (X_0 S10) (zC.mono F ?_)
        rintro _ _ ⟨x35, I36, R37, rfl, rfl, F⟩
        change zV G (d + 1) mX11_text (kc + 4) (ks + 300) 34 [(0, .ref (x)), (1, .int (p1))] [.int (x35)] (I36, J, R37, K, n) Q
        obtain ⟨u38, u39, u40, S41, F⟩ := F
        exact zIret rfl (by decide +kernel) F
    · replace F := F.1 q11
      refine zIconst (-1) (-1) 17 (by decide +kernel) rfl (by decide) ?_
      exact zIret rfl (by decide +kernel) F
