set_option maxHeartbeats 2000000 in
theorem wX2_worth_0 {G : zG} {d kc ks : Nat} {I : Nat → Nat → Int32} {J : Nat → Nat → Int64} {R : Nat → Nat → Option Nat} {K : Nat → Nat × Nat} {n : Nat} {Q : Option Value → zH → Prop} (w c : Nat) (b : Nat) (hb : sA G K n b 32 6) (S0_ : hLaw G R K n w c) (F : zV G (d + 1) mX2_worth kc ks 4 [(0, .ref (w)), (1, .ref (b)), (2, .int (0)), (3, .int (0))] [] (I, J, R, K, n) Q) : zV G (d + 1) mX2_worth kc ks 0 [(0, .ref (w)), (1, .ref (b))] [] (I, J, R, K, n) Q := by
  refine zIconst 0 0 1 (by decide +kernel) rfl (by decide) ?_
  refine zIstore_n 2 [(2, .int (0)), (0, .ref (w)), (1, .ref (b))] 2 (by decide +kernel) rfl (by decide) rfl ?_
  refine zIconst 0 0 3 (by decide +kernel) rfl (by decide) ?_
  refine zIstore_n 3 [(3, .int (0)), (2, .int (0)), (0, .ref (w)), (1, .ref (b))] 4 (by decide +kernel) rfl (by decide) rfl ?_
  exact zLoc [2, 3, 1, 0] _ rfl F
set_option maxHeartbeats 2000000 in
theorem wX2_worth_4 {G : zG} {d kc ks : Nat} {I : Nat → Nat → Int32} {J : Nat → Nat → Int64} {R : Nat → Nat → Option Nat} {K : Nat → Nat × Nat} {n : Nat} {Q : Option Value → zH → Prop} (w c : Nat) (b : Nat) (hb : sA G K n b 32 6) (S0_ : hLaw G R K n w c) (l2 l3 : Int32) (F : (((nI c : Int32) ≤ l3 → Q (some (.int (0))) (I, J, R, K, n)) ∧ (¬ ((nI c : Int32) ≤ l3) → ((vp_in l3 c) ∧ (((I (w + 1) l3.toNatClampNeg : Int32) < 0 → ((1 ≤ l2 → (((I (w + 1) l3.toNatClampNeg : Int32) = (-59) → ((vp_in (l2 - 1) 32) ∧ Q (some (.int (I (w + 2) (l2 - 1 : Int32).toNatClampNeg))) (I, J, R, K, n))) ∧ (¬ ((I (w + 1) l3.toNatClampNeg : Int32) = (-59)) → (((I (w + 1) l3.toNatClampNeg : Int32) = (-63) → ((vp_in (l2 + (-1)) 32) ∧ (((I (w + 2) (l2 + (-1) : Int32).toNatClampNeg : Int32) = 0 → zC G d mX2_clauseEnd 0 0 [.ref (w), .int (l3)] (I, J, R, K, n) (fun r h => ∃ (x18 : Int32) (I19 : Nat → Nat → Int32), r = some (.int x18) ∧ h = (I19, J, R, K, n) ∧ zV G (d + 1) mX2_worth kc ks 4 [(0, .ref (w)), (1, .ref (b)), (2, .int (l2 + (-1))), (3, .int (x18 + 1))] [] (I19, J, R, K, n) Q)) ∧ (¬ ((I (w + 2) (l2 + (-1) : Int32).toNatClampNeg : Int32) = 0) → zV G (d + 1) mX2_worth kc ks 4 [(0, .ref (w)), (1, .ref (b)), (2, .int (l2 + (-1))), (3, .int (l3 + 1))] [] (I, J, R, K, n) Q)))) ∧ (¬ ((I (w + 1) l3.toNatClampNeg : Int32) = (-63)) → (((I (w + 1) l3.toNatClampNeg : Int32) = (-33) → ((vp_in (l2 - 1) 32) ∧ (vp_in (l2 - 1) 32 ∧ ∀ I15 : Nat → Nat → Int32, I15 = zU I (w + 2) (l2 - 1 : Int32).toNatClampNeg (1 - (I (w + 2) (l2 - 1 : Int32).toNatClampNeg)) → zV G (d + 1) mX2_worth kc ks 4 [(0, .ref (w)), (1, .ref (b)), (2, .int (l2)), (3, .int (l3 + 1))] [] (I15, J, R, K, n) Q))) ∧ (¬ ((I (w + 1) l3.toNatClampNeg : Int32) = (-33)) → ((l2 < 2 → zV G (d + 1) mX2_worth kc ks 4 [(0, .ref (w)), (1, .ref (b)), (2, .int (l2)), (3, .int (l3 + 1))] [] (I, J, R, K, n) Q) ∧ (¬ (l2 < 2) → ((vp_in ((l2 + (-1)) - 1) 32) ∧ ((vp_in (l2 + (-1)) 32) ∧ zC G d mX2_joined 0 0 [.int (-(I (w + 1) l3.toNatClampNeg)), .int (I (w + 2) ((l2 + (-1)) - 1 : Int32).toNatClampNeg), .int (I (w + 2) (l2 + (-1) : Int32).toNatClampNeg)] (I, J, R, K, n) (fun r h => ∃ (x11 : Int32) (I12 : Nat → Nat → Int32), r = some (.int x11) ∧ h = (I12, J, R, K, n) ∧ (vp_in ((l2 + (-1)) - 1) 32 ∧ ∀ I13 : Nat → Nat → Int32, I13 = zU I12 (w + 2) ((l2 + (-1)) - 1 : Int32).toNatClampNeg (x11) → zV G (d + 1) mX2_worth kc ks 4 [(0, .ref (w)), (1, .ref (b)), (2, .int (l2 + (-1))), (3, .int (l3 + 1))] [] (I13, J, R, K, n) Q))))))))))))) ∧ (¬ (1 ≤ l2) → Q (some (.int (0))) (I, J, R, K, n)))) ∧ (¬ ((I (w + 1) l3.toNatClampNeg : Int32) < 0) → ((32 ≤ l2 → Q (some (.int (0))) (I, J, R, K, n)) ∧ (¬ (32 ≤ l2) → ((((I (w + 1) l3.toNatClampNeg) - 10000 : Int32) < (nI 6 : Int32) → (((10000 ≤ (I (w + 1) l3.toNatClampNeg : Int32)) → vp_in ((I (w + 1) l3.toNatClampNeg) - 10000) 6) ∧ (vp_in l2 32 ∧ ∀ I25 : Nat → Nat → Int32, I25 = zU I (w + 2) l2.toNatClampNeg ((if 10000 ≤ (I (w + 1) l3.toNatClampNeg : Int32) then I b ((I (w + 1) l3.toNatClampNeg) - 10000 : Int32).toNatClampNeg else I (w + 1) l3.toNatClampNeg)) → zV G (d + 1) mX2_worth kc ks 4 [(0, .ref (w)), (1, .ref (b)), (2, .int (l2 + 1)), (3, .int (l3 + 1))] [] (I25, J, R, K, n) Q))) ∧ (¬ (((I (w + 1) l3.toNatClampNeg) - 10000 : Int32) < (nI 6 : Int32)) → Q (some (.int (0))) (I, J, R, K, n))))))))))) : zV G (d + 1) mX2_worth kc ks 4 [(0, .ref (w)), (1, .ref (b)), (2, .int (l2)), (3, .int (l3))] [] (I, J, R, K, n) Q := by
  refine zIload_n 3 3 5 (by decide +kernel) rfl rfl ?_
  refine zAload_n 0 0 6 (by decide +kernel) rfl rfl ?_
  refine gf2_0 13 9 (by decide +kernel) rfl flX2_13 (Law_0 S0_) (Law_1 S0_) ?_
  refine yAlenI 32 c 10 (by decide +kernel) rfl (by decide) (by decide) (Law_2 S0_) ?_
  refine zIcmp_ge 193 203 13 (by decide +kernel) rfl rfl ⟨fun q1 => ?_, fun q1 => ?_⟩
  · replace F := F.1 q1
    refine zIconst 0 0 204 (by decide +kernel) rfl (by decide) ?_
    exact zIret rfl (by decide +kernel) F
  · replace F := F.2 q1
    refine zAload_n 0 0 14 (by decide +kernel) rfl rfl ?_
    refine gf2_0 13 17 (by decide +kernel) rfl flX2_13 (Law_0 S0_) (Law_1 S0_) ?_
    refine zIload_n 3 3 18 (by decide +kernel) rfl rfl ?_
    obtain ⟨w2, F⟩ := F
    refine yIaload c 19 (by decide +kernel) rfl (Law_2 S0_) (w2) ?_
    refine zIstore 4 [(4, .int (I (w + 1) l3.toNatClampNeg)), (0, .ref (w)), (1, .ref (b)), (2, .int (l2)), (3, .int (l3))] 21 (by decide +kernel) rfl (by decide) rfl ?_
    refine zIload 4 0 23 (by decide +kernel) rfl rfl ?_
    refine zIf_lt 55 78 26 (by decide +kernel) rfl rfl ⟨fun q3 => ?_, fun q3 => ?_⟩
    · replace F := F.1 q3
      refine zIload_n 2 3 79 (by decide +kernel) rfl rfl ?_
      refine zIconst 1 1 80 (by decide +kernel) rfl (by decide) ?_
      refine zIcmp_ge 5 85 83 (by decide +kernel) rfl rfl ⟨fun q4 => ?_, fun q4 => ?_⟩
      · replace F := F.1 q4
        refine zIload 4 0 87 (by decide +kernel) rfl rfl ?_
        refine zBipush (-59) (-59) 89 (by decide +kernel) rfl (by decide) ?_
        refine zIcmp_ne 12 101 92 (by decide +kernel) rfl rfl ⟨fun q5 => ?_, fun q5 => ?_⟩
        · replace F := F.2 q5
          refine zIload 4 0 103 (by decide +kernel) rfl rfl ?_
          refine zBipush (-63) (-63) 105 (by decide +kernel) rfl (by decide) ?_
          refine zIcmp_ne 28 133 108 (by decide +kernel) rfl rfl ⟨fun q6 => ?_, fun q6 => ?_⟩
          · replace F := F.2 q6
            refine zIload 4 0 135 (by decide +kernel) rfl rfl ?_
            refine zBipush (-33) (-33) 137 (by decide +kernel) rfl (by decide) ?_
            refine zIcmp_ne 24 161 140 (by decide +kernel) rfl rfl ⟨fun q7 => ?_, fun q7 => ?_⟩
            · replace F := F.2 q7
              refine zIload_n 2 3 162 (by decide +kernel) rfl rfl ?_
              refine zIconst 2 2 163 (by decide +kernel) rfl (by decide) ?_
              refine zIcmp_lt 34 197 166 (by decide +kernel) rfl rfl ⟨fun q8 => ?_, fun q8 => ?_⟩
              · replace F := F.1 q8
                refine zIinc 3 1 4 (l3 + 1) [(3, .int (l3 + 1)), (4, .int (I (w + 1) l3.toNatClampNeg)), (0, .ref (w)), (1, .ref (b)), (2, .int (l2))] 200 (by decide +kernel) rfl rfl (by rfl) (by decide) rfl ?_
                refine zGoto (-196) 4 (by decide +kernel) rfl ?_
                exact zLoc [2, 3, 4, 0] _ rfl F
              · replace F := F.2 q8
                refine zIinc 2 (-1) 3 (l2 + (-1)) [(2, .int (l2 + (-1))), (4, .int (I (w + 1) l3.toNatClampNeg)), (0, .ref (w)), (1, .ref (b)), (3, .int (l3))] 169 (by decide +kernel) rfl rfl (by rfl) (by decide) rfl ?_
                refine zAload_n 0 2 170 (by decide +kernel) rfl rfl ?_
                refine gf2_1 9 173 (by decide +kernel) rfl flX2_9 (Law_0 S0_) (Law_3 S0_) ?_
                refine zIload_n 2 0 174 (by decide +kernel) rfl rfl ?_
                refine zIconst 1 1 175 (by decide +kernel) rfl (by decide) ?_
                refine zIsub 176 (by decide +kernel) rfl ?_
                refine zIload 4 1 178 (by decide +kernel) rfl rfl ?_
                refine zIneg 179 (by decide +kernel) rfl ?_
                refine zAload_n 0 2 180 (by decide +kernel) rfl rfl ?_
                refine gf2_1 9 183 (by decide +kernel) rfl flX2_9 (Law_0 S0_) (Law_3 S0_) ?_
                refine zIload_n 2 0 184 (by decide +kernel) rfl rfl ?_
                refine zIconst 1 1 185 (by decide +kernel) rfl (by decide) ?_
                refine zIsub 186 (by decide +kernel) rfl ?_
                obtain ⟨w9, F⟩ := F
                refine yIaload 32 187 (by decide +kernel) rfl (Law_4 S0_) (w9) ?_
                refine zAload_n 0 2 188 (by decide +kernel) rfl rfl ?_
                refine gf2_1 9 191 (by decide +kernel) rfl flX2_9 (Law_0 S0_) (Law_3 S0_) ?_
                refine zIload_n 2 0 192 (by decide +kernel) rfl rfl ?_
                obtain ⟨w10, F⟩ := F
                refine yIaload 32 193 (by decide +kernel) rfl (Law_4 S0_) (w10) ?_
                refine zCallS mX2_joined 20 3 0 0 _ _ 196 [.int (-(I (w + 1) l3.toNatClampNeg)), .int (I (w + 2) ((l2 + (-1)) - 1 : Int32).toNatClampNeg), .int (I (w + 2) (l2 + (-1) : Int32).toNatClampNeg)] [.int ((l2 + (-1)) - 1), .ref (w + 2)] okX2_joined mlX2_20 smX2_joined (by decide +kernel) rfl rfl (Nat.le_of_ble_eq_true rfl) rfl rfl (zC.mono F ?_)
                rintro _ _ ⟨x11, I12, rfl, rfl, F⟩
                change zV G (d + 1) mX2_worth kc ks 196 [(2, .int (l2 + (-1))), (4, .int (I (w + 1) l3.toNatClampNeg)), (0, .ref (w)), (1, .ref (b)), (3, .int (l3))] [.int (x11), .int ((l2 + (-1)) - 1), .ref (w + 2)] (I12, J, R, K, n) Q
                refine yIastore 32 197 (by decide +kernel) rfl (Law_4 S0_) F.1 ?_
                replace F := F.2 _ rfl
                generalize zU I12 (w + 2) ((l2 + (-1)) - 1 : Int32).toNatClampNeg (x11) = I13 at F ⊢
                refine zIinc 3 1 4 (l3 + 1) [(3, .int (l3 + 1)), (2, .int (l2 + (-1))), (4, .int (I (w + 1) l3.toNatClampNeg)), (0, .ref (w)), (1, .ref (b))] 200 (by decide +kernel) rfl rfl (by rfl) (by decide) rfl ?_
                refine zGoto (-196) 4 (by decide +kernel) rfl ?_
                exact zLoc [3, 4, 1, 0] _ rfl F
            · replace F := F.1 q7
              refine zAload_n 0 1 141 (by decide +kernel) rfl rfl ?_
              refine gf2_1 9 144 (by decide +kernel) rfl flX2_9 (Law_0 S0_) (Law_3 S0_) ?_
              refine zIload_n 2 3 145 (by decide +kernel) rfl rfl ?_
              refine zIconst 1 1 146 (by decide +kernel) rfl (by decide) ?_
              refine zIsub 147 (by decide +kernel) rfl ?_
              refine zIconst 1 1 148 (by decide +kernel) rfl (by decide) ?_
              refine zAload_n 0 1 149 (by decide +kernel) rfl rfl ?_
              refine gf2_1 9 152 (by decide +kernel) rfl flX2_9 (Law_0 S0_) (Law_3 S0_) ?_
              refine zIload_n 2 3 153 (by decide +kernel) rfl rfl ?_
              refine zIconst 1 1 154 (by decide +kernel) rfl (by decide) ?_
              refine zIsub 155 (by decide +kernel) rfl ?_
              obtain ⟨w14, F⟩ := F
              refine yIaload 32 156 (by decide +kernel) rfl (Law_4 S0_) (w14) ?_
              refine zIsub 157 (by decide +kernel) rfl ?_
              refine yIastore 32 158 (by decide +kernel) rfl (Law_4 S0_) F.1 ?_
              replace F := F.2 _ rfl
              generalize zU I (w + 2) (l2 - 1 : Int32).toNatClampNeg (1 - (I (w + 2) (l2 - 1 : Int32).toNatClampNeg)) = I15 at F ⊢
              refine zGoto 39 197 (by decide +kernel) rfl ?_
              refine zIinc 3 1 4 (l3 + 1) [(3, .int (l3 + 1)), (4, .int (I (w + 1) l3.toNatClampNeg)), (0, .ref (w)), (1, .ref (b)), (2, .int (l2))] 200 (by decide +kernel) rfl rfl (by rfl) (by decide) rfl ?_
              refine zGoto (-196) 4 (by decide +kernel) rfl ?_
              exact zLoc [2, 3, 4, 0] _ rfl F
          · replace F := F.1 q6
            refine zIinc 2 (-1) 3 (l2 + (-1)) [(2, .int (l2 + (-1))), (4, .int (I (w + 1) l3.toNatClampNeg)), (0, .ref (w)), (1, .ref (b)), (3, .int (l3))] 111 (by decide +kernel) rfl rfl (by rfl) (by decide) rfl ?_
            refine zAload_n 0 2 112 (by decide +kernel) rfl rfl ?_
            refine gf2_1 9 115 (by decide +kernel) rfl flX2_9 (Law_0 S0_) (Law_3 S0_) ?_
            refine zIload_n 2 0 116 (by decide +kernel) rfl rfl ?_
            obtain ⟨w16, F⟩ := F
            refine yIaload 32 117 (by decide +kernel) rfl (Law_4 S0_) (w16) ?_
            refine zIf_ne 11 128 120 (by decide +kernel) rfl rfl ⟨fun q17 => ?_, fun q17 => ?_⟩
            · replace F := F.2 q17
              refine zIload_n 3 4 129 (by decide +kernel) rfl rfl ?_
              refine zIstore_n 3 [(3, .int (l3)), (2, .int (l2 + (-1))), (4, .int (I (w + 1) l3.toNatClampNeg)), (0, .ref (w)), (1, .ref (b))] 130 (by decide +kernel) rfl (by decide) rfl ?_
              refine zGoto 67 197 (by decide +kernel) rfl ?_
              refine zIinc 3 1 0 (l3 + 1) [(3, .int (l3 + 1)), (2, .int (l2 + (-1))), (4, .int (I (w + 1) l3.toNatClampNeg)), (0, .ref (w)), (1, .ref (b))] 200 (by decide +kernel) rfl rfl (by rfl) (by decide) rfl ?_
              refine zGoto (-196) 4 (by decide +kernel) rfl ?_
              exact zLoc [3, 4, 1, 0] _ rfl F
            · replace F := F.1 q17
              refine zAload_n 0 2 121 (by decide +kernel) rfl rfl ?_
              refine zIload_n 3 4 122 (by decide +kernel) rfl rfl ?_
              refine zCallV 2 zcls2 mX2_clauseEnd 16 1 0 0 _ _ 125 [.int (l3)] [] okX2_clauseEnd mlX2_16 imX2_clauseEnd seX2_clauseEnd (by decide +kernel) rfl rfl (Nat.le_of_ble_eq_true rfl) rfl rfl (Law_0 S0_) (zC.mono F ?_)
              rintro _ _ ⟨x18, I19, rfl, rfl, F⟩
              change zV G (d + 1) mX2_worth kc ks 125 [(2, .int (l2 + (-1))), (4, .int (I (w + 1) l3.toNatClampNeg)), (0, .ref (w)), (1, .ref (b)), (3, .int (l3))] [.int (x18)] (I19, J, R, K, n) Q
              refine zGoto 4 129 (by decide +kernel) rfl ?_
              refine zIstore_n 3 [(3, .int (x18)), (2, .int (l2 + (-1))), (4, .int (I (w + 1) l3.toNatClampNeg)), (0, .ref (w)), (1, .ref (b))] 130 (by decide +kernel) rfl (by decide) rfl ?_
              refine zGoto 67 197 (by decide +kernel) rfl ?_
              refine zIinc 3 1 0 (x18 + 1) [(3, .int (x18 + 1)), (2, .int (l2 + (-1))), (4, .int (I (w + 1) l3.toNatClampNeg)), (0, .ref (w)), (1, .ref (b))] 200 (by decide +kernel) rfl rfl (by rfl) (by decide) rfl ?_
              refine zGoto (-196) 4 (by decide +kernel) rfl ?_
              exact zLoc [3, 4, 1, 0] _ rfl F
        · replace F := F.1 q5
          refine zAload_n 0 1 93 (by decide +kernel) rfl rfl ?_
          refine gf2_1 9 96 (by decide +kernel) rfl flX2_9 (Law_0 S0_) (Law_3 S0_) ?_
          refine zIload_n 2 3 97 (by decide +kernel) rfl rfl ?_
          refine zIconst 1 1 98 (by decide +kernel) rfl (by decide) ?_
          refine zIsub 99 (by decide +kernel) rfl ?_
          obtain ⟨w20, F⟩ := F
          refine yIaload 32 100 (by decide +kernel) rfl (Law_4 S0_) (w20) ?_
          exact zIret rfl (by decide +kernel) F
      · replace F := F.2 q4
        refine zIconst 0 0 84 (by decide +kernel) rfl (by decide) ?_
        exact zIret rfl (by decide +kernel) F
    · replace F := F.2 q3
      refine zIload_n 2 3 27 (by decide +kernel) rfl rfl ?_
      refine zBipush 32 32 29 (by decide +kernel) rfl (by decide) ?_
      refine zIcmp_ge 14 43 32 (by decide +kernel) rfl rfl ⟨fun q21 => ?_, fun q21 => ?_⟩
      · replace F := F.1 q21
        refine zIconst 0 0 44 (by decide +kernel) rfl (by decide) ?_
        exact zIret rfl (by decide +kernel) F
      · replace F := F.2 q21
        refine zIload 4 0 34 (by decide +kernel) rfl rfl ?_
        refine zSipush 10000 10000 37 (by decide +kernel) rfl (by decide) ?_
        refine zIsub 38 (by decide +kernel) rfl ?_
        refine zAload_n 1 2 39 (by decide +kernel) rfl rfl ?_
        refine yAlenI 32 6 40 (by decide +kernel) rfl (by decide) (by decide) hb ?_
        refine zIcmp_lt 5 45 43 (by decide +kernel) rfl rfl ⟨fun q22 => ?_, fun q22 => ?_⟩
        · replace F := F.1 q22
          refine zAload_n 0 1 46 (by decide +kernel) rfl rfl ?_
          refine gf2_1 9 49 (by decide +kernel) rfl flX2_9 (Law_0 S0_) (Law_3 S0_) ?_
          refine zIload_n 2 3 50 (by decide +kernel) rfl rfl ?_
          refine zIload 4 0 52 (by decide +kernel) rfl rfl ?_
          refine zSipush 10000 10000 55 (by decide +kernel) rfl (by decide) ?_
          obtain ⟨w24, F⟩ := F
          suffices KK : zV G (d + 1) mX2_worth kc ks 71 [(4, .int (I (w + 1) l3.toNatClampNeg)), (0, .ref (w)), (1, .ref (b)), (2, .int (l2)), (3, .int (l3))] [.int ((if 10000 ≤ (I (w + 1) l3.toNatClampNeg : Int32) then I b ((I (w + 1) l3.toNatClampNeg) - 10000 : Int32).toNatClampNeg else I (w + 1) l3.toNatClampNeg)), .int (l2), .ref (w + 2)] (I, J, R, K, n) Q by
            refine zIcmp_ge 8 63 58 (by decide +kernel) rfl rfl ⟨fun q23 => ?_, fun q23 => ?_⟩
            · refine zAload_n 1 2 64 (by decide +kernel) rfl rfl ?_
              refine zIload 4 0 66 (by decide +kernel) rfl rfl ?_
              refine zSipush 10000 10000 69 (by decide +kernel) rfl (by decide) ?_
              refine zIsub 70 (by decide +kernel) rfl ?_
              refine yIaload 6 71 (by decide +kernel) rfl hb (w24 q23) ?_
              exact zTop (by rw [if_pos q23]) KK
            · refine zIload 4 0 60 (by decide +kernel) rfl rfl ?_
              refine zGoto 11 71 (by decide +kernel) rfl ?_
              exact zTop (by rw [if_neg q23]) KK
          refine yIastore 32 72 (by decide +kernel) rfl (Law_4 S0_) F.1 ?_
          replace F := F.2 _ rfl
          generalize zU I (w + 2) l2.toNatClampNeg ((if 10000 ≤ (I (w + 1) l3.toNatClampNeg : Int32) then I b ((I (w + 1) l3.toNatClampNeg) - 10000 : Int32).toNatClampNeg else I (w + 1) l3.toNatClampNeg)) = I25 at F ⊢
          refine zIinc 2 1 3 (l2 + 1) [(2, .int (l2 + 1)), (4, .int (I (w + 1) l3.toNatClampNeg)), (0, .ref (w)), (1, .ref (b)), (3, .int (l3))] 75 (by decide +kernel) rfl rfl (by rfl) (by decide) rfl ?_
          refine zGoto 122 197 (by decide +kernel) rfl ?_
          refine zIinc 3 1 4 (l3 + 1) [(3, .int (l3 + 1)), (2, .int (l2 + 1)), (4, .int (I (w + 1) l3.toNatClampNeg)), (0, .ref (w)), (1, .ref (b))] 200 (by decide +kernel) rfl rfl (by rfl) (by decide) rfl ?_
          refine zGoto (-196) 4 (by decide +kernel) rfl ?_
          exact zLoc [3, 4, 1, 0] _ rfl F
        · replace F := F.2 q22
          refine zIconst 0 0 44 (by decide +kernel) rfl (by decide) ?_
          exact zIret rfl (by decide +kernel) F
set_option maxHeartbeats 2000000 in
theorem wX2_clauseEnd_0 {G : zG} {d kc ks : Nat} {I : Nat → Nat → Int32} {J : Nat → Nat → Int64} {R : Nat → Nat → Option Nat} {K : Nat → Nat × Nat} {n : Nat} {Q : Option Value → zH → Prop} (w c : Nat) (S0_ : hLaw G R K n w c) (p1 : Int32) (F : zV G (d + 1) mX2_clauseEnd kc ks 2 [(0, .ref (w)), (1, .int (p1)), (2, .int (p1))] [] (I, J, R, K, n) Q) : zV G (d + 1) mX2_clauseEnd kc ks 0 [(0, .ref (w)), (1, .int (p1))] [] (I, J, R, K, n) Q := by
  refine zIload_n 1 1 1 (by decide +kernel) rfl rfl ?_
  refine zIstore_n 2 [(2, .int (p1)), (0, .ref (w)), (1, .int (p1))] 2 (by decide +kernel) rfl (by decide) rfl ?_
  exact zLoc [1, 2, 0] _ rfl F
set_option maxHeartbeats 2000000 in
theorem wX2_clauseEnd_2 {G : zG} {d kc ks : Nat} {I : Nat → Nat → Int32} {J : Nat → Nat → Int64} {R : Nat → Nat → Option Nat} {K : Nat → Nat × Nat} {n : Nat} {Q : Option Value → zH → Prop} (w c : Nat) (S0_ : hLaw G R K n w c) (l1 l2 : Int32) (F : (((nI c : Int32) ≤ l2 → Q (some (.int (l2))) (I, J, R, K, n)) ∧ (¬ ((nI c : Int32) ≤ l2) → ((vp_in l2 c) ∧ (((I (w + 1) l2.toNatClampNeg : Int32) = (-59) → Q (some (.int (l2))) (I, J, R, K, n)) ∧ (¬ ((I (w + 1) l2.toNatClampNeg : Int32) = (-59)) → zV G (d + 1) mX2_clauseEnd kc ks 2 [(0, .ref (w)), (1, .int (l1)), (2, .int (l2 + 1))] [] (I, J, R, K, n) Q)))))) : zV G (d + 1) mX2_clauseEnd kc ks 2 [(0, .ref (w)), (1, .int (l1)), (2, .int (l2))] [] (I, J, R, K, n) Q := by
  refine zIload_n 2 2 3 (by decide +kernel) rfl rfl ?_
  refine zAload_n 0 0 4 (by decide +kernel) rfl rfl ?_
  refine gf2_0 13 7 (by decide +kernel) rfl flX2_13 (Law_0 S0_) (Law_1 S0_) ?_
  refine yAlenI 32 c 8 (by decide +kernel) rfl (by decide) (by decide) (Law_2 S0_) ?_
  refine zIcmp_ge 20 28 11 (by decide +kernel) rfl rfl ⟨fun q1 => ?_, fun q1 => ?_⟩
  · replace F := F.1 q1
    refine zIload_n 2 2 29 (by decide +kernel) rfl rfl ?_
    exact zIret rfl (by decide +kernel) F
  · replace F := F.2 q1
    refine zAload_n 0 0 12 (by decide +kernel) rfl rfl ?_
    refine gf2_0 13 15 (by decide +kernel) rfl flX2_13 (Law_0 S0_) (Law_1 S0_) ?_
    refine zIload_n 2 2 16 (by decide +kernel) rfl rfl ?_
    obtain ⟨w2, F⟩ := F
    refine yIaload c 17 (by decide +kernel) rfl (Law_2 S0_) (w2) ?_
    refine zBipush (-59) (-59) 19 (by decide +kernel) rfl (by decide) ?_
    refine zIcmp_eq 9 28 22 (by decide +kernel) rfl rfl ⟨fun q3 => ?_, fun q3 => ?_⟩
    · replace F := F.1 q3
      refine zIload_n 2 2 29 (by decide +kernel) rfl rfl ?_
      exact zIret rfl (by decide +kernel) F
    · replace F := F.2 q3
      refine zIinc 2 1 2 (l2 + 1) [(2, .int (l2 + 1)), (0, .ref (w)), (1, .int (l1))] 25 (by decide +kernel) rfl rfl (by rfl) (by decide) rfl ?_
      refine zGoto (-23) 2 (by decide +kernel) rfl ?_
      exact zLoc [1, 2, 0] _ rfl F
set_option maxHeartbeats 2000000 in
theorem wX2_joined_0 {G : zG} {d kc ks : Nat} {I : Nat → Nat → Int32} {J : Nat → Nat → Int64} {R : Nat → Nat → Option Nat} {K : Nat → Nat × Nat} {n : Nat} {Q : Option Value → zH → Prop}  (p0 p1 p2 : Int32) (F : ((p0 = 38 → Q (some (.int (((if (lg_cmp ((p1 &&& p2 : Int32).toInt64) 1000000 : Int32) ≤ 0 then (if 0 ≤ (lg_cmp ((p1 &&& p2 : Int32).toInt64) (-1000000) : Int32) then (p1 &&& p2 : Int32).toInt64 else (-1000000)) else 1000000) : Int64).toInt32))) (I, J, R, K, n)) ∧ (p0 = 42 → Q (some (.int (((if (lg_cmp (p1.toInt64 * p2.toInt64) 1000000 : Int32) ≤ 0 then (if 0 ≤ (lg_cmp (p1.toInt64 * p2.toInt64) (-1000000) : Int32) then p1.toInt64 * p2.toInt64 else (-1000000)) else 1000000) : Int64).toInt32))) (I, J, R, K, n)) ∧ (p0 = 43 → Q (some (.int (((if (lg_cmp (p1.toInt64 + p2.toInt64) 1000000 : Int32) ≤ 0 then (if 0 ≤ (lg_cmp (p1.toInt64 + p2.toInt64) (-1000000) : Int32) then p1.toInt64 + p2.toInt64 else (-1000000)) else 1000000) : Int64).toInt32))) (I, J, R, K, n)) ∧ (p0 = 45 → Q (some (.int (((if (lg_cmp (p1.toInt64 - p2.toInt64) 1000000 : Int32) ≤ 0 then (if 0 ≤ (lg_cmp (p1.toInt64 - p2.toInt64) (-1000000) : Int32) then p1.toInt64 - p2.toInt64 else (-1000000)) else 1000000) : Int64).toInt32))) (I, J, R, K, n)) ∧ (p0 = 47 → (((¬ (p2 = 0)) → ¬ (p2 : Int32) = 0) ∧ Q (some (.int (((if (lg_cmp (if p2 = 0 then 0 else (p1 / p2 : Int32).toInt64) 1000000 : Int32) ≤ 0 then (if 0 ≤ (lg_cmp (if p2 = 0 then 0 else (p1 / p2 : Int32).toInt64) (-1000000) : Int32) then (if p2 = 0 then 0 else (p1 / p2 : Int32).toInt64) else (-1000000)) else 1000000) : Int64).toInt32))) (I, J, R, K, n))) ∧ (p0 = 60 → Q (some (.int (((if (lg_cmp (if p2 ≤ p1 then 0 else 1) 1000000 : Int32) ≤ 0 then (if 0 ≤ (lg_cmp (if p2 ≤ p1 then 0 else 1) (-1000000) : Int32) then (if p2 ≤ p1 then 0 else 1) else (-1000000)) else 1000000) : Int64).toInt32))) (I, J, R, K, n)) ∧ (p0 = 61 → Q (some (.int (((if (lg_cmp (if p1 = p2 then 1 else 0) 1000000 : Int32) ≤ 0 then (if 0 ≤ (lg_cmp (if p1 = p2 then 1 else 0) (-1000000) : Int32) then (if p1 = p2 then 1 else 0) else (-1000000)) else 1000000) : Int64).toInt32))) (I, J, R, K, n)) ∧ (p0 = 62 → Q (some (.int (((if (lg_cmp (if p1 ≤ p2 then 0 else 1) 1000000 : Int32) ≤ 0 then (if 0 ≤ (lg_cmp (if p1 ≤ p2 then 0 else 1) (-1000000) : Int32) then (if p1 ≤ p2 then 0 else 1) else (-1000000)) else 1000000) : Int64).toInt32))) (I, J, R, K, n)) ∧ (p0 = 124 → Q (some (.int (((if (lg_cmp ((p1 ||| p2 : Int32).toInt64) 1000000 : Int32) ≤ 0 then (if 0 ≤ (lg_cmp ((p1 ||| p2 : Int32).toInt64) (-1000000) : Int32) then (p1 ||| p2 : Int32).toInt64 else (-1000000)) else 1000000) : Int64).toInt32))) (I, J, R, K, n)) ∧ (¬ p0 = 38 → ¬ p0 = 42 → ¬ p0 = 43 → ¬ p0 = 45 → ¬ p0 = 47 → ¬ p0 = 60 → ¬ p0 = 61 → ¬ p0 = 62 → ¬ p0 = 124 → Q (some (.int (((if (lg_cmp 0 1000000 : Int32) ≤ 0 then (if 0 ≤ (lg_cmp 0 (-1000000) : Int32) then 0 else (-1000000)) else 1000000) : Int64).toInt32))) (I, J, R, K, n)))) : zV G (d + 1) mX2_joined kc ks 0 [(0, .int (p0)), (1, .int (p1)), (2, .int (p2))] [] (I, J, R, K, n) Q := by
  refine zIload_n 0 0 1 (by decide +kernel) rfl rfl ?_
  by_cases q1 : p0 = 38
  · replace F := F.1 q1
    have zt := zEqT q1 (show (38 : Int32).toInt = 38 by decide)
    refine zLookup 184 #[(38, 168), (42, 101), (43, 83), (45, 92), (47, 110), (60, 140), (61, 126), (62, 154), (124, 176)] 83 168 169 (by decide +kernel) (by decide) (by rw [zt]; decide +kernel) rfl ?_
    refine zIload_n 1 1 170 (by decide +kernel) rfl rfl ?_
    refine zIload_n 2 2 171 (by decide +kernel) rfl rfl ?_
    refine zIand 172 (by decide +kernel) rfl ?_
    refine zI2l 173 (by decide +kernel) rfl ?_
    refine zLstore_n 3 [(3, .long ((p1 &&& p2 : Int32).toInt64)), (0, .int (p0)), (1, .int (p1)), (2, .int (p2))] 174 (by decide +kernel) rfl (by decide) rfl ?_
    refine zGoto 13 187 (by decide +kernel) rfl ?_
    refine zLload_n 3 0 188 (by decide +kernel) rfl rfl ?_
    refine zLdc2 24 1000000 191 (by decide +kernel) rfl klX2_24 ?_
    refine zLcmp 192 (by decide +kernel) rfl ?_
    suffices KK : zV G (d + 1) mX2_joined kc ks 216 [(3, .long ((p1 &&& p2 : Int32).toInt64)), (0, .int (p0)), (1, .int (p1)), (2, .int (p2))] [.long ((if (lg_cmp ((p1 &&& p2 : Int32).toInt64) 1000000 : Int32) ≤ 0 then (if 0 ≤ (lg_cmp ((p1 &&& p2 : Int32).toInt64) (-1000000) : Int32) then (p1 &&& p2 : Int32).toInt64 else (-1000000)) else 1000000))] (I, J, R, K, n) Q by
      refine zIf_le 9 201 195 (by decide +kernel) rfl rfl ⟨fun q2 => ?_, fun q2 => ?_⟩
      · refine zLload_n 3 0 202 (by decide +kernel) rfl rfl ?_
        refine zLdc2 26 (-1000000) 205 (by decide +kernel) rfl klX2_26 ?_
        refine zLcmp 206 (by decide +kernel) rfl ?_
        refine zIf_ge 9 215 209 (by decide +kernel) rfl rfl ⟨fun q3 => ?_, fun q3 => ?_⟩
        · refine zLload_n 3 0 216 (by decide +kernel) rfl rfl ?_
          exact zTopL (by rw [if_pos q2, if_pos q3]) KK
        · refine zLdc2 26 (-1000000) 212 (by decide +kernel) rfl klX2_26 ?_
          refine zGoto 4 216 (by decide +kernel) rfl ?_
          exact zTopL (by rw [if_pos q2, if_neg q3]) KK
      · refine zLdc2 24 1000000 198 (by decide +kernel) rfl klX2_24 ?_
        refine zGoto 18 216 (by decide +kernel) rfl ?_
        exact zTopL (by rw [if_neg q2]) KK
    refine zL2i 217 (by decide +kernel) rfl ?_
    exact zIret rfl (by decide +kernel) F
  · skip
    by_cases q4 : p0 = 42
    · replace F := F.2.1 q4
      have zt := zEqT q4 (show (42 : Int32).toInt = 42 by decide)
      refine zLookup 184 #[(38, 168), (42, 101), (43, 83), (45, 92), (47, 110), (60, 140), (61, 126), (62, 154), (124, 176)] 83 101 102 (by decide +kernel) (by decide) (by rw [zt]; decide +kernel) rfl ?_
      refine zIload_n 1 1 103 (by decide +kernel) rfl rfl ?_
      refine zI2l 104 (by decide +kernel) rfl ?_
      refine zIload_n 2 2 105 (by decide +kernel) rfl rfl ?_
      refine zI2l 106 (by decide +kernel) rfl ?_
      refine zLmul 107 (by decide +kernel) rfl ?_
      refine zLstore_n 3 [(3, .long (p1.toInt64 * p2.toInt64)), (0, .int (p0)), (1, .int (p1)), (2, .int (p2))] 108 (by decide +kernel) rfl (by decide) rfl ?_
      refine zGoto 79 187 (by decide +kernel) rfl ?_
      refine zLload_n 3 0 188 (by decide +kernel) rfl rfl ?_
      refine zLdc2 24 1000000 191 (by decide +kernel) rfl klX2_24 ?_
      refine zLcmp 192 (by decide +kernel) rfl ?_
      suffices KK : zV G (d + 1) mX2_joined kc ks 216 [(3, .long (p1.toInt64 * p2.toInt64)), (0, .int (p0)), (1, .int (p1)), (2, .int (p2))] [.long ((if (lg_cmp (p1.toInt64 * p2.toInt64) 1000000 : Int32) ≤ 0 then (if 0 ≤ (lg_cmp (p1.toInt64 * p2.toInt64) (-1000000) : Int32) then p1.toInt64 * p2.toInt64 else (-1000000)) else 1000000))] (I, J, R, K, n) Q by
        refine zIf_le 9 201 195 (by decide +kernel) rfl rfl ⟨fun q5 => ?_, fun q5 => ?_⟩
        · refine zLload_n 3 0 202 (by decide +kernel) rfl rfl ?_
          refine zLdc2 26 (-1000000) 205 (by decide +kernel) rfl klX2_26 ?_
          refine zLcmp 206 (by decide +kernel) rfl ?_
          refine zIf_ge 9 215 209 (by decide +kernel) rfl rfl ⟨fun q6 => ?_, fun q6 => ?_⟩
          · refine zLload_n 3 0 216 (by decide +kernel) rfl rfl ?_
            exact zTopL (by rw [if_pos q5, if_pos q6]) KK
          · refine zLdc2 26 (-1000000) 212 (by decide +kernel) rfl klX2_26 ?_
            refine zGoto 4 216 (by decide +kernel) rfl ?_
            exact zTopL (by rw [if_pos q5, if_neg q6]) KK
        · refine zLdc2 24 1000000 198 (by decide +kernel) rfl klX2_24 ?_
          refine zGoto 18 216 (by decide +kernel) rfl ?_
          exact zTopL (by rw [if_neg q5]) KK
      refine zL2i 217 (by decide +kernel) rfl ?_
      exact zIret rfl (by decide +kernel) F
    · skip
      by_cases q7 : p0 = 43
      · replace F := F.2.2.1 q7
        have zt := zEqT q7 (show (43 : Int32).toInt = 43 by decide)
        refine zLookup 184 #[(38, 168), (42, 101), (43, 83), (45, 92), (47, 110), (60, 140), (61, 126), (62, 154), (124, 176)] 83 83 84 (by decide +kernel) (by decide) (by rw [zt]; decide +kernel) rfl ?_
        refine zIload_n 1 1 85 (by decide +kernel) rfl rfl ?_
        refine zI2l 86 (by decide +kernel) rfl ?_
        refine zIload_n 2 2 87 (by decide +kernel) rfl rfl ?_
        refine zI2l 88 (by decide +kernel) rfl ?_
        refine zLadd 89 (by decide +kernel) rfl ?_
        refine zLstore_n 3 [(3, .long (p1.toInt64 + p2.toInt64)), (0, .int (p0)), (1, .int (p1)), (2, .int (p2))] 90 (by decide +kernel) rfl (by decide) rfl ?_
        refine zGoto 97 187 (by decide +kernel) rfl ?_
        refine zLload_n 3 0 188 (by decide +kernel) rfl rfl ?_
        refine zLdc2 24 1000000 191 (by decide +kernel) rfl klX2_24 ?_
        refine zLcmp 192 (by decide +kernel) rfl ?_
        suffices KK : zV G (d + 1) mX2_joined kc ks 216 [(3, .long (p1.toInt64 + p2.toInt64)), (0, .int (p0)), (1, .int (p1)), (2, .int (p2))] [.long ((if (lg_cmp (p1.toInt64 + p2.toInt64) 1000000 : Int32) ≤ 0 then (if 0 ≤ (lg_cmp (p1.toInt64 + p2.toInt64) (-1000000) : Int32) then p1.toInt64 + p2.toInt64 else (-1000000)) else 1000000))] (I, J, R, K, n) Q by
          refine zIf_le 9 201 195 (by decide +kernel) rfl rfl ⟨fun q8 => ?_, fun q8 => ?_⟩
          · refine zLload_n 3 0 202 (by decide +kernel) rfl rfl ?_
            refine zLdc2 26 (-1000000) 205 (by decide +kernel) rfl klX2_26 ?_
            refine zLcmp 206 (by decide +kernel) rfl ?_
            refine zIf_ge 9 215 209 (by decide +kernel) rfl rfl ⟨fun q9 => ?_, fun q9 => ?_⟩
            · refine zLload_n 3 0 216 (by decide +kernel) rfl rfl ?_
              exact zTopL (by rw [if_pos q8, if_pos q9]) KK
            · refine zLdc2 26 (-1000000) 212 (by decide +kernel) rfl klX2_26 ?_
              refine zGoto 4 216 (by decide +kernel) rfl ?_
              exact zTopL (by rw [if_pos q8, if_neg q9]) KK
          · refine zLdc2 24 1000000 198 (by decide +kernel) rfl klX2_24 ?_
            refine zGoto 18 216 (by decide +kernel) rfl ?_
            exact zTopL (by rw [if_neg q8]) KK
        refine zL2i 217 (by decide +kernel) rfl ?_
        exact zIret rfl (by decide +kernel) F
      · skip
        by_cases q10 : p0 = 45
        · replace F := F.2.2.2.1 q10
          have zt := zEqT q10 (show (45 : Int32).toInt = 45 by decide)
          refine zLookup 184 #[(38, 168), (42, 101), (43, 83), (45, 92), (47, 110), (60, 140), (61, 126), (62, 154), (124, 176)] 83 92 93 (by decide +kernel) (by decide) (by rw [zt]; decide +kernel) rfl ?_
          refine zIload_n 1 1 94 (by decide +kernel) rfl rfl ?_
          refine zI2l 95 (by decide +kernel) rfl ?_
          refine zIload_n 2 2 96 (by decide +kernel) rfl rfl ?_
          refine zI2l 97 (by decide +kernel) rfl ?_
          refine zLsub 98 (by decide +kernel) rfl ?_
          refine zLstore_n 3 [(3, .long (p1.toInt64 - p2.toInt64)), (0, .int (p0)), (1, .int (p1)), (2, .int (p2))] 99 (by decide +kernel) rfl (by decide) rfl ?_
          refine zGoto 88 187 (by decide +kernel) rfl ?_
          refine zLload_n 3 0 188 (by decide +kernel) rfl rfl ?_
          refine zLdc2 24 1000000 191 (by decide +kernel) rfl klX2_24 ?_
          refine zLcmp 192 (by decide +kernel) rfl ?_
          suffices KK : zV G (d + 1) mX2_joined kc ks 216 [(3, .long (p1.toInt64 - p2.toInt64)), (0, .int (p0)), (1, .int (p1)), (2, .int (p2))] [.long ((if (lg_cmp (p1.toInt64 - p2.toInt64) 1000000 : Int32) ≤ 0 then (if 0 ≤ (lg_cmp (p1.toInt64 - p2.toInt64) (-1000000) : Int32) then p1.toInt64 - p2.toInt64 else (-1000000)) else 1000000))] (I, J, R, K, n) Q by
            refine zIf_le 9 201 195 (by decide +kernel) rfl rfl ⟨fun q11 => ?_, fun q11 => ?_⟩
            · refine zLload_n 3 0 202 (by decide +kernel) rfl rfl ?_
              refine zLdc2 26 (-1000000) 205 (by decide +kernel) rfl klX2_26 ?_
              refine zLcmp 206 (by decide +kernel) rfl ?_
              refine zIf_ge 9 215 209 (by decide +kernel) rfl rfl ⟨fun q12 => ?_, fun q12 => ?_⟩
              · refine zLload_n 3 0 216 (by decide +kernel) rfl rfl ?_
                exact zTopL (by rw [if_pos q11, if_pos q12]) KK
              · refine zLdc2 26 (-1000000) 212 (by decide +kernel) rfl klX2_26 ?_
                refine zGoto 4 216 (by decide +kernel) rfl ?_
                exact zTopL (by rw [if_pos q11, if_neg q12]) KK
            · refine zLdc2 24 1000000 198 (by decide +kernel) rfl klX2_24 ?_
              refine zGoto 18 216 (by decide +kernel) rfl ?_
              exact zTopL (by rw [if_neg q11]) KK
          refine zL2i 217 (by decide +kernel) rfl ?_
          exact zIret rfl (by decide +kernel) F
        · skip
          by_cases q13 : p0 = 47
          · replace F := F.2.2.2.2.1 q13
            have zt := zEqT q13 (show (47 : Int32).toInt = 47 by decide)
            refine zLookup 184 #[(38, 168), (42, 101), (43, 83), (45, 92), (47, 110), (60, 140), (61, 126), (62, 154), (124, 176)] 83 110 111 (by decide +kernel) (by decide) (by rw [zt]; decide +kernel) rfl ?_
            refine zIload_n 2 2 112 (by decide +kernel) rfl rfl ?_
            obtain ⟨w15, F⟩ := F
            suffices KK : zV G (d + 1) mX2_joined kc ks 123 [(0, .int (p0)), (1, .int (p1)), (2, .int (p2))] [.long ((if p2 = 0 then 0 else (p1 / p2 : Int32).toInt64))] (I, J, R, K, n) Q by
              refine zIf_ne 7 119 115 (by decide +kernel) rfl rfl ⟨fun q14 => ?_, fun q14 => ?_⟩
              · refine zIload_n 1 1 120 (by decide +kernel) rfl rfl ?_
                refine zIload_n 2 2 121 (by decide +kernel) rfl rfl ?_
                refine zIdiv 122 (by decide +kernel) rfl (w15 q14) ?_
                refine zI2l 123 (by decide +kernel) rfl ?_
                exact zTopL (by rw [if_neg q14]) KK
              · refine zLconst 0 0 116 (by decide +kernel) rfl (by decide) ?_
                refine zGoto 7 123 (by decide +kernel) rfl ?_
                exact zTopL (by rw [if_pos q14]) KK
            refine zLstore_n 3 [(3, .long ((if p2 = 0 then 0 else (p1 / p2 : Int32).toInt64))), (0, .int (p0)), (1, .int (p1)), (2, .int (p2))] 124 (by decide +kernel) rfl (by decide) rfl ?_
            refine zGoto 63 187 (by decide +kernel) rfl ?_
            refine zLload_n 3 0 188 (by decide +kernel) rfl rfl ?_
            refine zLdc2 24 1000000 191 (by decide +kernel) rfl klX2_24 ?_
            refine zLcmp 192 (by decide +kernel) rfl ?_
            suffices KK : zV G (d + 1) mX2_joined kc ks 216 [(3, .long ((if p2 = 0 then 0 else (p1 / p2 : Int32).toInt64))), (0, .int (p0)), (1, .int (p1)), (2, .int (p2))] [.long ((if (lg_cmp (if p2 = 0 then 0 else (p1 / p2 : Int32).toInt64) 1000000 : Int32) ≤ 0 then (if 0 ≤ (lg_cmp (if p2 = 0 then 0 else (p1 / p2 : Int32).toInt64) (-1000000) : Int32) then (if p2 = 0 then 0 else (p1 / p2 : Int32).toInt64) else (-1000000)) else 1000000))] (I, J, R, K, n) Q by
              refine zIf_le 9 201 195 (by decide +kernel) rfl rfl ⟨fun q16 => ?_, fun q16 => ?_⟩
              · refine zLload_n 3 0 202 (by decide +kernel) rfl rfl ?_
                refine zLdc2 26 (-1000000) 205 (by decide +kernel) rfl klX2_26 ?_
                refine zLcmp 206 (by decide +kernel) rfl ?_
                refine zIf_ge 9 215 209 (by decide +kernel) rfl rfl ⟨fun q17 => ?_, fun q17 => ?_⟩
                · refine zLload_n 3 0 216 (by decide +kernel) rfl rfl ?_
                  exact zTopL (by rw [if_pos q16, if_pos q17]) KK
                · refine zLdc2 26 (-1000000) 212 (by decide +kernel) rfl klX2_26 ?_
                  refine zGoto 4 216 (by decide +kernel) rfl ?_
                  exact zTopL (by rw [if_pos q16, if_neg q17]) KK
              · refine zLdc2 24 1000000 198 (by decide +kernel) rfl klX2_24 ?_
                refine zGoto 18 216 (by decide +kernel) rfl ?_
                exact zTopL (by rw [if_neg q16]) KK
            refine zL2i 217 (by decide +kernel) rfl ?_
            exact zIret rfl (by decide +kernel) F
          · skip
            by_cases q18 : p0 = 60
            · replace F := F.2.2.2.2.2.1 q18
              have zt := zEqT q18 (show (60 : Int32).toInt = 60 by decide)
              refine zLookup 184 #[(38, 168), (42, 101), (43, 83), (45, 92), (47, 110), (60, 140), (61, 126), (62, 154), (124, 176)] 83 140 141 (by decide +kernel) (by decide) (by rw [zt]; decide +kernel) rfl ?_
              refine zIload_n 1 1 142 (by decide +kernel) rfl rfl ?_
              refine zIload_n 2 2 143 (by decide +kernel) rfl rfl ?_
              suffices KK : zV G (d + 1) mX2_joined kc ks 151 [(0, .int (p0)), (1, .int (p1)), (2, .int (p2))] [.long ((if p2 ≤ p1 then 0 else 1))] (I, J, R, K, n) Q by
                refine zIcmp_ge 7 150 146 (by decide +kernel) rfl rfl ⟨fun q19 => ?_, fun q19 => ?_⟩
                · refine zLconst 0 0 151 (by decide +kernel) rfl (by decide) ?_
                  exact zTopL (by rw [if_pos q19]) KK
                · refine zLconst 1 1 147 (by decide +kernel) rfl (by decide) ?_
                  refine zGoto 4 151 (by decide +kernel) rfl ?_
                  exact zTopL (by rw [if_neg q19]) KK
              refine zLstore_n 3 [(3, .long ((if p2 ≤ p1 then 0 else 1))), (0, .int (p0)), (1, .int (p1)), (2, .int (p2))] 152 (by decide +kernel) rfl (by decide) rfl ?_
              refine zGoto 35 187 (by decide +kernel) rfl ?_
              refine zLload_n 3 0 188 (by decide +kernel) rfl rfl ?_
              refine zLdc2 24 1000000 191 (by decide +kernel) rfl klX2_24 ?_
              refine zLcmp 192 (by decide +kernel) rfl ?_
              suffices KK : zV G (d + 1) mX2_joined kc ks 216 [(3, .long ((if p2 ≤ p1 then 0 else 1))), (0, .int (p0)), (1, .int (p1)), (2, .int (p2))] [.long ((if (lg_cmp (if p2 ≤ p1 then 0 else 1) 1000000 : Int32) ≤ 0 then (if 0 ≤ (lg_cmp (if p2 ≤ p1 then 0 else 1) (-1000000) : Int32) then (if p2 ≤ p1 then 0 else 1) else (-1000000)) else 1000000))] (I, J, R, K, n) Q by
                refine zIf_le 9 201 195 (by decide +kernel) rfl rfl ⟨fun q20 => ?_, fun q20 => ?_⟩
                · refine zLload_n 3 0 202 (by decide +kernel) rfl rfl ?_
                  refine zLdc2 26 (-1000000) 205 (by decide +kernel) rfl klX2_26 ?_
                  refine zLcmp 206 (by decide +kernel) rfl ?_
                  refine zIf_ge 9 215 209 (by decide +kernel) rfl rfl ⟨fun q21 => ?_, fun q21 => ?_⟩
                  · refine zLload_n 3 0 216 (by decide +kernel) rfl rfl ?_
                    exact zTopL (by rw [if_pos q20, if_pos q21]) KK
                  · refine zLdc2 26 (-1000000) 212 (by decide +kernel) rfl klX2_26 ?_
                    refine zGoto 4 216 (by decide +kernel) rfl ?_
                    exact zTopL (by rw [if_pos q20, if_neg q21]) KK
                · refine zLdc2 24 1000000 198 (by decide +kernel) rfl klX2_24 ?_
                  refine zGoto 18 216 (by decide +kernel) rfl ?_
                  exact zTopL (by rw [if_neg q20]) KK
              refine zL2i 217 (by decide +kernel) rfl ?_
              exact zIret rfl (by decide +kernel) F
            · skip
              by_cases q22 : p0 = 61
              · replace F := F.2.2.2.2.2.2.1 q22
                have zt := zEqT q22 (show (61 : Int32).toInt = 61 by decide)
                refine zLookup 184 #[(38, 168), (42, 101), (43, 83), (45, 92), (47, 110), (60, 140), (61, 126), (62, 154), (124, 176)] 83 126 127 (by decide +kernel) (by decide) (by rw [zt]; decide +kernel) rfl ?_
                refine zIload_n 1 1 128 (by decide +kernel) rfl rfl ?_
                refine zIload_n 2 2 129 (by decide +kernel) rfl rfl ?_
                suffices KK : zV G (d + 1) mX2_joined kc ks 137 [(0, .int (p0)), (1, .int (p1)), (2, .int (p2))] [.long ((if p1 = p2 then 1 else 0))] (I, J, R, K, n) Q by
                  refine zIcmp_ne 7 136 132 (by decide +kernel) rfl rfl ⟨fun q23 => ?_, fun q23 => ?_⟩
                  · refine zLconst 0 0 137 (by decide +kernel) rfl (by decide) ?_
                    exact zTopL (by rw [if_neg q23]) KK
                  · refine zLconst 1 1 133 (by decide +kernel) rfl (by decide) ?_
                    refine zGoto 4 137 (by decide +kernel) rfl ?_
                    exact zTopL (by rw [if_pos q23]) KK
                refine zLstore_n 3 [(3, .long ((if p1 = p2 then 1 else 0))), (0, .int (p0)), (1, .int (p1)), (2, .int (p2))] 138 (by decide +kernel) rfl (by decide) rfl ?_
                refine zGoto 49 187 (by decide +kernel) rfl ?_
                refine zLload_n 3 0 188 (by decide +kernel) rfl rfl ?_
                refine zLdc2 24 1000000 191 (by decide +kernel) rfl klX2_24 ?_
                refine zLcmp 192 (by decide +kernel) rfl ?_
                suffices KK : zV G (d + 1) mX2_joined kc ks 216 [(3, .long ((if p1 = p2 then 1 else 0))), (0, .int (p0)), (1, .int (p1)), (2, .int (p2))] [.long ((if (lg_cmp (if p1 = p2 then 1 else 0) 1000000 : Int32) ≤ 0 then (if 0 ≤ (lg_cmp (if p1 = p2 then 1 else 0) (-1000000) : Int32) then (if p1 = p2 then 1 else 0) else (-1000000)) else 1000000))] (I, J, R, K, n) Q by
                  refine zIf_le 9 201 195 (by decide +kernel) rfl rfl ⟨fun q24 => ?_, fun q24 => ?_⟩
                  · refine zLload_n 3 0 202 (by decide +kernel) rfl rfl ?_
                    refine zLdc2 26 (-1000000) 205 (by decide +kernel) rfl klX2_26 ?_
                    refine zLcmp 206 (by decide +kernel) rfl ?_
                    refine zIf_ge 9 215 209 (by decide +kernel) rfl rfl ⟨fun q25 => ?_, fun q25 => ?_⟩
                    · refine zLload_n 3 0 216 (by decide +kernel) rfl rfl ?_
                      exact zTopL (by rw [if_pos q24, if_pos q25]) KK
                    · refine zLdc2 26 (-1000000) 212 (by decide +kernel) rfl klX2_26 ?_
                      refine zGoto 4 216 (by decide +kernel) rfl ?_
                      exact zTopL (by rw [if_pos q24, if_neg q25]) KK
                  · refine zLdc2 24 1000000 198 (by decide +kernel) rfl klX2_24 ?_
                    refine zGoto 18 216 (by decide +kernel) rfl ?_
                    exact zTopL (by rw [if_neg q24]) KK
                refine zL2i 217 (by decide +kernel) rfl ?_
                exact zIret rfl (by decide +kernel) F
              · skip
                by_cases q26 : p0 = 62
                · replace F := F.2.2.2.2.2.2.2.1 q26
                  have zt := zEqT q26 (show (62 : Int32).toInt = 62 by decide)
                  refine zLookup 184 #[(38, 168), (42, 101), (43, 83), (45, 92), (47, 110), (60, 140), (61, 126), (62, 154), (124, 176)] 83 154 155 (by decide +kernel) (by decide) (by rw [zt]; decide +kernel) rfl ?_
                  refine zIload_n 1 1 156 (by decide +kernel) rfl rfl ?_
                  refine zIload_n 2 2 157 (by decide +kernel) rfl rfl ?_
                  suffices KK : zV G (d + 1) mX2_joined kc ks 165 [(0, .int (p0)), (1, .int (p1)), (2, .int (p2))] [.long ((if p1 ≤ p2 then 0 else 1))] (I, J, R, K, n) Q by
                    refine zIcmp_le 7 164 160 (by decide +kernel) rfl rfl ⟨fun q27 => ?_, fun q27 => ?_⟩
                    · refine zLconst 0 0 165 (by decide +kernel) rfl (by decide) ?_
                      exact zTopL (by rw [if_pos q27]) KK
                    · refine zLconst 1 1 161 (by decide +kernel) rfl (by decide) ?_
                      refine zGoto 4 165 (by decide +kernel) rfl ?_
                      exact zTopL (by rw [if_neg q27]) KK
                  refine zLstore_n 3 [(3, .long ((if p1 ≤ p2 then 0 else 1))), (0, .int (p0)), (1, .int (p1)), (2, .int (p2))] 166 (by decide +kernel) rfl (by decide) rfl ?_
                  refine zGoto 21 187 (by decide +kernel) rfl ?_
                  refine zLload_n 3 0 188 (by decide +kernel) rfl rfl ?_
                  refine zLdc2 24 1000000 191 (by decide +kernel) rfl klX2_24 ?_
                  refine zLcmp 192 (by decide +kernel) rfl ?_
                  suffices KK : zV G (d + 1) mX2_joined kc ks 216 [(3, .long ((if p1 ≤ p2 then 0 else 1))), (0, .int (p0)), (1, .int (p1)), (2, .int (p2))] [.long ((if (lg_cmp (if p1 ≤ p2 then 0 else 1) 1000000 : Int32) ≤ 0 then (if 0 ≤ (lg_cmp (if p1 ≤ p2 then 0 else 1) (-1000000) : Int32) then (if p1 ≤ p2 then 0 else 1) else (-1000000)) else 1000000))] (I, J, R, K, n) Q by
                    refine zIf_le 9 201 195 (by decide +kernel) rfl rfl ⟨fun q28 => ?_, fun q28 => ?_⟩
                    · refine zLload_n 3 0 202 (by decide +kernel) rfl rfl ?_
                      refine zLdc2 26 (-1000000) 205 (by decide +kernel) rfl klX2_26 ?_
                      refine zLcmp 206 (by decide +kernel) rfl ?_
                      refine zIf_ge 9 215 209 (by decide +kernel) rfl rfl ⟨fun q29 => ?_, fun q29 => ?_⟩
                      · refine zLload_n 3 0 216 (by decide +kernel) rfl rfl ?_
                        exact zTopL (by rw [if_pos q28, if_pos q29]) KK
                      · refine zLdc2 26 (-1000000) 212 (by decide +kernel) rfl klX2_26 ?_
                        refine zGoto 4 216 (by decide +kernel) rfl ?_
                        exact zTopL (by rw [if_pos q28, if_neg q29]) KK
                    · refine zLdc2 24 1000000 198 (by decide +kernel) rfl klX2_24 ?_
                      refine zGoto 18 216 (by decide +kernel) rfl ?_
                      exact zTopL (by rw [if_neg q28]) KK
                  refine zL2i 217 (by decide +kernel) rfl ?_
                  exact zIret rfl (by decide +kernel) F
                · skip
                  by_cases q30 : p0 = 124
                  · replace F := F.2.2.2.2.2.2.2.2.1 q30
                    have zt := zEqT q30 (show (124 : Int32).toInt = 124 by decide)
                    refine zLookup 184 #[(38, 168), (42, 101), (43, 83), (45, 92), (47, 110), (60, 140), (61, 126), (62, 154), (124, 176)] 83 176 177 (by decide +kernel) (by decide) (by rw [zt]; decide +kernel) rfl ?_
                    refine zIload_n 1 1 178 (by decide +kernel) rfl rfl ?_
                    refine zIload_n 2 2 179 (by decide +kernel) rfl rfl ?_
                    refine zIor 180 (by decide +kernel) rfl ?_
                    refine zI2l 181 (by decide +kernel) rfl ?_
                    refine zLstore_n 3 [(3, .long ((p1 ||| p2 : Int32).toInt64)), (0, .int (p0)), (1, .int (p1)), (2, .int (p2))] 182 (by decide +kernel) rfl (by decide) rfl ?_
                    refine zGoto 5 187 (by decide +kernel) rfl ?_
                    refine zLload_n 3 0 188 (by decide +kernel) rfl rfl ?_
                    refine zLdc2 24 1000000 191 (by decide +kernel) rfl klX2_24 ?_
                    refine zLcmp 192 (by decide +kernel) rfl ?_
                    suffices KK : zV G (d + 1) mX2_joined kc ks 216 [(3, .long ((p1 ||| p2 : Int32).toInt64)), (0, .int (p0)), (1, .int (p1)), (2, .int (p2))] [.long ((if (lg_cmp ((p1 ||| p2 : Int32).toInt64) 1000000 : Int32) ≤ 0 then (if 0 ≤ (lg_cmp ((p1 ||| p2 : Int32).toInt64) (-1000000) : Int32) then (p1 ||| p2 : Int32).toInt64 else (-1000000)) else 1000000))] (I, J, R, K, n) Q by
                      refine zIf_le 9 201 195 (by decide +kernel) rfl rfl ⟨fun q31 => ?_, fun q31 => ?_⟩
                      · refine zLload_n 3 0 202 (by decide +kernel) rfl rfl ?_
                        refine zLdc2 26 (-1000000) 205 (by decide +kernel) rfl klX2_26 ?_
                        refine zLcmp 206 (by decide +kernel) rfl ?_
                        refine zIf_ge 9 215 209 (by decide +kernel) rfl rfl ⟨fun q32 => ?_, fun q32 => ?_⟩
                        · refine zLload_n 3 0 216 (by decide +kernel) rfl rfl ?_
                          exact zTopL (by rw [if_pos q31, if_pos q32]) KK
                        · refine zLdc2 26 (-1000000) 212 (by decide +kernel) rfl klX2_26 ?_
                          refine zGoto 4 216 (by decide +kernel) rfl ?_
                          exact zTopL (by rw [if_pos q31, if_neg q32]) KK
                      · refine zLdc2 24 1000000 198 (by decide +kernel) rfl klX2_24 ?_
                        refine zGoto 18 216 (by decide +kernel) rfl ?_
                        exact zTopL (by rw [if_neg q31]) KK
                    refine zL2i 217 (by decide +kernel) rfl ?_
                    exact zIret rfl (by decide +kernel) F
                  · skip
                    replace F := F.2.2.2.2.2.2.2.2.2 q1 q4 q7 q10 q13 q18 q22 q26 q30
                    have zq1 := zNeT q1 (show (38 : Int32).toInt = 38 by decide)
                    have zq4 := zNeT q4 (show (42 : Int32).toInt = 42 by decide)
                    have zq7 := zNeT q7 (show (43 : Int32).toInt = 43 by decide)
                    have zq10 := zNeT q10 (show (45 : Int32).toInt = 45 by decide)
                    have zq13 := zNeT q13 (show (47 : Int32).toInt = 47 by decide)
                    have zq18 := zNeT q18 (show (60 : Int32).toInt = 60 by decide)
                    have zq22 := zNeT q22 (show (61 : Int32).toInt = 61 by decide)
                    have zq26 := zNeT q26 (show (62 : Int32).toInt = 62 by decide)
                    have zq30 := zNeT q30 (show (124 : Int32).toInt = 124 by decide)
                    refine zLookup 184 #[(38, 168), (42, 101), (43, 83), (45, 92), (47, 110), (60, 140), (61, 126), (62, 154), (124, 176)] 83 184 185 (by decide +kernel) (by decide) (by show Op.lookupswitch.offset [(38, 168), (42, 101), (43, 83), (45, 92), (47, 110), (60, 140), (61, 126), (62, 154), (124, 176)] 184 _ = _; rw [lv_osw q1 (show (38 : Int32).toInt = 38 by decide), lv_osw q4 (show (42 : Int32).toInt = 42 by decide), lv_osw q7 (show (43 : Int32).toInt = 43 by decide), lv_osw q10 (show (45 : Int32).toInt = 45 by decide), lv_osw q13 (show (47 : Int32).toInt = 47 by decide), lv_osw q18 (show (60 : Int32).toInt = 60 by decide), lv_osw q22 (show (61 : Int32).toInt = 61 by decide), lv_osw q26 (show (62 : Int32).toInt = 62 by decide), lv_osw q30 (show (124 : Int32).toInt = 124 by decide)]; rfl) rfl ?_
                    refine zLconst 0 0 186 (by decide +kernel) rfl (by decide) ?_
                    refine zLstore_n 3 [(3, .long (0)), (0, .int (p0)), (1, .int (p1)), (2, .int (p2))] 187 (by decide +kernel) rfl (by decide) rfl ?_
                    refine zLload_n 3 0 188 (by decide +kernel) rfl rfl ?_
                    refine zLdc2 24 1000000 191 (by decide +kernel) rfl klX2_24 ?_
                    refine zLcmp 192 (by decide +kernel) rfl ?_
                    suffices KK : zV G (d + 1) mX2_joined kc ks 216 [(3, .long (0)), (0, .int (p0)), (1, .int (p1)), (2, .int (p2))] [.long ((if (lg_cmp 0 1000000 : Int32) ≤ 0 then (if 0 ≤ (lg_cmp 0 (-1000000) : Int32) then 0 else (-1000000)) else 1000000))] (I, J, R, K, n) Q by
                      refine zIf_le 9 201 195 (by decide +kernel) rfl rfl ⟨fun q33 => ?_, fun q33 => ?_⟩
                      · refine zLload_n 3 0 202 (by decide +kernel) rfl rfl ?_
                        refine zLdc2 26 (-1000000) 205 (by decide +kernel) rfl klX2_26 ?_
                        refine zLcmp 206 (by decide +kernel) rfl ?_
                        refine zIf_ge 9 215 209 (by decide +kernel) rfl rfl ⟨fun q34 => ?_, fun q34 => ?_⟩
                        · refine zLload_n 3 0 216 (by decide +kernel) rfl rfl ?_
                          exact zTopL (by rw [if_pos q33, if_pos q34]) KK
                        · refine zLdc2 26 (-1000000) 212 (by decide +kernel) rfl klX2_26 ?_
                          refine zGoto 4 216 (by decide +kernel) rfl ?_
                          exact zTopL (by rw [if_pos q33, if_neg q34]) KK
                      · refine zLdc2 24 1000000 198 (by decide +kernel) rfl klX2_24 ?_
                        refine zGoto 18 216 (by decide +kernel) rfl ?_
                        exact zTopL (by rw [if_neg q33]) KK
                    refine zL2i 217 (by decide +kernel) rfl ?_
                    exact zIret rfl (by decide +kernel) F
set_option maxHeartbeats 2000000 in
theorem wX3_read_0 {G : zG} {d kc ks : Nat} {I : Nat → Nat → Int32} {J : Nat → Nat → Int64} {R : Nat → Nat → Option Nat} {K : Nat → Nat × Nat} {n : Nat} {Q : Option Value → zH → Prop} (l t : Nat) (S0_ : hLr0 G R K n l) (S1_ : hTape G R K n t) (F : (∀ R1 : Nat → Nat → Option Nat, R1 = zU R l 2 (some (t)) → hLrd G R1 K n l t ∧ hTape G R1 K n t ∧ (∀ I4 : Nat → Nat → Int32, I4 = zU I t 2 (0) → (∀ I5 : Nat → Nat → Int32, I5 = zU I4 l 1 (0) → zV G (d + 1) mX3_read kc ks 20 [(0, .ref (l)), (1, .ref (t)), (2, .int (0))] [] (I5, J, R1, K, n) Q)))) : zV G (d + 1) mX3_read kc ks 0 [(0, .ref (l)), (1, .ref (t))] [] (I, J, R, K, n) Q := by
  refine zAload_n 0 0 1 (by decide +kernel) rfl rfl ?_
  refine zAload_n 1 1 2 (by decide +kernel) rfl rfl ?_
  refine pf3_2 (v := some (t)) 21 5 (by decide +kernel) rfl flX3_21 (Lr0_0 S0_) ?_
  replace F := F _ rfl
  generalize zU R l 2 (some (t)) = R1 at F ⊢
  obtain ⟨S2, F⟩ := F
  obtain ⟨S3, F⟩ := F
  refine zAload_n 0 0 6 (by decide +kernel) rfl rfl ?_
  refine gf3_2 21 9 (by decide +kernel) rfl flX3_21 (Lrd_0 S2) (Lrd_3 S2) ?_
  refine zIconst 0 0 10 (by decide +kernel) rfl (by decide) ?_
  refine pf9_2 25 13 (by decide +kernel) rfl flX3_25 (Tape_0 S3) ?_
  replace F := F _ rfl
  generalize zU I t 2 (0) = I4 at F ⊢
  refine zAload_n 0 0 14 (by decide +kernel) rfl rfl ?_
  refine zIconst 0 0 15 (by decide +kernel) rfl (by decide) ?_
  refine pf3_1 17 18 (by decide +kernel) rfl flX3_17 (Lrd_0 S2) ?_
  replace F := F _ rfl
  generalize zU I4 l 1 (0) = I5 at F ⊢
  refine zIconst 0 0 19 (by decide +kernel) rfl (by decide) ?_
  refine zIstore_n 2 [(2, .int (0)), (0, .ref (l)), (1, .ref (t))] 20 (by decide +kernel) rfl (by decide) rfl ?_
  exact zLoc [1, 2, 0] _ rfl F
set_option maxHeartbeats 2000000 in
theorem wX3_read_20 {G : zG} {d kc ks : Nat} {I : Nat → Nat → Int32} {J : Nat → Nat → Int64} {R : Nat → Nat → Option Nat} {K : Nat → Nat × Nat} {n : Nat} {Q : Option Value → zH → Prop} (l t : Nat) (S2 : hLrd G R K n l t) (S3 : hTape G R K n t) (l2 : Int32) (F : ((240 ≤ l2 → Q (some (.int (0))) (I, J, R, K, n)) ∧ (¬ (240 ≤ l2) → zC G d mX3_readClause 0 0 [.ref (l)] (I, J, R, K, n) (fun r h => ∃ (x7 : Int32) (I8 : Nat → Nat → Int32), r = some (.int x7) ∧ h = (I8, J, R, K, n) ∧ ((x7 = 0 → Q (some (.int (0))) (I8, J, R, K, n)) ∧ (¬ (x7 = 0) → zC G d mX3_emit 0 0 [.ref (l), .int ((-59))] (I8, J, R, K, n) (fun r h => ∃ (x10 : Int32) (I11 : Nat → Nat → Int32), r = some (.int x10) ∧ h = (I11, J, R, K, n) ∧ ((x10 = 0 → Q (some (.int (0))) (I11, J, R, K, n)) ∧ (¬ (x10 = 0) → zC G d mX9_next 0 0 [.ref (t)] (I11, J, R, K, n) (fun r h => ∃ (x13 : Int32) (I14 : Nat → Nat → Int32), r = some (.int x13) ∧ h = (I14, J, R, K, n) ∧ ((x13 = (-1) → Q (some (.int (1))) (I14, J, R, K, n)) ∧ (¬ (x13 = (-1)) → zC G d mX9_accept 0 0 [.ref (t), .int (59)] (I14, J, R, K, n) (fun r h => ∃ (x16 : Int32) (I17 : Nat → Nat → Int32), r = some (.int x16) ∧ h = (I17, J, R, K, n) ∧ ((x16 = 0 → Q (some (.int (0))) (I17, J, R, K, n)) ∧ (¬ (x16 = 0) → zV G (d + 1) mX3_read kc ks 20 [(0, .ref (l)), (1, .ref (t)), (2, .int (l2 + 1))] [] (I17, J, R, K, n) Q))))))))))))))) : zV G (d + 1) mX3_read kc ks 20 [(0, .ref (l)), (1, .ref (t)), (2, .int (l2))] [] (I, J, R, K, n) Q := by
  refine zIload_n 2 2 21 (by decide +kernel) rfl rfl ?_
  refine zSipush 240 240 24 (by decide +kernel) rfl (by decide) ?_
  refine zIcmp_ge 54 78 27 (by decide +kernel) rfl rfl ⟨fun q6 => ?_, fun q6 => ?_⟩
  · replace F := F.1 q6
    refine zIconst 0 0 79 (by decide +kernel) rfl (by decide) ?_
    exact zZret .boolean rfl (zNarZ (Or.inl rfl)) (by decide +kernel) F
  · replace F := F.2 q6
    refine zAload_n 0 0 28 (by decide +kernel) rfl rfl ?_
    refine zCallV 3 zcls3 mX3_readClause 28 0 0 0 _ _ 31 [] [] okX3_readClause mlX3_28 imX3_readClause seX3_readClause (by decide +kernel) rfl rfl (Nat.le_of_ble_eq_true rfl) rfl rfl (Lrd_0 S2) (zC.mono F ?_)
    rintro _ _ ⟨x7, I8, rfl, rfl, F⟩
    change zV G (d + 1) mX3_read kc ks 31 [(0, .ref (l)), (1, .ref (t)), (2, .int (l2))] [.int (x7)] (I8, J, R, K, n) Q
    refine zIf_eq 12 43 34 (by decide +kernel) rfl rfl ⟨fun q9 => ?_, fun q9 => ?_⟩
    · replace F := F.1 q9
      refine zIconst 0 0 44 (by decide +kernel) rfl (by decide) ?_
      exact zZret .boolean rfl (zNarZ (Or.inl rfl)) (by decide +kernel) F
    · replace F := F.2 q9
      refine zAload_n 0 0 35 (by decide +kernel) rfl rfl ?_
      refine zBipush (-59) (-59) 37 (by decide +kernel) rfl (by decide) ?_
      refine zCallV 3 zcls3 mX3_emit 34 1 0 0 _ _ 40 [.int ((-59))] [] okX3_emit mlX3_34 imX3_emit seX3_emit (by decide +kernel) rfl rfl (Nat.le_of_ble_eq_true rfl) rfl rfl (Lrd_0 S2) (zC.mono F ?_)
      rintro _ _ ⟨x10, I11, rfl, rfl, F⟩
      change zV G (d + 1) mX3_read kc ks 40 [(0, .ref (l)), (1, .ref (t)), (2, .int (l2))] [.int (x10)] (I11, J, R, K, n) Q
      refine zIf_ne 5 45 43 (by decide +kernel) rfl rfl ⟨fun q12 => ?_, fun q12 => ?_⟩
      · replace F := F.2 q12
        refine zAload_n 0 0 46 (by decide +kernel) rfl rfl ?_
        refine gf3_2 21 49 (by decide +kernel) rfl flX3_21 (Lrd_0 S2) (Lrd_3 S2) ?_
        refine zCallV 9 zcls9 mX9_next 38 0 0 0 _ _ 52 [] [] okX9_next mlX3_38 imX9_next seX9_next (by decide +kernel) rfl rfl (Nat.le_of_ble_eq_true rfl) rfl rfl (Tape_0 S3) (zC.mono F ?_)
        rintro _ _ ⟨x13, I14, rfl, rfl, F⟩
        change zV G (d + 1) mX3_read kc ks 52 [(0, .ref (l)), (1, .ref (t)), (2, .int (l2))] [.int (x13)] (I14, J, R, K, n) Q
        refine zIconst (-1) (-1) 53 (by decide +kernel) rfl (by decide) ?_
        refine zIcmp_ne 5 58 56 (by decide +kernel) rfl rfl ⟨fun q15 => ?_, fun q15 => ?_⟩
        · replace F := F.2 q15
          refine zAload_n 0 0 59 (by decide +kernel) rfl rfl ?_
          refine gf3_2 21 62 (by decide +kernel) rfl flX3_21 (Lrd_0 S2) (Lrd_3 S2) ?_
          refine zBipush 59 59 64 (by decide +kernel) rfl (by decide) ?_
          refine zCallV 9 zcls9 mX9_accept 42 1 0 0 _ _ 67 [.int (59)] [] okX9_accept mlX3_42 imX9_accept seX9_accept (by decide +kernel) rfl rfl (Nat.le_of_ble_eq_true rfl) rfl rfl (Tape_0 S3) (zC.mono F ?_)
          rintro _ _ ⟨x16, I17, rfl, rfl, F⟩
          change zV G (d + 1) mX3_read kc ks 67 [(0, .ref (l)), (1, .ref (t)), (2, .int (l2))] [.int (x16)] (I17, J, R, K, n) Q
          refine zIf_ne 5 72 70 (by decide +kernel) rfl rfl ⟨fun q18 => ?_, fun q18 => ?_⟩
          · replace F := F.2 q18
            refine zIinc 2 1 2 (l2 + 1) [(2, .int (l2 + 1)), (0, .ref (l)), (1, .ref (t))] 75 (by decide +kernel) rfl rfl (by rfl) (by decide) rfl ?_
            refine zGoto (-55) 20 (by decide +kernel) rfl ?_
            exact zLoc [1, 2, 0] _ rfl F
          · replace F := F.1 q18
            refine zIconst 0 0 71 (by decide +kernel) rfl (by decide) ?_
            exact zZret .boolean rfl (zNarZ (Or.inl rfl)) (by decide +kernel) F
        · replace F := F.1 q15
          refine zIconst 1 1 57 (by decide +kernel) rfl (by decide) ?_
          exact zZret .boolean rfl (zNarZ (Or.inr rfl)) (by decide +kernel) F
      · replace F := F.1 q12
        refine zIconst 0 0 44 (by decide +kernel) rfl (by decide) ?_
        exact zZret .boolean rfl (zNarZ (Or.inl rfl)) (by decide +kernel) F
set_option maxHeartbeats 2000000 in
theorem wX3_readClause_0 {G : zG} {d kc ks : Nat} {I : Nat → Nat → Int32} {J : Nat → Nat → Int64} {R : Nat → Nat → Option Nat} {K : Nat → Nat × Nat} {n : Nat} {Q : Option Value → zH → Prop} (l t : Nat) (S0_ : hLrd G R K n l t) (F : zC G d mX9_accept 0 0 [.ref (t), .int (121)] (I, J, R, K, n) (fun r h => ∃ (x1 : Int32) (I2 : Nat → Nat → Int32), r = some (.int x1) ∧ h = (I2, J, R, K, n) ∧ ((x1 = 0 → Q (some (.int (0))) (I2, J, R, K, n)) ∧ (¬ (x1 = 0) → zC G d mX9_accept 0 0 [.ref (t), .int (58)] (I2, J, R, K, n) (fun r h => ∃ (x4 : Int32) (I5 : Nat → Nat → Int32), r = some (.int x4) ∧ h = (I5, J, R, K, n) ∧ ((x4 = 0 → Q (some (.int (0))) (I5, J, R, K, n)) ∧ (¬ (x4 = 0) → zC G d mX9_next 0 0 [.ref (t)] (I5, J, R, K, n) (fun r h => ∃ (x7 : Int32) (I8 : Nat → Nat → Int32), r = some (.int x7) ∧ h = (I8, J, R, K, n) ∧ ((((if x7 = 33 then 0 else (if x7 = 40 then 0 else 1)) : Int32) = 0 → zC G d mX3_readRow 0 0 [.ref (l), .int (0), .int (0), .int ((if x7 = 33 then 0 else (if x7 = 40 then 0 else 1)))] (I8, J, R, K, n) (fun r h => ∃ (x12 : Int32) (I13 : Nat → Nat → Int32), r = some (.int x12) ∧ h = (I13, J, R, K, n) ∧ ((x12 = 0 → Q (some (.int (0))) (I13, J, R, K, n)) ∧ (¬ (x12 = 0) → zC G d mX9_accept 0 0 [.ref (t), .int (63)] (I13, J, R, K, n) (fun r h => ∃ (x15 : Int32) (I16 : Nat → Nat → Int32), r = some (.int x15) ∧ h = (I16, J, R, K, n) ∧ ((x15 = 0 → Q (some (.int (0))) (I16, J, R, K, n)) ∧ (¬ (x15 = 0) → zC G d mX3_emit 0 0 [.ref (l), .int ((-63))] (I16, J, R, K, n) (fun r h => ∃ (x18 : Int32) (I19 : Nat → Nat → Int32), r = some (.int x18) ∧ h = (I19, J, R, K, n) ∧ ((x18 = 0 → Q (some (.int (0))) (I19, J, R, K, n)) ∧ (¬ (x18 = 0) → zC G d mX3_readRow 0 0 [.ref (l), .int (2), .int (0), .int (0)] (I19, J, R, K, n) (fun r h => ∃ (x21 : Int32) (I22 : Nat → Nat → Int32), r = some (.int x21) ∧ h = (I22, J, R, K, n) ∧ Q (some (.int ((if x21 = 0 then 0 else 1)))) (I22, J, R, K, n)))))))))))) ∧ (¬ (((if x7 = 33 then 0 else (if x7 = 40 then 0 else 1)) : Int32) = 0) → zC G d mX3_readRow 0 0 [.ref (l), .int (2), .int (0), .int (0)] (I8, J, R, K, n) (fun r h => ∃ (x24 : Int32) (I25 : Nat → Nat → Int32), r = some (.int x24) ∧ h = (I25, J, R, K, n) ∧ ((x24 = 0 → Q (some (.int (0))) (I25, J, R, K, n)) ∧ (¬ (x24 = 0) → zC G d mX9_next 0 0 [.ref (t)] (I25, J, R, K, n) (fun r h => ∃ (x27 : Int32) (I28 : Nat → Nat → Int32), r = some (.int x27) ∧ h = (I28, J, R, K, n) ∧ zC G d mX3_compares 0 0 [.int (x27)] (I28, J, R, K, n) (fun r h => ∃ (x29 : Int32) (I30 : Nat → Nat → Int32), r = some (.int x29) ∧ h = (I30, J, R, K, n) ∧ ((x29 = 0 → Q (some (.int (1))) (I30, J, R, K, n)) ∧ (¬ (x29 = 0) → zC G d mX3_readRow 0 0 [.ref (l), .int (0), .int (0), .int ((if x7 = 33 then 0 else (if x7 = 40 then 0 else 1)))] (I30, J, R, K, n) (fun r h => ∃ (x32 : Int32) (I33 : Nat → Nat → Int32), r = some (.int x32) ∧ h = (I33, J, R, K, n) ∧ ((x32 = 0 → Q (some (.int (0))) (I33, J, R, K, n)) ∧ (¬ (x32 = 0) → zC G d mX9_accept 0 0 [.ref (t), .int (63)] (I33, J, R, K, n) (fun r h => ∃ (x35 : Int32) (I36 : Nat → Nat → Int32), r = some (.int x35) ∧ h = (I36, J, R, K, n) ∧ ((x35 = 0 → Q (some (.int (0))) (I36, J, R, K, n)) ∧ (¬ (x35 = 0) → zC G d mX3_emit 0 0 [.ref (l), .int ((-63))] (I36, J, R, K, n) (fun r h => ∃ (x38 : Int32) (I39 : Nat → Nat → Int32), r = some (.int x38) ∧ h = (I39, J, R, K, n) ∧ ((x38 = 0 → Q (some (.int (0))) (I39, J, R, K, n)) ∧ (¬ (x38 = 0) → zC G d mX3_readRow 0 0 [.ref (l), .int (2), .int (0), .int (0)] (I39, J, R, K, n) (fun r h => ∃ (x41 : Int32) (I42 : Nat → Nat → Int32), r = some (.int x41) ∧ h = (I42, J, R, K, n) ∧ Q (some (.int ((if x41 = 0 then 0 else 1)))) (I42, J, R, K, n)))))))))))))))))))))))))))) : zV G (d + 1) mX3_readClause kc ks 0 [(0, .ref (l))] [] (I, J, R, K, n) Q := by
  refine zAload_n 0 0 1 (by decide +kernel) rfl rfl ?_
  refine gf3_2 21 4 (by decide +kernel) rfl flX3_21 (Lrd_0 S0_) (Lrd_3 S0_) ?_
  refine zBipush 121 121 6 (by decide +kernel) rfl (by decide) ?_
  refine zCallV 9 zcls9 mX9_accept 42 1 0 0 _ _ 9 [.int (121)] [] okX9_accept mlX3_42 imX9_accept seX9_accept (by decide +kernel) rfl rfl (Nat.le_of_ble_eq_true rfl) rfl rfl (Tape_0 (Lrd_4 S0_)) (zC.mono F ?_)
  rintro _ _ ⟨x1, I2, rfl, rfl, F⟩
  change zV G (d + 1) mX3_readClause kc ks 9 [(0, .ref (l))] [.int (x1)] (I2, J, R, K, n) Q
  refine zIf_eq 15 24 12 (by decide +kernel) rfl rfl ⟨fun q3 => ?_, fun q3 => ?_⟩
  · replace F := F.1 q3
    refine zIconst 0 0 25 (by decide +kernel) rfl (by decide) ?_
    exact zZret .boolean rfl (zNarZ (Or.inl rfl)) (by decide +kernel) F
  · replace F := F.2 q3
    refine zAload_n 0 0 13 (by decide +kernel) rfl rfl ?_
    refine gf3_2 21 16 (by decide +kernel) rfl flX3_21 (Lrd_0 S0_) (Lrd_3 S0_) ?_
    refine zBipush 58 58 18 (by decide +kernel) rfl (by decide) ?_
    refine zCallV 9 zcls9 mX9_accept 42 1 0 0 _ _ 21 [.int (58)] [] okX9_accept mlX3_42 imX9_accept seX9_accept (by decide +kernel) rfl rfl (Nat.le_of_ble_eq_true rfl) rfl rfl (Tape_0 (Lrd_4 S0_)) (zC.mono F ?_)
    rintro _ _ ⟨x4, I5, rfl, rfl, F⟩
    change zV G (d + 1) mX3_readClause kc ks 21 [(0, .ref (l))] [.int (x4)] (I5, J, R, K, n) Q
    refine zIf_ne 5 26 24 (by decide +kernel) rfl rfl ⟨fun q6 => ?_, fun q6 => ?_⟩
    · replace F := F.2 q6
      refine zAload_n 0 0 27 (by decide +kernel) rfl rfl ?_
      refine gf3_2 21 30 (by decide +kernel) rfl flX3_21 (Lrd_0 S0_) (Lrd_3 S0_) ?_
      refine zCallV 9 zcls9 mX9_next 38 0 0 0 _ _ 33 [] [] okX9_next mlX3_38 imX9_next seX9_next (by decide +kernel) rfl rfl (Nat.le_of_ble_eq_true rfl) rfl rfl (Tape_0 (Lrd_4 S0_)) (zC.mono F ?_)
      rintro _ _ ⟨x7, I8, rfl, rfl, F⟩
      change zV G (d + 1) mX3_readClause kc ks 33 [(0, .ref (l))] [.int (x7)] (I8, J, R, K, n) Q
      refine zIstore_n 1 [(1, .int (x7)), (0, .ref (l))] 34 (by decide +kernel) rfl (by decide) rfl ?_
      refine zIload_n 1 0 35 (by decide +kernel) rfl rfl ?_
      refine zBipush 33 33 37 (by decide +kernel) rfl (by decide) ?_
      suffices KK : zV G (d + 1) mX3_readClause kc ks 51 [(1, .int (x7)), (0, .ref (l))] [.int ((if x7 = 33 then 0 else (if x7 = 40 then 0 else 1)))] (I8, J, R, K, n) Q by
        refine zIcmp_eq 13 50 40 (by decide +kernel) rfl rfl ⟨fun q9 => ?_, fun q9 => ?_⟩
        · refine zIconst 0 0 51 (by decide +kernel) rfl (by decide) ?_
          exact zTop (by rw [if_pos q9]) KK
        · refine zIload_n 1 0 41 (by decide +kernel) rfl rfl ?_
          refine zBipush 40 40 43 (by decide +kernel) rfl (by decide) ?_
          refine zIcmp_eq 7 50 46 (by decide +kernel) rfl rfl ⟨fun q10 => ?_, fun q10 => ?_⟩
          · refine zIconst 0 0 51 (by decide +kernel) rfl (by decide) ?_
            exact zTop (by rw [if_neg q9, if_pos q10]) KK
          · refine zIconst 1 1 47 (by decide +kernel) rfl (by decide) ?_
            refine zGoto 4 51 (by decide +kernel) rfl ?_
            exact zTop (by rw [if_neg q9, if_neg q10]) KK
      refine zIstore_n 2 [(2, .int ((if x7 = 33 then 0 else (if x7 = 40 then 0 else 1)))), (1, .int (x7)), (0, .ref (l))] 52 (by decide +kernel) rfl (by decide) rfl ?_
      refine zIload_n 2 0 53 (by decide +kernel) rfl rfl ?_
      refine zIf_eq 30 83 56 (by decide +kernel) rfl rfl ⟨fun q11 => ?_, fun q11 => ?_⟩
      · replace F := F.1 q11
        refine zAload_n 0 2 84 (by decide +kernel) rfl rfl ?_
        refine zIconst 0 0 85 (by decide +kernel) rfl (by decide) ?_
        refine zIconst 0 0 86 (by decide +kernel) rfl (by decide) ?_
        refine zIload_n 2 0 87 (by decide +kernel) rfl rfl ?_
        refine zCallV 3 zcls3 mX3_readRow 45 3 0 0 _ _ 90 [.int (0), .int (0), .int ((if x7 = 33 then 0 else (if x7 = 40 then 0 else 1)))] [] okX3_readRow mlX3_45 imX3_readRow seX3_readRow (by decide +kernel) rfl rfl (Nat.le_of_ble_eq_true rfl) rfl rfl (Lrd_0 S0_) (zC.mono F ?_)
        rintro _ _ ⟨x12, I13, rfl, rfl, F⟩
        change zV G (d + 1) mX3_readClause kc ks 90 [(2, .int ((if x7 = 33 then 0 else (if x7 = 40 then 0 else 1)))), (1, .int (x7)), (0, .ref (l))] [.int (x12)] (I13, J, R, K, n) Q
        refine zIf_eq 38 128 93 (by decide +kernel) rfl rfl ⟨fun q14 => ?_, fun q14 => ?_⟩
        · replace F := F.1 q14
          refine zIconst 0 0 129 (by decide +kernel) rfl (by decide) ?_
          exact zZret .boolean rfl (zNarZ (Or.inl rfl)) (by decide +kernel) F
        · replace F := F.2 q14
          refine zAload_n 0 2 94 (by decide +kernel) rfl rfl ?_
          refine gf3_2 21 97 (by decide +kernel) rfl flX3_21 (Lrd_0 S0_) (Lrd_3 S0_) ?_
          refine zBipush 63 63 99 (by decide +kernel) rfl (by decide) ?_
          refine zCallV 9 zcls9 mX9_accept 42 1 0 0 _ _ 102 [.int (63)] [] okX9_accept mlX3_42 imX9_accept seX9_accept (by decide +kernel) rfl rfl (Nat.le_of_ble_eq_true rfl) rfl rfl (Tape_0 (Lrd_4 S0_)) (zC.mono F ?_)
          rintro _ _ ⟨x15, I16, rfl, rfl, F⟩
          change zV G (d + 1) mX3_readClause kc ks 102 [(2, .int ((if x7 = 33 then 0 else (if x7 = 40 then 0 else 1)))), (1, .int (x7)), (0, .ref (l))] [.int (x15)] (I16, J, R, K, n) Q
          refine zIf_eq 26 128 105 (by decide +kernel) rfl rfl ⟨fun q17 => ?_, fun q17 => ?_⟩
          · replace F := F.1 q17
            refine zIconst 0 0 129 (by decide +kernel) rfl (by decide) ?_
            exact zZret .boolean rfl (zNarZ (Or.inl rfl)) (by decide +kernel) F
          · replace F := F.2 q17
            refine zAload_n 0 2 106 (by decide +kernel) rfl rfl ?_
            refine zBipush (-63) (-63) 108 (by decide +kernel) rfl (by decide) ?_
            refine zCallV 3 zcls3 mX3_emit 34 1 0 0 _ _ 111 [.int ((-63))] [] okX3_emit mlX3_34 imX3_emit seX3_emit (by decide +kernel) rfl rfl (Nat.le_of_ble_eq_true rfl) rfl rfl (Lrd_0 S0_) (zC.mono F ?_)
            rintro _ _ ⟨x18, I19, rfl, rfl, F⟩
            change zV G (d + 1) mX3_readClause kc ks 111 [(2, .int ((if x7 = 33 then 0 else (if x7 = 40 then 0 else 1)))), (1, .int (x7)), (0, .ref (l))] [.int (x18)] (I19, J, R, K, n) Q
            refine zIf_eq 17 128 114 (by decide +kernel) rfl rfl ⟨fun q20 => ?_, fun q20 => ?_⟩
            · replace F := F.1 q20
              refine zIconst 0 0 129 (by decide +kernel) rfl (by decide) ?_
              exact zZret .boolean rfl (zNarZ (Or.inl rfl)) (by decide +kernel) F
            · replace F := F.2 q20
              refine zAload_n 0 2 115 (by decide +kernel) rfl rfl ?_
              refine zIconst 2 2 116 (by decide +kernel) rfl (by decide) ?_
              refine zIconst 0 0 117 (by decide +kernel) rfl (by decide) ?_
              refine zIconst 0 0 118 (by decide +kernel) rfl (by decide) ?_
              refine zCallV 3 zcls3 mX3_readRow 45 3 0 0 _ _ 121 [.int (2), .int (0), .int (0)] [] okX3_readRow mlX3_45 imX3_readRow seX3_readRow (by decide +kernel) rfl rfl (Nat.le_of_ble_eq_true rfl) rfl rfl (Lrd_0 S0_) (zC.mono F ?_)
              rintro _ _ ⟨x21, I22, rfl, rfl, F⟩
              change zV G (d + 1) mX3_readClause kc ks 121 [(2, .int ((if x7 = 33 then 0 else (if x7 = 40 then 0 else 1)))), (1, .int (x7)), (0, .ref (l))] [.int (x21)] (I22, J, R, K, n) Q
              suffices KK : zV G (d + 1) mX3_readClause kc ks 129 [(2, .int ((if x7 = 33 then 0 else (if x7 = 40 then 0 else 1)))), (1, .int (x7)), (0, .ref (l))] [.int ((if x21 = 0 then 0 else 1))] (I22, J, R, K, n) Q by
                refine zIf_eq 7 128 124 (by decide +kernel) rfl rfl ⟨fun q23 => ?_, fun q23 => ?_⟩
                · refine zIconst 0 0 129 (by decide +kernel) rfl (by decide) ?_
                  exact zTop (by rw [if_pos q23]) KK
                · refine zIconst 1 1 125 (by decide +kernel) rfl (by decide) ?_
                  refine zGoto 4 129 (by decide +kernel) rfl ?_
                  exact zTop (by rw [if_neg q23]) KK
              exact zZret .boolean rfl (zNarZ (zOrIte (Or.inl rfl) (Or.inr rfl))) (by decide +kernel) F
      · replace F := F.2 q11
        refine zAload_n 0 2 57 (by decide +kernel) rfl rfl ?_
        refine zIconst 2 2 58 (by decide +kernel) rfl (by decide) ?_
        refine zIconst 0 0 59 (by decide +kernel) rfl (by decide) ?_
        refine zIconst 0 0 60 (by decide +kernel) rfl (by decide) ?_
        refine zCallV 3 zcls3 mX3_readRow 45 3 0 0 _ _ 63 [.int (2), .int (0), .int (0)] [] okX3_readRow mlX3_45 imX3_readRow seX3_readRow (by decide +kernel) rfl rfl (Nat.le_of_ble_eq_true rfl) rfl rfl (Lrd_0 S0_) (zC.mono F ?_)
        rintro _ _ ⟨x24, I25, rfl, rfl, F⟩
        change zV G (d + 1) mX3_readClause kc ks 63 [(2, .int ((if x7 = 33 then 0 else (if x7 = 40 then 0 else 1)))), (1, .int (x7)), (0, .ref (l))] [.int (x24)] (I25, J, R, K, n) Q
        refine zIf_ne 5 68 66 (by decide +kernel) rfl rfl ⟨fun q26 => ?_, fun q26 => ?_⟩
        · replace F := F.2 q26
          refine zAload_n 0 2 69 (by decide +kernel) rfl rfl ?_
          refine gf3_2 21 72 (by decide +kernel) rfl flX3_21 (Lrd_0 S0_) (Lrd_3 S0_) ?_
          refine zCallV 9 zcls9 mX9_next 38 0 0 0 _ _ 75 [] [] okX9_next mlX3_38 imX9_next seX9_next (by decide +kernel) rfl rfl (Nat.le_of_ble_eq_true rfl) rfl rfl (Tape_0 (Lrd_4 S0_)) (zC.mono F ?_)
          rintro _ _ ⟨x27, I28, rfl, rfl, F⟩
          change zV G (d + 1) mX3_readClause kc ks 75 [(2, .int ((if x7 = 33 then 0 else (if x7 = 40 then 0 else 1)))), (1, .int (x7)), (0, .ref (l))] [.int (x27)] (I28, J, R, K, n) Q
          refine zCallS mX3_compares 49 1 0 0 _ _ 78 [.int (x27)] [] okX3_compares mlX3_49 smX3_compares (by decide +kernel) rfl rfl (Nat.le_of_ble_eq_true rfl) rfl rfl (zC.mono F ?_)
          rintro _ _ ⟨x29, I30, rfl, rfl, F⟩
          change zV G (d + 1) mX3_readClause kc ks 78 [(2, .int ((if x7 = 33 then 0 else (if x7 = 40 then 0 else 1)))), (1, .int (x7)), (0, .ref (l))] [.int (x29)] (I30, J, R, K, n) Q
          refine zIf_ne 5 83 81 (by decide +kernel) rfl rfl ⟨fun q31 => ?_, fun q31 => ?_⟩
          · replace F := F.2 q31
            refine zAload_n 0 2 84 (by decide +kernel) rfl rfl ?_
            refine zIconst 0 0 85 (by decide +kernel) rfl (by decide) ?_
            refine zIconst 0 0 86 (by decide +kernel) rfl (by decide) ?_
            refine zIload_n 2 0 87 (by decide +kernel) rfl rfl ?_
            refine zCallV 3 zcls3 mX3_readRow 45 3 0 0 _ _ 90 [.int (0), .int (0), .int ((if x7 = 33 then 0 else (if x7 = 40 then 0 else 1)))] [] okX3_readRow mlX3_45 imX3_readRow seX3_readRow (by decide +kernel) rfl rfl (Nat.le_of_ble_eq_true rfl) rfl rfl (Lrd_0 S0_) (zC.mono F ?_)
            rintro _ _ ⟨x32, I33, rfl, rfl, F⟩
            change zV G (d + 1) mX3_readClause kc ks 90 [(2, .int ((if x7 = 33 then 0 else (if x7 = 40 then 0 else 1)))), (1, .int (x7)), (0, .ref (l))] [.int (x32)] (I33, J, R, K, n) Q
            refine zIf_eq 38 128 93 (by decide +kernel) rfl rfl ⟨fun q34 => ?_, fun q34 => ?_⟩
            · replace F := F.1 q34
              refine zIconst 0 0 129 (by decide +kernel) rfl (by decide) ?_
              exact zZret .boolean rfl (zNarZ (Or.inl rfl)) (by decide +kernel) F
            · replace F := F.2 q34
              refine zAload_n 0 2 94 (by decide +kernel) rfl rfl ?_
              refine gf3_2 21 97 (by decide +kernel) rfl flX3_21 (Lrd_0 S0_) (Lrd_3 S0_) ?_
              refine zBipush 63 63 99 (by decide +kernel) rfl (by decide) ?_
              refine zCallV 9 zcls9 mX9_accept 42 1 0 0 _ _ 102 [.int (63)] [] okX9_accept mlX3_42 imX9_accept seX9_accept (by decide +kernel) rfl rfl (Nat.le_of_ble_eq_true rfl) rfl rfl (Tape_0 (Lrd_4 S0_)) (zC.mono F ?_)
              rintro _ _ ⟨x35, I36, rfl, rfl, F⟩
              change zV G (d + 1) mX3_readClause kc ks 102 [(2, .int ((if x7 = 33 then 0 else (if x7 = 40 then 0 else 1)))), (1, .int (x7)), (0, .ref (l))] [.int (x35)] (I36, J, R, K, n) Q
              refine zIf_eq 26 128 105 (by decide +kernel) rfl rfl ⟨fun q37 => ?_, fun q37 => ?_⟩
              · replace F := F.1 q37
                refine zIconst 0 0 129 (by decide +kernel) rfl (by decide) ?_
                exact zZret .boolean rfl (zNarZ (Or.inl rfl)) (by decide +kernel) F
              · replace F := F.2 q37
                refine zAload_n 0 2 106 (by decide +kernel) rfl rfl ?_
                refine zBipush (-63) (-63) 108 (by decide +kernel) rfl (by decide) ?_
                refine zCallV 3 zcls3 mX3_emit 34 1 0 0 _ _ 111 [.int ((-63))] [] okX3_emit mlX3_34 imX3_emit seX3_emit (by decide +kernel) rfl rfl (Nat.le_of_ble_eq_true rfl) rfl rfl (Lrd_0 S0_) (zC.mono F ?_)
                rintro _ _ ⟨x38, I39, rfl, rfl, F⟩
                change zV G (d + 1) mX3_readClause kc ks 111 [(2, .int ((if x7 = 33 then 0 else (if x7 = 40 then 0 else 1)))), (1, .int (x7)), (0, .ref (l))] [.int (x38)] (I39, J, R, K, n) Q
                refine zIf_eq 17 128 114 (by decide +kernel) rfl rfl ⟨fun q40 => ?_, fun q40 => ?_⟩
                · replace F := F.1 q40
                  refine zIconst 0 0 129 (by decide +kernel) rfl (by decide) ?_
                  exact zZret .boolean rfl (zNarZ (Or.inl rfl)) (by decide +kernel) F
                · replace F := F.2 q40
                  refine zAload_n 0 2 115 (by decide +kernel) rfl rfl ?_
                  refine zIconst 2 2 116 (by decide +kernel) rfl (by decide) ?_
                  refine zIconst 0 0 117 (by decide +kernel) rfl (by decide) ?_
                  refine zIconst 0 0 118 (by decide +kernel) rfl (by decide) ?_
                  refine zCallV 3 zcls3 mX3_readRow 45 3 0 0 _ _ 121 [.int (2), .int (0), .int (0)] [] okX3_readRow mlX3_45 imX3_readRow seX3_readRow (by decide +kernel) rfl rfl (Nat.le_of_ble_eq_true rfl) rfl rfl (Lrd_0 S0_) (zC.mono F ?_)
                  rintro _ _ ⟨x41, I42, rfl, rfl, F⟩
                  change zV G (d + 1) mX3_readClause kc ks 121 [(2, .int ((if x7 = 33 then 0 else (if x7 = 40 then 0 else 1)))), (1, .int (x7)), (0, .ref (l))] [.int (x41)] (I42, J, R, K, n) Q
                  suffices KK : zV G (d + 1) mX3_readClause kc ks 129 [(2, .int ((if x7 = 33 then 0 else (if x7 = 40 then 0 else 1)))), (1, .int (x7)), (0, .ref (l))] [.int ((if x41 = 0 then 0 else 1))] (I42, J, R, K, n) Q by
                    refine zIf_eq 7 128 124 (by decide +kernel) rfl rfl ⟨fun q43 => ?_, fun q43 => ?_⟩
                    · refine zIconst 0 0 129 (by decide +kernel) rfl (by decide) ?_
                      exact zTop (by rw [if_pos q43]) KK
                    · refine zIconst 1 1 125 (by decide +kernel) rfl (by decide) ?_
                      refine zGoto 4 129 (by decide +kernel) rfl ?_
                      exact zTop (by rw [if_neg q43]) KK
                  exact zZret .boolean rfl (zNarZ (zOrIte (Or.inl rfl) (Or.inr rfl))) (by decide +kernel) F
          · replace F := F.1 q31
            refine zIconst 1 1 82 (by decide +kernel) rfl (by decide) ?_
            exact zZret .boolean rfl (zNarZ (Or.inr rfl)) (by decide +kernel) F
        · replace F := F.1 q26
          refine zIconst 0 0 67 (by decide +kernel) rfl (by decide) ?_
          exact zZret .boolean rfl (zNarZ (Or.inl rfl)) (by decide +kernel) F
    · replace F := F.1 q6
      refine zIconst 0 0 25 (by decide +kernel) rfl (by decide) ?_
      exact zZret .boolean rfl (zNarZ (Or.inl rfl)) (by decide +kernel) F
set_option maxHeartbeats 2000000 in
theorem wX3_readRow_0 {G : zG} {d kc ks : Nat} {I : Nat → Nat → Int32} {J : Nat → Nat → Int64} {R : Nat → Nat → Option Nat} {K : Nat → Nat × Nat} {n : Nat} {Q : Option Value → zH → Prop} (l t : Nat) (S0_ : hLrd G R K n l t) (p1 p2 p3 : Int32) (F : zV G (d + 1) mX3_readRow kc ks 6 [(0, .ref (l)), (1, .int (p1)), (2, .int (p2)), (3, .int (p3)), (4, .int (0)), (5, .int (0))] [] (I, J, R, K, n) Q) : zV G (d + 1) mX3_readRow kc ks 0 [(0, .ref (l)), (1, .int (p1)), (2, .int (p2)), (3, .int (p3))] [] (I, J, R, K, n) Q := by
  refine zIconst 0 0 1 (by decide +kernel) rfl (by decide) ?_
  refine zIstore 4 [(4, .int (0)), (0, .ref (l)), (1, .int (p1)), (2, .int (p2)), (3, .int (p3))] 3 (by decide +kernel) rfl (by decide) rfl ?_
  refine zIconst 0 0 4 (by decide +kernel) rfl (by decide) ?_
  refine zIstore 5 [(5, .int (0)), (4, .int (0)), (0, .ref (l)), (1, .int (p1)), (2, .int (p2)), (3, .int (p3))] 6 (by decide +kernel) rfl (by decide) rfl ?_
  exact zLoc [2, 3, 4, 5, 1, 0] _ rfl F
set_option maxHeartbeats 2000000 in
theorem wX3_readRow_6 {G : zG} {d kc ks : Nat} {I : Nat → Nat → Int32} {J : Nat → Nat → Int64} {R : Nat → Nat → Option Nat} {K : Nat → Nat × Nat} {n : Nat} {Q : Option Value → zH → Prop} (l t : Nat) (S0_ : hLrd G R K n l t) (l1 l2 l3 l4 l5 : Int32) (F : ((240 ≤ l5 → Q (some (.int (0))) (I, J, R, K, n)) ∧ (¬ (240 ≤ l5) → ((l1 = 0 → zC G d mX3_readRow 0 0 [.ref (l), .int (1), .int (l2), .int ((if l3 = 0 then 0 else (if l5 = 0 then 1 else 0)))] (I, J, R, K, n) (fun r h => ∃ (x5 : Int32) (I6 : Nat → Nat → Int32), r = some (.int x5) ∧ h = (I6, J, R, K, n) ∧ ((x5 = 0 → Q (some (.int (0))) (I6, J, R, K, n)) ∧ (¬ (x5 = 0) → ((l5 ≤ 0 → zC G d mX9_next 0 0 [.ref (t)] (I6, J, R, K, n) (fun r h => ∃ (x9 : Int32) (I10 : Nat → Nat → Int32), r = some (.int x9) ∧ h = (I10, J, R, K, n) ∧ zC G d mX3_joins 0 0 [.int (l1), .int (x9)] (I10, J, R, K, n) (fun r h => ∃ (x11 : Int32) (I12 : Nat → Nat → Int32), r = some (.int x11) ∧ h = (I12, J, R, K, n) ∧ ((x11 = 0 → Q (some (.int (1))) (I12, J, R, K, n)) ∧ (¬ (x11 = 0) → (∀ I14 : Nat → Nat → Int32, I14 = zU I12 t 2 ((I12 t 2) + 1) → zV G (d + 1) mX3_readRow kc ks 6 [(0, .ref (l)), (1, .int (l1)), (2, .int (l2)), (3, .int (l3)), (4, .int (x9)), (5, .int (l5 + 1))] [] (I14, J, R, K, n) Q)))))) ∧ (¬ (l5 ≤ 0) → zC G d mX3_emit 0 0 [.ref (l), .int (-l4)] (I6, J, R, K, n) (fun r h => ∃ (x15 : Int32) (I16 : Nat → Nat → Int32), r = some (.int x15) ∧ h = (I16, J, R, K, n) ∧ ((x15 = 0 → Q (some (.int (0))) (I16, J, R, K, n)) ∧ (¬ (x15 = 0) → zC G d mX9_next 0 0 [.ref (t)] (I16, J, R, K, n) (fun r h => ∃ (x18 : Int32) (I19 : Nat → Nat → Int32), r = some (.int x18) ∧ h = (I19, J, R, K, n) ∧ zC G d mX3_joins 0 0 [.int (l1), .int (x18)] (I19, J, R, K, n) (fun r h => ∃ (x20 : Int32) (I21 : Nat → Nat → Int32), r = some (.int x20) ∧ h = (I21, J, R, K, n) ∧ ((x20 = 0 → Q (some (.int (1))) (I21, J, R, K, n)) ∧ (¬ (x20 = 0) → (∀ I23 : Nat → Nat → Int32, I23 = zU I21 t 2 ((I21 t 2) + 1) → zV G (d + 1) mX3_readRow kc ks 6 [(0, .ref (l)), (1, .int (l1)), (2, .int (l2)), (3, .int (l3)), (4, .int (x18)), (5, .int (l5 + 1))] [] (I23, J, R, K, n) Q)))))))))))))) ∧ (l1 = 1 → zC G d mX3_readUnit 0 0 [.ref (l), .int (l2), .int ((if l3 = 0 then 0 else (if l5 = 0 then 1 else 0)))] (I, J, R, K, n) (fun r h => ∃ (x27 : Int32) (I28 : Nat → Nat → Int32), r = some (.int x27) ∧ h = (I28, J, R, K, n) ∧ ((x27 = 0 → Q (some (.int (0))) (I28, J, R, K, n)) ∧ (¬ (x27 = 0) → ((l5 ≤ 0 → zC G d mX9_next 0 0 [.ref (t)] (I28, J, R, K, n) (fun r h => ∃ (x31 : Int32) (I32 : Nat → Nat → Int32), r = some (.int x31) ∧ h = (I32, J, R, K, n) ∧ zC G d mX3_joins 0 0 [.int (l1), .int (x31)] (I32, J, R, K, n) (fun r h => ∃ (x33 : Int32) (I34 : Nat → Nat → Int32), r = some (.int x33) ∧ h = (I34, J, R, K, n) ∧ ((x33 = 0 → Q (some (.int (1))) (I34, J, R, K, n)) ∧ (¬ (x33 = 0) → (∀ I36 : Nat → Nat → Int32, I36 = zU I34 t 2 ((I34 t 2) + 1) → zV G (d + 1) mX3_readRow kc ks 6 [(0, .ref (l)), (1, .int (l1)), (2, .int (l2)), (3, .int (l3)), (4, .int (x31)), (5, .int (l5 + 1))] [] (I36, J, R, K, n) Q)))))) ∧ (¬ (l5 ≤ 0) → zC G d mX3_emit 0 0 [.ref (l), .int (-l4)] (I28, J, R, K, n) (fun r h => ∃ (x37 : Int32) (I38 : Nat → Nat → Int32), r = some (.int x37) ∧ h = (I38, J, R, K, n) ∧ ((x37 = 0 → Q (some (.int (0))) (I38, J, R, K, n)) ∧ (¬ (x37 = 0) → zC G d mX9_next 0 0 [.ref (t)] (I38, J, R, K, n) (fun r h => ∃ (x40 : Int32) (I41 : Nat → Nat → Int32), r = some (.int x40) ∧ h = (I41, J, R, K, n) ∧ zC G d mX3_joins 0 0 [.int (l1), .int (x40)] (I41, J, R, K, n) (fun r h => ∃ (x42 : Int32) (I43 : Nat → Nat → Int32), r = some (.int x42) ∧ h = (I43, J, R, K, n) ∧ ((x42 = 0 → Q (some (.int (1))) (I43, J, R, K, n)) ∧ (¬ (x42 = 0) → (∀ I45 : Nat → Nat → Int32, I45 = zU I43 t 2 ((I43 t 2) + 1) → zV G (d + 1) mX3_readRow kc ks 6 [(0, .ref (l)), (1, .int (l1)), (2, .int (l2)), (3, .int (l3)), (4, .int (x40)), (5, .int (l5 + 1))] [] (I45, J, R, K, n) Q)))))))))))))) ∧ (l1 = 2 → zC G d mX3_readRow 0 0 [.ref (l), .int (3), .int (l2), .int (0)] (I, J, R, K, n) (fun r h => ∃ (x47 : Int32) (I48 : Nat → Nat → Int32), r = some (.int x47) ∧ h = (I48, J, R, K, n) ∧ ((x47 = 0 → Q (some (.int (0))) (I48, J, R, K, n)) ∧ (¬ (x47 = 0) → ((l5 ≤ 0 → zC G d mX9_next 0 0 [.ref (t)] (I48, J, R, K, n) (fun r h => ∃ (x51 : Int32) (I52 : Nat → Nat → Int32), r = some (.int x51) ∧ h = (I52, J, R, K, n) ∧ zC G d mX3_joins 0 0 [.int (l1), .int (x51)] (I52, J, R, K, n) (fun r h => ∃ (x53 : Int32) (I54 : Nat → Nat → Int32), r = some (.int x53) ∧ h = (I54, J, R, K, n) ∧ ((x53 = 0 → Q (some (.int (1))) (I54, J, R, K, n)) ∧ (¬ (x53 = 0) → (∀ I56 : Nat → Nat → Int32, I56 = zU I54 t 2 ((I54 t 2) + 1) → zV G (d + 1) mX3_readRow kc ks 6 [(0, .ref (l)), (1, .int (l1)), (2, .int (l2)), (3, .int (l3)), (4, .int (x51)), (5, .int (l5 + 1))] [] (I56, J, R, K, n) Q)))))) ∧ (¬ (l5 ≤ 0) → zC G d mX3_emit 0 0 [.ref (l), .int (-l4)] (I48, J, R, K, n) (fun r h => ∃ (x57 : Int32) (I58 : Nat → Nat → Int32), r = some (.int x57) ∧ h = (I58, J, R, K, n) ∧ ((x57 = 0 → Q (some (.int (0))) (I58, J, R, K, n)) ∧ (¬ (x57 = 0) → zC G d mX9_next 0 0 [.ref (t)] (I58, J, R, K, n) (fun r h => ∃ (x60 : Int32) (I61 : Nat → Nat → Int32), r = some (.int x60) ∧ h = (I61, J, R, K, n) ∧ zC G d mX3_joins 0 0 [.int (l1), .int (x60)] (I61, J, R, K, n) (fun r h => ∃ (x62 : Int32) (I63 : Nat → Nat → Int32), r = some (.int x62) ∧ h = (I63, J, R, K, n) ∧ ((x62 = 0 → Q (some (.int (1))) (I63, J, R, K, n)) ∧ (¬ (x62 = 0) → (∀ I65 : Nat → Nat → Int32, I65 = zU I63 t 2 ((I63 t 2) + 1) → zV G (d + 1) mX3_readRow kc ks 6 [(0, .ref (l)), (1, .int (l1)), (2, .int (l2)), (3, .int (l3)), (4, .int (x60)), (5, .int (l5 + 1))] [] (I65, J, R, K, n) Q)))))))))))))) ∧ (¬ l1 = 0 → ¬ l1 = 1 → ¬ l1 = 2 → zC G d mX3_readAtom 0 0 [.ref (l), .int (l2)] (I, J, R, K, n) (fun r h => ∃ (x66 : Int32) (I67 : Nat → Nat → Int32), r = some (.int x66) ∧ h = (I67, J, R, K, n) ∧ ((x66 = 0 → Q (some (.int (0))) (I67, J, R, K, n)) ∧ (¬ (x66 = 0) → ((l5 ≤ 0 → zC G d mX9_next 0 0 [.ref (t)] (I67, J, R, K, n) (fun r h => ∃ (x70 : Int32) (I71 : Nat → Nat → Int32), r = some (.int x70) ∧ h = (I71, J, R, K, n) ∧ zC G d mX3_joins 0 0 [.int (l1), .int (x70)] (I71, J, R, K, n) (fun r h => ∃ (x72 : Int32) (I73 : Nat → Nat → Int32), r = some (.int x72) ∧ h = (I73, J, R, K, n) ∧ ((x72 = 0 → Q (some (.int (1))) (I73, J, R, K, n)) ∧ (¬ (x72 = 0) → (∀ I75 : Nat → Nat → Int32, I75 = zU I73 t 2 ((I73 t 2) + 1) → zV G (d + 1) mX3_readRow kc ks 6 [(0, .ref (l)), (1, .int (l1)), (2, .int (l2)), (3, .int (l3)), (4, .int (x70)), (5, .int (l5 + 1))] [] (I75, J, R, K, n) Q)))))) ∧ (¬ (l5 ≤ 0) → zC G d mX3_emit 0 0 [.ref (l), .int (-l4)] (I67, J, R, K, n) (fun r h => ∃ (x76 : Int32) (I77 : Nat → Nat → Int32), r = some (.int x76) ∧ h = (I77, J, R, K, n) ∧ ((x76 = 0 → Q (some (.int (0))) (I77, J, R, K, n)) ∧ (¬ (x76 = 0) → zC G d mX9_next 0 0 [.ref (t)] (I77, J, R, K, n) (fun r h => ∃ (x79 : Int32) (I80 : Nat → Nat → Int32), r = some (.int x79) ∧ h = (I80, J, R, K, n) ∧ zC G d mX3_joins 0 0 [.int (l1), .int (x79)] (I80, J, R, K, n) (fun r h => ∃ (x81 : Int32) (I82 : Nat → Nat → Int32), r = some (.int x81) ∧ h = (I82, J, R, K, n) ∧ ((x81 = 0 → Q (some (.int (1))) (I82, J, R, K, n)) ∧ (¬ (x81 = 0) → (∀ I84 : Nat → Nat → Int32, I84 = zU I82 t 2 ((I82 t 2) + 1) → zV G (d + 1) mX3_readRow kc ks 6 [(0, .ref (l)), (1, .int (l1)), (2, .int (l2)), (3, .int (l3)), (4, .int (x79)), (5, .int (l5 + 1))] [] (I84, J, R, K, n) Q)))))))))))))))))) : zV G (d + 1) mX3_readRow kc ks 6 [(0, .ref (l)), (1, .int (l1)), (2, .int (l2)), (3, .int (l3)), (4, .int (l4)), (5, .int (l5))] [] (I, J, R, K, n) Q := by
  refine zIload 5 5 8 (by decide +kernel) rfl rfl ?_
  refine zSipush 240 240 11 (by decide +kernel) rfl (by decide) ?_
  refine zIcmp_ge 158 169 14 (by decide +kernel) rfl rfl ⟨fun q1 => ?_, fun q1 => ?_⟩
  · replace F := F.1 q1
    refine zIconst 0 0 170 (by decide +kernel) rfl (by decide) ?_
    exact zZret .boolean rfl (zNarZ (Or.inl rfl)) (by decide +kernel) F
  · replace F := F.2 q1
    refine zIload_n 1 1 15 (by decide +kernel) rfl rfl ?_
    by_cases q2 : l1 = 0
    · replace F := F.1 q2
      have zt := zEqT q2 (show (0 : Int32).toInt = 0 by decide)
      refine zTableIn 86 0 2 #[25, 50, 74] 25 25 40 (by decide +kernel) (by omega) (by omega) (by rw [zt]; decide) rfl ?_
      refine zAload_n 0 0 41 (by decide +kernel) rfl rfl ?_
      refine zIconst 1 1 42 (by decide +kernel) rfl (by decide) ?_
      refine zIload_n 2 2 43 (by decide +kernel) rfl rfl ?_
      refine zIload_n 3 3 44 (by decide +kernel) rfl rfl ?_
      suffices KK : zV G (d + 1) mX3_readRow kc ks 57 [(0, .ref (l)), (1, .int (l1)), (2, .int (l2)), (3, .int (l3)), (4, .int (l4)), (5, .int (l5))] [.int ((if l3 = 0 then 0 else (if l5 = 0 then 1 else 0))), .int (l2), .int (1), .ref (l)] (I, J, R, K, n) Q by
        refine zIf_eq 12 56 47 (by decide +kernel) rfl rfl ⟨fun q3 => ?_, fun q3 => ?_⟩
        · refine zIconst 0 0 57 (by decide +kernel) rfl (by decide) ?_
          exact zTop (by rw [if_pos q3]) KK
        · refine zIload 5 5 49 (by decide +kernel) rfl rfl ?_
          refine zIf_ne 7 56 52 (by decide +kernel) rfl rfl ⟨fun q4 => ?_, fun q4 => ?_⟩
          · refine zIconst 0 0 57 (by decide +kernel) rfl (by decide) ?_
            exact zTop (by rw [if_neg q3, if_neg q4]) KK
          · refine zIconst 1 1 53 (by decide +kernel) rfl (by decide) ?_
            refine zGoto 4 57 (by decide +kernel) rfl ?_
            exact zTop (by rw [if_neg q3, if_pos q4]) KK
      refine zCallV 3 zcls3 mX3_readRow 45 3 0 0 _ _ 60 [.int (1), .int (l2), .int ((if l3 = 0 then 0 else (if l5 = 0 then 1 else 0)))] [] okX3_readRow mlX3_45 imX3_readRow seX3_readRow (by decide +kernel) rfl rfl (Nat.le_of_ble_eq_true rfl) rfl rfl (Lrd_0 S0_) (zC.mono F ?_)
      rintro _ _ ⟨x5, I6, rfl, rfl, F⟩
      change zV G (d + 1) mX3_readRow kc ks 60 [(0, .ref (l)), (1, .int (l1)), (2, .int (l2)), (3, .int (l3)), (4, .int (l4)), (5, .int (l5))] [.int (x5)] (I6, J, R, K, n) Q
      refine zIstore 6 [(6, .int (x5)), (0, .ref (l)), (1, .int (l1)), (2, .int (l2)), (3, .int (l3)), (4, .int (l4)), (5, .int (l5))] 62 (by decide +kernel) rfl (by decide) rfl ?_
      refine zGoto 46 108 (by decide +kernel) rfl ?_
      refine zIload 6 0 110 (by decide +kernel) rfl rfl ?_
      refine zIf_eq 18 128 113 (by decide +kernel) rfl rfl ⟨fun q7 => ?_, fun q7 => ?_⟩
      · replace F := F.1 q7
        refine zIconst 0 0 129 (by decide +kernel) rfl (by decide) ?_
        exact zZret .boolean rfl (zNarZ (Or.inl rfl)) (by decide +kernel) F
      · replace F := F.2 q7
        refine zIload 5 6 115 (by decide +kernel) rfl rfl ?_
        refine zIf_le 15 130 118 (by decide +kernel) rfl rfl ⟨fun q8 => ?_, fun q8 => ?_⟩
        · replace F := F.1 q8
          refine zAload_n 0 1 131 (by decide +kernel) rfl rfl ?_
          refine gf3_2 21 134 (by decide +kernel) rfl flX3_21 (Lrd_0 S0_) (Lrd_3 S0_) ?_
          refine zCallV 9 zcls9 mX9_next 38 0 0 0 _ _ 137 [] [] okX9_next mlX3_38 imX9_next seX9_next (by decide +kernel) rfl rfl (Nat.le_of_ble_eq_true rfl) rfl rfl (Tape_0 (Lrd_4 S0_)) (zC.mono F ?_)
          rintro _ _ ⟨x9, I10, rfl, rfl, F⟩
          change zV G (d + 1) mX3_readRow kc ks 137 [(6, .int (x5)), (0, .ref (l)), (1, .int (l1)), (2, .int (l2)), (3, .int (l3)), (4, .int (l4)), (5, .int (l5))] [.int (x9)] (I10, J, R, K, n) Q
          refine zIstore 4 [(4, .int (x9)), (6, .int (x5)), (0, .ref (l)), (1, .int (l1)), (2, .int (l2)), (3, .int (l3)), (5, .int (l5))] 139 (by decide +kernel) rfl (by decide) rfl ?_
          refine zIload_n 1 3 140 (by decide +kernel) rfl rfl ?_
          refine zIload 4 0 142 (by decide +kernel) rfl rfl ?_
          refine zCallS mX3_joins 59 2 0 0 _ _ 145 [.int (l1), .int (x9)] [] okX3_joins mlX3_59 smX3_joins (by decide +kernel) rfl rfl (Nat.le_of_ble_eq_true rfl) rfl rfl (zC.mono F ?_)
          rintro _ _ ⟨x11, I12, rfl, rfl, F⟩
          change zV G (d + 1) mX3_readRow kc ks 145 [(4, .int (x9)), (6, .int (x5)), (0, .ref (l)), (1, .int (l1)), (2, .int (l2)), (3, .int (l3)), (5, .int (l5))] [.int (x11)] (I12, J, R, K, n) Q
          refine zIf_ne 5 150 148 (by decide +kernel) rfl rfl ⟨fun q13 => ?_, fun q13 => ?_⟩
          · replace F := F.2 q13
            refine zAload_n 0 2 151 (by decide +kernel) rfl rfl ?_
            refine gf3_2 21 154 (by decide +kernel) rfl flX3_21 (Lrd_0 S0_) (Lrd_3 S0_) ?_
            refine zDup 155 (by decide +kernel) rfl rfl ?_
            refine gf9_2 25 158 (by decide +kernel) rfl flX3_25 (Tape_0 (Lrd_4 S0_)) ?_
            refine zIconst 1 1 159 (by decide +kernel) rfl (by decide) ?_
            refine zIadd 160 (by decide +kernel) rfl ?_
            refine pf9_2 25 163 (by decide +kernel) rfl flX3_25 (Tape_0 (Lrd_4 S0_)) ?_
            replace F := F _ rfl
            generalize zU I12 t 2 ((I12 t 2) + 1) = I14 at F ⊢
            refine zIinc 5 1 6 (l5 + 1) [(5, .int (l5 + 1)), (4, .int (x9)), (6, .int (x5)), (0, .ref (l)), (1, .int (l1)), (2, .int (l2)), (3, .int (l3))] 166 (by decide +kernel) rfl rfl (by rfl) (by decide) rfl ?_
            refine zGoto (-160) 6 (by decide +kernel) rfl ?_
            exact zLoc [3, 4, 5, 6, 1, 0] _ rfl F
          · replace F := F.1 q13
            refine zIconst 1 1 149 (by decide +kernel) rfl (by decide) ?_
            exact zZret .boolean rfl (zNarZ (Or.inr rfl)) (by decide +kernel) F
        · replace F := F.2 q8
          refine zAload_n 0 1 119 (by decide +kernel) rfl rfl ?_
          refine zIload 4 5 121 (by decide +kernel) rfl rfl ?_
          refine zIneg 122 (by decide +kernel) rfl ?_
          refine zCallV 3 zcls3 mX3_emit 34 1 0 0 _ _ 125 [.int (-l4)] [] okX3_emit mlX3_34 imX3_emit seX3_emit (by decide +kernel) rfl rfl (Nat.le_of_ble_eq_true rfl) rfl rfl (Lrd_0 S0_) (zC.mono F ?_)
          rintro _ _ ⟨x15, I16, rfl, rfl, F⟩
          change zV G (d + 1) mX3_readRow kc ks 125 [(6, .int (x5)), (0, .ref (l)), (1, .int (l1)), (2, .int (l2)), (3, .int (l3)), (4, .int (l4)), (5, .int (l5))] [.int (x15)] (I16, J, R, K, n) Q
          refine zIf_ne 5 130 128 (by decide +kernel) rfl rfl ⟨fun q17 => ?_, fun q17 => ?_⟩
          · replace F := F.2 q17
            refine zAload_n 0 1 131 (by decide +kernel) rfl rfl ?_
            refine gf3_2 21 134 (by decide +kernel) rfl flX3_21 (Lrd_0 S0_) (Lrd_3 S0_) ?_
            refine zCallV 9 zcls9 mX9_next 38 0 0 0 _ _ 137 [] [] okX9_next mlX3_38 imX9_next seX9_next (by decide +kernel) rfl rfl (Nat.le_of_ble_eq_true rfl) rfl rfl (Tape_0 (Lrd_4 S0_)) (zC.mono F ?_)
            rintro _ _ ⟨x18, I19, rfl, rfl, F⟩
            change zV G (d + 1) mX3_readRow kc ks 137 [(6, .int (x5)), (0, .ref (l)), (1, .int (l1)), (2, .int (l2)), (3, .int (l3)), (4, .int (l4)), (5, .int (l5))] [.int (x18)] (I19, J, R, K, n) Q
            refine zIstore 4 [(4, .int (x18)), (6, .int (x5)), (0, .ref (l)), (1, .int (l1)), (2, .int (l2)), (3, .int (l3)), (5, .int (l5))] 139 (by decide +kernel) rfl (by decide) rfl ?_
            refine zIload_n 1 3 140 (by decide +kernel) rfl rfl ?_
            refine zIload 4 0 142 (by decide +kernel) rfl rfl ?_
            refine zCallS mX3_joins 59 2 0 0 _ _ 145 [.int (l1), .int (x18)] [] okX3_joins mlX3_59 smX3_joins (by decide +kernel) rfl rfl (Nat.le_of_ble_eq_true rfl) rfl rfl (zC.mono F ?_)
            rintro _ _ ⟨x20, I21, rfl, rfl, F⟩
            change zV G (d + 1) mX3_readRow kc ks 145 [(4, .int (x18)), (6, .int (x5)), (0, .ref (l)), (1, .int (l1)), (2, .int (l2)), (3, .int (l3)), (5, .int (l5))] [.int (x20)] (I21, J, R, K, n) Q
            refine zIf_ne 5 150 148 (by decide +kernel) rfl rfl ⟨fun q22 => ?_, fun q22 => ?_⟩
            · replace F := F.2 q22
              refine zAload_n 0 2 151 (by decide +kernel) rfl rfl ?_
              refine gf3_2 21 154 (by decide +kernel) rfl flX3_21 (Lrd_0 S0_) (Lrd_3 S0_) ?_
              refine zDup 155 (by decide +kernel) rfl rfl ?_
              refine gf9_2 25 158 (by decide +kernel) rfl flX3_25 (Tape_0 (Lrd_4 S0_)) ?_
              refine zIconst 1 1 159 (by decide +kernel) rfl (by decide) ?_
              refine zIadd 160 (by decide +kernel) rfl ?_
              refine pf9_2 25 163 (by decide +kernel) rfl flX3_25 (Tape_0 (Lrd_4 S0_)) ?_
              replace F := F _ rfl
              generalize zU I21 t 2 ((I21 t 2) + 1) = I23 at F ⊢
              refine zIinc 5 1 6 (l5 + 1) [(5, .int (l5 + 1)), (4, .int (x18)), (6, .int (x5)), (0, .ref (l)), (1, .int (l1)), (2, .int (l2)), (3, .int (l3))] 166 (by decide +kernel) rfl rfl (by rfl) (by decide) rfl ?_
              refine zGoto (-160) 6 (by decide +kernel) rfl ?_
              exact zLoc [3, 4, 5, 6, 1, 0] _ rfl F
            · replace F := F.1 q22
              refine zIconst 1 1 149 (by decide +kernel) rfl (by decide) ?_
              exact zZret .boolean rfl (zNarZ (Or.inr rfl)) (by decide +kernel) F
          · replace F := F.1 q17
            refine zIconst 0 0 129 (by decide +kernel) rfl (by decide) ?_
            exact zZret .boolean rfl (zNarZ (Or.inl rfl)) (by decide +kernel) F
    · skip
      by_cases q24 : l1 = 1
      · replace F := F.2.1 q24
        have zt := zEqT q24 (show (1 : Int32).toInt = 1 by decide)
        refine zTableIn 86 0 2 #[25, 50, 74] 25 50 65 (by decide +kernel) (by omega) (by omega) (by rw [zt]; decide) rfl ?_
        refine zAload_n 0 0 66 (by decide +kernel) rfl rfl ?_
        refine zIload_n 2 2 67 (by decide +kernel) rfl rfl ?_
        refine zIload_n 3 3 68 (by decide +kernel) rfl rfl ?_
        suffices KK : zV G (d + 1) mX3_readRow kc ks 81 [(0, .ref (l)), (1, .int (l1)), (2, .int (l2)), (3, .int (l3)), (4, .int (l4)), (5, .int (l5))] [.int ((if l3 = 0 then 0 else (if l5 = 0 then 1 else 0))), .int (l2), .ref (l)] (I, J, R, K, n) Q by
          refine zIf_eq 12 80 71 (by decide +kernel) rfl rfl ⟨fun q25 => ?_, fun q25 => ?_⟩
          · refine zIconst 0 0 81 (by decide +kernel) rfl (by decide) ?_
            exact zTop (by rw [if_pos q25]) KK
          · refine zIload 5 5 73 (by decide +kernel) rfl rfl ?_
            refine zIf_ne 7 80 76 (by decide +kernel) rfl rfl ⟨fun q26 => ?_, fun q26 => ?_⟩
            · refine zIconst 0 0 81 (by decide +kernel) rfl (by decide) ?_
              exact zTop (by rw [if_neg q25, if_neg q26]) KK
            · refine zIconst 1 1 77 (by decide +kernel) rfl (by decide) ?_
              refine zGoto 4 81 (by decide +kernel) rfl ?_
              exact zTop (by rw [if_neg q25, if_pos q26]) KK
        refine zCallV 3 zcls3 mX3_readUnit 52 2 0 0 _ _ 84 [.int (l2), .int ((if l3 = 0 then 0 else (if l5 = 0 then 1 else 0)))] [] okX3_readUnit mlX3_52 imX3_readUnit seX3_readUnit (by decide +kernel) rfl rfl (Nat.le_of_ble_eq_true rfl) rfl rfl (Lrd_0 S0_) (zC.mono F ?_)
        rintro _ _ ⟨x27, I28, rfl, rfl, F⟩
        change zV G (d + 1) mX3_readRow kc ks 84 [(0, .ref (l)), (1, .int (l1)), (2, .int (l2)), (3, .int (l3)), (4, .int (l4)), (5, .int (l5))] [.int (x27)] (I28, J, R, K, n) Q
        refine zIstore 6 [(6, .int (x27)), (0, .ref (l)), (1, .int (l1)), (2, .int (l2)), (3, .int (l3)), (4, .int (l4)), (5, .int (l5))] 86 (by decide +kernel) rfl (by decide) rfl ?_
        refine zGoto 22 108 (by decide +kernel) rfl ?_
        refine zIload 6 0 110 (by decide +kernel) rfl rfl ?_
        refine zIf_eq 18 128 113 (by decide +kernel) rfl rfl ⟨fun q29 => ?_, fun q29 => ?_⟩
        · replace F := F.1 q29
          refine zIconst 0 0 129 (by decide +kernel) rfl (by decide) ?_
          exact zZret .boolean rfl (zNarZ (Or.inl rfl)) (by decide +kernel) F
        · replace F := F.2 q29
          refine zIload 5 6 115 (by decide +kernel) rfl rfl ?_
          refine zIf_le 15 130 118 (by decide +kernel) rfl rfl ⟨fun q30 => ?_, fun q30 => ?_⟩
          · replace F := F.1 q30
            refine zAload_n 0 1 131 (by decide +kernel) rfl rfl ?_
            refine gf3_2 21 134 (by decide +kernel) rfl flX3_21 (Lrd_0 S0_) (Lrd_3 S0_) ?_
            refine zCallV 9 zcls9 mX9_next 38 0 0 0 _ _ 137 [] [] okX9_next mlX3_38 imX9_next seX9_next (by decide +kernel) rfl rfl (Nat.le_of_ble_eq_true rfl) rfl rfl (Tape_0 (Lrd_4 S0_)) (zC.mono F ?_)
            rintro _ _ ⟨x31, I32, rfl, rfl, F⟩
            change zV G (d + 1) mX3_readRow kc ks 137 [(6, .int (x27)), (0, .ref (l)), (1, .int (l1)), (2, .int (l2)), (3, .int (l3)), (4, .int (l4)), (5, .int (l5))] [.int (x31)] (I32, J, R, K, n) Q
            refine zIstore 4 [(4, .int (x31)), (6, .int (x27)), (0, .ref (l)), (1, .int (l1)), (2, .int (l2)), (3, .int (l3)), (5, .int (l5))] 139 (by decide +kernel) rfl (by decide) rfl ?_
            refine zIload_n 1 3 140 (by decide +kernel) rfl rfl ?_
            refine zIload 4 0 142 (by decide +kernel) rfl rfl ?_
            refine zCallS mX3_joins 59 2 0 0 _ _ 145 [.int (l1), .int (x31)] [] okX3_joins mlX3_59 smX3_joins (by decide +kernel) rfl rfl (Nat.le_of_ble_eq_true rfl) rfl rfl (zC.mono F ?_)
            rintro _ _ ⟨x33, I34, rfl, rfl, F⟩
            change zV G (d + 1) mX3_readRow kc ks 145 [(4, .int (x31)), (6, .int (x27)), (0, .ref (l)), (1, .int (l1)), (2, .int (l2)), (3, .int (l3)), (5, .int (l5))] [.int (x33)] (I34, J, R, K, n) Q
            refine zIf_ne 5 150 148 (by decide +kernel) rfl rfl ⟨fun q35 => ?_, fun q35 => ?_⟩
            · replace F := F.2 q35
              refine zAload_n 0 2 151 (by decide +kernel) rfl rfl ?_
              refine gf3_2 21 154 (by decide +kernel) rfl flX3_21 (Lrd_0 S0_) (Lrd_3 S0_) ?_
              refine zDup 155 (by decide +kernel) rfl rfl ?_
              refine gf9_2 25 158 (by decide +kernel) rfl flX3_25 (Tape_0 (Lrd_4 S0_)) ?_
              refine zIconst 1 1 159 (by decide +kernel) rfl (by decide) ?_
              refine zIadd 160 (by decide +kernel) rfl ?_
              refine pf9_2 25 163 (by decide +kernel) rfl flX3_25 (Tape_0 (Lrd_4 S0_)) ?_
              replace F := F _ rfl
              generalize zU I34 t 2 ((I34 t 2) + 1) = I36 at F ⊢
              refine zIinc 5 1 6 (l5 + 1) [(5, .int (l5 + 1)), (4, .int (x31)), (6, .int (x27)), (0, .ref (l)), (1, .int (l1)), (2, .int (l2)), (3, .int (l3))] 166 (by decide +kernel) rfl rfl (by rfl) (by decide) rfl ?_
              refine zGoto (-160) 6 (by decide +kernel) rfl ?_
              exact zLoc [3, 4, 5, 6, 1, 0] _ rfl F
            · replace F := F.1 q35
              refine zIconst 1 1 149 (by decide +kernel) rfl (by decide) ?_
              exact zZret .boolean rfl (zNarZ (Or.inr rfl)) (by decide +kernel) F
          · replace F := F.2 q30
            refine zAload_n 0 1 119 (by decide +kernel) rfl rfl ?_
            refine zIload 4 5 121 (by decide +kernel) rfl rfl ?_
            refine zIneg 122 (by decide +kernel) rfl ?_
            refine zCallV 3 zcls3 mX3_emit 34 1 0 0 _ _ 125 [.int (-l4)] [] okX3_emit mlX3_34 imX3_emit seX3_emit (by decide +kernel) rfl rfl (Nat.le_of_ble_eq_true rfl) rfl rfl (Lrd_0 S0_) (zC.mono F ?_)
            rintro _ _ ⟨x37, I38, rfl, rfl, F⟩
            change zV G (d + 1) mX3_readRow kc ks 125 [(6, .int (x27)), (0, .ref (l)), (1, .int (l1)), (2, .int (l2)), (3, .int (l3)), (4, .int (l4)), (5, .int (l5))] [.int (x37)] (I38, J, R, K, n) Q
            refine zIf_ne 5 130 128 (by decide +kernel) rfl rfl ⟨fun q39 => ?_, fun q39 => ?_⟩
            · replace F := F.2 q39
              refine zAload_n 0 1 131 (by decide +kernel) rfl rfl ?_
              refine gf3_2 21 134 (by decide +kernel) rfl flX3_21 (Lrd_0 S0_) (Lrd_3 S0_) ?_
              refine zCallV 9 zcls9 mX9_next 38 0 0 0 _ _ 137 [] [] okX9_next mlX3_38 imX9_next seX9_next (by decide +kernel) rfl rfl (Nat.le_of_ble_eq_true rfl) rfl rfl (Tape_0 (Lrd_4 S0_)) (zC.mono F ?_)
              rintro _ _ ⟨x40, I41, rfl, rfl, F⟩
              change zV G (d + 1) mX3_readRow kc ks 137 [(6, .int (x27)), (0, .ref (l)), (1, .int (l1)), (2, .int (l2)), (3, .int (l3)), (4, .int (l4)), (5, .int (l5))] [.int (x40)] (I41, J, R, K, n) Q
              refine zIstore 4 [(4, .int (x40)), (6, .int (x27)), (0, .ref (l)), (1, .int (l1)), (2, .int (l2)), (3, .int (l3)), (5, .int (l5))] 139 (by decide +kernel) rfl (by decide) rfl ?_
              refine zIload_n 1 3 140 (by decide +kernel) rfl rfl ?_
              refine zIload 4 0 142 (by decide +kernel) rfl rfl ?_
              refine zCallS mX3_joins 59 2 0 0 _ _ 145 [.int (l1), .int (x40)] [] okX3_joins mlX3_59 smX3_joins (by decide +kernel) rfl rfl (Nat.le_of_ble_eq_true rfl) rfl rfl (zC.mono F ?_)
              rintro _ _ ⟨x42, I43, rfl, rfl, F⟩
              change zV G (d + 1) mX3_readRow kc ks 145 [(4, .int (x40)), (6, .int (x27)), (0, .ref (l)), (1, .int (l1)), (2, .int (l2)), (3, .int (l3)), (5, .int (l5))] [.int (x42)] (I43, J, R, K, n) Q
              refine zIf_ne 5 150 148 (by decide +kernel) rfl rfl ⟨fun q44 => ?_, fun q44 => ?_⟩
              · replace F := F.2 q44
                refine zAload_n 0 2 151 (by decide +kernel) rfl rfl ?_
                refine gf3_2 21 154 (by decide +kernel) rfl flX3_21 (Lrd_0 S0_) (Lrd_3 S0_) ?_
                refine zDup 155 (by decide +kernel) rfl rfl ?_
                refine gf9_2 25 158 (by decide +kernel) rfl flX3_25 (Tape_0 (Lrd_4 S0_)) ?_
                refine zIconst 1 1 159 (by decide +kernel) rfl (by decide) ?_
                refine zIadd 160 (by decide +kernel) rfl ?_
                refine pf9_2 25 163 (by decide +kernel) rfl flX3_25 (Tape_0 (Lrd_4 S0_)) ?_
                replace F := F _ rfl
                generalize zU I43 t 2 ((I43 t 2) + 1) = I45 at F ⊢
                refine zIinc 5 1 6 (l5 + 1) [(5, .int (l5 + 1)), (4, .int (x40)), (6, .int (x27)), (0, .ref (l)), (1, .int (l1)), (2, .int (l2)), (3, .int (l3))] 166 (by decide +kernel) rfl rfl (by rfl) (by decide) rfl ?_
                refine zGoto (-160) 6 (by decide +kernel) rfl ?_
                exact zLoc [3, 4, 5, 6, 1, 0] _ rfl F
              · replace F := F.1 q44
                refine zIconst 1 1 149 (by decide +kernel) rfl (by decide) ?_
                exact zZret .boolean rfl (zNarZ (Or.inr rfl)) (by decide +kernel) F
            · replace F := F.1 q39
              refine zIconst 0 0 129 (by decide +kernel) rfl (by decide) ?_
              exact zZret .boolean rfl (zNarZ (Or.inl rfl)) (by decide +kernel) F
      · skip
        by_cases q46 : l1 = 2
        · replace F := F.2.2.1 q46
          have zt := zEqT q46 (show (2 : Int32).toInt = 2 by decide)
          refine zTableIn 86 0 2 #[25, 50, 74] 25 74 89 (by decide +kernel) (by omega) (by omega) (by rw [zt]; decide) rfl ?_
          refine zAload_n 0 0 90 (by decide +kernel) rfl rfl ?_
          refine zIconst 3 3 91 (by decide +kernel) rfl (by decide) ?_
          refine zIload_n 2 2 92 (by decide +kernel) rfl rfl ?_
          refine zIconst 0 0 93 (by decide +kernel) rfl (by decide) ?_
          refine zCallV 3 zcls3 mX3_readRow 45 3 0 0 _ _ 96 [.int (3), .int (l2), .int (0)] [] okX3_readRow mlX3_45 imX3_readRow seX3_readRow (by decide +kernel) rfl rfl (Nat.le_of_ble_eq_true rfl) rfl rfl (Lrd_0 S0_) (zC.mono F ?_)
          rintro _ _ ⟨x47, I48, rfl, rfl, F⟩
          change zV G (d + 1) mX3_readRow kc ks 96 [(0, .ref (l)), (1, .int (l1)), (2, .int (l2)), (3, .int (l3)), (4, .int (l4)), (5, .int (l5))] [.int (x47)] (I48, J, R, K, n) Q
          refine zIstore 6 [(6, .int (x47)), (0, .ref (l)), (1, .int (l1)), (2, .int (l2)), (3, .int (l3)), (4, .int (l4)), (5, .int (l5))] 98 (by decide +kernel) rfl (by decide) rfl ?_
          refine zGoto 10 108 (by decide +kernel) rfl ?_
          refine zIload 6 0 110 (by decide +kernel) rfl rfl ?_
          refine zIf_eq 18 128 113 (by decide +kernel) rfl rfl ⟨fun q49 => ?_, fun q49 => ?_⟩
          · replace F := F.1 q49
            refine zIconst 0 0 129 (by decide +kernel) rfl (by decide) ?_
            exact zZret .boolean rfl (zNarZ (Or.inl rfl)) (by decide +kernel) F
          · replace F := F.2 q49
            refine zIload 5 6 115 (by decide +kernel) rfl rfl ?_
            refine zIf_le 15 130 118 (by decide +kernel) rfl rfl ⟨fun q50 => ?_, fun q50 => ?_⟩
            · replace F := F.1 q50
              refine zAload_n 0 1 131 (by decide +kernel) rfl rfl ?_
              refine gf3_2 21 134 (by decide +kernel) rfl flX3_21 (Lrd_0 S0_) (Lrd_3 S0_) ?_
              refine zCallV 9 zcls9 mX9_next 38 0 0 0 _ _ 137 [] [] okX9_next mlX3_38 imX9_next seX9_next (by decide +kernel) rfl rfl (Nat.le_of_ble_eq_true rfl) rfl rfl (Tape_0 (Lrd_4 S0_)) (zC.mono F ?_)
              rintro _ _ ⟨x51, I52, rfl, rfl, F⟩
              change zV G (d + 1) mX3_readRow kc ks 137 [(6, .int (x47)), (0, .ref (l)), (1, .int (l1)), (2, .int (l2)), (3, .int (l3)), (4, .int (l4)), (5, .int (l5))] [.int (x51)] (I52, J, R, K, n) Q
              refine zIstore 4 [(4, .int (x51)), (6, .int (x47)), (0, .ref (l)), (1, .int (l1)), (2, .int (l2)), (3, .int (l3)), (5, .int (l5))] 139 (by decide +kernel) rfl (by decide) rfl ?_
              refine zIload_n 1 3 140 (by decide +kernel) rfl rfl ?_
              refine zIload 4 0 142 (by decide +kernel) rfl rfl ?_
              refine zCallS mX3_joins 59 2 0 0 _ _ 145 [.int (l1), .int (x51)] [] okX3_joins mlX3_59 smX3_joins (by decide +kernel) rfl rfl (Nat.le_of_ble_eq_true rfl) rfl rfl (zC.mono F ?_)
              rintro _ _ ⟨x53, I54, rfl, rfl, F⟩
              change zV G (d + 1) mX3_readRow kc ks 145 [(4, .int (x51)), (6, .int (x47)), (0, .ref (l)), (1, .int (l1)), (2, .int (l2)), (3, .int (l3)), (5, .int (l5))] [.int (x53)] (I54, J, R, K, n) Q
              refine zIf_ne 5 150 148 (by decide +kernel) rfl rfl ⟨fun q55 => ?_, fun q55 => ?_⟩
              · replace F := F.2 q55
                refine zAload_n 0 2 151 (by decide +kernel) rfl rfl ?_
                refine gf3_2 21 154 (by decide +kernel) rfl flX3_21 (Lrd_0 S0_) (Lrd_3 S0_) ?_
                refine zDup 155 (by decide +kernel) rfl rfl ?_
                refine gf9_2 25 158 (by decide +kernel) rfl flX3_25 (Tape_0 (Lrd_4 S0_)) ?_
                refine zIconst 1 1 159 (by decide +kernel) rfl (by decide) ?_
                refine zIadd 160 (by decide +kernel) rfl ?_
                refine pf9_2 25 163 (by decide +kernel) rfl flX3_25 (Tape_0 (Lrd_4 S0_)) ?_
                replace F := F _ rfl
                generalize zU I54 t 2 ((I54 t 2) + 1) = I56 at F ⊢
                refine zIinc 5 1 6 (l5 + 1) [(5, .int (l5 + 1)), (4, .int (x51)), (6, .int (x47)), (0, .ref (l)), (1, .int (l1)), (2, .int (l2)), (3, .int (l3))] 166 (by decide +kernel) rfl rfl (by rfl) (by decide) rfl ?_
                refine zGoto (-160) 6 (by decide +kernel) rfl ?_
                exact zLoc [3, 4, 5, 6, 1, 0] _ rfl F
              · replace F := F.1 q55
                refine zIconst 1 1 149 (by decide +kernel) rfl (by decide) ?_
                exact zZret .boolean rfl (zNarZ (Or.inr rfl)) (by decide +kernel) F
            · replace F := F.2 q50
              refine zAload_n 0 1 119 (by decide +kernel) rfl rfl ?_
              refine zIload 4 5 121 (by decide +kernel) rfl rfl ?_
              refine zIneg 122 (by decide +kernel) rfl ?_
              refine zCallV 3 zcls3 mX3_emit 34 1 0 0 _ _ 125 [.int (-l4)] [] okX3_emit mlX3_34 imX3_emit seX3_emit (by decide +kernel) rfl rfl (Nat.le_of_ble_eq_true rfl) rfl rfl (Lrd_0 S0_) (zC.mono F ?_)
              rintro _ _ ⟨x57, I58, rfl, rfl, F⟩
              change zV G (d + 1) mX3_readRow kc ks 125 [(6, .int (x47)), (0, .ref (l)), (1, .int (l1)), (2, .int (l2)), (3, .int (l3)), (4, .int (l4)), (5, .int (l5))] [.int (x57)] (I58, J, R, K, n) Q
              refine zIf_ne 5 130 128 (by decide +kernel) rfl rfl ⟨fun q59 => ?_, fun q59 => ?_⟩
              · replace F := F.2 q59
                refine zAload_n 0 1 131 (by decide +kernel) rfl rfl ?_
                refine gf3_2 21 134 (by decide +kernel) rfl flX3_21 (Lrd_0 S0_) (Lrd_3 S0_) ?_
                refine zCallV 9 zcls9 mX9_next 38 0 0 0 _ _ 137 [] [] okX9_next mlX3_38 imX9_next seX9_next (by decide +kernel) rfl rfl (Nat.le_of_ble_eq_true rfl) rfl rfl (Tape_0 (Lrd_4 S0_)) (zC.mono F ?_)
                rintro _ _ ⟨x60, I61, rfl, rfl, F⟩
                change zV G (d + 1) mX3_readRow kc ks 137 [(6, .int (x47)), (0, .ref (l)), (1, .int (l1)), (2, .int (l2)), (3, .int (l3)), (4, .int (l4)), (5, .int (l5))] [.int (x60)] (I61, J, R, K, n) Q
                refine zIstore 4 [(4, .int (x60)), (6, .int (x47)), (0, .ref (l)), (1, .int (l1)), (2, .int (l2)), (3, .int (l3)), (5, .int (l5))] 139 (by decide +kernel) rfl (by decide) rfl ?_
                refine zIload_n 1 3 140 (by decide +kernel) rfl rfl ?_
                refine zIload 4 0 142 (by decide +kernel) rfl rfl ?_
                refine zCallS mX3_joins 59 2 0 0 _ _ 145 [.int (l1), .int (x60)] [] okX3_joins mlX3_59 smX3_joins (by decide +kernel) rfl rfl (Nat.le_of_ble_eq_true rfl) rfl rfl (zC.mono F ?_)
                rintro _ _ ⟨x62, I63, rfl, rfl, F⟩
                change zV G (d + 1) mX3_readRow kc ks 145 [(4, .int (x60)), (6, .int (x47)), (0, .ref (l)), (1, .int (l1)), (2, .int (l2)), (3, .int (l3)), (5, .int (l5))] [.int (x62)] (I63, J, R, K, n) Q
                refine zIf_ne 5 150 148 (by decide +kernel) rfl rfl ⟨fun q64 => ?_, fun q64 => ?_⟩
                · replace F := F.2 q64
                  refine zAload_n 0 2 151 (by decide +kernel) rfl rfl ?_
                  refine gf3_2 21 154 (by decide +kernel) rfl flX3_21 (Lrd_0 S0_) (Lrd_3 S0_) ?_
                  refine zDup 155 (by decide +kernel) rfl rfl ?_
                  refine gf9_2 25 158 (by decide +kernel) rfl flX3_25 (Tape_0 (Lrd_4 S0_)) ?_
                  refine zIconst 1 1 159 (by decide +kernel) rfl (by decide) ?_
                  refine zIadd 160 (by decide +kernel) rfl ?_
                  refine pf9_2 25 163 (by decide +kernel) rfl flX3_25 (Tape_0 (Lrd_4 S0_)) ?_
                  replace F := F _ rfl
                  generalize zU I63 t 2 ((I63 t 2) + 1) = I65 at F ⊢
                  refine zIinc 5 1 6 (l5 + 1) [(5, .int (l5 + 1)), (4, .int (x60)), (6, .int (x47)), (0, .ref (l)), (1, .int (l1)), (2, .int (l2)), (3, .int (l3))] 166 (by decide +kernel) rfl rfl (by rfl) (by decide) rfl ?_
                  refine zGoto (-160) 6 (by decide +kernel) rfl ?_
                  exact zLoc [3, 4, 5, 6, 1, 0] _ rfl F
                · replace F := F.1 q64
                  refine zIconst 1 1 149 (by decide +kernel) rfl (by decide) ?_
                  exact zZret .boolean rfl (zNarZ (Or.inr rfl)) (by decide +kernel) F
              · replace F := F.1 q59
                refine zIconst 0 0 129 (by decide +kernel) rfl (by decide) ?_
                exact zZret .boolean rfl (zNarZ (Or.inl rfl)) (by decide +kernel) F
        · skip
          replace F := F.2.2.2 q2 q24 q46
          have zq2 := zNeT q2 (show (0 : Int32).toInt = 0 by decide)
          have zq24 := zNeT q24 (show (1 : Int32).toInt = 1 by decide)
          have zq46 := zNeT q46 (show (2 : Int32).toInt = 2 by decide)
          refine zTableOut 86 0 2 #[25, 50, 74] 25 101 (by decide +kernel) (by omega) rfl ?_
          refine zAload_n 0 0 102 (by decide +kernel) rfl rfl ?_
          refine zIload_n 2 2 103 (by decide +kernel) rfl rfl ?_
          refine zCallV 3 zcls3 mX3_readAtom 56 1 0 0 _ _ 106 [.int (l2)] [] okX3_readAtom mlX3_56 imX3_readAtom seX3_readAtom (by decide +kernel) rfl rfl (Nat.le_of_ble_eq_true rfl) rfl rfl (Lrd_0 S0_) (zC.mono F ?_)
          rintro _ _ ⟨x66, I67, rfl, rfl, F⟩
          change zV G (d + 1) mX3_readRow kc ks 106 [(0, .ref (l)), (1, .int (l1)), (2, .int (l2)), (3, .int (l3)), (4, .int (l4)), (5, .int (l5))] [.int (x66)] (I67, J, R, K, n) Q
          refine zIstore 6 [(6, .int (x66)), (0, .ref (l)), (1, .int (l1)), (2, .int (l2)), (3, .int (l3)), (4, .int (l4)), (5, .int (l5))] 108 (by decide +kernel) rfl (by decide) rfl ?_
          refine zIload 6 0 110 (by decide +kernel) rfl rfl ?_
          refine zIf_eq 18 128 113 (by decide +kernel) rfl rfl ⟨fun q68 => ?_, fun q68 => ?_⟩
          · replace F := F.1 q68
            refine zIconst 0 0 129 (by decide +kernel) rfl (by decide) ?_
            exact zZret .boolean rfl (zNarZ (Or.inl rfl)) (by decide +kernel) F
          · replace F := F.2 q68
            refine zIload 5 6 115 (by decide +kernel) rfl rfl ?_
            refine zIf_le 15 130 118 (by decide +kernel) rfl rfl ⟨fun q69 => ?_, fun q69 => ?_⟩
            · replace F := F.1 q69
              refine zAload_n 0 1 131 (by decide +kernel) rfl rfl ?_
              refine gf3_2 21 134 (by decide +kernel) rfl flX3_21 (Lrd_0 S0_) (Lrd_3 S0_) ?_
              refine zCallV 9 zcls9 mX9_next 38 0 0 0 _ _ 137 [] [] okX9_next mlX3_38 imX9_next seX9_next (by decide +kernel) rfl rfl (Nat.le_of_ble_eq_true rfl) rfl rfl (Tape_0 (Lrd_4 S0_)) (zC.mono F ?_)
              rintro _ _ ⟨x70, I71, rfl, rfl, F⟩
              change zV G (d + 1) mX3_readRow kc ks 137 [(6, .int (x66)), (0, .ref (l)), (1, .int (l1)), (2, .int (l2)), (3, .int (l3)), (4, .int (l4)), (5, .int (l5))] [.int (x70)] (I71, J, R, K, n) Q
              refine zIstore 4 [(4, .int (x70)), (6, .int (x66)), (0, .ref (l)), (1, .int (l1)), (2, .int (l2)), (3, .int (l3)), (5, .int (l5))] 139 (by decide +kernel) rfl (by decide) rfl ?_
              refine zIload_n 1 3 140 (by decide +kernel) rfl rfl ?_
              refine zIload 4 0 142 (by decide +kernel) rfl rfl ?_
              refine zCallS mX3_joins 59 2 0 0 _ _ 145 [.int (l1), .int (x70)] [] okX3_joins mlX3_59 smX3_joins (by decide +kernel) rfl rfl (Nat.le_of_ble_eq_true rfl) rfl rfl (zC.mono F ?_)
              rintro _ _ ⟨x72, I73, rfl, rfl, F⟩
              change zV G (d + 1) mX3_readRow kc ks 145 [(4, .int (x70)), (6, .int (x66)), (0, .ref (l)), (1, .int (l1)), (2, .int (l2)), (3, .int (l3)), (5, .int (l5))] [.int (x72)] (I73, J, R, K, n) Q
              refine zIf_ne 5 150 148 (by decide +kernel) rfl rfl ⟨fun q74 => ?_, fun q74 => ?_⟩
              · replace F := F.2 q74
                refine zAload_n 0 2 151 (by decide +kernel) rfl rfl ?_
                refine gf3_2 21 154 (by decide +kernel) rfl flX3_21 (Lrd_0 S0_) (Lrd_3 S0_) ?_
                refine zDup 155 (by decide +kernel) rfl rfl ?_
                refine gf9_2 25 158 (by decide +kernel) rfl flX3_25 (Tape_0 (Lrd_4 S0_)) ?_
                refine zIconst 1 1 159 (by decide +kernel) rfl (by decide) ?_
                refine zIadd 160 (by decide +kernel) rfl ?_
                refine pf9_2 25 163 (by decide +kernel) rfl flX3_25 (Tape_0 (Lrd_4 S0_)) ?_
                replace F := F _ rfl
                generalize zU I73 t 2 ((I73 t 2) + 1) = I75 at F ⊢
                refine zIinc 5 1 6 (l5 + 1) [(5, .int (l5 + 1)), (4, .int (x70)), (6, .int (x66)), (0, .ref (l)), (1, .int (l1)), (2, .int (l2)), (3, .int (l3))] 166 (by decide +kernel) rfl rfl (by rfl) (by decide) rfl ?_
                refine zGoto (-160) 6 (by decide +kernel) rfl ?_
                exact zLoc [3, 4, 5, 6, 1, 0] _ rfl F
              · replace F := F.1 q74
                refine zIconst 1 1 149 (by decide +kernel) rfl (by decide) ?_
                exact zZret .boolean rfl (zNarZ (Or.inr rfl)) (by decide +kernel) F
            · replace F := F.2 q69
              refine zAload_n 0 1 119 (by decide +kernel) rfl rfl ?_
              refine zIload 4 5 121 (by decide +kernel) rfl rfl ?_
              refine zIneg 122 (by decide +kernel) rfl ?_
              refine zCallV 3 zcls3 mX3_emit 34 1 0 0 _ _ 125 [.int (-l4)] [] okX3_emit mlX3_34 imX3_emit seX3_emit (by decide +kernel) rfl rfl (Nat.le_of_ble_eq_true rfl) rfl rfl (Lrd_0 S0_) (zC.mono F ?_)
              rintro _ _ ⟨x76, I77, rfl, rfl, F⟩
              change zV G (d + 1) mX3_readRow kc ks 125 [(6, .int (x66)), (0, .ref (l)), (1, .int (l1)), (2, .int (l2)), (3, .int (l3)), (4, .int (l4)), (5, .int (l5))] [.int (x76)] (I77, J, R, K, n) Q
              refine zIf_ne 5 130 128 (by decide +kernel) rfl rfl ⟨fun q78 => ?_, fun q78 => ?_⟩
              · replace F := F.2 q78
                refine zAload_n 0 1 131 (by decide +kernel) rfl rfl ?_
                refine gf3_2 21 134 (by decide +kernel) rfl flX3_21 (Lrd_0 S0_) (Lrd_3 S0_) ?_
                refine zCallV 9 zcls9 mX9_next 38 0 0 0 _ _ 137 [] [] okX9_next mlX3_38 imX9_next seX9_next (by decide +kernel) rfl rfl (Nat.le_of_ble_eq_true rfl) rfl rfl (Tape_0 (Lrd_4 S0_)) (zC.mono F ?_)
                rintro _ _ ⟨x79, I80, rfl, rfl, F⟩
                change zV G (d + 1) mX3_readRow kc ks 137 [(6, .int (x66)), (0, .ref (l)), (1, .int (l1)), (2, .int (l2)), (3, .int (l3)), (4, .int (l4)), (5, .int (l5))] [.int (x79)] (I80, J, R, K, n) Q
                refine zIstore 4 [(4, .int (x79)), (6, .int (x66)), (0, .ref (l)), (1, .int (l1)), (2, .int (l2)), (3, .int (l3)), (5, .int (l5))] 139 (by decide +kernel) rfl (by decide) rfl ?_
                refine zIload_n 1 3 140 (by decide +kernel) rfl rfl ?_
                refine zIload 4 0 142 (by decide +kernel) rfl rfl ?_
                refine zCallS mX3_joins 59 2 0 0 _ _ 145 [.int (l1), .int (x79)] [] okX3_joins mlX3_59 smX3_joins (by decide +kernel) rfl rfl (Nat.le_of_ble_eq_true rfl) rfl rfl (zC.mono F ?_)
                rintro _ _ ⟨x81, I82, rfl, rfl, F⟩
                change zV G (d + 1) mX3_readRow kc ks 145 [(4, .int (x79)), (6, .int (x66)), (0, .ref (l)), (1, .int (l1)), (2, .int (l2)), (3, .int (l3)), (5, .int (l5))] [.int (x81)] (I82, J, R, K, n) Q
                refine zIf_ne 5 150 148 (by decide +kernel) rfl rfl ⟨fun q83 => ?_, fun q83 => ?_⟩
                · replace F := F.2 q83
                  refine zAload_n 0 2 151 (by decide +kernel) rfl rfl ?_
                  refine gf3_2 21 154 (by decide +kernel) rfl flX3_21 (Lrd_0 S0_) (Lrd_3 S0_) ?_
                  refine zDup 155 (by decide +kernel) rfl rfl ?_
                  refine gf9_2 25 158 (by decide +kernel) rfl flX3_25 (Tape_0 (Lrd_4 S0_)) ?_
                  refine zIconst 1 1 159 (by decide +kernel) rfl (by decide) ?_
                  refine zIadd 160 (by decide +kernel) rfl ?_
                  refine pf9_2 25 163 (by decide +kernel) rfl flX3_25 (Tape_0 (Lrd_4 S0_)) ?_
                  replace F := F _ rfl
                  generalize zU I82 t 2 ((I82 t 2) + 1) = I84 at F ⊢
                  refine zIinc 5 1 6 (l5 + 1) [(5, .int (l5 + 1)), (4, .int (x79)), (6, .int (x66)), (0, .ref (l)), (1, .int (l1)), (2, .int (l2)), (3, .int (l3))] 166 (by decide +kernel) rfl rfl (by rfl) (by decide) rfl ?_
                  refine zGoto (-160) 6 (by decide +kernel) rfl ?_
                  exact zLoc [3, 4, 5, 6, 1, 0] _ rfl F
                · replace F := F.1 q83
                  refine zIconst 1 1 149 (by decide +kernel) rfl (by decide) ?_
                  exact zZret .boolean rfl (zNarZ (Or.inr rfl)) (by decide +kernel) F
              · replace F := F.1 q78
                refine zIconst 0 0 129 (by decide +kernel) rfl (by decide) ?_
                exact zZret .boolean rfl (zNarZ (Or.inl rfl)) (by decide +kernel) F
set_option maxHeartbeats 2000000 in
theorem wX3_readUnit_0 {G : zG} {d kc ks : Nat} {I : Nat → Nat → Int32} {J : Nat → Nat → Int64} {R : Nat → Nat → Option Nat} {K : Nat → Nat × Nat} {n : Nat} {Q : Option Value → zH → Prop} (l t : Nat) (S0_ : hLrd G R K n l t) (p1 p2 : Int32) (F : zC G d mX9_next 0 0 [.ref (t)] (I, J, R, K, n) (fun r h => ∃ (x1 : Int32) (I2 : Nat → Nat → Int32), r = some (.int x1) ∧ h = (I2, J, R, K, n) ∧ ((p2 = 0 → ((x1 = 33 → ((p1 < 6 → (∀ I34 : Nat → Nat → Int32, I34 = zU I2 t 2 ((I2 t 2) + 1) → ((x1 = 40 → zC G d mX3_readRow 0 0 [.ref (l), .int (0), .int (p1 + 1), .int (0)] (I34, J, R, K, n) (fun r h => ∃ (x42 : Int32) (I43 : Nat → Nat → Int32), r = some (.int x42) ∧ h = (I43, J, R, K, n) ∧ ((x42 = 0 → Q (some (.int (0))) (I43, J, R, K, n)) ∧ (¬ (x42 = 0) → zC G d mX9_accept 0 0 [.ref (t), .int (41)] (I43, J, R, K, n) (fun r h => ∃ (x45 : Int32) (I46 : Nat → Nat → Int32), r = some (.int x45) ∧ h = (I46, J, R, K, n) ∧ Q (some (.int ((if x45 = 0 then 0 else 1)))) (I46, J, R, K, n)))))) ∧ (¬ (x1 = 40) → zC G d mX3_readUnit 0 0 [.ref (l), .int (p1 + 1), .int (0)] (I34, J, R, K, n) (fun r h => ∃ (x36 : Int32) (I37 : Nat → Nat → Int32), r = some (.int x36) ∧ h = (I37, J, R, K, n) ∧ ((x36 = 0 → Q (some (.int (0))) (I37, J, R, K, n)) ∧ (¬ (x36 = 0) → zC G d mX3_emit 0 0 [.ref (l), .int ((-33))] (I37, J, R, K, n) (fun r h => ∃ (x39 : Int32) (I40 : Nat → Nat → Int32), r = some (.int x39) ∧ h = (I40, J, R, K, n) ∧ Q (some (.int ((if x39 = 0 then 0 else 1)))) (I40, J, R, K, n))))))))) ∧ (¬ (p1 < 6) → Q (some (.int (0))) (I2, J, R, K, n)))) ∧ (¬ (x1 = 33) → ((x1 = 40 → ((p1 < 6 → (∀ I78 : Nat → Nat → Int32, I78 = zU I2 t 2 ((I2 t 2) + 1) → ((x1 = 40 → zC G d mX3_readRow 0 0 [.ref (l), .int (0), .int (p1 + 1), .int (0)] (I78, J, R, K, n) (fun r h => ∃ (x86 : Int32) (I87 : Nat → Nat → Int32), r = some (.int x86) ∧ h = (I87, J, R, K, n) ∧ ((x86 = 0 → Q (some (.int (0))) (I87, J, R, K, n)) ∧ (¬ (x86 = 0) → zC G d mX9_accept 0 0 [.ref (t), .int (41)] (I87, J, R, K, n) (fun r h => ∃ (x89 : Int32) (I90 : Nat → Nat → Int32), r = some (.int x89) ∧ h = (I90, J, R, K, n) ∧ Q (some (.int ((if x89 = 0 then 0 else 1)))) (I90, J, R, K, n)))))) ∧ (¬ (x1 = 40) → zC G d mX3_readUnit 0 0 [.ref (l), .int (p1 + 1), .int (0)] (I78, J, R, K, n) (fun r h => ∃ (x80 : Int32) (I81 : Nat → Nat → Int32), r = some (.int x80) ∧ h = (I81, J, R, K, n) ∧ ((x80 = 0 → Q (some (.int (0))) (I81, J, R, K, n)) ∧ (¬ (x80 = 0) → zC G d mX3_emit 0 0 [.ref (l), .int ((-33))] (I81, J, R, K, n) (fun r h => ∃ (x83 : Int32) (I84 : Nat → Nat → Int32), r = some (.int x83) ∧ h = (I84, J, R, K, n) ∧ Q (some (.int ((if x83 = 0 then 0 else 1)))) (I84, J, R, K, n))))))))) ∧ (¬ (p1 < 6) → Q (some (.int (0))) (I2, J, R, K, n)))) ∧ (¬ (x1 = 40) → ((p2 = 0 → zC G d mX3_readRow 0 0 [.ref (l), .int (2), .int (p1), .int (0)] (I2, J, R, K, n) (fun r h => ∃ (x62 : Int32) (I63 : Nat → Nat → Int32), r = some (.int x62) ∧ h = (I63, J, R, K, n) ∧ ((x62 = 0 → Q (some (.int (0))) (I63, J, R, K, n)) ∧ (¬ (x62 = 0) → zC G d mX9_next 0 0 [.ref (t)] (I63, J, R, K, n) (fun r h => ∃ (x65 : Int32) (I66 : Nat → Nat → Int32), r = some (.int x65) ∧ h = (I66, J, R, K, n) ∧ zC G d mX3_compares 0 0 [.int (x65)] (I66, J, R, K, n) (fun r h => ∃ (x67 : Int32) (I68 : Nat → Nat → Int32), r = some (.int x67) ∧ h = (I68, J, R, K, n) ∧ ((x67 = 0 → Q (some (.int (0))) (I68, J, R, K, n)) ∧ (¬ (x67 = 0) → (∀ I70 : Nat → Nat → Int32, I70 = zU I68 t 2 ((I68 t 2) + 1) → zC G d mX3_readRow 0 0 [.ref (l), .int (2), .int (p1), .int (0)] (I70, J, R, K, n) (fun r h => ∃ (x71 : Int32) (I72 : Nat → Nat → Int32), r = some (.int x71) ∧ h = (I72, J, R, K, n) ∧ ((x71 = 0 → Q (some (.int (0))) (I72, J, R, K, n)) ∧ (¬ (x71 = 0) → zC G d mX3_emit 0 0 [.ref (l), .int (-x65)] (I72, J, R, K, n) (fun r h => ∃ (x74 : Int32) (I75 : Nat → Nat → Int32), r = some (.int x74) ∧ h = (I75, J, R, K, n) ∧ Q (some (.int ((if x74 = 0 then 0 else 1)))) (I75, J, R, K, n)))))))))))))) ∧ (¬ (p2 = 0) → zC G d mX9_next 0 0 [.ref (t)] (I2, J, R, K, n) (fun r h => ∃ (x50 : Int32) (I51 : Nat → Nat → Int32), r = some (.int x50) ∧ h = (I51, J, R, K, n) ∧ zC G d mX3_compares 0 0 [.int (x50)] (I51, J, R, K, n) (fun r h => ∃ (x52 : Int32) (I53 : Nat → Nat → Int32), r = some (.int x52) ∧ h = (I53, J, R, K, n) ∧ ((x52 = 0 → Q (some (.int (0))) (I53, J, R, K, n)) ∧ (¬ (x52 = 0) → (∀ I55 : Nat → Nat → Int32, I55 = zU I53 t 2 ((I53 t 2) + 1) → zC G d mX3_readRow 0 0 [.ref (l), .int (2), .int (p1), .int (0)] (I55, J, R, K, n) (fun r h => ∃ (x56 : Int32) (I57 : Nat → Nat → Int32), r = some (.int x56) ∧ h = (I57, J, R, K, n) ∧ ((x56 = 0 → Q (some (.int (0))) (I57, J, R, K, n)) ∧ (¬ (x56 = 0) → zC G d mX3_emit 0 0 [.ref (l), .int (-x50)] (I57, J, R, K, n) (fun r h => ∃ (x59 : Int32) (I60 : Nat → Nat → Int32), r = some (.int x59) ∧ h = (I60, J, R, K, n) ∧ Q (some (.int ((if x59 = 0 then 0 else 1)))) (I60, J, R, K, n))))))))))))))))) ∧ (¬ (p2 = 0) → ((p2 = 0 → zC G d mX3_readRow 0 0 [.ref (l), .int (2), .int (p1), .int (0)] (I2, J, R, K, n) (fun r h => ∃ (x17 : Int32) (I18 : Nat → Nat → Int32), r = some (.int x17) ∧ h = (I18, J, R, K, n) ∧ ((x17 = 0 → Q (some (.int (0))) (I18, J, R, K, n)) ∧ (¬ (x17 = 0) → zC G d mX9_next 0 0 [.ref (t)] (I18, J, R, K, n) (fun r h => ∃ (x20 : Int32) (I21 : Nat → Nat → Int32), r = some (.int x20) ∧ h = (I21, J, R, K, n) ∧ zC G d mX3_compares 0 0 [.int (x20)] (I21, J, R, K, n) (fun r h => ∃ (x22 : Int32) (I23 : Nat → Nat → Int32), r = some (.int x22) ∧ h = (I23, J, R, K, n) ∧ ((x22 = 0 → Q (some (.int (0))) (I23, J, R, K, n)) ∧ (¬ (x22 = 0) → (∀ I25 : Nat → Nat → Int32, I25 = zU I23 t 2 ((I23 t 2) + 1) → zC G d mX3_readRow 0 0 [.ref (l), .int (2), .int (p1), .int (0)] (I25, J, R, K, n) (fun r h => ∃ (x26 : Int32) (I27 : Nat → Nat → Int32), r = some (.int x26) ∧ h = (I27, J, R, K, n) ∧ ((x26 = 0 → Q (some (.int (0))) (I27, J, R, K, n)) ∧ (¬ (x26 = 0) → zC G d mX3_emit 0 0 [.ref (l), .int (-x20)] (I27, J, R, K, n) (fun r h => ∃ (x29 : Int32) (I30 : Nat → Nat → Int32), r = some (.int x29) ∧ h = (I30, J, R, K, n) ∧ Q (some (.int ((if x29 = 0 then 0 else 1)))) (I30, J, R, K, n)))))))))))))) ∧ (¬ (p2 = 0) → zC G d mX9_next 0 0 [.ref (t)] (I2, J, R, K, n) (fun r h => ∃ (x5 : Int32) (I6 : Nat → Nat → Int32), r = some (.int x5) ∧ h = (I6, J, R, K, n) ∧ zC G d mX3_compares 0 0 [.int (x5)] (I6, J, R, K, n) (fun r h => ∃ (x7 : Int32) (I8 : Nat → Nat → Int32), r = some (.int x7) ∧ h = (I8, J, R, K, n) ∧ ((x7 = 0 → Q (some (.int (0))) (I8, J, R, K, n)) ∧ (¬ (x7 = 0) → (∀ I10 : Nat → Nat → Int32, I10 = zU I8 t 2 ((I8 t 2) + 1) → zC G d mX3_readRow 0 0 [.ref (l), .int (2), .int (p1), .int (0)] (I10, J, R, K, n) (fun r h => ∃ (x11 : Int32) (I12 : Nat → Nat → Int32), r = some (.int x11) ∧ h = (I12, J, R, K, n) ∧ ((x11 = 0 → Q (some (.int (0))) (I12, J, R, K, n)) ∧ (¬ (x11 = 0) → zC G d mX3_emit 0 0 [.ref (l), .int (-x5)] (I12, J, R, K, n) (fun r h => ∃ (x14 : Int32) (I15 : Nat → Nat → Int32), r = some (.int x14) ∧ h = (I15, J, R, K, n) ∧ Q (some (.int ((if x14 = 0 then 0 else 1)))) (I15, J, R, K, n)))))))))))))))) : zV G (d + 1) mX3_readUnit kc ks 0 [(0, .ref (l)), (1, .int (p1)), (2, .int (p2))] [] (I, J, R, K, n) Q := by
  refine zAload_n 0 0 1 (by decide +kernel) rfl rfl ?_
  refine gf3_2 21 4 (by decide +kernel) rfl flX3_21 (Lrd_0 S0_) (Lrd_3 S0_) ?_
  refine zCallV 9 zcls9 mX9_next 38 0 0 0 _ _ 7 [] [] okX9_next mlX3_38 imX9_next seX9_next (by decide +kernel) rfl rfl (Nat.le_of_ble_eq_true rfl) rfl rfl (Tape_0 (Lrd_4 S0_)) (zC.mono F ?_)
  rintro _ _ ⟨x1, I2, rfl, rfl, F⟩
  change zV G (d + 1) mX3_readUnit kc ks 7 [(0, .ref (l)), (1, .int (p1)), (2, .int (p2))] [.int (x1)] (I2, J, R, K, n) Q
  refine zIstore_n 3 [(3, .int (x1)), (0, .ref (l)), (1, .int (p1)), (2, .int (p2))] 8 (by decide +kernel) rfl (by decide) rfl ?_
  refine zIload_n 2 3 9 (by decide +kernel) rfl rfl ?_
  refine zIf_ne 98 107 12 (by decide +kernel) rfl rfl ⟨fun q3 => ?_, fun q3 => ?_⟩
  · replace F := F.2 q3
    refine zIload_n 2 3 108 (by decide +kernel) rfl rfl ?_
    refine zIf_ne 15 123 111 (by decide +kernel) rfl rfl ⟨fun q4 => ?_, fun q4 => ?_⟩
    · replace F := F.2 q4
      refine zAload_n 0 1 124 (by decide +kernel) rfl rfl ?_
      refine gf3_2 21 127 (by decide +kernel) rfl flX3_21 (Lrd_0 S0_) (Lrd_3 S0_) ?_
      refine zCallV 9 zcls9 mX9_next 38 0 0 0 _ _ 130 [] [] okX9_next mlX3_38 imX9_next seX9_next (by decide +kernel) rfl rfl (Nat.le_of_ble_eq_true rfl) rfl rfl (Tape_0 (Lrd_4 S0_)) (zC.mono F ?_)
      rintro _ _ ⟨x5, I6, rfl, rfl, F⟩
      change zV G (d + 1) mX3_readUnit kc ks 130 [(3, .int (x1)), (0, .ref (l)), (1, .int (p1)), (2, .int (p2))] [.int (x5)] (I6, J, R, K, n) Q
      refine zIstore_n 3 [(3, .int (x5)), (0, .ref (l)), (1, .int (p1)), (2, .int (p2))] 131 (by decide +kernel) rfl (by decide) rfl ?_
      refine zIload_n 3 0 132 (by decide +kernel) rfl rfl ?_
      refine zCallS mX3_compares 49 1 0 0 _ _ 135 [.int (x5)] [] okX3_compares mlX3_49 smX3_compares (by decide +kernel) rfl rfl (Nat.le_of_ble_eq_true rfl) rfl rfl (zC.mono F ?_)
      rintro _ _ ⟨x7, I8, rfl, rfl, F⟩
      change zV G (d + 1) mX3_readUnit kc ks 135 [(3, .int (x5)), (0, .ref (l)), (1, .int (p1)), (2, .int (p2))] [.int (x7)] (I8, J, R, K, n) Q
      refine zIf_ne 5 140 138 (by decide +kernel) rfl rfl ⟨fun q9 => ?_, fun q9 => ?_⟩
      · replace F := F.2 q9
        refine zAload_n 0 1 141 (by decide +kernel) rfl rfl ?_
        refine gf3_2 21 144 (by decide +kernel) rfl flX3_21 (Lrd_0 S0_) (Lrd_3 S0_) ?_
        refine zDup 145 (by decide +kernel) rfl rfl ?_
        refine gf9_2 25 148 (by decide +kernel) rfl flX3_25 (Tape_0 (Lrd_4 S0_)) ?_
        refine zIconst 1 1 149 (by decide +kernel) rfl (by decide) ?_
        refine zIadd 150 (by decide +kernel) rfl ?_
        refine pf9_2 25 153 (by decide +kernel) rfl flX3_25 (Tape_0 (Lrd_4 S0_)) ?_
        replace F := F _ rfl
        generalize zU I8 t 2 ((I8 t 2) + 1) = I10 at F ⊢
        refine zAload_n 0 1 154 (by decide +kernel) rfl rfl ?_
        refine zIconst 2 2 155 (by decide +kernel) rfl (by decide) ?_
        refine zIload_n 1 2 156 (by decide +kernel) rfl rfl ?_
        refine zIconst 0 0 157 (by decide +kernel) rfl (by decide) ?_
        refine zCallV 3 zcls3 mX3_readRow 45 3 0 0 _ _ 160 [.int (2), .int (p1), .int (0)] [] okX3_readRow mlX3_45 imX3_readRow seX3_readRow (by decide +kernel) rfl rfl (Nat.le_of_ble_eq_true rfl) rfl rfl (Lrd_0 S0_) (zC.mono F ?_)
        rintro _ _ ⟨x11, I12, rfl, rfl, F⟩
        change zV G (d + 1) mX3_readUnit kc ks 160 [(3, .int (x5)), (0, .ref (l)), (1, .int (p1)), (2, .int (p2))] [.int (x11)] (I12, J, R, K, n) Q
        refine zIf_eq 16 176 163 (by decide +kernel) rfl rfl ⟨fun q13 => ?_, fun q13 => ?_⟩
        · replace F := F.1 q13
          refine zIconst 0 0 177 (by decide +kernel) rfl (by decide) ?_
          exact zZret .boolean rfl (zNarZ (Or.inl rfl)) (by decide +kernel) F
        · replace F := F.2 q13
          refine zAload_n 0 1 164 (by decide +kernel) rfl rfl ?_
          refine zIload_n 3 0 165 (by decide +kernel) rfl rfl ?_
          refine zIneg 166 (by decide +kernel) rfl ?_
          refine zCallV 3 zcls3 mX3_emit 34 1 0 0 _ _ 169 [.int (-x5)] [] okX3_emit mlX3_34 imX3_emit seX3_emit (by decide +kernel) rfl rfl (Nat.le_of_ble_eq_true rfl) rfl rfl (Lrd_0 S0_) (zC.mono F ?_)
          rintro _ _ ⟨x14, I15, rfl, rfl, F⟩
          change zV G (d + 1) mX3_readUnit kc ks 169 [(3, .int (x5)), (0, .ref (l)), (1, .int (p1)), (2, .int (p2))] [.int (x14)] (I15, J, R, K, n) Q
          suffices KK : zV G (d + 1) mX3_readUnit kc ks 177 [(3, .int (x5)), (0, .ref (l)), (1, .int (p1)), (2, .int (p2))] [.int ((if x14 = 0 then 0 else 1))] (I15, J, R, K, n) Q by
            refine zIf_eq 7 176 172 (by decide +kernel) rfl rfl ⟨fun q16 => ?_, fun q16 => ?_⟩
            · refine zIconst 0 0 177 (by decide +kernel) rfl (by decide) ?_
              exact zTop (by rw [if_pos q16]) KK
            · refine zIconst 1 1 173 (by decide +kernel) rfl (by decide) ?_
              refine zGoto 4 177 (by decide +kernel) rfl ?_
              exact zTop (by rw [if_neg q16]) KK
          exact zZret .boolean rfl (zNarZ (zOrIte (Or.inl rfl) (Or.inr rfl))) (by decide +kernel) F
      · replace F := F.1 q9
        refine zIconst 0 0 139 (by decide +kernel) rfl (by decide) ?_
        exact zZret .boolean rfl (zNarZ (Or.inl rfl)) (by decide +kernel) F
    · replace F := F.1 q4
      refine zAload_n 0 1 112 (by decide +kernel) rfl rfl ?_
      refine zIconst 2 2 113 (by decide +kernel) rfl (by decide) ?_
      refine zIload_n 1 2 114 (by decide +kernel) rfl rfl ?_
      refine zIconst 0 0 115 (by decide +kernel) rfl (by decide) ?_
      refine zCallV 3 zcls3 mX3_readRow 45 3 0 0 _ _ 118 [.int (2), .int (p1), .int (0)] [] okX3_readRow mlX3_45 imX3_readRow seX3_readRow (by decide +kernel) rfl rfl (Nat.le_of_ble_eq_true rfl) rfl rfl (Lrd_0 S0_) (zC.mono F ?_)
      rintro _ _ ⟨x17, I18, rfl, rfl, F⟩
      change zV G (d + 1) mX3_readUnit kc ks 118 [(3, .int (x1)), (0, .ref (l)), (1, .int (p1)), (2, .int (p2))] [.int (x17)] (I18, J, R, K, n) Q
      refine zIf_ne 5 123 121 (by decide +kernel) rfl rfl ⟨fun q19 => ?_, fun q19 => ?_⟩
      · replace F := F.2 q19
        refine zAload_n 0 1 124 (by decide +kernel) rfl rfl ?_
        refine gf3_2 21 127 (by decide +kernel) rfl flX3_21 (Lrd_0 S0_) (Lrd_3 S0_) ?_
        refine zCallV 9 zcls9 mX9_next 38 0 0 0 _ _ 130 [] [] okX9_next mlX3_38 imX9_next seX9_next (by decide +kernel) rfl rfl (Nat.le_of_ble_eq_true rfl) rfl rfl (Tape_0 (Lrd_4 S0_)) (zC.mono F ?_)
        rintro _ _ ⟨x20, I21, rfl, rfl, F⟩
        change zV G (d + 1) mX3_readUnit kc ks 130 [(3, .int (x1)), (0, .ref (l)), (1, .int (p1)), (2, .int (p2))] [.int (x20)] (I21, J, R, K, n) Q
        refine zIstore_n 3 [(3, .int (x20)), (0, .ref (l)), (1, .int (p1)), (2, .int (p2))] 131 (by decide +kernel) rfl (by decide) rfl ?_
        refine zIload_n 3 0 132 (by decide +kernel) rfl rfl ?_
        refine zCallS mX3_compares 49 1 0 0 _ _ 135 [.int (x20)] [] okX3_compares mlX3_49 smX3_compares (by decide +kernel) rfl rfl (Nat.le_of_ble_eq_true rfl) rfl rfl (zC.mono F ?_)
        rintro _ _ ⟨x22, I23, rfl, rfl, F⟩
        change zV G (d + 1) mX3_readUnit kc ks 135 [(3, .int (x20)), (0, .ref (l)), (1, .int (p1)), (2, .int (p2))] [.int (x22)] (I23, J, R, K, n) Q
        refine zIf_ne 5 140 138 (by decide +kernel) rfl rfl ⟨fun q24 => ?_, fun q24 => ?_⟩
        · replace F := F.2 q24
          refine zAload_n 0 1 141 (by decide +kernel) rfl rfl ?_
          refine gf3_2 21 144 (by decide +kernel) rfl flX3_21 (Lrd_0 S0_) (Lrd_3 S0_) ?_
          refine zDup 145 (by decide +kernel) rfl rfl ?_
          refine gf9_2 25 148 (by decide +kernel) rfl flX3_25 (Tape_0 (Lrd_4 S0_)) ?_
          refine zIconst 1 1 149 (by decide +kernel) rfl (by decide) ?_
          refine zIadd 150 (by decide +kernel) rfl ?_
          refine pf9_2 25 153 (by decide +kernel) rfl flX3_25 (Tape_0 (Lrd_4 S0_)) ?_
          replace F := F _ rfl
          generalize zU I23 t 2 ((I23 t 2) + 1) = I25 at F ⊢
          refine zAload_n 0 1 154 (by decide +kernel) rfl rfl ?_
          refine zIconst 2 2 155 (by decide +kernel) rfl (by decide) ?_
          refine zIload_n 1 2 156 (by decide +kernel) rfl rfl ?_
          refine zIconst 0 0 157 (by decide +kernel) rfl (by decide) ?_
          refine zCallV 3 zcls3 mX3_readRow 45 3 0 0 _ _ 160 [.int (2), .int (p1), .int (0)] [] okX3_readRow mlX3_45 imX3_readRow seX3_readRow (by decide +kernel) rfl rfl (Nat.le_of_ble_eq_true rfl) rfl rfl (Lrd_0 S0_) (zC.mono F ?_)
          rintro _ _ ⟨x26, I27, rfl, rfl, F⟩
          change zV G (d + 1) mX3_readUnit kc ks 160 [(3, .int (x20)), (0, .ref (l)), (1, .int (p1)), (2, .int (p2))] [.int (x26)] (I27, J, R, K, n) Q
          refine zIf_eq 16 176 163 (by decide +kernel) rfl rfl ⟨fun q28 => ?_, fun q28 => ?_⟩
          · replace F := F.1 q28
            refine zIconst 0 0 177 (by decide +kernel) rfl (by decide) ?_
            exact zZret .boolean rfl (zNarZ (Or.inl rfl)) (by decide +kernel) F
          · replace F := F.2 q28
            refine zAload_n 0 1 164 (by decide +kernel) rfl rfl ?_
            refine zIload_n 3 0 165 (by decide +kernel) rfl rfl ?_
            refine zIneg 166 (by decide +kernel) rfl ?_
            refine zCallV 3 zcls3 mX3_emit 34 1 0 0 _ _ 169 [.int (-x20)] [] okX3_emit mlX3_34 imX3_emit seX3_emit (by decide +kernel) rfl rfl (Nat.le_of_ble_eq_true rfl) rfl rfl (Lrd_0 S0_) (zC.mono F ?_)
            rintro _ _ ⟨x29, I30, rfl, rfl, F⟩
            change zV G (d + 1) mX3_readUnit kc ks 169 [(3, .int (x20)), (0, .ref (l)), (1, .int (p1)), (2, .int (p2))] [.int (x29)] (I30, J, R, K, n) Q
            suffices KK : zV G (d + 1) mX3_readUnit kc ks 177 [(3, .int (x20)), (0, .ref (l)), (1, .int (p1)), (2, .int (p2))] [.int ((if x29 = 0 then 0 else 1))] (I30, J, R, K, n) Q by
              refine zIf_eq 7 176 172 (by decide +kernel) rfl rfl ⟨fun q31 => ?_, fun q31 => ?_⟩
              · refine zIconst 0 0 177 (by decide +kernel) rfl (by decide) ?_
                exact zTop (by rw [if_pos q31]) KK
              · refine zIconst 1 1 173 (by decide +kernel) rfl (by decide) ?_
                refine zGoto 4 177 (by decide +kernel) rfl ?_
                exact zTop (by rw [if_neg q31]) KK
            exact zZret .boolean rfl (zNarZ (zOrIte (Or.inl rfl) (Or.inr rfl))) (by decide +kernel) F
        · replace F := F.1 q24
          refine zIconst 0 0 139 (by decide +kernel) rfl (by decide) ?_
          exact zZret .boolean rfl (zNarZ (Or.inl rfl)) (by decide +kernel) F
      · replace F := F.1 q19
        refine zIconst 0 0 122 (by decide +kernel) rfl (by decide) ?_
        exact zZret .boolean rfl (zNarZ (Or.inl rfl)) (by decide +kernel) F
  · replace F := F.1 q3
    refine zIload_n 3 0 13 (by decide +kernel) rfl rfl ?_
    refine zBipush 33 33 15 (by decide +kernel) rfl (by decide) ?_
    refine zIcmp_eq 9 24 18 (by decide +kernel) rfl rfl ⟨fun q32 => ?_, fun q32 => ?_⟩
    · replace F := F.1 q32
      refine zIload_n 1 2 25 (by decide +kernel) rfl rfl ?_
      refine zBipush 6 6 27 (by decide +kernel) rfl (by decide) ?_
      refine zIcmp_lt 5 32 30 (by decide +kernel) rfl rfl ⟨fun q33 => ?_, fun q33 => ?_⟩
      · replace F := F.1 q33
        refine zAload_n 0 1 33 (by decide +kernel) rfl rfl ?_
        refine gf3_2 21 36 (by decide +kernel) rfl flX3_21 (Lrd_0 S0_) (Lrd_3 S0_) ?_
        refine zDup 37 (by decide +kernel) rfl rfl ?_
        refine gf9_2 25 40 (by decide +kernel) rfl flX3_25 (Tape_0 (Lrd_4 S0_)) ?_
        refine zIconst 1 1 41 (by decide +kernel) rfl (by decide) ?_
        refine zIadd 42 (by decide +kernel) rfl ?_
        refine pf9_2 25 45 (by decide +kernel) rfl flX3_25 (Tape_0 (Lrd_4 S0_)) ?_
        replace F := F _ rfl
        generalize zU I2 t 2 ((I2 t 2) + 1) = I34 at F ⊢
        refine zIload_n 3 0 46 (by decide +kernel) rfl rfl ?_
        refine zBipush 40 40 48 (by decide +kernel) rfl (by decide) ?_
        refine zIcmp_ne 33 81 51 (by decide +kernel) rfl rfl ⟨fun q35 => ?_, fun q35 => ?_⟩
        · replace F := F.2 q35
          refine zAload_n 0 1 82 (by decide +kernel) rfl rfl ?_
          refine zIload_n 1 2 83 (by decide +kernel) rfl rfl ?_
          refine zIconst 1 1 84 (by decide +kernel) rfl (by decide) ?_
          refine zIadd 85 (by decide +kernel) rfl ?_
          refine zIconst 0 0 86 (by decide +kernel) rfl (by decide) ?_
          refine zCallV 3 zcls3 mX3_readUnit 52 2 0 0 _ _ 89 [.int (p1 + 1), .int (0)] [] okX3_readUnit mlX3_52 imX3_readUnit seX3_readUnit (by decide +kernel) rfl rfl (Nat.le_of_ble_eq_true rfl) rfl rfl (Lrd_0 S0_) (zC.mono F ?_)
          rintro _ _ ⟨x36, I37, rfl, rfl, F⟩
          change zV G (d + 1) mX3_readUnit kc ks 89 [(3, .int (x1)), (0, .ref (l)), (1, .int (p1)), (2, .int (p2))] [.int (x36)] (I37, J, R, K, n) Q
          refine zIf_eq 16 105 92 (by decide +kernel) rfl rfl ⟨fun q38 => ?_, fun q38 => ?_⟩
          · replace F := F.1 q38
            refine zIconst 0 0 106 (by decide +kernel) rfl (by decide) ?_
            exact zZret .boolean rfl (zNarZ (Or.inl rfl)) (by decide +kernel) F
          · replace F := F.2 q38
            refine zAload_n 0 1 93 (by decide +kernel) rfl rfl ?_
            refine zBipush (-33) (-33) 95 (by decide +kernel) rfl (by decide) ?_
            refine zCallV 3 zcls3 mX3_emit 34 1 0 0 _ _ 98 [.int ((-33))] [] okX3_emit mlX3_34 imX3_emit seX3_emit (by decide +kernel) rfl rfl (Nat.le_of_ble_eq_true rfl) rfl rfl (Lrd_0 S0_) (zC.mono F ?_)
            rintro _ _ ⟨x39, I40, rfl, rfl, F⟩
            change zV G (d + 1) mX3_readUnit kc ks 98 [(3, .int (x1)), (0, .ref (l)), (1, .int (p1)), (2, .int (p2))] [.int (x39)] (I40, J, R, K, n) Q
            suffices KK : zV G (d + 1) mX3_readUnit kc ks 106 [(3, .int (x1)), (0, .ref (l)), (1, .int (p1)), (2, .int (p2))] [.int ((if x39 = 0 then 0 else 1))] (I40, J, R, K, n) Q by
              refine zIf_eq 7 105 101 (by decide +kernel) rfl rfl ⟨fun q41 => ?_, fun q41 => ?_⟩
              · refine zIconst 0 0 106 (by decide +kernel) rfl (by decide) ?_
                exact zTop (by rw [if_pos q41]) KK
              · refine zIconst 1 1 102 (by decide +kernel) rfl (by decide) ?_
                refine zGoto 4 106 (by decide +kernel) rfl ?_
                exact zTop (by rw [if_neg q41]) KK
            exact zZret .boolean rfl (zNarZ (zOrIte (Or.inl rfl) (Or.inr rfl))) (by decide +kernel) F
        · replace F := F.1 q35
          refine zAload_n 0 1 52 (by decide +kernel) rfl rfl ?_
          refine zIconst 0 0 53 (by decide +kernel) rfl (by decide) ?_
          refine zIload_n 1 2 54 (by decide +kernel) rfl rfl ?_
          refine zIconst 1 1 55 (by decide +kernel) rfl (by decide) ?_
          refine zIadd 56 (by decide +kernel) rfl ?_
          refine zIconst 0 0 57 (by decide +kernel) rfl (by decide) ?_
          refine zCallV 3 zcls3 mX3_readRow 45 3 0 0 _ _ 60 [.int (0), .int (p1 + 1), .int (0)] [] okX3_readRow mlX3_45 imX3_readRow seX3_readRow (by decide +kernel) rfl rfl (Nat.le_of_ble_eq_true rfl) rfl rfl (Lrd_0 S0_) (zC.mono F ?_)
          rintro _ _ ⟨x42, I43, rfl, rfl, F⟩
          change zV G (d + 1) mX3_readUnit kc ks 60 [(3, .int (x1)), (0, .ref (l)), (1, .int (p1)), (2, .int (p2))] [.int (x42)] (I43, J, R, K, n) Q
          refine zIf_eq 19 79 63 (by decide +kernel) rfl rfl ⟨fun q44 => ?_, fun q44 => ?_⟩
          · replace F := F.1 q44
            refine zIconst 0 0 80 (by decide +kernel) rfl (by decide) ?_
            exact zZret .boolean rfl (zNarZ (Or.inl rfl)) (by decide +kernel) F
          · replace F := F.2 q44
            refine zAload_n 0 1 64 (by decide +kernel) rfl rfl ?_
            refine gf3_2 21 67 (by decide +kernel) rfl flX3_21 (Lrd_0 S0_) (Lrd_3 S0_) ?_
            refine zBipush 41 41 69 (by decide +kernel) rfl (by decide) ?_
            refine zCallV 9 zcls9 mX9_accept 42 1 0 0 _ _ 72 [.int (41)] [] okX9_accept mlX3_42 imX9_accept seX9_accept (by decide +kernel) rfl rfl (Nat.le_of_ble_eq_true rfl) rfl rfl (Tape_0 (Lrd_4 S0_)) (zC.mono F ?_)
            rintro _ _ ⟨x45, I46, rfl, rfl, F⟩
            change zV G (d + 1) mX3_readUnit kc ks 72 [(3, .int (x1)), (0, .ref (l)), (1, .int (p1)), (2, .int (p2))] [.int (x45)] (I46, J, R, K, n) Q
            suffices KK : zV G (d + 1) mX3_readUnit kc ks 80 [(3, .int (x1)), (0, .ref (l)), (1, .int (p1)), (2, .int (p2))] [.int ((if x45 = 0 then 0 else 1))] (I46, J, R, K, n) Q by
              refine zIf_eq 7 79 75 (by decide +kernel) rfl rfl ⟨fun q47 => ?_, fun q47 => ?_⟩
              · refine zIconst 0 0 80 (by decide +kernel) rfl (by decide) ?_
                exact zTop (by rw [if_pos q47]) KK
              · refine zIconst 1 1 76 (by decide +kernel) rfl (by decide) ?_
                refine zGoto 4 80 (by decide +kernel) rfl ?_
                exact zTop (by rw [if_neg q47]) KK
            exact zZret .boolean rfl (zNarZ (zOrIte (Or.inl rfl) (Or.inr rfl))) (by decide +kernel) F
      · replace F := F.2 q33
        refine zIconst 0 0 31 (by decide +kernel) rfl (by decide) ?_
        exact zZret .boolean rfl (zNarZ (Or.inl rfl)) (by decide +kernel) F
    · replace F := F.2 q32
      refine zIload_n 3 0 19 (by decide +kernel) rfl rfl ?_
      refine zBipush 40 40 21 (by decide +kernel) rfl (by decide) ?_
      refine zIcmp_ne 86 107 24 (by decide +kernel) rfl rfl ⟨fun q48 => ?_, fun q48 => ?_⟩
      · replace F := F.2 q48
        refine zIload_n 2 3 108 (by decide +kernel) rfl rfl ?_
        refine zIf_ne 15 123 111 (by decide +kernel) rfl rfl ⟨fun q49 => ?_, fun q49 => ?_⟩
        · replace F := F.2 q49
          refine zAload_n 0 1 124 (by decide +kernel) rfl rfl ?_
          refine gf3_2 21 127 (by decide +kernel) rfl flX3_21 (Lrd_0 S0_) (Lrd_3 S0_) ?_
          refine zCallV 9 zcls9 mX9_next 38 0 0 0 _ _ 130 [] [] okX9_next mlX3_38 imX9_next seX9_next (by decide +kernel) rfl rfl (Nat.le_of_ble_eq_true rfl) rfl rfl (Tape_0 (Lrd_4 S0_)) (zC.mono F ?_)
          rintro _ _ ⟨x50, I51, rfl, rfl, F⟩
          change zV G (d + 1) mX3_readUnit kc ks 130 [(3, .int (x1)), (0, .ref (l)), (1, .int (p1)), (2, .int (p2))] [.int (x50)] (I51, J, R, K, n) Q
          refine zIstore_n 3 [(3, .int (x50)), (0, .ref (l)), (1, .int (p1)), (2, .int (p2))] 131 (by decide +kernel) rfl (by decide) rfl ?_
          refine zIload_n 3 0 132 (by decide +kernel) rfl rfl ?_
          refine zCallS mX3_compares 49 1 0 0 _ _ 135 [.int (x50)] [] okX3_compares mlX3_49 smX3_compares (by decide +kernel) rfl rfl (Nat.le_of_ble_eq_true rfl) rfl rfl (zC.mono F ?_)
          rintro _ _ ⟨x52, I53, rfl, rfl, F⟩
          change zV G (d + 1) mX3_readUnit kc ks 135 [(3, .int (x50)), (0, .ref (l)), (1, .int (p1)), (2, .int (p2))] [.int (x52)] (I53, J, R, K, n) Q
          refine zIf_ne 5 140 138 (by decide +kernel) rfl rfl ⟨fun q54 => ?_, fun q54 => ?_⟩
          · replace F := F.2 q54
            refine zAload_n 0 1 141 (by decide +kernel) rfl rfl ?_
            refine gf3_2 21 144 (by decide +kernel) rfl flX3_21 (Lrd_0 S0_) (Lrd_3 S0_) ?_
            refine zDup 145 (by decide +kernel) rfl rfl ?_
            refine gf9_2 25 148 (by decide +kernel) rfl flX3_25 (Tape_0 (Lrd_4 S0_)) ?_
            refine zIconst 1 1 149 (by decide +kernel) rfl (by decide) ?_
            refine zIadd 150 (by decide +kernel) rfl ?_
            refine pf9_2 25 153 (by decide +kernel) rfl flX3_25 (Tape_0 (Lrd_4 S0_)) ?_
            replace F := F _ rfl
            generalize zU I53 t 2 ((I53 t 2) + 1) = I55 at F ⊢
            refine zAload_n 0 1 154 (by decide +kernel) rfl rfl ?_
            refine zIconst 2 2 155 (by decide +kernel) rfl (by decide) ?_
            refine zIload_n 1 2 156 (by decide +kernel) rfl rfl ?_
            refine zIconst 0 0 157 (by decide +kernel) rfl (by decide) ?_
            refine zCallV 3 zcls3 mX3_readRow 45 3 0 0 _ _ 160 [.int (2), .int (p1), .int (0)] [] okX3_readRow mlX3_45 imX3_readRow seX3_readRow (by decide +kernel) rfl rfl (Nat.le_of_ble_eq_true rfl) rfl rfl (Lrd_0 S0_) (zC.mono F ?_)
            rintro _ _ ⟨x56, I57, rfl, rfl, F⟩
            change zV G (d + 1) mX3_readUnit kc ks 160 [(3, .int (x50)), (0, .ref (l)), (1, .int (p1)), (2, .int (p2))] [.int (x56)] (I57, J, R, K, n) Q
            refine zIf_eq 16 176 163 (by decide +kernel) rfl rfl ⟨fun q58 => ?_, fun q58 => ?_⟩
            · replace F := F.1 q58
              refine zIconst 0 0 177 (by decide +kernel) rfl (by decide) ?_
              exact zZret .boolean rfl (zNarZ (Or.inl rfl)) (by decide +kernel) F
            · replace F := F.2 q58
              refine zAload_n 0 1 164 (by decide +kernel) rfl rfl ?_
              refine zIload_n 3 0 165 (by decide +kernel) rfl rfl ?_
              refine zIneg 166 (by decide +kernel) rfl ?_
              refine zCallV 3 zcls3 mX3_emit 34 1 0 0 _ _ 169 [.int (-x50)] [] okX3_emit mlX3_34 imX3_emit seX3_emit (by decide +kernel) rfl rfl (Nat.le_of_ble_eq_true rfl) rfl rfl (Lrd_0 S0_) (zC.mono F ?_)
              rintro _ _ ⟨x59, I60, rfl, rfl, F⟩
              change zV G (d + 1) mX3_readUnit kc ks 169 [(3, .int (x50)), (0, .ref (l)), (1, .int (p1)), (2, .int (p2))] [.int (x59)] (I60, J, R, K, n) Q
              suffices KK : zV G (d + 1) mX3_readUnit kc ks 177 [(3, .int (x50)), (0, .ref (l)), (1, .int (p1)), (2, .int (p2))] [.int ((if x59 = 0 then 0 else 1))] (I60, J, R, K, n) Q by
                refine zIf_eq 7 176 172 (by decide +kernel) rfl rfl ⟨fun q61 => ?_, fun q61 => ?_⟩
                · refine zIconst 0 0 177 (by decide +kernel) rfl (by decide) ?_
                  exact zTop (by rw [if_pos q61]) KK
                · refine zIconst 1 1 173 (by decide +kernel) rfl (by decide) ?_
                  refine zGoto 4 177 (by decide +kernel) rfl ?_
                  exact zTop (by rw [if_neg q61]) KK
              exact zZret .boolean rfl (zNarZ (zOrIte (Or.inl rfl) (Or.inr rfl))) (by decide +kernel) F
          · replace F := F.1 q54
            refine zIconst 0 0 139 (by decide +kernel) rfl (by decide) ?_
            exact zZret .boolean rfl (zNarZ (Or.inl rfl)) (by decide +kernel) F
        · replace F := F.1 q49
          refine zAload_n 0 1 112 (by decide +kernel) rfl rfl ?_
          refine zIconst 2 2 113 (by decide +kernel) rfl (by decide) ?_
          refine zIload_n 1 2 114 (by decide +kernel) rfl rfl ?_
          refine zIconst 0 0 115 (by decide +kernel) rfl (by decide) ?_
          refine zCallV 3 zcls3 mX3_readRow 45 3 0 0 _ _ 118 [.int (2), .int (p1), .int (0)] [] okX3_readRow mlX3_45 imX3_readRow seX3_readRow (by decide +kernel) rfl rfl (Nat.le_of_ble_eq_true rfl) rfl rfl (Lrd_0 S0_) (zC.mono F ?_)
          rintro _ _ ⟨x62, I63, rfl, rfl, F⟩
          change zV G (d + 1) mX3_readUnit kc ks 118 [(3, .int (x1)), (0, .ref (l)), (1, .int (p1)), (2, .int (p2))] [.int (x62)] (I63, J, R, K, n) Q
          refine zIf_ne 5 123 121 (by decide +kernel) rfl rfl ⟨fun q64 => ?_, fun q64 => ?_⟩
          · replace F := F.2 q64
            refine zAload_n 0 1 124 (by decide +kernel) rfl rfl ?_
            refine gf3_2 21 127 (by decide +kernel) rfl flX3_21 (Lrd_0 S0_) (Lrd_3 S0_) ?_
            refine zCallV 9 zcls9 mX9_next 38 0 0 0 _ _ 130 [] [] okX9_next mlX3_38 imX9_next seX9_next (by decide +kernel) rfl rfl (Nat.le_of_ble_eq_true rfl) rfl rfl (Tape_0 (Lrd_4 S0_)) (zC.mono F ?_)
            rintro _ _ ⟨x65, I66, rfl, rfl, F⟩
            change zV G (d + 1) mX3_readUnit kc ks 130 [(3, .int (x1)), (0, .ref (l)), (1, .int (p1)), (2, .int (p2))] [.int (x65)] (I66, J, R, K, n) Q
            refine zIstore_n 3 [(3, .int (x65)), (0, .ref (l)), (1, .int (p1)), (2, .int (p2))] 131 (by decide +kernel) rfl (by decide) rfl ?_
            refine zIload_n 3 0 132 (by decide +kernel) rfl rfl ?_
            refine zCallS mX3_compares 49 1 0 0 _ _ 135 [.int (x65)] [] okX3_compares mlX3_49 smX3_compares (by decide +kernel) rfl rfl (Nat.le_of_ble_eq_true rfl) rfl rfl (zC.mono F ?_)
            rintro _ _ ⟨x67, I68, rfl, rfl, F⟩
            change zV G (d + 1) mX3_readUnit kc ks 135 [(3, .int (x65)), (0, .ref (l)), (1, .int (p1)), (2, .int (p2))] [.int (x67)] (I68, J, R, K, n) Q
            refine zIf_ne 5 140 138 (by decide +kernel) rfl rfl ⟨fun q69 => ?_, fun q69 => ?_⟩
            · replace F := F.2 q69
              refine zAload_n 0 1 141 (by decide +kernel) rfl rfl ?_
              refine gf3_2 21 144 (by decide +kernel) rfl flX3_21 (Lrd_0 S0_) (Lrd_3 S0_) ?_
              refine zDup 145 (by decide +kernel) rfl rfl ?_
              refine gf9_2 25 148 (by decide +kernel) rfl flX3_25 (Tape_0 (Lrd_4 S0_)) ?_
              refine zIconst 1 1 149 (by decide +kernel) rfl (by decide) ?_
              refine zIadd 150 (by decide +kernel) rfl ?_
              refine pf9_2 25 153 (by decide +kernel) rfl flX3_25 (Tape_0 (Lrd_4 S0_)) ?_
              replace F := F _ rfl
              generalize zU I68 t 2 ((I68 t 2) + 1) = I70 at F ⊢
              refine zAload_n 0 1 154 (by decide +kernel) rfl rfl ?_
              refine zIconst 2 2 155 (by decide +kernel) rfl (by decide) ?_
              refine zIload_n 1 2 156 (by decide +kernel) rfl rfl ?_
              refine zIconst 0 0 157 (by decide +kernel) rfl (by decide) ?_
              refine zCallV 3 zcls3 mX3_readRow 45 3 0 0 _ _ 160 [.int (2), .int (p1), .int (0)] [] okX3_readRow mlX3_45 imX3_readRow seX3_readRow (by decide +kernel) rfl rfl (Nat.le_of_ble_eq_true rfl) rfl rfl (Lrd_0 S0_) (zC.mono F ?_)
              rintro _ _ ⟨x71, I72, rfl, rfl, F⟩
              change zV G (d + 1) mX3_readUnit kc ks 160 [(3, .int (x65)), (0, .ref (l)), (1, .int (p1)), (2, .int (p2))] [.int (x71)] (I72, J, R, K, n) Q
              refine zIf_eq 16 176 163 (by decide +kernel) rfl rfl ⟨fun q73 => ?_, fun q73 => ?_⟩
              · replace F := F.1 q73
                refine zIconst 0 0 177 (by decide +kernel) rfl (by decide) ?_
                exact zZret .boolean rfl (zNarZ (Or.inl rfl)) (by decide +kernel) F
              · replace F := F.2 q73
                refine zAload_n 0 1 164 (by decide +kernel) rfl rfl ?_
                refine zIload_n 3 0 165 (by decide +kernel) rfl rfl ?_
                refine zIneg 166 (by decide +kernel) rfl ?_
                refine zCallV 3 zcls3 mX3_emit 34 1 0 0 _ _ 169 [.int (-x65)] [] okX3_emit mlX3_34 imX3_emit seX3_emit (by decide +kernel) rfl rfl (Nat.le_of_ble_eq_true rfl) rfl rfl (Lrd_0 S0_) (zC.mono F ?_)
                rintro _ _ ⟨x74, I75, rfl, rfl, F⟩
                change zV G (d + 1) mX3_readUnit kc ks 169 [(3, .int (x65)), (0, .ref (l)), (1, .int (p1)), (2, .int (p2))] [.int (x74)] (I75, J, R, K, n) Q
                suffices KK : zV G (d + 1) mX3_readUnit kc ks 177 [(3, .int (x65)), (0, .ref (l)), (1, .int (p1)), (2, .int (p2))] [.int ((if x74 = 0 then 0 else 1))] (I75, J, R, K, n) Q by
                  refine zIf_eq 7 176 172 (by decide +kernel) rfl rfl ⟨fun q76 => ?_, fun q76 => ?_⟩
                  · refine zIconst 0 0 177 (by decide +kernel) rfl (by decide) ?_
                    exact zTop (by rw [if_pos q76]) KK
                  · refine zIconst 1 1 173 (by decide +kernel) rfl (by decide) ?_
                    refine zGoto 4 177 (by decide +kernel) rfl ?_
                    exact zTop (by rw [if_neg q76]) KK
                exact zZret .boolean rfl (zNarZ (zOrIte (Or.inl rfl) (Or.inr rfl))) (by decide +kernel) F
            · replace F := F.1 q69
              refine zIconst 0 0 139 (by decide +kernel) rfl (by decide) ?_
              exact zZret .boolean rfl (zNarZ (Or.inl rfl)) (by decide +kernel) F
          · replace F := F.1 q64
            refine zIconst 0 0 122 (by decide +kernel) rfl (by decide) ?_
            exact zZret .boolean rfl (zNarZ (Or.inl rfl)) (by decide +kernel) F
      · replace F := F.1 q48
        refine zIload_n 1 2 25 (by decide +kernel) rfl rfl ?_
        refine zBipush 6 6 27 (by decide +kernel) rfl (by decide) ?_
        refine zIcmp_lt 5 32 30 (by decide +kernel) rfl rfl ⟨fun q77 => ?_, fun q77 => ?_⟩
        · replace F := F.1 q77
          refine zAload_n 0 1 33 (by decide +kernel) rfl rfl ?_
          refine gf3_2 21 36 (by decide +kernel) rfl flX3_21 (Lrd_0 S0_) (Lrd_3 S0_) ?_
          refine zDup 37 (by decide +kernel) rfl rfl ?_
          refine gf9_2 25 40 (by decide +kernel) rfl flX3_25 (Tape_0 (Lrd_4 S0_)) ?_
          refine zIconst 1 1 41 (by decide +kernel) rfl (by decide) ?_
          refine zIadd 42 (by decide +kernel) rfl ?_
          refine pf9_2 25 45 (by decide +kernel) rfl flX3_25 (Tape_0 (Lrd_4 S0_)) ?_
          replace F := F _ rfl
          generalize zU I2 t 2 ((I2 t 2) + 1) = I78 at F ⊢
          refine zIload_n 3 0 46 (by decide +kernel) rfl rfl ?_
          refine zBipush 40 40 48 (by decide +kernel) rfl (by decide) ?_
          refine zIcmp_ne 33 81 51 (by decide +kernel) rfl rfl ⟨fun q79 => ?_, fun q79 => ?_⟩
          · replace F := F.2 q79
            refine zAload_n 0 1 82 (by decide +kernel) rfl rfl ?_
            refine zIload_n 1 2 83 (by decide +kernel) rfl rfl ?_
            refine zIconst 1 1 84 (by decide +kernel) rfl (by decide) ?_
            refine zIadd 85 (by decide +kernel) rfl ?_
            refine zIconst 0 0 86 (by decide +kernel) rfl (by decide) ?_
            refine zCallV 3 zcls3 mX3_readUnit 52 2 0 0 _ _ 89 [.int (p1 + 1), .int (0)] [] okX3_readUnit mlX3_52 imX3_readUnit seX3_readUnit (by decide +kernel) rfl rfl (Nat.le_of_ble_eq_true rfl) rfl rfl (Lrd_0 S0_) (zC.mono F ?_)
            rintro _ _ ⟨x80, I81, rfl, rfl, F⟩
            change zV G (d + 1) mX3_readUnit kc ks 89 [(3, .int (x1)), (0, .ref (l)), (1, .int (p1)), (2, .int (p2))] [.int (x80)] (I81, J, R, K, n) Q
            refine zIf_eq 16 105 92 (by decide +kernel) rfl rfl ⟨fun q82 => ?_, fun q82 => ?_⟩
            · replace F := F.1 q82
              refine zIconst 0 0 106 (by decide +kernel) rfl (by decide) ?_
              exact zZret .boolean rfl (zNarZ (Or.inl rfl)) (by decide +kernel) F
            · replace F := F.2 q82
              refine zAload_n 0 1 93 (by decide +kernel) rfl rfl ?_
              refine zBipush (-33) (-33) 95 (by decide +kernel) rfl (by decide) ?_
              refine zCallV 3 zcls3 mX3_emit 34 1 0 0 _ _ 98 [.int ((-33))] [] okX3_emit mlX3_34 imX3_emit seX3_emit (by decide +kernel) rfl rfl (Nat.le_of_ble_eq_true rfl) rfl rfl (Lrd_0 S0_) (zC.mono F ?_)
              rintro _ _ ⟨x83, I84, rfl, rfl, F⟩
              change zV G (d + 1) mX3_readUnit kc ks 98 [(3, .int (x1)), (0, .ref (l)), (1, .int (p1)), (2, .int (p2))] [.int (x83)] (I84, J, R, K, n) Q
              suffices KK : zV G (d + 1) mX3_readUnit kc ks 106 [(3, .int (x1)), (0, .ref (l)), (1, .int (p1)), (2, .int (p2))] [.int ((if x83 = 0 then 0 else 1))] (I84, J, R, K, n) Q by
                refine zIf_eq 7 105 101 (by decide +kernel) rfl rfl ⟨fun q85 => ?_, fun q85 => ?_⟩
                · refine zIconst 0 0 106 (by decide +kernel) rfl (by decide) ?_
                  exact zTop (by rw [if_pos q85]) KK
                · refine zIconst 1 1 102 (by decide +kernel) rfl (by decide) ?_
                  refine zGoto 4 106 (by decide +kernel) rfl ?_
                  exact zTop (by rw [if_neg q85]) KK
              exact zZret .boolean rfl (zNarZ (zOrIte (Or.inl rfl) (Or.inr rfl))) (by decide +kernel) F
          · replace F := F.1 q79
            refine zAload_n 0 1 52 (by decide +kernel) rfl rfl ?_
            refine zIconst 0 0 53 (by decide +kernel) rfl (by decide) ?_
            refine zIload_n 1 2 54 (by decide +kernel) rfl rfl ?_
            refine zIconst 1 1 55 (by decide +kernel) rfl (by decide) ?_
            refine zIadd 56 (by decide +kernel) rfl ?_
            refine zIconst 0 0 57 (by decide +kernel) rfl (by decide) ?_
            refine zCallV 3 zcls3 mX3_readRow 45 3 0 0 _ _ 60 [.int (0), .int (p1 + 1), .int (0)] [] okX3_readRow mlX3_45 imX3_readRow seX3_readRow (by decide +kernel) rfl rfl (Nat.le_of_ble_eq_true rfl) rfl rfl (Lrd_0 S0_) (zC.mono F ?_)
            rintro _ _ ⟨x86, I87, rfl, rfl, F⟩
            change zV G (d + 1) mX3_readUnit kc ks 60 [(3, .int (x1)), (0, .ref (l)), (1, .int (p1)), (2, .int (p2))] [.int (x86)] (I87, J, R, K, n) Q
            refine zIf_eq 19 79 63 (by decide +kernel) rfl rfl ⟨fun q88 => ?_, fun q88 => ?_⟩
            · replace F := F.1 q88
              refine zIconst 0 0 80 (by decide +kernel) rfl (by decide) ?_
              exact zZret .boolean rfl (zNarZ (Or.inl rfl)) (by decide +kernel) F
            · replace F := F.2 q88
              refine zAload_n 0 1 64 (by decide +kernel) rfl rfl ?_
              refine gf3_2 21 67 (by decide +kernel) rfl flX3_21 (Lrd_0 S0_) (Lrd_3 S0_) ?_
              refine zBipush 41 41 69 (by decide +kernel) rfl (by decide) ?_
              refine zCallV 9 zcls9 mX9_accept 42 1 0 0 _ _ 72 [.int (41)] [] okX9_accept mlX3_42 imX9_accept seX9_accept (by decide +kernel) rfl rfl (Nat.le_of_ble_eq_true rfl) rfl rfl (Tape_0 (Lrd_4 S0_)) (zC.mono F ?_)
              rintro _ _ ⟨x89, I90, rfl, rfl, F⟩
              change zV G (d + 1) mX3_readUnit kc ks 72 [(3, .int (x1)), (0, .ref (l)), (1, .int (p1)), (2, .int (p2))] [.int (x89)] (I90, J, R, K, n) Q
              suffices KK : zV G (d + 1) mX3_readUnit kc ks 80 [(3, .int (x1)), (0, .ref (l)), (1, .int (p1)), (2, .int (p2))] [.int ((if x89 = 0 then 0 else 1))] (I90, J, R, K, n) Q by
                refine zIf_eq 7 79 75 (by decide +kernel) rfl rfl ⟨fun q91 => ?_, fun q91 => ?_⟩
                · refine zIconst 0 0 80 (by decide +kernel) rfl (by decide) ?_
                  exact zTop (by rw [if_pos q91]) KK
                · refine zIconst 1 1 76 (by decide +kernel) rfl (by decide) ?_
                  refine zGoto 4 80 (by decide +kernel) rfl ?_
                  exact zTop (by rw [if_neg q91]) KK
              exact zZret .boolean rfl (zNarZ (zOrIte (Or.inl rfl) (Or.inr rfl))) (by decide +kernel) F
        · replace F := F.2 q77
          refine zIconst 0 0 31 (by decide +kernel) rfl (by decide) ?_
          exact zZret .boolean rfl (zNarZ (Or.inl rfl)) (by decide +kernel) F
set_option maxHeartbeats 2000000 in
theorem wX3_readAtom_0 {G : zG} {d kc ks : Nat} {I : Nat → Nat → Int32} {J : Nat → Nat → Int64} {R : Nat → Nat → Option Nat} {K : Nat → Nat × Nat} {n : Nat} {Q : Option Value → zH → Prop} (l t : Nat) (S0_ : hLrd G R K n l t) (p1 : Int32) (F : zC G d mX9_next 0 0 [.ref (t)] (I, J, R, K, n) (fun r h => ∃ (x1 : Int32) (I2 : Nat → Nat → Int32), r = some (.int x1) ∧ h = (I2, J, R, K, n) ∧ ((x1 = 91 → ((p1 < 6 → (∀ I27 : Nat → Nat → Int32, I27 = zU I2 t 2 ((I2 t 2) + 1) → zC G d mX3_readRow 0 0 [.ref (l), .int (2), .int (p1 + 1), .int (0)] (I27, J, R, K, n) (fun r h => ∃ (x28 : Int32) (I29 : Nat → Nat → Int32), r = some (.int x28) ∧ h = (I29, J, R, K, n) ∧ ((x28 = 0 → Q (some (.int (0))) (I29, J, R, K, n)) ∧ (¬ (x28 = 0) → zC G d mX9_accept 0 0 [.ref (t), .int (93)] (I29, J, R, K, n) (fun r h => ∃ (x31 : Int32) (I32 : Nat → Nat → Int32), r = some (.int x31) ∧ h = (I32, J, R, K, n) ∧ Q (some (.int ((if x31 = 0 then 0 else 1)))) (I32, J, R, K, n))))))) ∧ (¬ (p1 < 6) → Q (some (.int (0))) (I2, J, R, K, n)))) ∧ (¬ (x1 = 91) → ((x1 = (-1) → ((((-1) : Int32) = (-1) → zC G d mX9_number 0 0 [.ref (t), .int (4)] (I2, J, R, K, n) (fun r h => ∃ (x17 : Int32) (I18 : Nat → Nat → Int32), r = some (.int x17) ∧ h = (I18, J, R, K, n) ∧ ((x17 = (-1) → Q (some (.int (0))) (I18, J, R, K, n)) ∧ (¬ (x17 = (-1)) → zC G d mX3_emit 0 0 [.ref (l), .int (x17)] (I18, J, R, K, n) (fun r h => ∃ (x20 : Int32) (I21 : Nat → Nat → Int32), r = some (.int x20) ∧ h = (I21, J, R, K, n) ∧ Q (some (.int ((if x20 = 0 then 0 else 1)))) (I21, J, R, K, n)))))) ∧ (¬ (((-1) : Int32) = (-1)) → (∀ I23 : Nat → Nat → Int32, I23 = zU I2 t 2 ((I2 t 2) + 1) → zC G d mX3_emit 0 0 [.ref (l), .int (10000 + (-1))] (I23, J, R, K, n) (fun r h => ∃ (x24 : Int32) (I25 : Nat → Nat → Int32), r = some (.int x24) ∧ h = (I25, J, R, K, n) ∧ ((x24 = 0 ∨ x24 = 1) ∧ Q (some (.int (x24))) (I25, J, R, K, n))))))) ∧ (¬ (x1 = (-1)) → zC G d mJ0_indexOf_0f7a4 0 0 [.ref (G.2.2.2.1 3), .int ((x1.toUInt32 % 65536).toInt32)] (I2, J, R, K, n) (fun r h => ∃ (x5 : Int32), r = some (.int x5) ∧ h = (I2, J, R, K, n) ∧ ((x5 = (-1) → zC G d mX9_number 0 0 [.ref (t), .int (4)] (I2, J, R, K, n) (fun r h => ∃ (x7 : Int32) (I8 : Nat → Nat → Int32), r = some (.int x7) ∧ h = (I8, J, R, K, n) ∧ ((x7 = (-1) → Q (some (.int (0))) (I8, J, R, K, n)) ∧ (¬ (x7 = (-1)) → zC G d mX3_emit 0 0 [.ref (l), .int (x7)] (I8, J, R, K, n) (fun r h => ∃ (x10 : Int32) (I11 : Nat → Nat → Int32), r = some (.int x10) ∧ h = (I11, J, R, K, n) ∧ Q (some (.int ((if x10 = 0 then 0 else 1)))) (I11, J, R, K, n)))))) ∧ (¬ (x5 = (-1)) → (∀ I13 : Nat → Nat → Int32, I13 = zU I2 t 2 ((I2 t 2) + 1) → zC G d mX3_emit 0 0 [.ref (l), .int (10000 + x5)] (I13, J, R, K, n) (fun r h => ∃ (x14 : Int32) (I15 : Nat → Nat → Int32), r = some (.int x14) ∧ h = (I15, J, R, K, n) ∧ ((x14 = 0 ∨ x14 = 1) ∧ Q (some (.int (x14))) (I15, J, R, K, n))))))))))))) : zV G (d + 1) mX3_readAtom kc ks 0 [(0, .ref (l)), (1, .int (p1))] [] (I, J, R, K, n) Q := by
  refine zAload_n 0 0 1 (by decide +kernel) rfl rfl ?_
  refine gf3_2 21 4 (by decide +kernel) rfl flX3_21 (Lrd_0 S0_) (Lrd_3 S0_) ?_
  refine zCallV 9 zcls9 mX9_next 38 0 0 0 _ _ 7 [] [] okX9_next mlX3_38 imX9_next seX9_next (by decide +kernel) rfl rfl (Nat.le_of_ble_eq_true rfl) rfl rfl (Tape_0 (Lrd_4 S0_)) (zC.mono F ?_)
  rintro _ _ ⟨x1, I2, rfl, rfl, F⟩
  change zV G (d + 1) mX3_readAtom kc ks 7 [(0, .ref (l)), (1, .int (p1))] [.int (x1)] (I2, J, R, K, n) Q
  refine zIstore_n 2 [(2, .int (x1)), (0, .ref (l)), (1, .int (p1))] 8 (by decide +kernel) rfl (by decide) rfl ?_
  refine zIload_n 2 0 9 (by decide +kernel) rfl rfl ?_
  refine zBipush 91 91 11 (by decide +kernel) rfl (by decide) ?_
  refine zIcmp_ne 54 65 14 (by decide +kernel) rfl rfl ⟨fun q3 => ?_, fun q3 => ?_⟩
  · replace F := F.2 q3
    refine zIload_n 2 0 66 (by decide +kernel) rfl rfl ?_
    refine zIconst (-1) (-1) 67 (by decide +kernel) rfl (by decide) ?_
    refine zIcmp_ne 7 74 70 (by decide +kernel) rfl rfl ⟨fun q4 => ?_, fun q4 => ?_⟩
    · replace F := F.2 q4
      refine zLdcS 63 "kgnbld" 3 76 (by decide +kernel) rfl (by decide) ?_
      refine zIload_n 2 0 77 (by decide +kernel) rfl rfl ?_
      refine zI2c 78 (by decide +kernel) rfl ?_
      refine zCallStr 3 (by decide) mJ0_indexOf_0f7a4 65 1 0 0 _ _ 81 [.int ((x1.toUInt32 % 65536).toInt32)] [] okJ0_indexOf_0f7a4 mlX3_65 imJ0_indexOf_0f7a4 seJ0_indexOf_0f7a4 (by decide +kernel) rfl rfl (Nat.le_of_ble_eq_true rfl) rfl rfl (zC.mono F ?_)
      rintro _ _ ⟨x5, rfl, rfl, F⟩
      change zV G (d + 1) mX3_readAtom kc ks 81 [(2, .int (x1)), (0, .ref (l)), (1, .int (p1))] [.int (x5)] (I2, J, R, K, n) Q
      refine zIstore_n 3 [(3, .int (x5)), (2, .int (x1)), (0, .ref (l)), (1, .int (p1))] 82 (by decide +kernel) rfl (by decide) rfl ?_
      refine zIload_n 3 0 83 (by decide +kernel) rfl rfl ?_
      refine zIconst (-1) (-1) 84 (by decide +kernel) rfl (by decide) ?_
      refine zIcmp_eq 26 110 87 (by decide +kernel) rfl rfl ⟨fun q6 => ?_, fun q6 => ?_⟩
      · replace F := F.1 q6
        refine zAload_n 0 2 111 (by decide +kernel) rfl rfl ?_
        refine gf3_2 21 114 (by decide +kernel) rfl flX3_21 (Lrd_0 S0_) (Lrd_3 S0_) ?_
        refine zIconst 4 4 115 (by decide +kernel) rfl (by decide) ?_
        refine zCallV 9 zcls9 mX9_number 71 1 0 0 _ _ 118 [.int (4)] [] okX9_number mlX3_71 imX9_number seX9_number (by decide +kernel) rfl rfl (Nat.le_of_ble_eq_true rfl) rfl rfl (Tape_0 (Lrd_4 S0_)) (zC.mono F ?_)
        rintro _ _ ⟨x7, I8, rfl, rfl, F⟩
        change zV G (d + 1) mX3_readAtom kc ks 118 [(3, .int (x5)), (2, .int (x1)), (0, .ref (l)), (1, .int (p1))] [.int (x7)] (I8, J, R, K, n) Q
        refine zIstore 4 [(4, .int (x7)), (3, .int (x5)), (2, .int (x1)), (0, .ref (l)), (1, .int (p1))] 120 (by decide +kernel) rfl (by decide) rfl ?_
        refine zIload 4 0 122 (by decide +kernel) rfl rfl ?_
        refine zIconst (-1) (-1) 123 (by decide +kernel) rfl (by decide) ?_
        refine zIcmp_eq 16 139 126 (by decide +kernel) rfl rfl ⟨fun q9 => ?_, fun q9 => ?_⟩
        · replace F := F.1 q9
          refine zIconst 0 0 140 (by decide +kernel) rfl (by decide) ?_
          exact zZret .boolean rfl (zNarZ (Or.inl rfl)) (by decide +kernel) F
        · replace F := F.2 q9
          refine zAload_n 0 3 127 (by decide +kernel) rfl rfl ?_
          refine zIload 4 0 129 (by decide +kernel) rfl rfl ?_
          refine zCallV 3 zcls3 mX3_emit 34 1 0 0 _ _ 132 [.int (x7)] [] okX3_emit mlX3_34 imX3_emit seX3_emit (by decide +kernel) rfl rfl (Nat.le_of_ble_eq_true rfl) rfl rfl (Lrd_0 S0_) (zC.mono F ?_)
          rintro _ _ ⟨x10, I11, rfl, rfl, F⟩
          change zV G (d + 1) mX3_readAtom kc ks 132 [(4, .int (x7)), (3, .int (x5)), (2, .int (x1)), (0, .ref (l)), (1, .int (p1))] [.int (x10)] (I11, J, R, K, n) Q
          suffices KK : zV G (d + 1) mX3_readAtom kc ks 140 [(4, .int (x7)), (3, .int (x5)), (2, .int (x1)), (0, .ref (l)), (1, .int (p1))] [.int ((if x10 = 0 then 0 else 1))] (I11, J, R, K, n) Q by
            refine zIf_eq 7 139 135 (by decide +kernel) rfl rfl ⟨fun q12 => ?_, fun q12 => ?_⟩
            · refine zIconst 0 0 140 (by decide +kernel) rfl (by decide) ?_
              exact zTop (by rw [if_pos q12]) KK
            · refine zIconst 1 1 136 (by decide +kernel) rfl (by decide) ?_
              refine zGoto 4 140 (by decide +kernel) rfl ?_
              exact zTop (by rw [if_neg q12]) KK
          exact zZret .boolean rfl (zNarZ (zOrIte (Or.inl rfl) (Or.inr rfl))) (by decide +kernel) F
      · replace F := F.2 q6
        refine zAload_n 0 2 88 (by decide +kernel) rfl rfl ?_
        refine gf3_2 21 91 (by decide +kernel) rfl flX3_21 (Lrd_0 S0_) (Lrd_3 S0_) ?_
        refine zDup 92 (by decide +kernel) rfl rfl ?_
        refine gf9_2 25 95 (by decide +kernel) rfl flX3_25 (Tape_0 (Lrd_4 S0_)) ?_
        refine zIconst 1 1 96 (by decide +kernel) rfl (by decide) ?_
        refine zIadd 97 (by decide +kernel) rfl ?_
        refine pf9_2 25 100 (by decide +kernel) rfl flX3_25 (Tape_0 (Lrd_4 S0_)) ?_
        replace F := F _ rfl
        generalize zU I2 t 2 ((I2 t 2) + 1) = I13 at F ⊢
        refine zAload_n 0 2 101 (by decide +kernel) rfl rfl ?_
        refine zSipush 10000 10000 104 (by decide +kernel) rfl (by decide) ?_
        refine zIload_n 3 0 105 (by decide +kernel) rfl rfl ?_
        refine zIadd 106 (by decide +kernel) rfl ?_
        refine zCallV 3 zcls3 mX3_emit 34 1 0 0 _ _ 109 [.int (10000 + x5)] [] okX3_emit mlX3_34 imX3_emit seX3_emit (by decide +kernel) rfl rfl (Nat.le_of_ble_eq_true rfl) rfl rfl (Lrd_0 S0_) (zC.mono F ?_)
        rintro _ _ ⟨x14, I15, rfl, rfl, F⟩
        change zV G (d + 1) mX3_readAtom kc ks 109 [(3, .int (x5)), (2, .int (x1)), (0, .ref (l)), (1, .int (p1))] [.int (x14)] (I15, J, R, K, n) Q
        exact zZret .boolean rfl (zNarZ F.1) (by decide +kernel) F.2
    · replace F := F.1 q4
      refine zIconst (-1) (-1) 71 (by decide +kernel) rfl (by decide) ?_
      refine zGoto 10 81 (by decide +kernel) rfl ?_
      refine zIstore_n 3 [(3, .int ((-1))), (2, .int (x1)), (0, .ref (l)), (1, .int (p1))] 82 (by decide +kernel) rfl (by decide) rfl ?_
      refine zIload_n 3 0 83 (by decide +kernel) rfl rfl ?_
      refine zIconst (-1) (-1) 84 (by decide +kernel) rfl (by decide) ?_
      refine zIcmp_eq 26 110 87 (by decide +kernel) rfl rfl ⟨fun q16 => ?_, fun q16 => ?_⟩
      · replace F := F.1 q16
        refine zAload_n 0 2 111 (by decide +kernel) rfl rfl ?_
        refine gf3_2 21 114 (by decide +kernel) rfl flX3_21 (Lrd_0 S0_) (Lrd_3 S0_) ?_
        refine zIconst 4 4 115 (by decide +kernel) rfl (by decide) ?_
        refine zCallV 9 zcls9 mX9_number 71 1 0 0 _ _ 118 [.int (4)] [] okX9_number mlX3_71 imX9_number seX9_number (by decide +kernel) rfl rfl (Nat.le_of_ble_eq_true rfl) rfl rfl (Tape_0 (Lrd_4 S0_)) (zC.mono F ?_)
        rintro _ _ ⟨x17, I18, rfl, rfl, F⟩
        change zV G (d + 1) mX3_readAtom kc ks 118 [(3, .int ((-1))), (2, .int (x1)), (0, .ref (l)), (1, .int (p1))] [.int (x17)] (I18, J, R, K, n) Q
        refine zIstore 4 [(4, .int (x17)), (3, .int ((-1))), (2, .int (x1)), (0, .ref (l)), (1, .int (p1))] 120 (by decide +kernel) rfl (by decide) rfl ?_
        refine zIload 4 0 122 (by decide +kernel) rfl rfl ?_
        refine zIconst (-1) (-1) 123 (by decide +kernel) rfl (by decide) ?_
        refine zIcmp_eq 16 139 126 (by decide +kernel) rfl rfl ⟨fun q19 => ?_, fun q19 => ?_⟩
        · replace F := F.1 q19
          refine zIconst 0 0 140 (by decide +kernel) rfl (by decide) ?_
          exact zZret .boolean rfl (zNarZ (Or.inl rfl)) (by decide +kernel) F
        · replace F := F.2 q19
          refine zAload_n 0 3 127 (by decide +kernel) rfl rfl ?_
          refine zIload 4 0 129 (by decide +kernel) rfl rfl ?_
          refine zCallV 3 zcls3 mX3_emit 34 1 0 0 _ _ 132 [.int (x17)] [] okX3_emit mlX3_34 imX3_emit seX3_emit (by decide +kernel) rfl rfl (Nat.le_of_ble_eq_true rfl) rfl rfl (Lrd_0 S0_) (zC.mono F ?_)
          rintro _ _ ⟨x20, I21, rfl, rfl, F⟩
          change zV G (d + 1) mX3_readAtom kc ks 132 [(4, .int (x17)), (3, .int ((-1))), (2, .int (x1)), (0, .ref (l)), (1, .int (p1))] [.int (x20)] (I21, J, R, K, n) Q
          suffices KK : zV G (d + 1) mX3_readAtom kc ks 140 [(4, .int (x17)), (3, .int ((-1))), (2, .int (x1)), (0, .ref (l)), (1, .int (p1))] [.int ((if x20 = 0 then 0 else 1))] (I21, J, R, K, n) Q by
            refine zIf_eq 7 139 135 (by decide +kernel) rfl rfl ⟨fun q22 => ?_, fun q22 => ?_⟩
            · refine zIconst 0 0 140 (by decide +kernel) rfl (by decide) ?_
              exact zTop (by rw [if_pos q22]) KK
            · refine zIconst 1 1 136 (by decide +kernel) rfl (by decide) ?_
              refine zGoto 4 140 (by decide +kernel) rfl ?_
              exact zTop (by rw [if_neg q22]) KK
          exact zZret .boolean rfl (zNarZ (zOrIte (Or.inl rfl) (Or.inr rfl))) (by decide +kernel) F
      · replace F := F.2 q16
        refine zAload_n 0 2 88 (by decide +kernel) rfl rfl ?_
        refine gf3_2 21 91 (by decide +kernel) rfl flX3_21 (Lrd_0 S0_) (Lrd_3 S0_) ?_
        refine zDup 92 (by decide +kernel) rfl rfl ?_
        refine gf9_2 25 95 (by decide +kernel) rfl flX3_25 (Tape_0 (Lrd_4 S0_)) ?_
        refine zIconst 1 1 96 (by decide +kernel) rfl (by decide) ?_
        refine zIadd 97 (by decide +kernel) rfl ?_
        refine pf9_2 25 100 (by decide +kernel) rfl flX3_25 (Tape_0 (Lrd_4 S0_)) ?_
        replace F := F _ rfl
        generalize zU I2 t 2 ((I2 t 2) + 1) = I23 at F ⊢
        refine zAload_n 0 2 101 (by decide +kernel) rfl rfl ?_
        refine zSipush 10000 10000 104 (by decide +kernel) rfl (by decide) ?_
        refine zIload_n 3 0 105 (by decide +kernel) rfl rfl ?_
        refine zIadd 106 (by decide +kernel) rfl ?_
        refine zCallV 3 zcls3 mX3_emit 34 1 0 0 _ _ 109 [.int (10000 + (-1))] [] okX3_emit mlX3_34 imX3_emit seX3_emit (by decide +kernel) rfl rfl (Nat.le_of_ble_eq_true rfl) rfl rfl (Lrd_0 S0_) (zC.mono F ?_)
        rintro _ _ ⟨x24, I25, rfl, rfl, F⟩
        change zV G (d + 1) mX3_readAtom kc ks 109 [(3, .int ((-1))), (2, .int (x1)), (0, .ref (l)), (1, .int (p1))] [.int (x24)] (I25, J, R, K, n) Q
        exact zZret .boolean rfl (zNarZ F.1) (by decide +kernel) F.2
  · replace F := F.1 q3
    refine zIload_n 1 2 15 (by decide +kernel) rfl rfl ?_
    refine zBipush 6 6 17 (by decide +kernel) rfl (by decide) ?_
    refine zIcmp_lt 5 22 20 (by decide +kernel) rfl rfl ⟨fun q26 => ?_, fun q26 => ?_⟩
    · replace F := F.1 q26
      refine zAload_n 0 1 23 (by decide +kernel) rfl rfl ?_
      refine gf3_2 21 26 (by decide +kernel) rfl flX3_21 (Lrd_0 S0_) (Lrd_3 S0_) ?_
      refine zDup 27 (by decide +kernel) rfl rfl ?_
      refine gf9_2 25 30 (by decide +kernel) rfl flX3_25 (Tape_0 (Lrd_4 S0_)) ?_
      refine zIconst 1 1 31 (by decide +kernel) rfl (by decide) ?_
      refine zIadd 32 (by decide +kernel) rfl ?_
      refine pf9_2 25 35 (by decide +kernel) rfl flX3_25 (Tape_0 (Lrd_4 S0_)) ?_
      replace F := F _ rfl
      generalize zU I2 t 2 ((I2 t 2) + 1) = I27 at F ⊢
      refine zAload_n 0 1 36 (by decide +kernel) rfl rfl ?_
      refine zIconst 2 2 37 (by decide +kernel) rfl (by decide) ?_
      refine zIload_n 1 2 38 (by decide +kernel) rfl rfl ?_
      refine zIconst 1 1 39 (by decide +kernel) rfl (by decide) ?_
      refine zIadd 40 (by decide +kernel) rfl ?_
      refine zIconst 0 0 41 (by decide +kernel) rfl (by decide) ?_
      refine zCallV 3 zcls3 mX3_readRow 45 3 0 0 _ _ 44 [.int (2), .int (p1 + 1), .int (0)] [] okX3_readRow mlX3_45 imX3_readRow seX3_readRow (by decide +kernel) rfl rfl (Nat.le_of_ble_eq_true rfl) rfl rfl (Lrd_0 S0_) (zC.mono F ?_)
      rintro _ _ ⟨x28, I29, rfl, rfl, F⟩
      change zV G (d + 1) mX3_readAtom kc ks 44 [(2, .int (x1)), (0, .ref (l)), (1, .int (p1))] [.int (x28)] (I29, J, R, K, n) Q
      refine zIf_eq 19 63 47 (by decide +kernel) rfl rfl ⟨fun q30 => ?_, fun q30 => ?_⟩
      · replace F := F.1 q30
        refine zIconst 0 0 64 (by decide +kernel) rfl (by decide) ?_
        exact zZret .boolean rfl (zNarZ (Or.inl rfl)) (by decide +kernel) F
      · replace F := F.2 q30
        refine zAload_n 0 1 48 (by decide +kernel) rfl rfl ?_
        refine gf3_2 21 51 (by decide +kernel) rfl flX3_21 (Lrd_0 S0_) (Lrd_3 S0_) ?_
        refine zBipush 93 93 53 (by decide +kernel) rfl (by decide) ?_
        refine zCallV 9 zcls9 mX9_accept 42 1 0 0 _ _ 56 [.int (93)] [] okX9_accept mlX3_42 imX9_accept seX9_accept (by decide +kernel) rfl rfl (Nat.le_of_ble_eq_true rfl) rfl rfl (Tape_0 (Lrd_4 S0_)) (zC.mono F ?_)
        rintro _ _ ⟨x31, I32, rfl, rfl, F⟩
        change zV G (d + 1) mX3_readAtom kc ks 56 [(2, .int (x1)), (0, .ref (l)), (1, .int (p1))] [.int (x31)] (I32, J, R, K, n) Q
        suffices KK : zV G (d + 1) mX3_readAtom kc ks 64 [(2, .int (x1)), (0, .ref (l)), (1, .int (p1))] [.int ((if x31 = 0 then 0 else 1))] (I32, J, R, K, n) Q by
          refine zIf_eq 7 63 59 (by decide +kernel) rfl rfl ⟨fun q33 => ?_, fun q33 => ?_⟩
          · refine zIconst 0 0 64 (by decide +kernel) rfl (by decide) ?_
            exact zTop (by rw [if_pos q33]) KK
          · refine zIconst 1 1 60 (by decide +kernel) rfl (by decide) ?_
            refine zGoto 4 64 (by decide +kernel) rfl ?_
            exact zTop (by rw [if_neg q33]) KK
        exact zZret .boolean rfl (zNarZ (zOrIte (Or.inl rfl) (Or.inr rfl))) (by decide +kernel) F
    · replace F := F.2 q26
      refine zIconst 0 0 21 (by decide +kernel) rfl (by decide) ?_
      exact zZret .boolean rfl (zNarZ (Or.inl rfl)) (by decide +kernel) F
set_option maxHeartbeats 2000000 in
theorem wX3_emit_0 {G : zG} {d kc ks : Nat} {I : Nat → Nat → Int32} {J : Nat → Nat → Int64} {R : Nat → Nat → Option Nat} {K : Nat → Nat × Nat} {n : Nat} {Q : Option Value → zH → Prop} (l t : Nat) (S0_ : hLrd G R K n l t) (p1 : Int32) (F : (((I l 1 : Int32) < (nI 240 : Int32) → (vp_in (I l 1) 240 ∧ ∀ I2 : Nat → Nat → Int32, I2 = zU I (l + 1) (I l 1 : Int32).toNatClampNeg (p1) → (∀ I3 : Nat → Nat → Int32, I3 = zU I2 l 1 ((I2 l 1) + 1) → Q (some (.int (1))) (I3, J, R, K, n)))) ∧ (¬ ((I l 1 : Int32) < (nI 240 : Int32)) → Q (some (.int (0))) (I, J, R, K, n)))) : zV G (d + 1) mX3_emit kc ks 0 [(0, .ref (l)), (1, .int (p1))] [] (I, J, R, K, n) Q := by
  refine zAload_n 0 0 1 (by decide +kernel) rfl rfl ?_
  refine gf3_1 17 4 (by decide +kernel) rfl flX3_17 (Lrd_0 S0_) ?_
  refine zAload_n 0 0 5 (by decide +kernel) rfl rfl ?_
  refine gf3_0 11 8 (by decide +kernel) rfl flX3_11 (Lrd_0 S0_) (Lrd_1 S0_) ?_
  refine yAlenI 32 240 9 (by decide +kernel) rfl (by decide) (by decide) (Lrd_2 S0_) ?_
  refine zIcmp_lt 5 14 12 (by decide +kernel) rfl rfl ⟨fun q1 => ?_, fun q1 => ?_⟩
  · replace F := F.1 q1
    refine zAload_n 0 0 15 (by decide +kernel) rfl rfl ?_
    refine gf3_0 11 18 (by decide +kernel) rfl flX3_11 (Lrd_0 S0_) (Lrd_1 S0_) ?_
    refine zAload_n 0 0 19 (by decide +kernel) rfl rfl ?_
    refine gf3_1 17 22 (by decide +kernel) rfl flX3_17 (Lrd_0 S0_) ?_
    refine zIload_n 1 1 23 (by decide +kernel) rfl rfl ?_
    refine yIastore 240 24 (by decide +kernel) rfl (Lrd_2 S0_) F.1 ?_
    replace F := F.2 _ rfl
    generalize zU I (l + 1) (I l 1 : Int32).toNatClampNeg (p1) = I2 at F ⊢
    refine zAload_n 0 0 25 (by decide +kernel) rfl rfl ?_
    refine zDup 26 (by decide +kernel) rfl rfl ?_
    refine gf3_1 17 29 (by decide +kernel) rfl flX3_17 (Lrd_0 S0_) ?_
    refine zIconst 1 1 30 (by decide +kernel) rfl (by decide) ?_
    refine zIadd 31 (by decide +kernel) rfl ?_
    refine pf3_1 17 34 (by decide +kernel) rfl flX3_17 (Lrd_0 S0_) ?_
    replace F := F _ rfl
    generalize zU I2 l 1 ((I2 l 1) + 1) = I3 at F ⊢
    refine zIconst 1 1 35 (by decide +kernel) rfl (by decide) ?_
    exact zZret .boolean rfl (zNarZ (Or.inr rfl)) (by decide +kernel) F
  · replace F := F.2 q1
    refine zIconst 0 0 13 (by decide +kernel) rfl (by decide) ?_
    exact zZret .boolean rfl (zNarZ (Or.inl rfl)) (by decide +kernel) F
set_option maxHeartbeats 2000000 in
theorem wX3_compares_0 {G : zG} {d kc ks : Nat} {I : Nat → Nat → Int32} {J : Nat → Nat → Int64} {R : Nat → Nat → Option Nat} {K : Nat → Nat × Nat} {n : Nat} {Q : Option Value → zH → Prop}  (p0 : Int32) (F : Q (some (.int ((if p0 = 61 then 1 else (if p0 = 60 then 1 else (if p0 = 62 then 1 else 0)))))) (I, J, R, K, n)) : zV G (d + 1) mX3_compares kc ks 0 [(0, .int (p0))] [] (I, J, R, K, n) Q := by
  refine zIload_n 0 0 1 (by decide +kernel) rfl rfl ?_
  refine zBipush 61 61 3 (by decide +kernel) rfl (by decide) ?_
  suffices KK : zV G (d + 1) mX3_compares kc ks 23 [(0, .int (p0))] [.int ((if p0 = 61 then 1 else (if p0 = 60 then 1 else (if p0 = 62 then 1 else 0))))] (I, J, R, K, n) Q by
    refine zIcmp_eq 15 18 6 (by decide +kernel) rfl rfl ⟨fun q1 => ?_, fun q1 => ?_⟩
    · refine zIconst 1 1 19 (by decide +kernel) rfl (by decide) ?_
      refine zGoto 4 23 (by decide +kernel) rfl ?_
      exact zTop (by rw [if_pos q1]) KK
    · refine zIload_n 0 0 7 (by decide +kernel) rfl rfl ?_
      refine zBipush 60 60 9 (by decide +kernel) rfl (by decide) ?_
      refine zIcmp_eq 9 18 12 (by decide +kernel) rfl rfl ⟨fun q2 => ?_, fun q2 => ?_⟩
      · refine zIconst 1 1 19 (by decide +kernel) rfl (by decide) ?_
        refine zGoto 4 23 (by decide +kernel) rfl ?_
        exact zTop (by rw [if_neg q1, if_pos q2]) KK
      · refine zIload_n 0 0 13 (by decide +kernel) rfl rfl ?_
        refine zBipush 62 62 15 (by decide +kernel) rfl (by decide) ?_
        refine zIcmp_ne 7 22 18 (by decide +kernel) rfl rfl ⟨fun q3 => ?_, fun q3 => ?_⟩
        · refine zIconst 0 0 23 (by decide +kernel) rfl (by decide) ?_
          exact zTop (by rw [if_neg q1, if_neg q2, if_neg q3]) KK
        · refine zIconst 1 1 19 (by decide +kernel) rfl (by decide) ?_
          refine zGoto 4 23 (by decide +kernel) rfl ?_
          exact zTop (by rw [if_neg q1, if_neg q2, if_pos q3]) KK
  exact zZret .boolean rfl (zNarZ (zOrIte (Or.inr rfl) (zOrIte (Or.inr rfl) (zOrIte (Or.inr rfl) (Or.inl rfl))))) (by decide +kernel) F
set_option maxHeartbeats 2000000 in
theorem wX3_joins_0 {G : zG} {d kc ks : Nat} {I : Nat → Nat → Int32} {J : Nat → Nat → Int64} {R : Nat → Nat → Option Nat} {K : Nat → Nat × Nat} {n : Nat} {Q : Option Value → zH → Prop}  (p0 p1 : Int32) (F : ((p0 = 0 → Q (some (.int ((if p1 = 124 then 1 else 0)))) (I, J, R, K, n)) ∧ (p0 = 1 → Q (some (.int ((if p1 = 38 then 1 else 0)))) (I, J, R, K, n)) ∧ (p0 = 2 → Q (some (.int ((if p1 = 43 then 1 else (if p1 = 45 then 1 else 0))))) (I, J, R, K, n)) ∧ (¬ p0 = 0 → ¬ p0 = 1 → ¬ p0 = 2 → Q (some (.int ((if p1 = 42 then 1 else (if p1 = 47 then 1 else 0))))) (I, J, R, K, n)))) : zV G (d + 1) mX3_joins kc ks 0 [(0, .int (p0)), (1, .int (p1))] [] (I, J, R, K, n) Q := by
  refine zIload_n 0 0 1 (by decide +kernel) rfl rfl ?_
  by_cases q1 : p0 = 0
  · replace F := F.1 q1
    have zt := zEqT q1 (show (0 : Int32).toInt = 0 by decide)
    refine zTableIn 69 0 2 #[27, 39, 51] 27 27 28 (by decide +kernel) (by omega) (by omega) (by rw [zt]; decide) rfl ?_
    refine zIload_n 1 1 29 (by decide +kernel) rfl rfl ?_
    refine zBipush 124 124 31 (by decide +kernel) rfl (by decide) ?_
    suffices KK : zV G (d + 1) mX3_joins kc ks 39 [(0, .int (p0)), (1, .int (p1))] [.int ((if p1 = 124 then 1 else 0))] (I, J, R, K, n) Q by
      refine zIcmp_ne 7 38 34 (by decide +kernel) rfl rfl ⟨fun q2 => ?_, fun q2 => ?_⟩
      · refine zIconst 0 0 39 (by decide +kernel) rfl (by decide) ?_
        exact zTop (by rw [if_neg q2]) KK
      · refine zIconst 1 1 35 (by decide +kernel) rfl (by decide) ?_
        refine zGoto 4 39 (by decide +kernel) rfl ?_
        exact zTop (by rw [if_pos q2]) KK
    exact zZret .boolean rfl (zNarZ (zOrIte (Or.inr rfl) (Or.inl rfl))) (by decide +kernel) F
  · skip
    by_cases q3 : p0 = 1
    · replace F := F.2.1 q3
      have zt := zEqT q3 (show (1 : Int32).toInt = 1 by decide)
      refine zTableIn 69 0 2 #[27, 39, 51] 27 39 40 (by decide +kernel) (by omega) (by omega) (by rw [zt]; decide) rfl ?_
      refine zIload_n 1 1 41 (by decide +kernel) rfl rfl ?_
      refine zBipush 38 38 43 (by decide +kernel) rfl (by decide) ?_
      suffices KK : zV G (d + 1) mX3_joins kc ks 51 [(0, .int (p0)), (1, .int (p1))] [.int ((if p1 = 38 then 1 else 0))] (I, J, R, K, n) Q by
        refine zIcmp_ne 7 50 46 (by decide +kernel) rfl rfl ⟨fun q4 => ?_, fun q4 => ?_⟩
        · refine zIconst 0 0 51 (by decide +kernel) rfl (by decide) ?_
          exact zTop (by rw [if_neg q4]) KK
        · refine zIconst 1 1 47 (by decide +kernel) rfl (by decide) ?_
          refine zGoto 4 51 (by decide +kernel) rfl ?_
          exact zTop (by rw [if_pos q4]) KK
      exact zZret .boolean rfl (zNarZ (zOrIte (Or.inr rfl) (Or.inl rfl))) (by decide +kernel) F
    · skip
      by_cases q5 : p0 = 2
      · replace F := F.2.2.1 q5
        have zt := zEqT q5 (show (2 : Int32).toInt = 2 by decide)
        refine zTableIn 69 0 2 #[27, 39, 51] 27 51 52 (by decide +kernel) (by omega) (by omega) (by rw [zt]; decide) rfl ?_
        refine zIload_n 1 1 53 (by decide +kernel) rfl rfl ?_
        refine zBipush 43 43 55 (by decide +kernel) rfl (by decide) ?_
        suffices KK : zV G (d + 1) mX3_joins kc ks 69 [(0, .int (p0)), (1, .int (p1))] [.int ((if p1 = 43 then 1 else (if p1 = 45 then 1 else 0)))] (I, J, R, K, n) Q by
          refine zIcmp_eq 9 64 58 (by decide +kernel) rfl rfl ⟨fun q6 => ?_, fun q6 => ?_⟩
          · refine zIconst 1 1 65 (by decide +kernel) rfl (by decide) ?_
            refine zGoto 4 69 (by decide +kernel) rfl ?_
            exact zTop (by rw [if_pos q6]) KK
          · refine zIload_n 1 1 59 (by decide +kernel) rfl rfl ?_
            refine zBipush 45 45 61 (by decide +kernel) rfl (by decide) ?_
            refine zIcmp_ne 7 68 64 (by decide +kernel) rfl rfl ⟨fun q7 => ?_, fun q7 => ?_⟩
            · refine zIconst 0 0 69 (by decide +kernel) rfl (by decide) ?_
              exact zTop (by rw [if_neg q6, if_neg q7]) KK
            · refine zIconst 1 1 65 (by decide +kernel) rfl (by decide) ?_
              refine zGoto 4 69 (by decide +kernel) rfl ?_
              exact zTop (by rw [if_neg q6, if_pos q7]) KK
        exact zZret .boolean rfl (zNarZ (zOrIte (Or.inr rfl) (zOrIte (Or.inr rfl) (Or.inl rfl)))) (by decide +kernel) F
      · skip
        replace F := F.2.2.2 q1 q3 q5
        have zq1 := zNeT q1 (show (0 : Int32).toInt = 0 by decide)
        have zq3 := zNeT q3 (show (1 : Int32).toInt = 1 by decide)
        have zq5 := zNeT q5 (show (2 : Int32).toInt = 2 by decide)
        refine zTableOut 69 0 2 #[27, 39, 51] 27 70 (by decide +kernel) (by omega) rfl ?_
        refine zIload_n 1 1 71 (by decide +kernel) rfl rfl ?_
        refine zBipush 42 42 73 (by decide +kernel) rfl (by decide) ?_
        suffices KK : zV G (d + 1) mX3_joins kc ks 87 [(0, .int (p0)), (1, .int (p1))] [.int ((if p1 = 42 then 1 else (if p1 = 47 then 1 else 0)))] (I, J, R, K, n) Q by
          refine zIcmp_eq 9 82 76 (by decide +kernel) rfl rfl ⟨fun q8 => ?_, fun q8 => ?_⟩
          · refine zIconst 1 1 83 (by decide +kernel) rfl (by decide) ?_
            refine zGoto 4 87 (by decide +kernel) rfl ?_
            exact zTop (by rw [if_pos q8]) KK
          · refine zIload_n 1 1 77 (by decide +kernel) rfl rfl ?_
            refine zBipush 47 47 79 (by decide +kernel) rfl (by decide) ?_
            refine zIcmp_ne 7 86 82 (by decide +kernel) rfl rfl ⟨fun q9 => ?_, fun q9 => ?_⟩
            · refine zIconst 0 0 87 (by decide +kernel) rfl (by decide) ?_
              exact zTop (by rw [if_neg q8, if_neg q9]) KK
            · refine zIconst 1 1 83 (by decide +kernel) rfl (by decide) ?_
              refine zGoto 4 87 (by decide +kernel) rfl ?_
              exact zTop (by rw [if_neg q8, if_pos q9]) KK
        exact zZret .boolean rfl (zNarZ (zOrIte (Or.inr rfl) (zOrIte (Or.inr rfl) (Or.inl rfl)))) (by decide +kernel) F
