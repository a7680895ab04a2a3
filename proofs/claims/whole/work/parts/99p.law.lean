/-! THE LAW, its loop: text may change the longs -/
set_option maxHeartbeats 20000000 in
set_option maxRecDepth 100000 in
theorem wM_law_23 {G : zG} {d kc ks : Nat} {I : Nat → Nat → Int32} {J : Nat → Nat → Int64} {R : Nat → Nat → Option Nat} {K : Nat → Nat × Nat} {n : Nat} {Q : Option Value → zH → Prop} (x v w q m t c o : Nat) (S0_ : hX G R K n x v w q) (S1_ : hMod G R K n m t c) (S2_ : hOut G R K n o) (l4 : Int32) (F : ((((nI G.2.2.2.2.2.2.1) - 6 : Int32) < l4 → Q (some (.int (1))) (I, J, R, K, n)) ∧ (¬ (((nI G.2.2.2.2.2.2.1) - 6 : Int32) < l4) → ((vp_in l4 G.2.2.2.2.2.2.1) ∧ ((((G.2.2.2.2.2.2.2 l4.toNatClampNeg) &&& 63) = 0 → ((vp_in (l4 + 1) G.2.2.2.2.2.2.1) ∧ ((vp_in (l4 + 2) G.2.2.2.2.2.2.1) ∧ ((vp_in (l4 + 3) G.2.2.2.2.2.2.1) ∧ ((vp_in (l4 + 4) G.2.2.2.2.2.2.1) ∧ ((vp_in (l4 + 5) G.2.2.2.2.2.2.1) ∧ zC G d mX11_feed 0 0 [.ref (x), .int (G.2.2.2.2.2.2.2 (l4 + 1 : Int32).toNatClampNeg), .int (G.2.2.2.2.2.2.2 (l4 + 2 : Int32).toNatClampNeg), .int (G.2.2.2.2.2.2.2 (l4 + 3 : Int32).toNatClampNeg), .int (G.2.2.2.2.2.2.2 (l4 + 4 : Int32).toNatClampNeg), .int (G.2.2.2.2.2.2.2 (l4 + 5 : Int32).toNatClampNeg)] (I, J, R, K, n) (fun r h => ∃ (x9 : Int32) (I10 : Nat → Nat → Int32), r = some (.int x9) ∧ h = (I10, J, R, K, n) ∧ ((vp_in (l4 + 1) G.2.2.2.2.2.2.1) ∧ ((vp_in (l4 + 2) G.2.2.2.2.2.2.1) ∧ ((vp_in (l4 + 3) G.2.2.2.2.2.2.1) ∧ ((vp_in (l4 + 4) G.2.2.2.2.2.2.1) ∧ ((vp_in (l4 + 5) G.2.2.2.2.2.2.1) ∧ zC G d mX12_feed 0 0 [.ref (m), .int (G.2.2.2.2.2.2.2 (l4 + 1 : Int32).toNatClampNeg), .int (G.2.2.2.2.2.2.2 (l4 + 2 : Int32).toNatClampNeg), .int (G.2.2.2.2.2.2.2 (l4 + 3 : Int32).toNatClampNeg), .int (G.2.2.2.2.2.2.2 (l4 + 4 : Int32).toNatClampNeg), .int (G.2.2.2.2.2.2.2 (l4 + 5 : Int32).toNatClampNeg)] (I10, J, R, K, n) (fun r h => ∃ (x16 : Int32) (I17 : Nat → Nat → Int32), r = some (.int x16) ∧ h = (I17, J, R, K, n) ∧ ((x9 = x16 → zV G (d + 1) mL_law (kc + 4) (ks + 300) 23 [(0, .ref (G.2.2.2.2.2.1 3)), (1, .ref (x)), (2, .ref (m)), (3, .ref (o)), (4, .int (l4 + 6))] [] (I17, J, R, K, n) Q) ∧ (¬ (x9 = x16) → Q (some (.int (0))) (I17, J, R, K, n)))))))))))))))) ∧ (((G.2.2.2.2.2.2.2 l4.toNatClampNeg) &&& 63) = 1 → ((vp_in (l4 + 1) G.2.2.2.2.2.2.1) ∧ zC G d mX11_end 0 0 [.ref (x), .int (G.2.2.2.2.2.2.2 (l4 + 1 : Int32).toNatClampNeg)] (I, J, R, K, n) (fun r h => ∃ (x21 : Int32) (I22 : Nat → Nat → Int32), r = some (.int x21) ∧ h = (I22, J, R, K, n) ∧ ((vp_in (l4 + 1) G.2.2.2.2.2.2.1) ∧ zC G d mX12_end 0 0 [.ref (m), .int (G.2.2.2.2.2.2.2 (l4 + 1 : Int32).toNatClampNeg)] (I22, J, R, K, n) (fun r h => ∃ (x24 : Int32) (I25 : Nat → Nat → Int32), r = some (.int x24) ∧ h = (I25, J, R, K, n) ∧ ((x21 = x24 → zV G (d + 1) mL_law (kc + 4) (ks + 300) 23 [(0, .ref (G.2.2.2.2.2.1 3)), (1, .ref (x)), (2, .ref (m)), (3, .ref (o)), (4, .int (l4 + 6))] [] (I25, J, R, K, n) Q) ∧ (¬ (x21 = x24) → Q (some (.int (0))) (I25, J, R, K, n)))))))) ∧ (((G.2.2.2.2.2.2.2 l4.toNatClampNeg) &&& 63) = 2 → ((vp_in (l4 + 1) G.2.2.2.2.2.2.1) ∧ zC G d mX11_fault 0 0 [.ref (x), .int (G.2.2.2.2.2.2.2 (l4 + 1 : Int32).toNatClampNeg)] (I, J, R, K, n) (fun r h => ∃ (x29 : Int32) (I30 : Nat → Nat → Int32) (R31 : Nat → Nat → Option Nat), r = some (.int x29) ∧ h = (I30, J, R31, K, n) ∧ ∃ u32 u33 u34 : Nat, hX G R31 K n x u32 u33 u34 ∧ ∃ u36 u37 : Nat, hMod G R31 K n m u36 u37 ∧ hOut G R31 K n o ∧ ((vp_in (l4 + 1) G.2.2.2.2.2.2.1) ∧ zC G d mX12_fault 0 0 [.ref (m), .int (G.2.2.2.2.2.2.2 (l4 + 1 : Int32).toNatClampNeg)] (I30, J, R31, K, n) (fun r h => ∃ (x41 : Int32) (I42 : Nat → Nat → Int32) (J43 : Nat → Nat → Int64) (R44 : Nat → Nat → Option Nat), r = some (.int x41) ∧ h = (I42, J43, R44, K, n) ∧ ∃ u45 u46 u47 : Nat, hX G R44 K n x u45 u46 u47 ∧ ∃ u49 u50 : Nat, hMod G R44 K n m u49 u50 ∧ hOut G R44 K n o ∧ ((x29 = x41 → zV G (d + 1) mL_law (kc + 4) (ks + 300) 23 [(0, .ref (G.2.2.2.2.2.1 3)), (1, .ref (x)), (2, .ref (m)), (3, .ref (o)), (4, .int (l4 + 6))] [] (I42, J43, R44, K, n) Q) ∧ (¬ (x29 = x41) → Q (some (.int (0))) (I42, J43, R44, K, n)))))))) ∧ (((G.2.2.2.2.2.2.2 l4.toNatClampNeg) &&& 63) = 3 → ((vp_in (l4 + 1) G.2.2.2.2.2.2.1) ∧ zC G d mX11_text 4 300 [.ref (x), .int (G.2.2.2.2.2.2.2 (l4 + 1 : Int32).toNatClampNeg)] (I, J, R, K, n) (fun r h => ∃ (x56 : Int32) (I57 : Nat → Nat → Int32) (J58 : Nat → Nat → Int64) (R59 : Nat → Nat → Option Nat) (K60 : Nat → Nat × Nat) (n61 : Nat), r = some (.int x56) ∧ h = (I57, J58, R59, K60, n61) ∧ ∃ u62 u63 u64 : Nat, hX G R59 K60 n61 x u62 u63 u64 ∧ ∃ u66 u67 : Nat, hMod G R59 K60 n61 m u66 u67 ∧ hOut G R59 K60 n61 o ∧ ((vp_in (l4 + 1) G.2.2.2.2.2.2.1) ∧ zC G d mX12_text 0 0 [.ref (m), .int (G.2.2.2.2.2.2.2 (l4 + 1 : Int32).toNatClampNeg)] (I57, J58, R59, K60, n61) (fun r h => ∃ (x71 : Int32) (I72 : Nat → Nat → Int32) (J73 : Nat → Nat → Int64) (R74 : Nat → Nat → Option Nat), r = some (.int x71) ∧ h = (I72, J73, R74, K60, n61) ∧ ∃ u75 u76 u77 : Nat, hX G R74 K60 n61 x u75 u76 u77 ∧ ∃ u79 u80 : Nat, hMod G R74 K60 n61 m u79 u80 ∧ hOut G R74 K60 n61 o ∧ ((x56 = x71 → zV G (d + 1) mL_law kc ks 23 [(0, .ref (G.2.2.2.2.2.1 3)), (1, .ref (x)), (2, .ref (m)), (3, .ref (o)), (4, .int (l4 + 6))] [] (I72, J73, R74, K60, n61) Q) ∧ (¬ (x56 = x71) → Q (some (.int (0))) (I72, J73, R74, K60, n61)))))))) ∧ (((G.2.2.2.2.2.2.2 l4.toNatClampNeg) &&& 63) = 4 → ((vp_in (l4 + 1) G.2.2.2.2.2.2.1) ∧ ((vp_in (l4 + 2) G.2.2.2.2.2.2.1) ∧ zCF G d 1 6 [.ref (x), .int (G.2.2.2.2.2.2.2 (l4 + 1 : Int32).toNatClampNeg), .int (G.2.2.2.2.2.2.2 (l4 + 2 : Int32).toNatClampNeg), .ref (o)] (I, J, R, K, n) (fun r h => ∃ (x87 : Int32) (I88 : Nat → Nat → Int32) (J89 : Nat → Nat → Int64) (K90 : Nat → Nat × Nat) (n91 : Nat), r = some (.int x87) ∧ h = (I88, J89, R, K90, n91) ∧ ∃ u92 u93 u94 : Nat, hX G R K90 n91 x u92 u93 u94 ∧ ∃ u96 u97 : Nat, hMod G R K90 n91 m u96 u97 ∧ hOut G R K90 n91 o ∧ ((vp_in (l4 + 1) G.2.2.2.2.2.2.1) ∧ ((vp_in (l4 + 2) G.2.2.2.2.2.2.1) ∧ zC G d mX12_farm 0 0 [.ref (m), .int (G.2.2.2.2.2.2.2 (l4 + 1 : Int32).toNatClampNeg), .int (G.2.2.2.2.2.2.2 (l4 + 2 : Int32).toNatClampNeg)] (I88, J89, R, K90, n91) (fun r h => ∃ (x102 : Int32) (I103 : Nat → Nat → Int32), r = some (.int x102) ∧ h = (I103, J89, R, K90, n91) ∧ zC G d mX12_thrown 0 0 [.ref (m)] (I103, J89, R, K90, n91) (fun r h => ∃ (x104 : Int32) (I105 : Nat → Nat → Int32), r = some (.int x104) ∧ h = (I105, J89, R, K90, n91) ∧ ((x104 = x87 → ((x87 = 0 → ((vp_in 0 1) ∧ (((lg_cmp (J89 o (0 : Int32).toNatClampNeg) x102.toInt64 : Int32) = 0 → zV G (d + 1) mL_law (kc + 3) (ks + 294) 23 [(0, .ref (G.2.2.2.2.2.1 3)), (1, .ref (x)), (2, .ref (m)), (3, .ref (o)), (4, .int (l4 + 6))] [] (I105, J89, R, K90, n91) Q) ∧ (¬ ((lg_cmp (J89 o (0 : Int32).toNatClampNeg) x102.toInt64 : Int32) = 0) → Q (some (.int (0))) (I105, J89, R, K90, n91))))) ∧ (¬ (x87 = 0) → zV G (d + 1) mL_law (kc + 3) (ks + 294) 23 [(0, .ref (G.2.2.2.2.2.1 3)), (1, .ref (x)), (2, .ref (m)), (3, .ref (o)), (4, .int (l4 + 6))] [] (I105, J89, R, K90, n91) Q))) ∧ (¬ (x104 = x87) → Q (some (.int (0))) (I105, J89, R, K90, n91))))))))))) ∧ (((G.2.2.2.2.2.2.2 l4.toNatClampNeg) &&& 63) = 5 → ((vp_in (l4 + 1) G.2.2.2.2.2.2.1) ∧ ((vp_in (l4 + 2) G.2.2.2.2.2.2.1) ∧ zC G d mX11_wrong 0 0 [.ref (x), .int (G.2.2.2.2.2.2.2 (l4 + 1 : Int32).toNatClampNeg), .int (G.2.2.2.2.2.2.2 (l4 + 2 : Int32).toNatClampNeg)] (I, J, R, K, n) (fun r h => ∃ (x113 : Int32) (I114 : Nat → Nat → Int32), r = some (.int x113) ∧ h = (I114, J, R, K, n) ∧ ((vp_in (l4 + 1) G.2.2.2.2.2.2.1) ∧ ((vp_in (l4 + 2) G.2.2.2.2.2.2.1) ∧ zC G d mX12_wrong 0 0 [.ref (m), .int (G.2.2.2.2.2.2.2 (l4 + 1 : Int32).toNatClampNeg), .int (G.2.2.2.2.2.2.2 (l4 + 2 : Int32).toNatClampNeg)] (I114, J, R, K, n) (fun r h => ∃ (x117 : Int32) (I118 : Nat → Nat → Int32) (J119 : Nat → Nat → Int64) (R120 : Nat → Nat → Option Nat), r = some (.int x117) ∧ h = (I118, J119, R120, K, n) ∧ ∃ u121 u122 u123 : Nat, hX G R120 K n x u121 u122 u123 ∧ ∃ u125 u126 : Nat, hMod G R120 K n m u125 u126 ∧ hOut G R120 K n o ∧ ((x113 = x117 → zV G (d + 1) mL_law (kc + 4) (ks + 300) 23 [(0, .ref (G.2.2.2.2.2.1 3)), (1, .ref (x)), (2, .ref (m)), (3, .ref (o)), (4, .int (l4 + 6))] [] (I118, J119, R120, K, n) Q) ∧ (¬ (x113 = x117) → Q (some (.int (0))) (I118, J119, R120, K, n)))))))))) ∧ (((G.2.2.2.2.2.2.2 l4.toNatClampNeg) &&& 63) = 6 → ((vp_in (l4 + 1) G.2.2.2.2.2.2.1) ∧ zC G d mX11_law 0 0 [.ref (x), .int (G.2.2.2.2.2.2.2 (l4 + 1 : Int32).toNatClampNeg)] (I, J, R, K, n) (fun r h => ∃ (x132 : Int32) (I133 : Nat → Nat → Int32) (R134 : Nat → Nat → Option Nat), r = some (.int x132) ∧ h = (I133, J, R134, K, n) ∧ ∃ u135 u136 u137 : Nat, hX G R134 K n x u135 u136 u137 ∧ ∃ u139 u140 : Nat, hMod G R134 K n m u139 u140 ∧ hOut G R134 K n o ∧ ((vp_in (l4 + 1) G.2.2.2.2.2.2.1) ∧ zC G d mX12_law 0 0 [.ref (m), .int (G.2.2.2.2.2.2.2 (l4 + 1 : Int32).toNatClampNeg)] (I133, J, R134, K, n) (fun r h => ∃ (x144 : Int32) (I145 : Nat → Nat → Int32), r = some (.int x144) ∧ h = (I145, J, R134, K, n) ∧ ((x132 = x144 → zV G (d + 1) mL_law (kc + 4) (ks + 300) 23 [(0, .ref (G.2.2.2.2.2.1 3)), (1, .ref (x)), (2, .ref (m)), (3, .ref (o)), (4, .int (l4 + 6))] [] (I145, J, R134, K, n) Q) ∧ (¬ (x132 = x144) → Q (some (.int (0))) (I145, J, R134, K, n)))))))) ∧ (((G.2.2.2.2.2.2.2 l4.toNatClampNeg) &&& 63) = 7 → ((vp_in (l4 + 1) G.2.2.2.2.2.2.1) ∧ zC G d mX11_apples 0 0 [.ref (x), .int (G.2.2.2.2.2.2.2 (l4 + 1 : Int32).toNatClampNeg)] (I, J, R, K, n) (fun r h => ∃ (x149 : Int32) (I150 : Nat → Nat → Int32), r = some (.int x149) ∧ h = (I150, J, R, K, n) ∧ ((vp_in (l4 + 1) G.2.2.2.2.2.2.1) ∧ zC G d mX12_apples 0 0 [.ref (m), .int (G.2.2.2.2.2.2.2 (l4 + 1 : Int32).toNatClampNeg)] (I150, J, R, K, n) (fun r h => ∃ (x152 : Int32) (I153 : Nat → Nat → Int32), r = some (.int x152) ∧ h = (I153, J, R, K, n) ∧ ((x149 = x152 → zV G (d + 1) mL_law (kc + 4) (ks + 300) 23 [(0, .ref (G.2.2.2.2.2.1 3)), (1, .ref (x)), (2, .ref (m)), (3, .ref (o)), (4, .int (l4 + 6))] [] (I153, J, R, K, n) Q) ∧ (¬ (x149 = x152) → Q (some (.int (0))) (I153, J, R, K, n)))))))) ∧ (((G.2.2.2.2.2.2.2 l4.toNatClampNeg) &&& 63) = 8 → ((vp_in (l4 + 1) G.2.2.2.2.2.2.1) ∧ zC G d mX11_forgive 0 0 [.ref (x), .int (G.2.2.2.2.2.2.2 (l4 + 1 : Int32).toNatClampNeg)] (I, J, R, K, n) (fun r h => ∃ (x157 : Int32) (I158 : Nat → Nat → Int32), r = some (.int x157) ∧ h = (I158, J, R, K, n) ∧ ((vp_in (l4 + 1) G.2.2.2.2.2.2.1) ∧ zC G d mX12_forgive 0 0 [.ref (m), .int (G.2.2.2.2.2.2.2 (l4 + 1 : Int32).toNatClampNeg)] (I158, J, R, K, n) (fun r h => ∃ (x160 : Int32) (I161 : Nat → Nat → Int32) (J162 : Nat → Nat → Int64) (R163 : Nat → Nat → Option Nat), r = some (.int x160) ∧ h = (I161, J162, R163, K, n) ∧ ∃ u164 u165 u166 : Nat, hX G R163 K n x u164 u165 u166 ∧ ∃ u168 u169 : Nat, hMod G R163 K n m u168 u169 ∧ hOut G R163 K n o ∧ ((x157 = x160 → zV G (d + 1) mL_law (kc + 4) (ks + 300) 23 [(0, .ref (G.2.2.2.2.2.1 3)), (1, .ref (x)), (2, .ref (m)), (3, .ref (o)), (4, .int (l4 + 6))] [] (I161, J162, R163, K, n) Q) ∧ (¬ (x157 = x160) → Q (some (.int (0))) (I161, J162, R163, K, n)))))))) ∧ (((G.2.2.2.2.2.2.2 l4.toNatClampNeg) &&& 63) = 9 → ((vp_in (l4 + 1) G.2.2.2.2.2.2.1) ∧ ((vp_in (l4 + 2) G.2.2.2.2.2.2.1) ∧ zC G d mX11_paint 0 0 [.ref (x), .int (G.2.2.2.2.2.2.2 (l4 + 1 : Int32).toNatClampNeg), .int (G.2.2.2.2.2.2.2 (l4 + 2 : Int32).toNatClampNeg)] (I, J, R, K, n) (fun r h => ∃ (x176 : Int32) (I177 : Nat → Nat → Int32), r = some (.int x176) ∧ h = (I177, J, R, K, n) ∧ ((vp_in (l4 + 1) G.2.2.2.2.2.2.1) ∧ ((vp_in (l4 + 2) G.2.2.2.2.2.2.1) ∧ zC G d mX12_paint 0 0 [.ref (m), .int (G.2.2.2.2.2.2.2 (l4 + 1 : Int32).toNatClampNeg), .int (G.2.2.2.2.2.2.2 (l4 + 2 : Int32).toNatClampNeg)] (I177, J, R, K, n) (fun r h => ∃ (x180 : Int32) (I181 : Nat → Nat → Int32), r = some (.int x180) ∧ h = (I181, J, R, K, n) ∧ ((x176 = x180 → zV G (d + 1) mL_law (kc + 4) (ks + 300) 23 [(0, .ref (G.2.2.2.2.2.1 3)), (1, .ref (x)), (2, .ref (m)), (3, .ref (o)), (4, .int (l4 + 6))] [] (I181, J, R, K, n) Q) ∧ (¬ (x176 = x180) → Q (some (.int (0))) (I181, J, R, K, n)))))))))) ∧ (((G.2.2.2.2.2.2.2 l4.toNatClampNeg) &&& 63) = 10 → ((vp_in (l4 + 1) G.2.2.2.2.2.2.1) ∧ zC G d mX11_inspect 0 0 [.ref (x), .int (G.2.2.2.2.2.2.2 (l4 + 1 : Int32).toNatClampNeg)] (I, J, R, K, n) (fun r h => ∃ (x185 : Int32) (I186 : Nat → Nat → Int32), r = some (.int x185) ∧ h = (I186, J, R, K, n) ∧ ((vp_in (l4 + 1) G.2.2.2.2.2.2.1) ∧ zC G d mX12_inspect 0 0 [.ref (m), .int (G.2.2.2.2.2.2.2 (l4 + 1 : Int32).toNatClampNeg)] (I186, J, R, K, n) (fun r h => ∃ (x188 : Int32) (I189 : Nat → Nat → Int32), r = some (.int x188) ∧ h = (I189, J, R, K, n) ∧ ((x185 = x188 → zV G (d + 1) mL_law (kc + 4) (ks + 300) 23 [(0, .ref (G.2.2.2.2.2.1 3)), (1, .ref (x)), (2, .ref (m)), (3, .ref (o)), (4, .int (l4 + 6))] [] (I189, J, R, K, n) Q) ∧ (¬ (x185 = x188) → Q (some (.int (0))) (I189, J, R, K, n)))))))) ∧ (((G.2.2.2.2.2.2.2 l4.toNatClampNeg) &&& 63) = 11 → ((vp_in (l4 + 1) G.2.2.2.2.2.2.1) ∧ ((vp_in (l4 + 2) G.2.2.2.2.2.2.1) ∧ ((vp_in (l4 + 3) G.2.2.2.2.2.2.1) ∧ zC G d mX11_sin 0 0 [.ref (x), .int (G.2.2.2.2.2.2.2 (l4 + 1 : Int32).toNatClampNeg), .int (G.2.2.2.2.2.2.2 (l4 + 2 : Int32).toNatClampNeg), .int (G.2.2.2.2.2.2.2 (l4 + 3 : Int32).toNatClampNeg)] (I, J, R, K, n) (fun r h => ∃ (x195 : Int32) (I196 : Nat → Nat → Int32), r = some (.int x195) ∧ h = (I196, J, R, K, n) ∧ ((vp_in (l4 + 1) G.2.2.2.2.2.2.1) ∧ ((vp_in (l4 + 2) G.2.2.2.2.2.2.1) ∧ ((vp_in (l4 + 3) G.2.2.2.2.2.2.1) ∧ zC G d mX12_sin 0 0 [.ref (m), .int (G.2.2.2.2.2.2.2 (l4 + 1 : Int32).toNatClampNeg), .int (G.2.2.2.2.2.2.2 (l4 + 2 : Int32).toNatClampNeg), .int (G.2.2.2.2.2.2.2 (l4 + 3 : Int32).toNatClampNeg)] (I196, J, R, K, n) (fun r h => ∃ (x200 : Int32) (I201 : Nat → Nat → Int32), r = some (.int x200) ∧ h = (I201, J, R, K, n) ∧ ((x195 = x200 → zV G (d + 1) mL_law (kc + 4) (ks + 300) 23 [(0, .ref (G.2.2.2.2.2.1 3)), (1, .ref (x)), (2, .ref (m)), (3, .ref (o)), (4, .int (l4 + 6))] [] (I201, J, R, K, n) Q) ∧ (¬ (x195 = x200) → Q (some (.int (0))) (I201, J, R, K, n)))))))))))) ∧ (((G.2.2.2.2.2.2.2 l4.toNatClampNeg) &&& 63) = 12 → ((vp_in (l4 + 1) G.2.2.2.2.2.2.1) ∧ zC G d mX11_buy 0 0 [.ref (x), .int (G.2.2.2.2.2.2.2 (l4 + 1 : Int32).toNatClampNeg)] (I, J, R, K, n) (fun r h => ∃ (x205 : Int32) (I206 : Nat → Nat → Int32), r = some (.int x205) ∧ h = (I206, J, R, K, n) ∧ ((vp_in (l4 + 1) G.2.2.2.2.2.2.1) ∧ zC G d mX12_buy 0 0 [.ref (m), .int (G.2.2.2.2.2.2.2 (l4 + 1 : Int32).toNatClampNeg)] (I206, J, R, K, n) (fun r h => ∃ (x208 : Int32) (I209 : Nat → Nat → Int32), r = some (.int x208) ∧ h = (I209, J, R, K, n) ∧ ((x205 = x208 → zV G (d + 1) mL_law (kc + 4) (ks + 300) 23 [(0, .ref (G.2.2.2.2.2.1 3)), (1, .ref (x)), (2, .ref (m)), (3, .ref (o)), (4, .int (l4 + 6))] [] (I209, J, R, K, n) Q) ∧ (¬ (x205 = x208) → Q (some (.int (0))) (I209, J, R, K, n)))))))) ∧ (((G.2.2.2.2.2.2.2 l4.toNatClampNeg) &&& 63) = 13 → ((vp_in (l4 + 1) G.2.2.2.2.2.2.1) ∧ zC G d mX11_give 0 0 [.ref (x), .int (G.2.2.2.2.2.2.2 (l4 + 1 : Int32).toNatClampNeg)] (I, J, R, K, n) (fun r h => ∃ (x213 : Int32) (I214 : Nat → Nat → Int32), r = some (.int x213) ∧ h = (I214, J, R, K, n) ∧ ((vp_in (l4 + 1) G.2.2.2.2.2.2.1) ∧ zC G d mX12_give 0 0 [.ref (m), .int (G.2.2.2.2.2.2.2 (l4 + 1 : Int32).toNatClampNeg)] (I214, J, R, K, n) (fun r h => ∃ (x216 : Int32) (I217 : Nat → Nat → Int32), r = some (.int x216) ∧ h = (I217, J, R, K, n) ∧ ((x213 = x216 → zV G (d + 1) mL_law (kc + 4) (ks + 300) 23 [(0, .ref (G.2.2.2.2.2.1 3)), (1, .ref (x)), (2, .ref (m)), (3, .ref (o)), (4, .int (l4 + 6))] [] (I217, J, R, K, n) Q) ∧ (¬ (x213 = x216) → Q (some (.int (0))) (I217, J, R, K, n)))))))) ∧ (((G.2.2.2.2.2.2.2 l4.toNatClampNeg) &&& 63) = 14 → zC G d mX11_day 0 0 [.ref (x)] (I, J, R, K, n) (fun r h => ∃ (x220 : Int32) (I221 : Nat → Nat → Int32), r = some (.int x220) ∧ h = (I221, J, R, K, n) ∧ zC G d mX12_day 0 0 [.ref (m)] (I221, J, R, K, n) (fun r h => ∃ (x222 : Int32) (I223 : Nat → Nat → Int32), r = some (.int x222) ∧ h = (I223, J, R, K, n) ∧ ((x220 = x222 → zV G (d + 1) mL_law (kc + 4) (ks + 300) 23 [(0, .ref (G.2.2.2.2.2.1 3)), (1, .ref (x)), (2, .ref (m)), (3, .ref (o)), (4, .int (l4 + 6))] [] (I223, J, R, K, n) Q) ∧ (¬ (x220 = x222) → Q (some (.int (0))) (I223, J, R, K, n)))))) ∧ (((G.2.2.2.2.2.2.2 l4.toNatClampNeg) &&& 63) = 15 → ((vp_in (l4 + 1) G.2.2.2.2.2.2.1) ∧ ((vp_in (l4 + 2) G.2.2.2.2.2.2.1) ∧ ((vp_in (l4 + 3) G.2.2.2.2.2.2.1) ∧ zC G d mX11_years 0 0 [.ref (x), .int (G.2.2.2.2.2.2.2 (l4 + 1 : Int32).toNatClampNeg), .long ((((G.2.2.2.2.2.2.2 (l4 + 2 : Int32).toNatClampNeg : Int32).toInt64 : Int64) <<< ((32 : Int32).toInt64 &&& 63)) ||| (((G.2.2.2.2.2.2.2 (l4 + 3 : Int32).toNatClampNeg : Int32).toInt64) &&& 4294967295))] (I, J, R, K, n) (fun r h => ∃ (x229 : Int32) (I230 : Nat → Nat → Int32) (J231 : Nat → Nat → Int64), r = some (.int x229) ∧ h = (I230, J231, R, K, n) ∧ ((vp_in (l4 + 1) G.2.2.2.2.2.2.1) ∧ ((vp_in (l4 + 2) G.2.2.2.2.2.2.1) ∧ ((vp_in (l4 + 3) G.2.2.2.2.2.2.1) ∧ zC G d mX12_years 0 0 [.ref (m), .int (G.2.2.2.2.2.2.2 (l4 + 1 : Int32).toNatClampNeg), .long ((((G.2.2.2.2.2.2.2 (l4 + 2 : Int32).toNatClampNeg : Int32).toInt64 : Int64) <<< ((32 : Int32).toInt64 &&& 63)) ||| (((G.2.2.2.2.2.2.2 (l4 + 3 : Int32).toNatClampNeg : Int32).toInt64) &&& 4294967295))] (I230, J231, R, K, n) (fun r h => ∃ (x235 : Int32) (I236 : Nat → Nat → Int32) (J237 : Nat → Nat → Int64) (R238 : Nat → Nat → Option Nat), r = some (.int x235) ∧ h = (I236, J237, R238, K, n) ∧ ∃ u239 u240 u241 : Nat, hX G R238 K n x u239 u240 u241 ∧ ∃ u243 u244 : Nat, hMod G R238 K n m u243 u244 ∧ hOut G R238 K n o ∧ ((x229 = x235 → zV G (d + 1) mL_law (kc + 4) (ks + 300) 23 [(0, .ref (G.2.2.2.2.2.1 3)), (1, .ref (x)), (2, .ref (m)), (3, .ref (o)), (4, .int (l4 + 6))] [] (I236, J237, R238, K, n) Q) ∧ (¬ (x229 = x235) → Q (some (.int (0))) (I236, J237, R238, K, n)))))))))))) ∧ (((G.2.2.2.2.2.2.2 l4.toNatClampNeg) &&& 63) = 16 → zC G d mX11_undo 0 0 [.ref (x)] (I, J, R, K, n) (fun r h => ∃ (x249 : Int32) (I250 : Nat → Nat → Int32), r = some (.int x249) ∧ h = (I250, J, R, K, n) ∧ zC G d mX12_undo 0 0 [.ref (m)] (I250, J, R, K, n) (fun r h => ∃ (x251 : Int32) (I252 : Nat → Nat → Int32), r = some (.int x251) ∧ h = (I252, J, R, K, n) ∧ ((x249 = x251 → zV G (d + 1) mL_law (kc + 4) (ks + 300) 23 [(0, .ref (G.2.2.2.2.2.1 3)), (1, .ref (x)), (2, .ref (m)), (3, .ref (o)), (4, .int (l4 + 6))] [] (I252, J, R, K, n) Q) ∧ (¬ (x249 = x251) → Q (some (.int (0))) (I252, J, R, K, n)))))) ∧ (((G.2.2.2.2.2.2.2 l4.toNatClampNeg) &&& 63) = 17 → ((vp_in (l4 + 1) G.2.2.2.2.2.2.1) ∧ ((vp_in (l4 + 2) G.2.2.2.2.2.2.1) ∧ zC G d mX11_log 0 0 [.ref (x), .int (G.2.2.2.2.2.2.2 (l4 + 1 : Int32).toNatClampNeg), .int (G.2.2.2.2.2.2.2 (l4 + 2 : Int32).toNatClampNeg)] (I, J, R, K, n) (fun r h => ∃ (x257 : Int32) (I258 : Nat → Nat → Int32), r = some (.int x257) ∧ h = (I258, J, R, K, n) ∧ ((vp_in (l4 + 1) G.2.2.2.2.2.2.1) ∧ ((vp_in (l4 + 2) G.2.2.2.2.2.2.1) ∧ zC G d mX12_log 0 0 [.ref (m), .int (G.2.2.2.2.2.2.2 (l4 + 1 : Int32).toNatClampNeg), .int (G.2.2.2.2.2.2.2 (l4 + 2 : Int32).toNatClampNeg)] (I258, J, R, K, n) (fun r h => ∃ (x261 : Int32) (I262 : Nat → Nat → Int32), r = some (.int x261) ∧ h = (I262, J, R, K, n) ∧ ((x257 = x261 → zV G (d + 1) mL_law (kc + 4) (ks + 300) 23 [(0, .ref (G.2.2.2.2.2.1 3)), (1, .ref (x)), (2, .ref (m)), (3, .ref (o)), (4, .int (l4 + 6))] [] (I262, J, R, K, n) Q) ∧ (¬ (x257 = x261) → Q (some (.int (0))) (I262, J, R, K, n)))))))))) ∧ (((G.2.2.2.2.2.2.2 l4.toNatClampNeg) &&& 63) = 18 → ((vp_in (l4 + 1) G.2.2.2.2.2.2.1) ∧ ((vp_in (l4 + 2) G.2.2.2.2.2.2.1) ∧ ((vp_in (l4 + 3) G.2.2.2.2.2.2.1) ∧ zC G d mX11_step 0 0 [.ref (x), .int (G.2.2.2.2.2.2.2 (l4 + 1 : Int32).toNatClampNeg), .int (G.2.2.2.2.2.2.2 (l4 + 2 : Int32).toNatClampNeg), .int (G.2.2.2.2.2.2.2 (l4 + 3 : Int32).toNatClampNeg)] (I, J, R, K, n) (fun r h => ∃ (x268 : Int32) (I269 : Nat → Nat → Int32), r = some (.int x268) ∧ h = (I269, J, R, K, n) ∧ ((vp_in (l4 + 1) G.2.2.2.2.2.2.1) ∧ ((vp_in (l4 + 2) G.2.2.2.2.2.2.1) ∧ ((vp_in (l4 + 3) G.2.2.2.2.2.2.1) ∧ zC G d mX12_step 0 0 [.ref (m), .int (G.2.2.2.2.2.2.2 (l4 + 1 : Int32).toNatClampNeg), .int (G.2.2.2.2.2.2.2 (l4 + 2 : Int32).toNatClampNeg), .int (G.2.2.2.2.2.2.2 (l4 + 3 : Int32).toNatClampNeg)] (I269, J, R, K, n) (fun r h => ∃ (x273 : Int32) (I274 : Nat → Nat → Int32), r = some (.int x273) ∧ h = (I274, J, R, K, n) ∧ ((x268 = x273 → zV G (d + 1) mL_law (kc + 4) (ks + 300) 23 [(0, .ref (G.2.2.2.2.2.1 3)), (1, .ref (x)), (2, .ref (m)), (3, .ref (o)), (4, .int (l4 + 6))] [] (I274, J, R, K, n) Q) ∧ (¬ (x268 = x273) → Q (some (.int (0))) (I274, J, R, K, n)))))))))))) ∧ (((G.2.2.2.2.2.2.2 l4.toNatClampNeg) &&& 63) = 19 → ((vp_in (l4 + 1) G.2.2.2.2.2.2.1) ∧ ((vp_in (l4 + 2) G.2.2.2.2.2.2.1) ∧ zC G d mX11_run 0 0 [.ref (x), .int (G.2.2.2.2.2.2.2 (l4 + 1 : Int32).toNatClampNeg), .int (G.2.2.2.2.2.2.2 (l4 + 2 : Int32).toNatClampNeg)] (I, J, R, K, n) (fun r h => ∃ (x279 : Int32) (I280 : Nat → Nat → Int32), r = some (.int x279) ∧ h = (I280, J, R, K, n) ∧ ((vp_in (l4 + 1) G.2.2.2.2.2.2.1) ∧ ((vp_in (l4 + 2) G.2.2.2.2.2.2.1) ∧ zC G d mX12_run 0 0 [.ref (m), .int (G.2.2.2.2.2.2.2 (l4 + 1 : Int32).toNatClampNeg), .int (G.2.2.2.2.2.2.2 (l4 + 2 : Int32).toNatClampNeg)] (I280, J, R, K, n) (fun r h => ∃ (x283 : Int32) (I284 : Nat → Nat → Int32) (J285 : Nat → Nat → Int64) (R286 : Nat → Nat → Option Nat), r = some (.int x283) ∧ h = (I284, J285, R286, K, n) ∧ ∃ u287 u288 u289 : Nat, hX G R286 K n x u287 u288 u289 ∧ ∃ u291 u292 : Nat, hMod G R286 K n m u291 u292 ∧ hOut G R286 K n o ∧ ((x279 = x283 → zV G (d + 1) mL_law (kc + 4) (ks + 300) 23 [(0, .ref (G.2.2.2.2.2.1 3)), (1, .ref (x)), (2, .ref (m)), (3, .ref (o)), (4, .int (l4 + 6))] [] (I284, J285, R286, K, n) Q) ∧ (¬ (x279 = x283) → Q (some (.int (0))) (I284, J285, R286, K, n)))))))))) ∧ (((G.2.2.2.2.2.2.2 l4.toNatClampNeg) &&& 63) = 20 → ((vp_in (l4 + 1) G.2.2.2.2.2.2.1) ∧ zC G d mX11_perform 0 0 [.ref (x), .int (G.2.2.2.2.2.2.2 (l4 + 1 : Int32).toNatClampNeg)] (I, J, R, K, n) (fun r h => ∃ (x298 : Int32) (I299 : Nat → Nat → Int32), r = some (.int x298) ∧ h = (I299, J, R, K, n) ∧ ((vp_in (l4 + 1) G.2.2.2.2.2.2.1) ∧ zC G d mX12_perform 0 0 [.ref (m), .int (G.2.2.2.2.2.2.2 (l4 + 1 : Int32).toNatClampNeg)] (I299, J, R, K, n) (fun r h => ∃ (x301 : Int32) (I302 : Nat → Nat → Int32) (J303 : Nat → Nat → Int64) (R304 : Nat → Nat → Option Nat), r = some (.int x301) ∧ h = (I302, J303, R304, K, n) ∧ ∃ u305 u306 u307 : Nat, hX G R304 K n x u305 u306 u307 ∧ ∃ u309 u310 : Nat, hMod G R304 K n m u309 u310 ∧ hOut G R304 K n o ∧ ((x298 = x301 → zV G (d + 1) mL_law (kc + 4) (ks + 300) 23 [(0, .ref (G.2.2.2.2.2.1 3)), (1, .ref (x)), (2, .ref (m)), (3, .ref (o)), (4, .int (l4 + 6))] [] (I302, J303, R304, K, n) Q) ∧ (¬ (x298 = x301) → Q (some (.int (0))) (I302, J303, R304, K, n)))))))) ∧ (((G.2.2.2.2.2.2.2 l4.toNatClampNeg) &&& 63) = 21 → ((vp_in (l4 + 1) G.2.2.2.2.2.2.1) ∧ ((vp_in (l4 + 2) G.2.2.2.2.2.2.1) ∧ zC G d mX11_least 0 0 [.ref (x), .int (G.2.2.2.2.2.2.2 (l4 + 1 : Int32).toNatClampNeg), .int (G.2.2.2.2.2.2.2 (l4 + 2 : Int32).toNatClampNeg)] (I, J, R, K, n) (fun r h => ∃ (x317 : Int32) (I318 : Nat → Nat → Int32), r = some (.int x317) ∧ h = (I318, J, R, K, n) ∧ ((vp_in (l4 + 1) G.2.2.2.2.2.2.1) ∧ ((vp_in (l4 + 2) G.2.2.2.2.2.2.1) ∧ zC G d mX12_least 0 0 [.ref (m), .int (G.2.2.2.2.2.2.2 (l4 + 1 : Int32).toNatClampNeg), .int (G.2.2.2.2.2.2.2 (l4 + 2 : Int32).toNatClampNeg)] (I318, J, R, K, n) (fun r h => ∃ (x321 : Int32) (I322 : Nat → Nat → Int32) (J323 : Nat → Nat → Int64) (R324 : Nat → Nat → Option Nat), r = some (.int x321) ∧ h = (I322, J323, R324, K, n) ∧ ∃ u325 u326 u327 : Nat, hX G R324 K n x u325 u326 u327 ∧ ∃ u329 u330 : Nat, hMod G R324 K n m u329 u330 ∧ hOut G R324 K n o ∧ ((x317 = x321 → zV G (d + 1) mL_law (kc + 4) (ks + 300) 23 [(0, .ref (G.2.2.2.2.2.1 3)), (1, .ref (x)), (2, .ref (m)), (3, .ref (o)), (4, .int (l4 + 6))] [] (I322, J323, R324, K, n) Q) ∧ (¬ (x317 = x321) → Q (some (.int (0))) (I322, J323, R324, K, n)))))))))) ∧ (((G.2.2.2.2.2.2.2 l4.toNatClampNeg) &&& 63) = 22 → ((vp_in (l4 + 1) G.2.2.2.2.2.2.1) ∧ zC G d mX11_every 0 0 [.ref (x), .int (G.2.2.2.2.2.2.2 (l4 + 1 : Int32).toNatClampNeg)] (I, J, R, K, n) (fun r h => ∃ (x336 : Int32) (I337 : Nat → Nat → Int32), r = some (.int x336) ∧ h = (I337, J, R, K, n) ∧ ((vp_in (l4 + 1) G.2.2.2.2.2.2.1) ∧ zC G d mX12_every 0 0 [.ref (m), .int (G.2.2.2.2.2.2.2 (l4 + 1 : Int32).toNatClampNeg)] (I337, J, R, K, n) (fun r h => ∃ (x339 : Int32) (I340 : Nat → Nat → Int32) (J341 : Nat → Nat → Int64) (R342 : Nat → Nat → Option Nat), r = some (.int x339) ∧ h = (I340, J341, R342, K, n) ∧ ∃ u343 u344 u345 : Nat, hX G R342 K n x u343 u344 u345 ∧ ∃ u347 u348 : Nat, hMod G R342 K n m u347 u348 ∧ hOut G R342 K n o ∧ ((x336 = x339 → zV G (d + 1) mL_law (kc + 4) (ks + 300) 23 [(0, .ref (G.2.2.2.2.2.1 3)), (1, .ref (x)), (2, .ref (m)), (3, .ref (o)), (4, .int (l4 + 6))] [] (I340, J341, R342, K, n) Q) ∧ (¬ (x336 = x339) → Q (some (.int (0))) (I340, J341, R342, K, n)))))))) ∧ (((G.2.2.2.2.2.2.2 l4.toNatClampNeg) &&& 63) = 23 → ((vp_in (l4 + 1) G.2.2.2.2.2.2.1) ∧ ((vp_in (l4 + 2) G.2.2.2.2.2.2.1) ∧ zC G d mX11_richest 0 0 [.ref (x), .int (G.2.2.2.2.2.2.2 (l4 + 1 : Int32).toNatClampNeg), .int (G.2.2.2.2.2.2.2 (l4 + 2 : Int32).toNatClampNeg)] (I, J, R, K, n) (fun r h => ∃ (x355 : Int32) (I356 : Nat → Nat → Int32), r = some (.int x355) ∧ h = (I356, J, R, K, n) ∧ ((vp_in (l4 + 1) G.2.2.2.2.2.2.1) ∧ ((vp_in (l4 + 2) G.2.2.2.2.2.2.1) ∧ zC G d mX12_richest 0 0 [.ref (m), .int (G.2.2.2.2.2.2.2 (l4 + 1 : Int32).toNatClampNeg), .int (G.2.2.2.2.2.2.2 (l4 + 2 : Int32).toNatClampNeg)] (I356, J, R, K, n) (fun r h => ∃ (x359 : Int32) (I360 : Nat → Nat → Int32) (J361 : Nat → Nat → Int64) (R362 : Nat → Nat → Option Nat), r = some (.int x359) ∧ h = (I360, J361, R362, K, n) ∧ ∃ u363 u364 u365 : Nat, hX G R362 K n x u363 u364 u365 ∧ ∃ u367 u368 : Nat, hMod G R362 K n m u367 u368 ∧ hOut G R362 K n o ∧ ((x355 = x359 → zV G (d + 1) mL_law (kc + 4) (ks + 300) 23 [(0, .ref (G.2.2.2.2.2.1 3)), (1, .ref (x)), (2, .ref (m)), (3, .ref (o)), (4, .int (l4 + 6))] [] (I360, J361, R362, K, n) Q) ∧ (¬ (x355 = x359) → Q (some (.int (0))) (I360, J361, R362, K, n)))))))))) ∧ (((G.2.2.2.2.2.2.2 l4.toNatClampNeg) &&& 63) = 24 → ((vp_in (l4 + 1) G.2.2.2.2.2.2.1) ∧ zC G d mX11_pairs 0 0 [.ref (x), .int (G.2.2.2.2.2.2.2 (l4 + 1 : Int32).toNatClampNeg)] (I, J, R, K, n) (fun r h => ∃ (x374 : Int32) (I375 : Nat → Nat → Int32), r = some (.int x374) ∧ h = (I375, J, R, K, n) ∧ ((vp_in (l4 + 1) G.2.2.2.2.2.2.1) ∧ zC G d mX12_pairs 0 0 [.ref (m), .int (G.2.2.2.2.2.2.2 (l4 + 1 : Int32).toNatClampNeg)] (I375, J, R, K, n) (fun r h => ∃ (x377 : Int32) (I378 : Nat → Nat → Int32) (J379 : Nat → Nat → Int64) (R380 : Nat → Nat → Option Nat), r = some (.int x377) ∧ h = (I378, J379, R380, K, n) ∧ ∃ u381 u382 u383 : Nat, hX G R380 K n x u381 u382 u383 ∧ ∃ u385 u386 : Nat, hMod G R380 K n m u385 u386 ∧ hOut G R380 K n o ∧ ((x374 = x377 → zV G (d + 1) mL_law (kc + 4) (ks + 300) 23 [(0, .ref (G.2.2.2.2.2.1 3)), (1, .ref (x)), (2, .ref (m)), (3, .ref (o)), (4, .int (l4 + 6))] [] (I378, J379, R380, K, n) Q) ∧ (¬ (x374 = x377) → Q (some (.int (0))) (I378, J379, R380, K, n)))))))) ∧ (((G.2.2.2.2.2.2.2 l4.toNatClampNeg) &&& 63) = 25 → ((vp_in (l4 + 1) G.2.2.2.2.2.2.1) ∧ ((vp_in (l4 + 2) G.2.2.2.2.2.2.1) ∧ ((vp_in (l4 + 3) G.2.2.2.2.2.2.1) ∧ zC G d mX11_seen 0 0 [.ref (x), .int (G.2.2.2.2.2.2.2 (l4 + 1 : Int32).toNatClampNeg), .int (G.2.2.2.2.2.2.2 (l4 + 2 : Int32).toNatClampNeg), .int ((if (G.2.2.2.2.2.2.2 (l4 + 3 : Int32).toNatClampNeg : Int32) = 0 then 0 else 1))] (I, J, R, K, n) (fun r h => ∃ (x395 : Int32) (I396 : Nat → Nat → Int32), r = some (.int x395) ∧ h = (I396, J, R, K, n) ∧ ((vp_in (l4 + 1) G.2.2.2.2.2.2.1) ∧ ((vp_in (l4 + 2) G.2.2.2.2.2.2.1) ∧ ((vp_in (l4 + 3) G.2.2.2.2.2.2.1) ∧ zC G d mX12_seen 0 0 [.ref (m), .int (G.2.2.2.2.2.2.2 (l4 + 1 : Int32).toNatClampNeg), .int (G.2.2.2.2.2.2.2 (l4 + 2 : Int32).toNatClampNeg), .int ((if (G.2.2.2.2.2.2.2 (l4 + 3 : Int32).toNatClampNeg : Int32) = 0 then 0 else 1))] (I396, J, R, K, n) (fun r h => ∃ (x401 : Int32) (I402 : Nat → Nat → Int32), r = some (.int x401) ∧ h = (I402, J, R, K, n) ∧ ((x395 = x401 → zV G (d + 1) mL_law (kc + 4) (ks + 300) 23 [(0, .ref (G.2.2.2.2.2.1 3)), (1, .ref (x)), (2, .ref (m)), (3, .ref (o)), (4, .int (l4 + 6))] [] (I402, J, R, K, n) Q) ∧ (¬ (x395 = x401) → Q (some (.int (0))) (I402, J, R, K, n)))))))))))) ∧ (((G.2.2.2.2.2.2.2 l4.toNatClampNeg) &&& 63) = 26 → ((vp_in (l4 + 1) G.2.2.2.2.2.2.1) ∧ ((vp_in (l4 + 2) G.2.2.2.2.2.2.1) ∧ zC G d mX11_weights 0 0 [.ref (x), .int (G.2.2.2.2.2.2.2 (l4 + 1 : Int32).toNatClampNeg), .int (G.2.2.2.2.2.2.2 (l4 + 2 : Int32).toNatClampNeg)] (I, J, R, K, n) (fun r h => ∃ (x407 : Int32) (I408 : Nat → Nat → Int32), r = some (.int x407) ∧ h = (I408, J, R, K, n) ∧ ((vp_in (l4 + 1) G.2.2.2.2.2.2.1) ∧ ((vp_in (l4 + 2) G.2.2.2.2.2.2.1) ∧ zC G d mX12_weights 0 0 [.ref (m), .int (G.2.2.2.2.2.2.2 (l4 + 1 : Int32).toNatClampNeg), .int (G.2.2.2.2.2.2.2 (l4 + 2 : Int32).toNatClampNeg)] (I408, J, R, K, n) (fun r h => ∃ (x411 : Int32) (I412 : Nat → Nat → Int32) (J413 : Nat → Nat → Int64) (R414 : Nat → Nat → Option Nat), r = some (.int x411) ∧ h = (I412, J413, R414, K, n) ∧ ∃ u415 u416 u417 : Nat, hX G R414 K n x u415 u416 u417 ∧ ∃ u419 u420 : Nat, hMod G R414 K n m u419 u420 ∧ hOut G R414 K n o ∧ ((x407 = x411 → zV G (d + 1) mL_law (kc + 4) (ks + 300) 23 [(0, .ref (G.2.2.2.2.2.1 3)), (1, .ref (x)), (2, .ref (m)), (3, .ref (o)), (4, .int (l4 + 6))] [] (I412, J413, R414, K, n) Q) ∧ (¬ (x407 = x411) → Q (some (.int (0))) (I412, J413, R414, K, n)))))))))) ∧ (((G.2.2.2.2.2.2.2 l4.toNatClampNeg) &&& 63) = 27 → ((vp_in (l4 + 1) G.2.2.2.2.2.2.1) ∧ zC G d mX11_ask 0 0 [.ref (x), .int (G.2.2.2.2.2.2.2 (l4 + 1 : Int32).toNatClampNeg)] (I, J, R, K, n) (fun r h => ∃ (x426 : Int32) (I427 : Nat → Nat → Int32), r = some (.int x426) ∧ h = (I427, J, R, K, n) ∧ ((vp_in (l4 + 1) G.2.2.2.2.2.2.1) ∧ zC G d mX12_ask 0 0 [.ref (m), .int (G.2.2.2.2.2.2.2 (l4 + 1 : Int32).toNatClampNeg)] (I427, J, R, K, n) (fun r h => ∃ (x429 : Int32) (I430 : Nat → Nat → Int32) (J431 : Nat → Nat → Int64) (R432 : Nat → Nat → Option Nat), r = some (.int x429) ∧ h = (I430, J431, R432, K, n) ∧ ∃ u433 u434 u435 : Nat, hX G R432 K n x u433 u434 u435 ∧ ∃ u437 u438 : Nat, hMod G R432 K n m u437 u438 ∧ hOut G R432 K n o ∧ ((x426 = x429 → zV G (d + 1) mL_law (kc + 4) (ks + 300) 23 [(0, .ref (G.2.2.2.2.2.1 3)), (1, .ref (x)), (2, .ref (m)), (3, .ref (o)), (4, .int (l4 + 6))] [] (I430, J431, R432, K, n) Q) ∧ (¬ (x426 = x429) → Q (some (.int (0))) (I430, J431, R432, K, n)))))))) ∧ (((G.2.2.2.2.2.2.2 l4.toNatClampNeg) &&& 63) = 28 → zC G d mX11_ring 0 0 [.ref (x)] (I, J, R, K, n) (fun r h => ∃ (x443 : Int32) (I444 : Nat → Nat → Int32), r = some (.int x443) ∧ h = (I444, J, R, K, n) ∧ zC G d mX12_ring 0 0 [.ref (m)] (I444, J, R, K, n) (fun r h => ∃ (x445 : Int32) (I446 : Nat → Nat → Int32), r = some (.int x445) ∧ h = (I446, J, R, K, n) ∧ ((x443 = x445 → zV G (d + 1) mL_law (kc + 4) (ks + 300) 23 [(0, .ref (G.2.2.2.2.2.1 3)), (1, .ref (x)), (2, .ref (m)), (3, .ref (o)), (4, .int (l4 + 6))] [] (I446, J, R, K, n) Q) ∧ (¬ (x443 = x445) → Q (some (.int (0))) (I446, J, R, K, n)))))) ∧ (((G.2.2.2.2.2.2.2 l4.toNatClampNeg) &&& 63) = 29 → ((vp_in (l4 + 1) G.2.2.2.2.2.2.1) ∧ ((vp_in (l4 + 2) G.2.2.2.2.2.2.1) ∧ zC G d mX11_chain 0 0 [.ref (x), .int (G.2.2.2.2.2.2.2 (l4 + 1 : Int32).toNatClampNeg), .int (G.2.2.2.2.2.2.2 (l4 + 2 : Int32).toNatClampNeg)] (I, J, R, K, n) (fun r h => ∃ (x451 : Int32) (I452 : Nat → Nat → Int32), r = some (.int x451) ∧ h = (I452, J, R, K, n) ∧ ((vp_in (l4 + 1) G.2.2.2.2.2.2.1) ∧ ((vp_in (l4 + 2) G.2.2.2.2.2.2.1) ∧ zC G d mX12_chain 0 0 [.ref (m), .int (G.2.2.2.2.2.2.2 (l4 + 1 : Int32).toNatClampNeg), .int (G.2.2.2.2.2.2.2 (l4 + 2 : Int32).toNatClampNeg)] (I452, J, R, K, n) (fun r h => ∃ (x455 : Int32) (I456 : Nat → Nat → Int32), r = some (.int x455) ∧ h = (I456, J, R, K, n) ∧ ((x451 = x455 → zV G (d + 1) mL_law (kc + 4) (ks + 300) 23 [(0, .ref (G.2.2.2.2.2.1 3)), (1, .ref (x)), (2, .ref (m)), (3, .ref (o)), (4, .int (l4 + 6))] [] (I456, J, R, K, n) Q) ∧ (¬ (x451 = x455) → Q (some (.int (0))) (I456, J, R, K, n)))))))))) ∧ (((G.2.2.2.2.2.2.2 l4.toNatClampNeg) &&& 63) = 30 → ((vp_in (l4 + 1) G.2.2.2.2.2.2.1) ∧ ((vp_in (l4 + 2) G.2.2.2.2.2.2.1) ∧ zC G d mX11_score 0 0 [.ref (x), .int (G.2.2.2.2.2.2.2 (l4 + 1 : Int32).toNatClampNeg), .int (G.2.2.2.2.2.2.2 (l4 + 2 : Int32).toNatClampNeg)] (I, J, R, K, n) (fun r h => ∃ (x461 : Int32) (I462 : Nat → Nat → Int32), r = some (.int x461) ∧ h = (I462, J, R, K, n) ∧ ((vp_in (l4 + 1) G.2.2.2.2.2.2.1) ∧ ((vp_in (l4 + 2) G.2.2.2.2.2.2.1) ∧ zC G d mX12_score 0 0 [.ref (m), .int (G.2.2.2.2.2.2.2 (l4 + 1 : Int32).toNatClampNeg), .int (G.2.2.2.2.2.2.2 (l4 + 2 : Int32).toNatClampNeg)] (I462, J, R, K, n) (fun r h => ∃ (x465 : Int32) (I466 : Nat → Nat → Int32), r = some (.int x465) ∧ h = (I466, J, R, K, n) ∧ ((x461 = x465 → zV G (d + 1) mL_law (kc + 4) (ks + 300) 23 [(0, .ref (G.2.2.2.2.2.1 3)), (1, .ref (x)), (2, .ref (m)), (3, .ref (o)), (4, .int (l4 + 6))] [] (I466, J, R, K, n) Q) ∧ (¬ (x461 = x465) → Q (some (.int (0))) (I466, J, R, K, n)))))))))) ∧ (((G.2.2.2.2.2.2.2 l4.toNatClampNeg) &&& 63) = 31 → ((vp_in (l4 + 1) G.2.2.2.2.2.2.1) ∧ ((vp_in (l4 + 2) G.2.2.2.2.2.2.1) ∧ ((vp_in (l4 + 3) G.2.2.2.2.2.2.1) ∧ ((vp_in (l4 + 4) G.2.2.2.2.2.2.1) ∧ ((vp_in (l4 + 5) G.2.2.2.2.2.2.1) ∧ zC G d mX11_game 0 0 [.ref (x), .int (G.2.2.2.2.2.2.2 (l4 + 1 : Int32).toNatClampNeg), .int (G.2.2.2.2.2.2.2 (l4 + 2 : Int32).toNatClampNeg), .int (G.2.2.2.2.2.2.2 (l4 + 3 : Int32).toNatClampNeg), .int (G.2.2.2.2.2.2.2 (l4 + 4 : Int32).toNatClampNeg), .int (G.2.2.2.2.2.2.2 (l4 + 5 : Int32).toNatClampNeg)] (I, J, R, K, n) (fun r h => ∃ (x474 : Int32) (I475 : Nat → Nat → Int32), r = some (.int x474) ∧ h = (I475, J, R, K, n) ∧ ((vp_in (l4 + 1) G.2.2.2.2.2.2.1) ∧ ((vp_in (l4 + 2) G.2.2.2.2.2.2.1) ∧ ((vp_in (l4 + 3) G.2.2.2.2.2.2.1) ∧ ((vp_in (l4 + 4) G.2.2.2.2.2.2.1) ∧ ((vp_in (l4 + 5) G.2.2.2.2.2.2.1) ∧ zC G d mX12_game 0 0 [.ref (m), .int (G.2.2.2.2.2.2.2 (l4 + 1 : Int32).toNatClampNeg), .int (G.2.2.2.2.2.2.2 (l4 + 2 : Int32).toNatClampNeg), .int (G.2.2.2.2.2.2.2 (l4 + 3 : Int32).toNatClampNeg), .int (G.2.2.2.2.2.2.2 (l4 + 4 : Int32).toNatClampNeg), .int (G.2.2.2.2.2.2.2 (l4 + 5 : Int32).toNatClampNeg)] (I475, J, R, K, n) (fun r h => ∃ (x481 : Int32) (I482 : Nat → Nat → Int32) (J483 : Nat → Nat → Int64) (R484 : Nat → Nat → Option Nat), r = some (.int x481) ∧ h = (I482, J483, R484, K, n) ∧ ∃ u485 u486 u487 : Nat, hX G R484 K n x u485 u486 u487 ∧ ∃ u489 u490 : Nat, hMod G R484 K n m u489 u490 ∧ hOut G R484 K n o ∧ ((x474 = x481 → zV G (d + 1) mL_law (kc + 4) (ks + 300) 23 [(0, .ref (G.2.2.2.2.2.1 3)), (1, .ref (x)), (2, .ref (m)), (3, .ref (o)), (4, .int (l4 + 6))] [] (I482, J483, R484, K, n) Q) ∧ (¬ (x474 = x481) → Q (some (.int (0))) (I482, J483, R484, K, n)))))))))))))))) ∧ (((G.2.2.2.2.2.2.2 l4.toNatClampNeg) &&& 63) = 32 → ((vp_in (l4 + 1) G.2.2.2.2.2.2.1) ∧ ((vp_in (l4 + 2) G.2.2.2.2.2.2.1) ∧ ((vp_in (l4 + 3) G.2.2.2.2.2.2.1) ∧ zC G d mX11_rests 0 0 [.ref (x), .int (G.2.2.2.2.2.2.2 (l4 + 1 : Int32).toNatClampNeg), .int (G.2.2.2.2.2.2.2 (l4 + 2 : Int32).toNatClampNeg), .int (G.2.2.2.2.2.2.2 (l4 + 3 : Int32).toNatClampNeg)] (I, J, R, K, n) (fun r h => ∃ (x498 : Int32) (I499 : Nat → Nat → Int32), r = some (.int x498) ∧ h = (I499, J, R, K, n) ∧ ((vp_in (l4 + 1) G.2.2.2.2.2.2.1) ∧ ((vp_in (l4 + 2) G.2.2.2.2.2.2.1) ∧ ((vp_in (l4 + 3) G.2.2.2.2.2.2.1) ∧ zC G d mX12_rests 0 0 [.ref (m), .int (G.2.2.2.2.2.2.2 (l4 + 1 : Int32).toNatClampNeg), .int (G.2.2.2.2.2.2.2 (l4 + 2 : Int32).toNatClampNeg), .int (G.2.2.2.2.2.2.2 (l4 + 3 : Int32).toNatClampNeg)] (I499, J, R, K, n) (fun r h => ∃ (x503 : Int32) (I504 : Nat → Nat → Int32) (J505 : Nat → Nat → Int64) (R506 : Nat → Nat → Option Nat), r = some (.int x503) ∧ h = (I504, J505, R506, K, n) ∧ ∃ u507 u508 u509 : Nat, hX G R506 K n x u507 u508 u509 ∧ ∃ u511 u512 : Nat, hMod G R506 K n m u511 u512 ∧ hOut G R506 K n o ∧ ((x498 = x503 → zV G (d + 1) mL_law (kc + 4) (ks + 300) 23 [(0, .ref (G.2.2.2.2.2.1 3)), (1, .ref (x)), (2, .ref (m)), (3, .ref (o)), (4, .int (l4 + 6))] [] (I504, J505, R506, K, n) Q) ∧ (¬ (x498 = x503) → Q (some (.int (0))) (I504, J505, R506, K, n)))))))))))) ∧ (((G.2.2.2.2.2.2.2 l4.toNatClampNeg) &&& 63) = 33 → ((vp_in (l4 + 1) G.2.2.2.2.2.2.1) ∧ ((vp_in (l4 + 2) G.2.2.2.2.2.2.1) ∧ zC G d mX11_odds 0 0 [.ref (x), .int (G.2.2.2.2.2.2.2 (l4 + 1 : Int32).toNatClampNeg), .int (G.2.2.2.2.2.2.2 (l4 + 2 : Int32).toNatClampNeg)] (I, J, R, K, n) (fun r h => ∃ (x519 : Int32) (I520 : Nat → Nat → Int32), r = some (.int x519) ∧ h = (I520, J, R, K, n) ∧ ((vp_in (l4 + 1) G.2.2.2.2.2.2.1) ∧ ((vp_in (l4 + 2) G.2.2.2.2.2.2.1) ∧ zC G d mX12_odds 0 0 [.ref (m), .int (G.2.2.2.2.2.2.2 (l4 + 1 : Int32).toNatClampNeg), .int (G.2.2.2.2.2.2.2 (l4 + 2 : Int32).toNatClampNeg)] (I520, J, R, K, n) (fun r h => ∃ (x523 : Int32) (I524 : Nat → Nat → Int32) (J525 : Nat → Nat → Int64) (R526 : Nat → Nat → Option Nat), r = some (.int x523) ∧ h = (I524, J525, R526, K, n) ∧ ∃ u527 u528 u529 : Nat, hX G R526 K n x u527 u528 u529 ∧ ∃ u531 u532 : Nat, hMod G R526 K n m u531 u532 ∧ hOut G R526 K n o ∧ ((x519 = x523 → zV G (d + 1) mL_law (kc + 4) (ks + 300) 23 [(0, .ref (G.2.2.2.2.2.1 3)), (1, .ref (x)), (2, .ref (m)), (3, .ref (o)), (4, .int (l4 + 6))] [] (I524, J525, R526, K, n) Q) ∧ (¬ (x519 = x523) → Q (some (.int (0))) (I524, J525, R526, K, n)))))))))) ∧ (((G.2.2.2.2.2.2.2 l4.toNatClampNeg) &&& 63) = 34 → ((vp_in (l4 + 1) G.2.2.2.2.2.2.1) ∧ ((vp_in (l4 + 2) G.2.2.2.2.2.2.1) ∧ zC G d mX11_shares 0 0 [.ref (x), .int (G.2.2.2.2.2.2.2 (l4 + 1 : Int32).toNatClampNeg), .int (G.2.2.2.2.2.2.2 (l4 + 2 : Int32).toNatClampNeg)] (I, J, R, K, n) (fun r h => ∃ (x539 : Int32) (I540 : Nat → Nat → Int32), r = some (.int x539) ∧ h = (I540, J, R, K, n) ∧ ((vp_in (l4 + 1) G.2.2.2.2.2.2.1) ∧ ((vp_in (l4 + 2) G.2.2.2.2.2.2.1) ∧ zC G d mX12_shares 0 0 [.ref (m), .int (G.2.2.2.2.2.2.2 (l4 + 1 : Int32).toNatClampNeg), .int (G.2.2.2.2.2.2.2 (l4 + 2 : Int32).toNatClampNeg)] (I540, J, R, K, n) (fun r h => ∃ (x543 : Int32) (I544 : Nat → Nat → Int32), r = some (.int x543) ∧ h = (I544, J, R, K, n) ∧ ((x539 = x543 → zV G (d + 1) mL_law (kc + 4) (ks + 300) 23 [(0, .ref (G.2.2.2.2.2.1 3)), (1, .ref (x)), (2, .ref (m)), (3, .ref (o)), (4, .int (l4 + 6))] [] (I544, J, R, K, n) Q) ∧ (¬ (x539 = x543) → Q (some (.int (0))) (I544, J, R, K, n)))))))))) ∧ (((G.2.2.2.2.2.2.2 l4.toNatClampNeg) &&& 63) = 35 → ((vp_in (l4 + 1) G.2.2.2.2.2.2.1) ∧ zC G d mX11_fades 0 0 [.ref (x), .int (G.2.2.2.2.2.2.2 (l4 + 1 : Int32).toNatClampNeg)] (I, J, R, K, n) (fun r h => ∃ (x548 : Int32) (I549 : Nat → Nat → Int32), r = some (.int x548) ∧ h = (I549, J, R, K, n) ∧ ((vp_in (l4 + 1) G.2.2.2.2.2.2.1) ∧ zC G d mX12_fades 0 0 [.ref (m), .int (G.2.2.2.2.2.2.2 (l4 + 1 : Int32).toNatClampNeg)] (I549, J, R, K, n) (fun r h => ∃ (x551 : Int32) (I552 : Nat → Nat → Int32), r = some (.int x551) ∧ h = (I552, J, R, K, n) ∧ ((x548 = x551 → zV G (d + 1) mL_law (kc + 4) (ks + 300) 23 [(0, .ref (G.2.2.2.2.2.1 3)), (1, .ref (x)), (2, .ref (m)), (3, .ref (o)), (4, .int (l4 + 6))] [] (I552, J, R, K, n) Q) ∧ (¬ (x548 = x551) → Q (some (.int (0))) (I552, J, R, K, n)))))))) ∧ (((G.2.2.2.2.2.2.2 l4.toNatClampNeg) &&& 63) = 36 → ((vp_in (l4 + 1) G.2.2.2.2.2.2.1) ∧ zC G d mX11_all 0 0 [.ref (x), .int (G.2.2.2.2.2.2.2 (l4 + 1 : Int32).toNatClampNeg)] (I, J, R, K, n) (fun r h => ∃ (x556 : Int32) (I557 : Nat → Nat → Int32), r = some (.int x556) ∧ h = (I557, J, R, K, n) ∧ ((vp_in (l4 + 1) G.2.2.2.2.2.2.1) ∧ zC G d mX12_all 0 0 [.ref (m), .int (G.2.2.2.2.2.2.2 (l4 + 1 : Int32).toNatClampNeg)] (I557, J, R, K, n) (fun r h => ∃ (x559 : Int32) (I560 : Nat → Nat → Int32), r = some (.int x559) ∧ h = (I560, J, R, K, n) ∧ ((x556 = x559 → zV G (d + 1) mL_law (kc + 4) (ks + 300) 23 [(0, .ref (G.2.2.2.2.2.1 3)), (1, .ref (x)), (2, .ref (m)), (3, .ref (o)), (4, .int (l4 + 6))] [] (I560, J, R, K, n) Q) ∧ (¬ (x556 = x559) → Q (some (.int (0))) (I560, J, R, K, n)))))))) ∧ (((G.2.2.2.2.2.2.2 l4.toNatClampNeg) &&& 63) = 37 → zC G d mX11_image 0 0 [.ref (x)] (I, J, R, K, n) (fun r h => ∃ (x563 : Int32) (I564 : Nat → Nat → Int32), r = some (.int x563) ∧ h = (I564, J, R, K, n) ∧ zC G d mX12_image 0 0 [.ref (m)] (I564, J, R, K, n) (fun r h => ∃ (x565 : Int32) (I566 : Nat → Nat → Int32), r = some (.int x565) ∧ h = (I566, J, R, K, n) ∧ ((x563 = x565 → zV G (d + 1) mL_law (kc + 4) (ks + 300) 23 [(0, .ref (G.2.2.2.2.2.1 3)), (1, .ref (x)), (2, .ref (m)), (3, .ref (o)), (4, .int (l4 + 6))] [] (I566, J, R, K, n) Q) ∧ (¬ (x563 = x565) → Q (some (.int (0))) (I566, J, R, K, n)))))) ∧ (((G.2.2.2.2.2.2.2 l4.toNatClampNeg) &&& 63) = 38 → zC G d mX11_back 0 0 [.ref (x)] (I, J, R, K, n) (fun r h => ∃ (x569 : Int32) (I570 : Nat → Nat → Int32), r = some (.int x569) ∧ h = (I570, J, R, K, n) ∧ zC G d mX12_back 0 0 [.ref (m)] (I570, J, R, K, n) (fun r h => ∃ (x571 : Int32) (I572 : Nat → Nat → Int32), r = some (.int x571) ∧ h = (I572, J, R, K, n) ∧ ((x569 = x571 → zV G (d + 1) mL_law (kc + 4) (ks + 300) 23 [(0, .ref (G.2.2.2.2.2.1 3)), (1, .ref (x)), (2, .ref (m)), (3, .ref (o)), (4, .int (l4 + 6))] [] (I572, J, R, K, n) Q) ∧ (¬ (x569 = x571) → Q (some (.int (0))) (I572, J, R, K, n)))))) ∧ (((G.2.2.2.2.2.2.2 l4.toNatClampNeg) &&& 63) = 39 → ((vp_in (l4 + 1) G.2.2.2.2.2.2.1) ∧ zC G d mX11_count 0 0 [.ref (x), .int (G.2.2.2.2.2.2.2 (l4 + 1 : Int32).toNatClampNeg)] (I, J, R, K, n) (fun r h => ∃ (x576 : Int32) (I577 : Nat → Nat → Int32), r = some (.int x576) ∧ h = (I577, J, R, K, n) ∧ ((vp_in (l4 + 1) G.2.2.2.2.2.2.1) ∧ zC G d mX12_count 0 0 [.ref (m), .int (G.2.2.2.2.2.2.2 (l4 + 1 : Int32).toNatClampNeg)] (I577, J, R, K, n) (fun r h => ∃ (x579 : Int32) (I580 : Nat → Nat → Int32), r = some (.int x579) ∧ h = (I580, J, R, K, n) ∧ ((x576 = x579 → zV G (d + 1) mL_law (kc + 4) (ks + 300) 23 [(0, .ref (G.2.2.2.2.2.1 3)), (1, .ref (x)), (2, .ref (m)), (3, .ref (o)), (4, .int (l4 + 6))] [] (I580, J, R, K, n) Q) ∧ (¬ (x576 = x579) → Q (some (.int (0))) (I580, J, R, K, n)))))))) ∧ (¬ ((G.2.2.2.2.2.2.2 l4.toNatClampNeg) &&& 63) = 0 → ¬ ((G.2.2.2.2.2.2.2 l4.toNatClampNeg) &&& 63) = 1 → ¬ ((G.2.2.2.2.2.2.2 l4.toNatClampNeg) &&& 63) = 2 → ¬ ((G.2.2.2.2.2.2.2 l4.toNatClampNeg) &&& 63) = 3 → ¬ ((G.2.2.2.2.2.2.2 l4.toNatClampNeg) &&& 63) = 4 → ¬ ((G.2.2.2.2.2.2.2 l4.toNatClampNeg) &&& 63) = 5 → ¬ ((G.2.2.2.2.2.2.2 l4.toNatClampNeg) &&& 63) = 6 → ¬ ((G.2.2.2.2.2.2.2 l4.toNatClampNeg) &&& 63) = 7 → ¬ ((G.2.2.2.2.2.2.2 l4.toNatClampNeg) &&& 63) = 8 → ¬ ((G.2.2.2.2.2.2.2 l4.toNatClampNeg) &&& 63) = 9 → ¬ ((G.2.2.2.2.2.2.2 l4.toNatClampNeg) &&& 63) = 10 → ¬ ((G.2.2.2.2.2.2.2 l4.toNatClampNeg) &&& 63) = 11 → ¬ ((G.2.2.2.2.2.2.2 l4.toNatClampNeg) &&& 63) = 12 → ¬ ((G.2.2.2.2.2.2.2 l4.toNatClampNeg) &&& 63) = 13 → ¬ ((G.2.2.2.2.2.2.2 l4.toNatClampNeg) &&& 63) = 14 → ¬ ((G.2.2.2.2.2.2.2 l4.toNatClampNeg) &&& 63) = 15 → ¬ ((G.2.2.2.2.2.2.2 l4.toNatClampNeg) &&& 63) = 16 → ¬ ((G.2.2.2.2.2.2.2 l4.toNatClampNeg) &&& 63) = 17 → ¬ ((G.2.2.2.2.2.2.2 l4.toNatClampNeg) &&& 63) = 18 → ¬ ((G.2.2.2.2.2.2.2 l4.toNatClampNeg) &&& 63) = 19 → ¬ ((G.2.2.2.2.2.2.2 l4.toNatClampNeg) &&& 63) = 20 → ¬ ((G.2.2.2.2.2.2.2 l4.toNatClampNeg) &&& 63) = 21 → ¬ ((G.2.2.2.2.2.2.2 l4.toNatClampNeg) &&& 63) = 22 → ¬ ((G.2.2.2.2.2.2.2 l4.toNatClampNeg) &&& 63) = 23 → ¬ ((G.2.2.2.2.2.2.2 l4.toNatClampNeg) &&& 63) = 24 → ¬ ((G.2.2.2.2.2.2.2 l4.toNatClampNeg) &&& 63) = 25 → ¬ ((G.2.2.2.2.2.2.2 l4.toNatClampNeg) &&& 63) = 26 → ¬ ((G.2.2.2.2.2.2.2 l4.toNatClampNeg) &&& 63) = 27 → ¬ ((G.2.2.2.2.2.2.2 l4.toNatClampNeg) &&& 63) = 28 → ¬ ((G.2.2.2.2.2.2.2 l4.toNatClampNeg) &&& 63) = 29 → ¬ ((G.2.2.2.2.2.2.2 l4.toNatClampNeg) &&& 63) = 30 → ¬ ((G.2.2.2.2.2.2.2 l4.toNatClampNeg) &&& 63) = 31 → ¬ ((G.2.2.2.2.2.2.2 l4.toNatClampNeg) &&& 63) = 32 → ¬ ((G.2.2.2.2.2.2.2 l4.toNatClampNeg) &&& 63) = 33 → ¬ ((G.2.2.2.2.2.2.2 l4.toNatClampNeg) &&& 63) = 34 → ¬ ((G.2.2.2.2.2.2.2 l4.toNatClampNeg) &&& 63) = 35 → ¬ ((G.2.2.2.2.2.2.2 l4.toNatClampNeg) &&& 63) = 36 → ¬ ((G.2.2.2.2.2.2.2 l4.toNatClampNeg) &&& 63) = 37 → ¬ ((G.2.2.2.2.2.2.2 l4.toNatClampNeg) &&& 63) = 38 → ¬ ((G.2.2.2.2.2.2.2 l4.toNatClampNeg) &&& 63) = 39 → zV G (d + 1) mL_law (kc + 4) (ks + 300) 23 [(0, .ref (G.2.2.2.2.2.1 3)), (1, .ref (x)), (2, .ref (m)), (3, .ref (o)), (4, .int (l4 + 6))] [] (I, J, R, K, n) Q)))))) : zV G (d + 1) mL_law (kc + 4) (ks + 300) 23 [(0, .ref (G.2.2.2.2.2.1 3)), (1, .ref (x)), (2, .ref (m)), (3, .ref (o)), (4, .int (l4))] [] (I, J, R, K, n) Q := by
  refine zIload 4 4 25 (by decide +kernel) rfl rfl ?_
  refine zAload_n 0 0 26 (by decide +kernel) rfl rfl ?_
  refine zSalen 27 (by decide +kernel) rfl ?_
  refine zBipush 6 6 29 (by decide +kernel) rfl (by decide) ?_
  refine zIsub 30 (by decide +kernel) rfl ?_
  refine zIcmp_gt 1559 1589 33 (by decide +kernel) rfl rfl ⟨fun q1 => ?_, fun q1 => ?_⟩
  · replace F := F.1 q1
    refine zIconst 1 1 1590 (by decide +kernel) rfl (by decide) ?_
    exact zZret .boolean rfl (zNarZ (Or.inr rfl)) (by decide +kernel) F
  · replace F := F.2 q1
    refine zAload_n 0 0 34 (by decide +kernel) rfl rfl ?_
    refine zIload 4 4 36 (by decide +kernel) rfl rfl ?_
    obtain ⟨w2, F⟩ := F
    refine zSaload 37 (by decide +kernel) rfl (w2) ?_
    refine zBipush 63 63 39 (by decide +kernel) rfl (by decide) ?_
    refine zIand 40 (by decide +kernel) rfl ?_
    by_cases q3 : ((G.2.2.2.2.2.2.2 l4.toNatClampNeg) &&& 63) = 0
    · replace F := F.1 q3
      have zt := zEqT q3 (show (0 : Int32).toInt = 0 by decide)
      refine zTableIn 1543 0 39 #[176, 249, 274, 299, 324, 392, 429, 454, 479, 504, 541, 566, 615, 640, 665, 678, 747, 760, 797, 846, 883, 908, 945, 970, 1007, 1032, 1097, 1134, 1159, 1172, 1209, 1246, 1319, 1368, 1405, 1442, 1467, 1492, 1505, 1518] 176 176 216 (by decide +kernel) (by omega) (by omega) (by rw [zt]; decide) rfl ?_
      refine zAload_n 1 1 217 (by decide +kernel) rfl rfl ?_
      refine zAload_n 0 0 218 (by decide +kernel) rfl rfl ?_
      refine zIload 4 4 220 (by decide +kernel) rfl rfl ?_
      refine zIconst 1 1 221 (by decide +kernel) rfl (by decide) ?_
      refine zIadd 222 (by decide +kernel) rfl ?_
      obtain ⟨w4, F⟩ := F
      refine zSaload 223 (by decide +kernel) rfl (w4) ?_
      refine zAload_n 0 0 224 (by decide +kernel) rfl rfl ?_
      refine zIload 4 4 226 (by decide +kernel) rfl rfl ?_
      refine zIconst 2 2 227 (by decide +kernel) rfl (by decide) ?_
      refine zIadd 228 (by decide +kernel) rfl ?_
      obtain ⟨w5, F⟩ := F
      refine zSaload 229 (by decide +kernel) rfl (w5) ?_
      refine zAload_n 0 0 230 (by decide +kernel) rfl rfl ?_
      refine zIload 4 4 232 (by decide +kernel) rfl rfl ?_
      refine zIconst 3 3 233 (by decide +kernel) rfl (by decide) ?_
      refine zIadd 234 (by decide +kernel) rfl ?_
      obtain ⟨w6, F⟩ := F
      refine zSaload 235 (by decide +kernel) rfl (w6) ?_
      refine zAload_n 0 0 236 (by decide +kernel) rfl rfl ?_
      refine zIload 4 4 238 (by decide +kernel) rfl rfl ?_
      refine zIconst 4 4 239 (by decide +kernel) rfl (by decide) ?_
      refine zIadd 240 (by decide +kernel) rfl ?_
      obtain ⟨w7, F⟩ := F
      refine zSaload 241 (by decide +kernel) rfl (w7) ?_
      refine zAload_n 0 0 242 (by decide +kernel) rfl rfl ?_
      refine zIload 4 4 244 (by decide +kernel) rfl rfl ?_
      refine zIconst 5 5 245 (by decide +kernel) rfl (by decide) ?_
      refine zIadd 246 (by decide +kernel) rfl ?_
      obtain ⟨w8, F⟩ := F
      refine zSaload 247 (by decide +kernel) rfl (w8) ?_
      refine zCallV 11 zcls11 mX11_feed 19 5 0 0 _ _ 250 [.int (G.2.2.2.2.2.2.2 (l4 + 1 : Int32).toNatClampNeg), .int (G.2.2.2.2.2.2.2 (l4 + 2 : Int32).toNatClampNeg), .int (G.2.2.2.2.2.2.2 (l4 + 3 : Int32).toNatClampNeg), .int (G.2.2.2.2.2.2.2 (l4 + 4 : Int32).toNatClampNeg), .int (G.2.2.2.2.2.2.2 (l4 + 5 : Int32).toNatClampNeg)] [] okX11_feed mlL_19 imX11_feed seX11_feed (by decide +kernel) rfl rfl (Nat.le_of_ble_eq_true rfl) rfl rfl (X_0 S0_) (zC.mono F ?_)
      rintro _ _ ⟨x9, I10, rfl, rfl, F⟩
      change zV G (d + 1) mL_law (kc + 4) (ks + 300) 250 [(0, .ref (G.2.2.2.2.2.1 3)), (1, .ref (x)), (2, .ref (m)), (3, .ref (o)), (4, .int (l4))] [.int (x9)] (I10, J, R, K, n) Q
      refine zAload_n 2 2 251 (by decide +kernel) rfl rfl ?_
      refine zAload_n 0 0 252 (by decide +kernel) rfl rfl ?_
      refine zIload 4 4 254 (by decide +kernel) rfl rfl ?_
      refine zIconst 1 1 255 (by decide +kernel) rfl (by decide) ?_
      refine zIadd 256 (by decide +kernel) rfl ?_
      obtain ⟨w11, F⟩ := F
      refine zSaload 257 (by decide +kernel) rfl (w11) ?_
      refine zAload_n 0 0 258 (by decide +kernel) rfl rfl ?_
      refine zIload 4 4 260 (by decide +kernel) rfl rfl ?_
      refine zIconst 2 2 261 (by decide +kernel) rfl (by decide) ?_
      refine zIadd 262 (by decide +kernel) rfl ?_
      obtain ⟨w12, F⟩ := F
      refine zSaload 263 (by decide +kernel) rfl (w12) ?_
      refine zAload_n 0 0 264 (by decide +kernel) rfl rfl ?_
      refine zIload 4 4 266 (by decide +kernel) rfl rfl ?_
      refine zIconst 3 3 267 (by decide +kernel) rfl (by decide) ?_
      refine zIadd 268 (by decide +kernel) rfl ?_
      obtain ⟨w13, F⟩ := F
      refine zSaload 269 (by decide +kernel) rfl (w13) ?_
      refine zAload_n 0 0 270 (by decide +kernel) rfl rfl ?_
      refine zIload 4 4 272 (by decide +kernel) rfl rfl ?_
      refine zIconst 4 4 273 (by decide +kernel) rfl (by decide) ?_
      refine zIadd 274 (by decide +kernel) rfl ?_
      obtain ⟨w14, F⟩ := F
      refine zSaload 275 (by decide +kernel) rfl (w14) ?_
      refine zAload_n 0 0 276 (by decide +kernel) rfl rfl ?_
      refine zIload 4 4 278 (by decide +kernel) rfl rfl ?_
      refine zIconst 5 5 279 (by decide +kernel) rfl (by decide) ?_
      refine zIadd 280 (by decide +kernel) rfl ?_
      obtain ⟨w15, F⟩ := F
      refine zSaload 281 (by decide +kernel) rfl (w15) ?_
      refine zCallV 12 zcls12 mX12_feed 23 5 0 0 _ _ 284 [.int (G.2.2.2.2.2.2.2 (l4 + 1 : Int32).toNatClampNeg), .int (G.2.2.2.2.2.2.2 (l4 + 2 : Int32).toNatClampNeg), .int (G.2.2.2.2.2.2.2 (l4 + 3 : Int32).toNatClampNeg), .int (G.2.2.2.2.2.2.2 (l4 + 4 : Int32).toNatClampNeg), .int (G.2.2.2.2.2.2.2 (l4 + 5 : Int32).toNatClampNeg)] [.int (x9)] okX12_feed mlL_23 imX12_feed seX12_feed (by decide +kernel) rfl rfl (Nat.le_of_ble_eq_true rfl) rfl rfl (Mod_0 S1_) (zC.mono F ?_)
      rintro _ _ ⟨x16, I17, rfl, rfl, F⟩
      change zV G (d + 1) mL_law (kc + 4) (ks + 300) 284 [(0, .ref (G.2.2.2.2.2.1 3)), (1, .ref (x)), (2, .ref (m)), (3, .ref (o)), (4, .int (l4))] [.int (x16), .int (x9)] (I17, J, R, K, n) Q
      refine zIcmp_eq 1299 1583 287 (by decide +kernel) rfl rfl ⟨fun q18 => ?_, fun q18 => ?_⟩
      · replace F := F.1 q18
        refine zIinc 4 6 4 (l4 + 6) [(4, .int (l4 + 6)), (0, .ref (G.2.2.2.2.2.1 3)), (1, .ref (x)), (2, .ref (m)), (3, .ref (o))] 1586 (by decide +kernel) rfl rfl (by rfl) (by decide) rfl ?_
        refine zGoto (-1563) 23 (by decide +kernel) rfl ?_
        exact zLoc [1, 2, 3, 4, 0] _ rfl F
      · replace F := F.2 q18
        refine zIconst 0 0 288 (by decide +kernel) rfl (by decide) ?_
        exact zZret .boolean rfl (zNarZ (Or.inl rfl)) (by decide +kernel) F
    · skip
      by_cases q19 : ((G.2.2.2.2.2.2.2 l4.toNatClampNeg) &&& 63) = 1
      · replace F := F.2.1 q19
        have zt := zEqT q19 (show (1 : Int32).toInt = 1 by decide)
        refine zTableIn 1543 0 39 #[176, 249, 274, 299, 324, 392, 429, 454, 479, 504, 541, 566, 615, 640, 665, 678, 747, 760, 797, 846, 883, 908, 945, 970, 1007, 1032, 1097, 1134, 1159, 1172, 1209, 1246, 1319, 1368, 1405, 1442, 1467, 1492, 1505, 1518] 176 249 289 (by decide +kernel) (by omega) (by omega) (by rw [zt]; decide) rfl ?_
        refine zAload_n 1 1 290 (by decide +kernel) rfl rfl ?_
        refine zAload_n 0 0 291 (by decide +kernel) rfl rfl ?_
        refine zIload 4 4 293 (by decide +kernel) rfl rfl ?_
        refine zIconst 1 1 294 (by decide +kernel) rfl (by decide) ?_
        refine zIadd 295 (by decide +kernel) rfl ?_
        obtain ⟨w20, F⟩ := F
        refine zSaload 296 (by decide +kernel) rfl (w20) ?_
        refine zCallV 11 zcls11 mX11_end 24 1 0 0 _ _ 299 [.int (G.2.2.2.2.2.2.2 (l4 + 1 : Int32).toNatClampNeg)] [] okX11_end mlL_24 imX11_end seX11_end (by decide +kernel) rfl rfl (Nat.le_of_ble_eq_true rfl) rfl rfl (X_0 S0_) (zC.mono F ?_)
        rintro _ _ ⟨x21, I22, rfl, rfl, F⟩
        change zV G (d + 1) mL_law (kc + 4) (ks + 300) 299 [(0, .ref (G.2.2.2.2.2.1 3)), (1, .ref (x)), (2, .ref (m)), (3, .ref (o)), (4, .int (l4))] [.int (x21)] (I22, J, R, K, n) Q
        refine zAload_n 2 2 300 (by decide +kernel) rfl rfl ?_
        refine zAload_n 0 0 301 (by decide +kernel) rfl rfl ?_
        refine zIload 4 4 303 (by decide +kernel) rfl rfl ?_
        refine zIconst 1 1 304 (by decide +kernel) rfl (by decide) ?_
        refine zIadd 305 (by decide +kernel) rfl ?_
        obtain ⟨w23, F⟩ := F
        refine zSaload 306 (by decide +kernel) rfl (w23) ?_
        refine zCallV 12 zcls12 mX12_end 28 1 0 0 _ _ 309 [.int (G.2.2.2.2.2.2.2 (l4 + 1 : Int32).toNatClampNeg)] [.int (x21)] okX12_end mlL_28 imX12_end seX12_end (by decide +kernel) rfl rfl (Nat.le_of_ble_eq_true rfl) rfl rfl (Mod_0 S1_) (zC.mono F ?_)
        rintro _ _ ⟨x24, I25, rfl, rfl, F⟩
        change zV G (d + 1) mL_law (kc + 4) (ks + 300) 309 [(0, .ref (G.2.2.2.2.2.1 3)), (1, .ref (x)), (2, .ref (m)), (3, .ref (o)), (4, .int (l4))] [.int (x24), .int (x21)] (I25, J, R, K, n) Q
        refine zIcmp_eq 1274 1583 312 (by decide +kernel) rfl rfl ⟨fun q26 => ?_, fun q26 => ?_⟩
        · replace F := F.1 q26
          refine zIinc 4 6 4 (l4 + 6) [(4, .int (l4 + 6)), (0, .ref (G.2.2.2.2.2.1 3)), (1, .ref (x)), (2, .ref (m)), (3, .ref (o))] 1586 (by decide +kernel) rfl rfl (by rfl) (by decide) rfl ?_
          refine zGoto (-1563) 23 (by decide +kernel) rfl ?_
          exact zLoc [1, 2, 3, 4, 0] _ rfl F
        · replace F := F.2 q26
          refine zIconst 0 0 313 (by decide +kernel) rfl (by decide) ?_
          exact zZret .boolean rfl (zNarZ (Or.inl rfl)) (by decide +kernel) F
      · skip
        by_cases q27 : ((G.2.2.2.2.2.2.2 l4.toNatClampNeg) &&& 63) = 2
        · replace F := F.2.2.1 q27
          have zt := zEqT q27 (show (2 : Int32).toInt = 2 by decide)
          refine zTableIn 1543 0 39 #[176, 249, 274, 299, 324, 392, 429, 454, 479, 504, 541, 566, 615, 640, 665, 678, 747, 760, 797, 846, 883, 908, 945, 970, 1007, 1032, 1097, 1134, 1159, 1172, 1209, 1246, 1319, 1368, 1405, 1442, 1467, 1492, 1505, 1518] 176 274 314 (by decide +kernel) (by omega) (by omega) (by rw [zt]; decide) rfl ?_
          refine zAload_n 1 1 315 (by decide +kernel) rfl rfl ?_
          refine zAload_n 0 0 316 (by decide +kernel) rfl rfl ?_
          refine zIload 4 4 318 (by decide +kernel) rfl rfl ?_
          refine zIconst 1 1 319 (by decide +kernel) rfl (by decide) ?_
          refine zIadd 320 (by decide +kernel) rfl ?_
          obtain ⟨w28, F⟩ := F
          refine zSaload 321 (by decide +kernel) rfl (w28) ?_
          refine zCallV 11 zcls11 mX11_fault 29 1 0 0 _ _ 324 [.int (G.2.2.2.2.2.2.2 (l4 + 1 : Int32).toNatClampNeg)] [] okX11_fault mlL_29 imX11_fault seX11_fault (by decide +kernel) rfl rfl (Nat.le_of_ble_eq_true rfl) rfl rfl (X_0 S0_) (zC.mono F ?_)
          rintro _ _ ⟨x29, I30, R31, rfl, rfl, F⟩
          change zV G (d + 1) mL_law (kc + 4) (ks + 300) 324 [(0, .ref (G.2.2.2.2.2.1 3)), (1, .ref (x)), (2, .ref (m)), (3, .ref (o)), (4, .int (l4))] [.int (x29)] (I30, J, R31, K, n) Q
          obtain ⟨u32, u33, u34, S35, F⟩ := F
          obtain ⟨u36, u37, S38, F⟩ := F
          obtain ⟨S39, F⟩ := F
          refine zAload_n 2 2 325 (by decide +kernel) rfl rfl ?_
          refine zAload_n 0 0 326 (by decide +kernel) rfl rfl ?_
          refine zIload 4 4 328 (by decide +kernel) rfl rfl ?_
          refine zIconst 1 1 329 (by decide +kernel) rfl (by decide) ?_
          refine zIadd 330 (by decide +kernel) rfl ?_
          obtain ⟨w40, F⟩ := F
          refine zSaload 331 (by decide +kernel) rfl (w40) ?_
          refine zCallV 12 zcls12 mX12_fault 33 1 0 0 _ _ 334 [.int (G.2.2.2.2.2.2.2 (l4 + 1 : Int32).toNatClampNeg)] [.int (x29)] okX12_fault mlL_33 imX12_fault seX12_fault (by decide +kernel) rfl rfl (Nat.le_of_ble_eq_true rfl) rfl rfl (Mod_0 S38) (zC.mono F ?_)
          rintro _ _ ⟨x41, I42, J43, R44, rfl, rfl, F⟩
          change zV G (d + 1) mL_law (kc + 4) (ks + 300) 334 [(0, .ref (G.2.2.2.2.2.1 3)), (1, .ref (x)), (2, .ref (m)), (3, .ref (o)), (4, .int (l4))] [.int (x41), .int (x29)] (I42, J43, R44, K, n) Q
          obtain ⟨u45, u46, u47, S48, F⟩ := F
          obtain ⟨u49, u50, S51, F⟩ := F
          obtain ⟨S52, F⟩ := F
          refine zIcmp_eq 1249 1583 337 (by decide +kernel) rfl rfl ⟨fun q53 => ?_, fun q53 => ?_⟩
          · replace F := F.1 q53
            refine zIinc 4 6 4 (l4 + 6) [(4, .int (l4 + 6)), (0, .ref (G.2.2.2.2.2.1 3)), (1, .ref (x)), (2, .ref (m)), (3, .ref (o))] 1586 (by decide +kernel) rfl rfl (by rfl) (by decide) rfl ?_
            refine zGoto (-1563) 23 (by decide +kernel) rfl ?_
            exact zLoc [1, 2, 3, 4, 0] _ rfl F
          · replace F := F.2 q53
            refine zIconst 0 0 338 (by decide +kernel) rfl (by decide) ?_
            exact zZret .boolean rfl (zNarZ (Or.inl rfl)) (by decide +kernel) F
        · skip
          by_cases q54 : ((G.2.2.2.2.2.2.2 l4.toNatClampNeg) &&& 63) = 3
          · replace F := F.2.2.2.1 q54
            have zt := zEqT q54 (show (3 : Int32).toInt = 3 by decide)
            refine zTableIn 1543 0 39 #[176, 249, 274, 299, 324, 392, 429, 454, 479, 504, 541, 566, 615, 640, 665, 678, 747, 760, 797, 846, 883, 908, 945, 970, 1007, 1032, 1097, 1134, 1159, 1172, 1209, 1246, 1319, 1368, 1405, 1442, 1467, 1492, 1505, 1518] 176 299 339 (by decide +kernel) (by omega) (by omega) (by rw [zt]; decide) rfl ?_
            refine zAload_n 1 1 340 (by decide +kernel) rfl rfl ?_
            refine zAload_n 0 0 341 (by decide +kernel) rfl rfl ?_
            refine zIload 4 4 343 (by decide +kernel) rfl rfl ?_
            refine zIconst 1 1 344 (by decide +kernel) rfl (by decide) ?_
            refine zIadd 345 (by decide +kernel) rfl ?_
            obtain ⟨w55, F⟩ := F
            refine zSaload 346 (by decide +kernel) rfl (w55) ?_
            refine zCallV 11 zcls11 mX11_text 34 1 4 300 kc ks 349 [.int (G.2.2.2.2.2.2.2 (l4 + 1 : Int32).toNatClampNeg)] [] okX11_text mlL_34 imX11_text seX11_text (by decide +kernel) rfl rfl (Nat.le_of_ble_eq_true rfl) (by omega) (by omega) (X_0 S0_) (zC.mono F ?_)
            rintro _ _ ⟨x56, I57, J58, R59, K60, n61, rfl, rfl, F⟩
            change zV G (d + 1) mL_law kc ks 349 [(0, .ref (G.2.2.2.2.2.1 3)), (1, .ref (x)), (2, .ref (m)), (3, .ref (o)), (4, .int (l4))] [.int (x56)] (I57, J58, R59, K60, n61) Q
            obtain ⟨u62, u63, u64, S65, F⟩ := F
            obtain ⟨u66, u67, S68, F⟩ := F
            obtain ⟨S69, F⟩ := F
            refine zAload_n 2 2 350 (by decide +kernel) rfl rfl ?_
            refine zAload_n 0 0 351 (by decide +kernel) rfl rfl ?_
            refine zIload 4 4 353 (by decide +kernel) rfl rfl ?_
            refine zIconst 1 1 354 (by decide +kernel) rfl (by decide) ?_
            refine zIadd 355 (by decide +kernel) rfl ?_
            obtain ⟨w70, F⟩ := F
            refine zSaload 356 (by decide +kernel) rfl (w70) ?_
            refine zCallV 12 zcls12 mX12_text 37 1 0 0 _ _ 359 [.int (G.2.2.2.2.2.2.2 (l4 + 1 : Int32).toNatClampNeg)] [.int (x56)] okX12_text mlL_37 imX12_text seX12_text (by decide +kernel) rfl rfl (Nat.le_of_ble_eq_true rfl) rfl rfl (Mod_0 S68) (zC.mono F ?_)
            rintro _ _ ⟨x71, I72, J73, R74, rfl, rfl, F⟩
            change zV G (d + 1) mL_law kc ks 359 [(0, .ref (G.2.2.2.2.2.1 3)), (1, .ref (x)), (2, .ref (m)), (3, .ref (o)), (4, .int (l4))] [.int (x71), .int (x56)] (I72, J73, R74, K60, n61) Q
            obtain ⟨u75, u76, u77, S78, F⟩ := F
            obtain ⟨u79, u80, S81, F⟩ := F
            obtain ⟨S82, F⟩ := F
            refine zIcmp_eq 1224 1583 362 (by decide +kernel) rfl rfl ⟨fun q83 => ?_, fun q83 => ?_⟩
            · replace F := F.1 q83
              refine zIinc 4 6 4 (l4 + 6) [(4, .int (l4 + 6)), (0, .ref (G.2.2.2.2.2.1 3)), (1, .ref (x)), (2, .ref (m)), (3, .ref (o))] 1586 (by decide +kernel) rfl rfl (by rfl) (by decide) rfl ?_
              refine zGoto (-1563) 23 (by decide +kernel) rfl ?_
              exact zLoc [1, 2, 3, 4, 0] _ rfl F
            · replace F := F.2 q83
              refine zIconst 0 0 363 (by decide +kernel) rfl (by decide) ?_
              exact zZret .boolean rfl (zNarZ (Or.inl rfl)) (by decide +kernel) F
          · skip
            by_cases q84 : ((G.2.2.2.2.2.2.2 l4.toNatClampNeg) &&& 63) = 4
            · replace F := F.2.2.2.2.1 q84
              have zt := zEqT q84 (show (4 : Int32).toInt = 4 by decide)
              refine zTableIn 1543 0 39 #[176, 249, 274, 299, 324, 392, 429, 454, 479, 504, 541, 566, 615, 640, 665, 678, 747, 760, 797, 846, 883, 908, 945, 970, 1007, 1032, 1097, 1134, 1159, 1172, 1209, 1246, 1319, 1368, 1405, 1442, 1467, 1492, 1505, 1518] 176 324 364 (by decide +kernel) (by omega) (by omega) (by rw [zt]; decide) rfl ?_
              refine zAload_n 1 1 365 (by decide +kernel) rfl rfl ?_
              refine zAload_n 0 0 366 (by decide +kernel) rfl rfl ?_
              refine zIload 4 4 368 (by decide +kernel) rfl rfl ?_
              refine zIconst 1 1 369 (by decide +kernel) rfl (by decide) ?_
              refine zIadd 370 (by decide +kernel) rfl ?_
              obtain ⟨w85, F⟩ := F
              refine zSaload 371 (by decide +kernel) rfl (w85) ?_
              refine zAload_n 0 0 372 (by decide +kernel) rfl rfl ?_
              refine zIload 4 4 374 (by decide +kernel) rfl rfl ?_
              refine zIconst 2 2 375 (by decide +kernel) rfl (by decide) ?_
              refine zIadd 376 (by decide +kernel) rfl ?_
              obtain ⟨w86, F⟩ := F
              refine zSaload 377 (by decide +kernel) rfl (w86) ?_
              refine zAload_n 3 3 378 (by decide +kernel) rfl rfl ?_
              refine zCallF 38 1 6 (kc + 3) (ks + 294) 381 [.ref (x), .int (G.2.2.2.2.2.2.2 (l4 + 1 : Int32).toNatClampNeg), .int (G.2.2.2.2.2.2.2 (l4 + 2 : Int32).toNatClampNeg), .ref (o)] [] mlL_38 (by decide +kernel) rfl rfl (Nat.le_of_ble_eq_true rfl) (by omega) (by omega) (fun l hl => zCF.mono F ?_ l hl)
              rintro _ _ ⟨x87, I88, J89, K90, n91, rfl, rfl, F⟩
              change zV G (d + 1) mL_law (kc + 3) (ks + 294) 381 [(0, .ref (G.2.2.2.2.2.1 3)), (1, .ref (x)), (2, .ref (m)), (3, .ref (o)), (4, .int (l4))] [.int (x87)] (I88, J89, R, K90, n91) Q
              obtain ⟨u92, u93, u94, S95, F⟩ := F
              obtain ⟨u96, u97, S98, F⟩ := F
              obtain ⟨S99, F⟩ := F
              refine zIstore 5 [(5, .int (x87)), (0, .ref (G.2.2.2.2.2.1 3)), (1, .ref (x)), (2, .ref (m)), (3, .ref (o)), (4, .int (l4))] 383 (by decide +kernel) rfl (by decide) rfl ?_
              refine zAload_n 2 3 384 (by decide +kernel) rfl rfl ?_
              refine zAload_n 0 1 385 (by decide +kernel) rfl rfl ?_
              refine zIload 4 5 387 (by decide +kernel) rfl rfl ?_
              refine zIconst 1 1 388 (by decide +kernel) rfl (by decide) ?_
              refine zIadd 389 (by decide +kernel) rfl ?_
              obtain ⟨w100, F⟩ := F
              refine zSaload 390 (by decide +kernel) rfl (w100) ?_
              refine zAload_n 0 1 391 (by decide +kernel) rfl rfl ?_
              refine zIload 4 5 393 (by decide +kernel) rfl rfl ?_
              refine zIconst 2 2 394 (by decide +kernel) rfl (by decide) ?_
              refine zIadd 395 (by decide +kernel) rfl ?_
              obtain ⟨w101, F⟩ := F
              refine zSaload 396 (by decide +kernel) rfl (w101) ?_
              refine zCallV 12 zcls12 mX12_farm 43 2 0 0 _ _ 399 [.int (G.2.2.2.2.2.2.2 (l4 + 1 : Int32).toNatClampNeg), .int (G.2.2.2.2.2.2.2 (l4 + 2 : Int32).toNatClampNeg)] [] okX12_farm mlL_43 imX12_farm seX12_farm (by decide +kernel) rfl rfl (Nat.le_of_ble_eq_true rfl) rfl rfl (Mod_0 S98) (zC.mono F ?_)
              rintro _ _ ⟨x102, I103, rfl, rfl, F⟩
              change zV G (d + 1) mL_law (kc + 3) (ks + 294) 399 [(5, .int (x87)), (0, .ref (G.2.2.2.2.2.1 3)), (1, .ref (x)), (2, .ref (m)), (3, .ref (o)), (4, .int (l4))] [.int (x102)] (I103, J89, R, K90, n91) Q
              refine zIstore 6 [(6, .int (x102)), (5, .int (x87)), (0, .ref (G.2.2.2.2.2.1 3)), (1, .ref (x)), (2, .ref (m)), (3, .ref (o)), (4, .int (l4))] 401 (by decide +kernel) rfl (by decide) rfl ?_
              refine zAload_n 2 4 402 (by decide +kernel) rfl rfl ?_
              refine zCallV 12 zcls12 mX12_thrown 44 0 0 0 _ _ 405 [] [] okX12_thrown mlL_44 imX12_thrown seX12_thrown (by decide +kernel) rfl rfl (Nat.le_of_ble_eq_true rfl) rfl rfl (Mod_0 S98) (zC.mono F ?_)
              rintro _ _ ⟨x104, I105, rfl, rfl, F⟩
              change zV G (d + 1) mL_law (kc + 3) (ks + 294) 405 [(6, .int (x102)), (5, .int (x87)), (0, .ref (G.2.2.2.2.2.1 3)), (1, .ref (x)), (2, .ref (m)), (3, .ref (o)), (4, .int (l4))] [.int (x104)] (I105, J89, R, K90, n91) Q
              refine zIload 5 1 407 (by decide +kernel) rfl rfl ?_
              refine zIcmp_eq 5 412 410 (by decide +kernel) rfl rfl ⟨fun q106 => ?_, fun q106 => ?_⟩
              · replace F := F.1 q106
                refine zIload 5 1 414 (by decide +kernel) rfl rfl ?_
                refine zIf_ne 15 429 417 (by decide +kernel) rfl rfl ⟨fun q107 => ?_, fun q107 => ?_⟩
                · replace F := F.2 q107
                  refine zGoto 1154 1583 (by decide +kernel) rfl ?_
                  refine zIinc 4 6 6 (l4 + 6) [(4, .int (l4 + 6)), (6, .int (x102)), (5, .int (x87)), (0, .ref (G.2.2.2.2.2.1 3)), (1, .ref (x)), (2, .ref (m)), (3, .ref (o))] 1586 (by decide +kernel) rfl rfl (by rfl) (by decide) rfl ?_
                  refine zGoto (-1563) 23 (by decide +kernel) rfl ?_
                  exact zLoc [3, 4, 5, 6, 0] _ rfl F
                · replace F := F.1 q107
                  refine zAload_n 3 5 418 (by decide +kernel) rfl rfl ?_
                  refine zIconst 0 0 419 (by decide +kernel) rfl (by decide) ?_
                  obtain ⟨w108, F⟩ := F
                  refine yLaload 1 420 (by decide +kernel) rfl (Out_0 S99) (w108) ?_
                  refine zIload 6 0 422 (by decide +kernel) rfl rfl ?_
                  refine zI2l 423 (by decide +kernel) rfl ?_
                  refine zLcmp 424 (by decide +kernel) rfl ?_
                  refine zIf_eq 5 429 427 (by decide +kernel) rfl rfl ⟨fun q109 => ?_, fun q109 => ?_⟩
                  · replace F := F.1 q109
                    refine zGoto 1154 1583 (by decide +kernel) rfl ?_
                    refine zIinc 4 6 6 (l4 + 6) [(4, .int (l4 + 6)), (6, .int (x102)), (5, .int (x87)), (0, .ref (G.2.2.2.2.2.1 3)), (1, .ref (x)), (2, .ref (m)), (3, .ref (o))] 1586 (by decide +kernel) rfl rfl (by rfl) (by decide) rfl ?_
                    refine zGoto (-1563) 23 (by decide +kernel) rfl ?_
                    exact zLoc [3, 4, 5, 6, 0] _ rfl F
                  · replace F := F.2 q109
                    refine zIconst 0 0 428 (by decide +kernel) rfl (by decide) ?_
                    exact zZret .boolean rfl (zNarZ (Or.inl rfl)) (by decide +kernel) F
              · replace F := F.2 q106
                refine zIconst 0 0 411 (by decide +kernel) rfl (by decide) ?_
                exact zZret .boolean rfl (zNarZ (Or.inl rfl)) (by decide +kernel) F
            · skip
              by_cases q110 : ((G.2.2.2.2.2.2.2 l4.toNatClampNeg) &&& 63) = 5
              · replace F := F.2.2.2.2.2.1 q110
                have zt := zEqT q110 (show (5 : Int32).toInt = 5 by decide)
                refine zTableIn 1543 0 39 #[176, 249, 274, 299, 324, 392, 429, 454, 479, 504, 541, 566, 615, 640, 665, 678, 747, 760, 797, 846, 883, 908, 945, 970, 1007, 1032, 1097, 1134, 1159, 1172, 1209, 1246, 1319, 1368, 1405, 1442, 1467, 1492, 1505, 1518] 176 392 432 (by decide +kernel) (by omega) (by omega) (by rw [zt]; decide) rfl ?_
                refine zAload_n 1 1 433 (by decide +kernel) rfl rfl ?_
                refine zAload_n 0 0 434 (by decide +kernel) rfl rfl ?_
                refine zIload 4 4 436 (by decide +kernel) rfl rfl ?_
                refine zIconst 1 1 437 (by decide +kernel) rfl (by decide) ?_
                refine zIadd 438 (by decide +kernel) rfl ?_
                obtain ⟨w111, F⟩ := F
                refine zSaload 439 (by decide +kernel) rfl (w111) ?_
                refine zAload_n 0 0 440 (by decide +kernel) rfl rfl ?_
                refine zIload 4 4 442 (by decide +kernel) rfl rfl ?_
                refine zIconst 2 2 443 (by decide +kernel) rfl (by decide) ?_
                refine zIadd 444 (by decide +kernel) rfl ?_
                obtain ⟨w112, F⟩ := F
                refine zSaload 445 (by decide +kernel) rfl (w112) ?_
                refine zCallV 11 zcls11 mX11_wrong 48 2 0 0 _ _ 448 [.int (G.2.2.2.2.2.2.2 (l4 + 1 : Int32).toNatClampNeg), .int (G.2.2.2.2.2.2.2 (l4 + 2 : Int32).toNatClampNeg)] [] okX11_wrong mlL_48 imX11_wrong seX11_wrong (by decide +kernel) rfl rfl (Nat.le_of_ble_eq_true rfl) rfl rfl (X_0 S0_) (zC.mono F ?_)
                rintro _ _ ⟨x113, I114, rfl, rfl, F⟩
                change zV G (d + 1) mL_law (kc + 4) (ks + 300) 448 [(0, .ref (G.2.2.2.2.2.1 3)), (1, .ref (x)), (2, .ref (m)), (3, .ref (o)), (4, .int (l4))] [.int (x113)] (I114, J, R, K, n) Q
                refine zAload_n 2 2 449 (by decide +kernel) rfl rfl ?_
                refine zAload_n 0 0 450 (by decide +kernel) rfl rfl ?_
                refine zIload 4 4 452 (by decide +kernel) rfl rfl ?_
                refine zIconst 1 1 453 (by decide +kernel) rfl (by decide) ?_
                refine zIadd 454 (by decide +kernel) rfl ?_
                obtain ⟨w115, F⟩ := F
                refine zSaload 455 (by decide +kernel) rfl (w115) ?_
                refine zAload_n 0 0 456 (by decide +kernel) rfl rfl ?_
                refine zIload 4 4 458 (by decide +kernel) rfl rfl ?_
                refine zIconst 2 2 459 (by decide +kernel) rfl (by decide) ?_
                refine zIadd 460 (by decide +kernel) rfl ?_
                obtain ⟨w116, F⟩ := F
                refine zSaload 461 (by decide +kernel) rfl (w116) ?_
                refine zCallV 12 zcls12 mX12_wrong 51 2 0 0 _ _ 464 [.int (G.2.2.2.2.2.2.2 (l4 + 1 : Int32).toNatClampNeg), .int (G.2.2.2.2.2.2.2 (l4 + 2 : Int32).toNatClampNeg)] [.int (x113)] okX12_wrong mlL_51 imX12_wrong seX12_wrong (by decide +kernel) rfl rfl (Nat.le_of_ble_eq_true rfl) rfl rfl (Mod_0 S1_) (zC.mono F ?_)
                rintro _ _ ⟨x117, I118, J119, R120, rfl, rfl, F⟩
                change zV G (d + 1) mL_law (kc + 4) (ks + 300) 464 [(0, .ref (G.2.2.2.2.2.1 3)), (1, .ref (x)), (2, .ref (m)), (3, .ref (o)), (4, .int (l4))] [.int (x117), .int (x113)] (I118, J119, R120, K, n) Q
                obtain ⟨u121, u122, u123, S124, F⟩ := F
                obtain ⟨u125, u126, S127, F⟩ := F
                obtain ⟨S128, F⟩ := F
                refine zIcmp_eq 1119 1583 467 (by decide +kernel) rfl rfl ⟨fun q129 => ?_, fun q129 => ?_⟩
                · replace F := F.1 q129
                  refine zIinc 4 6 4 (l4 + 6) [(4, .int (l4 + 6)), (0, .ref (G.2.2.2.2.2.1 3)), (1, .ref (x)), (2, .ref (m)), (3, .ref (o))] 1586 (by decide +kernel) rfl rfl (by rfl) (by decide) rfl ?_
                  refine zGoto (-1563) 23 (by decide +kernel) rfl ?_
                  exact zLoc [1, 2, 3, 4, 0] _ rfl F
                · replace F := F.2 q129
                  refine zIconst 0 0 468 (by decide +kernel) rfl (by decide) ?_
                  exact zZret .boolean rfl (zNarZ (Or.inl rfl)) (by decide +kernel) F
              · skip
                by_cases q130 : ((G.2.2.2.2.2.2.2 l4.toNatClampNeg) &&& 63) = 6
                · replace F := F.2.2.2.2.2.2.1 q130
                  have zt := zEqT q130 (show (6 : Int32).toInt = 6 by decide)
                  refine zTableIn 1543 0 39 #[176, 249, 274, 299, 324, 392, 429, 454, 479, 504, 541, 566, 615, 640, 665, 678, 747, 760, 797, 846, 883, 908, 945, 970, 1007, 1032, 1097, 1134, 1159, 1172, 1209, 1246, 1319, 1368, 1405, 1442, 1467, 1492, 1505, 1518] 176 429 469 (by decide +kernel) (by omega) (by omega) (by rw [zt]; decide) rfl ?_
                  refine zAload_n 1 1 470 (by decide +kernel) rfl rfl ?_
                  refine zAload_n 0 0 471 (by decide +kernel) rfl rfl ?_
                  refine zIload 4 4 473 (by decide +kernel) rfl rfl ?_
                  refine zIconst 1 1 474 (by decide +kernel) rfl (by decide) ?_
                  refine zIadd 475 (by decide +kernel) rfl ?_
                  obtain ⟨w131, F⟩ := F
                  refine zSaload 476 (by decide +kernel) rfl (w131) ?_
                  refine zCallV 11 zcls11 mX11_law 52 1 0 0 _ _ 479 [.int (G.2.2.2.2.2.2.2 (l4 + 1 : Int32).toNatClampNeg)] [] okX11_law mlL_52 imX11_law seX11_law (by decide +kernel) rfl rfl (Nat.le_of_ble_eq_true rfl) rfl rfl (X_0 S0_) (zC.mono F ?_)
                  rintro _ _ ⟨x132, I133, R134, rfl, rfl, F⟩
                  change zV G (d + 1) mL_law (kc + 4) (ks + 300) 479 [(0, .ref (G.2.2.2.2.2.1 3)), (1, .ref (x)), (2, .ref (m)), (3, .ref (o)), (4, .int (l4))] [.int (x132)] (I133, J, R134, K, n) Q
                  obtain ⟨u135, u136, u137, S138, F⟩ := F
                  obtain ⟨u139, u140, S141, F⟩ := F
                  obtain ⟨S142, F⟩ := F
                  refine zAload_n 2 2 480 (by decide +kernel) rfl rfl ?_
                  refine zAload_n 0 0 481 (by decide +kernel) rfl rfl ?_
                  refine zIload 4 4 483 (by decide +kernel) rfl rfl ?_
                  refine zIconst 1 1 484 (by decide +kernel) rfl (by decide) ?_
                  refine zIadd 485 (by decide +kernel) rfl ?_
                  obtain ⟨w143, F⟩ := F
                  refine zSaload 486 (by decide +kernel) rfl (w143) ?_
                  refine zCallV 12 zcls12 mX12_law 55 1 0 0 _ _ 489 [.int (G.2.2.2.2.2.2.2 (l4 + 1 : Int32).toNatClampNeg)] [.int (x132)] okX12_law mlL_55 imX12_law seX12_law (by decide +kernel) rfl rfl (Nat.le_of_ble_eq_true rfl) rfl rfl (Mod_0 S141) (zC.mono F ?_)
                  rintro _ _ ⟨x144, I145, rfl, rfl, F⟩
                  change zV G (d + 1) mL_law (kc + 4) (ks + 300) 489 [(0, .ref (G.2.2.2.2.2.1 3)), (1, .ref (x)), (2, .ref (m)), (3, .ref (o)), (4, .int (l4))] [.int (x144), .int (x132)] (I145, J, R134, K, n) Q
                  refine zIcmp_eq 1094 1583 492 (by decide +kernel) rfl rfl ⟨fun q146 => ?_, fun q146 => ?_⟩
                  · replace F := F.1 q146
                    refine zIinc 4 6 4 (l4 + 6) [(4, .int (l4 + 6)), (0, .ref (G.2.2.2.2.2.1 3)), (1, .ref (x)), (2, .ref (m)), (3, .ref (o))] 1586 (by decide +kernel) rfl rfl (by rfl) (by decide) rfl ?_
                    refine zGoto (-1563) 23 (by decide +kernel) rfl ?_
                    exact zLoc [1, 2, 3, 4, 0] _ rfl F
                  · replace F := F.2 q146
                    refine zIconst 0 0 493 (by decide +kernel) rfl (by decide) ?_
                    exact zZret .boolean rfl (zNarZ (Or.inl rfl)) (by decide +kernel) F
                · skip
                  by_cases q147 : ((G.2.2.2.2.2.2.2 l4.toNatClampNeg) &&& 63) = 7
                  · replace F := F.2.2.2.2.2.2.2.1 q147
                    have zt := zEqT q147 (show (7 : Int32).toInt = 7 by decide)
                    refine zTableIn 1543 0 39 #[176, 249, 274, 299, 324, 392, 429, 454, 479, 504, 541, 566, 615, 640, 665, 678, 747, 760, 797, 846, 883, 908, 945, 970, 1007, 1032, 1097, 1134, 1159, 1172, 1209, 1246, 1319, 1368, 1405, 1442, 1467, 1492, 1505, 1518] 176 454 494 (by decide +kernel) (by omega) (by omega) (by rw [zt]; decide) rfl ?_
                    refine zAload_n 1 1 495 (by decide +kernel) rfl rfl ?_
                    refine zAload_n 0 0 496 (by decide +kernel) rfl rfl ?_
                    refine zIload 4 4 498 (by decide +kernel) rfl rfl ?_
                    refine zIconst 1 1 499 (by decide +kernel) rfl (by decide) ?_
                    refine zIadd 500 (by decide +kernel) rfl ?_
                    obtain ⟨w148, F⟩ := F
                    refine zSaload 501 (by decide +kernel) rfl (w148) ?_
                    refine zCallV 11 zcls11 mX11_apples 56 1 0 0 _ _ 504 [.int (G.2.2.2.2.2.2.2 (l4 + 1 : Int32).toNatClampNeg)] [] okX11_apples mlL_56 imX11_apples seX11_apples (by decide +kernel) rfl rfl (Nat.le_of_ble_eq_true rfl) rfl rfl (X_0 S0_) (zC.mono F ?_)
                    rintro _ _ ⟨x149, I150, rfl, rfl, F⟩
                    change zV G (d + 1) mL_law (kc + 4) (ks + 300) 504 [(0, .ref (G.2.2.2.2.2.1 3)), (1, .ref (x)), (2, .ref (m)), (3, .ref (o)), (4, .int (l4))] [.int (x149)] (I150, J, R, K, n) Q
                    refine zAload_n 2 2 505 (by decide +kernel) rfl rfl ?_
                    refine zAload_n 0 0 506 (by decide +kernel) rfl rfl ?_
                    refine zIload 4 4 508 (by decide +kernel) rfl rfl ?_
                    refine zIconst 1 1 509 (by decide +kernel) rfl (by decide) ?_
                    refine zIadd 510 (by decide +kernel) rfl ?_
                    obtain ⟨w151, F⟩ := F
                    refine zSaload 511 (by decide +kernel) rfl (w151) ?_
                    refine zCallV 12 zcls12 mX12_apples 59 1 0 0 _ _ 514 [.int (G.2.2.2.2.2.2.2 (l4 + 1 : Int32).toNatClampNeg)] [.int (x149)] okX12_apples mlL_59 imX12_apples seX12_apples (by decide +kernel) rfl rfl (Nat.le_of_ble_eq_true rfl) rfl rfl (Mod_0 S1_) (zC.mono F ?_)
                    rintro _ _ ⟨x152, I153, rfl, rfl, F⟩
                    change zV G (d + 1) mL_law (kc + 4) (ks + 300) 514 [(0, .ref (G.2.2.2.2.2.1 3)), (1, .ref (x)), (2, .ref (m)), (3, .ref (o)), (4, .int (l4))] [.int (x152), .int (x149)] (I153, J, R, K, n) Q
                    refine zIcmp_eq 1069 1583 517 (by decide +kernel) rfl rfl ⟨fun q154 => ?_, fun q154 => ?_⟩
                    · replace F := F.1 q154
                      refine zIinc 4 6 4 (l4 + 6) [(4, .int (l4 + 6)), (0, .ref (G.2.2.2.2.2.1 3)), (1, .ref (x)), (2, .ref (m)), (3, .ref (o))] 1586 (by decide +kernel) rfl rfl (by rfl) (by decide) rfl ?_
                      refine zGoto (-1563) 23 (by decide +kernel) rfl ?_
                      exact zLoc [1, 2, 3, 4, 0] _ rfl F
                    · replace F := F.2 q154
                      refine zIconst 0 0 518 (by decide +kernel) rfl (by decide) ?_
                      exact zZret .boolean rfl (zNarZ (Or.inl rfl)) (by decide +kernel) F
                  · skip
                    by_cases q155 : ((G.2.2.2.2.2.2.2 l4.toNatClampNeg) &&& 63) = 8
                    · replace F := F.2.2.2.2.2.2.2.2.1 q155
                      have zt := zEqT q155 (show (8 : Int32).toInt = 8 by decide)
                      refine zTableIn 1543 0 39 #[176, 249, 274, 299, 324, 392, 429, 454, 479, 504, 541, 566, 615, 640, 665, 678, 747, 760, 797, 846, 883, 908, 945, 970, 1007, 1032, 1097, 1134, 1159, 1172, 1209, 1246, 1319, 1368, 1405, 1442, 1467, 1492, 1505, 1518] 176 479 519 (by decide +kernel) (by omega) (by omega) (by rw [zt]; decide) rfl ?_
                      refine zAload_n 1 1 520 (by decide +kernel) rfl rfl ?_
                      refine zAload_n 0 0 521 (by decide +kernel) rfl rfl ?_
                      refine zIload 4 4 523 (by decide +kernel) rfl rfl ?_
                      refine zIconst 1 1 524 (by decide +kernel) rfl (by decide) ?_
                      refine zIadd 525 (by decide +kernel) rfl ?_
                      obtain ⟨w156, F⟩ := F
                      refine zSaload 526 (by decide +kernel) rfl (w156) ?_
                      refine zCallV 11 zcls11 mX11_forgive 60 1 0 0 _ _ 529 [.int (G.2.2.2.2.2.2.2 (l4 + 1 : Int32).toNatClampNeg)] [] okX11_forgive mlL_60 imX11_forgive seX11_forgive (by decide +kernel) rfl rfl (Nat.le_of_ble_eq_true rfl) rfl rfl (X_0 S0_) (zC.mono F ?_)
                      rintro _ _ ⟨x157, I158, rfl, rfl, F⟩
                      change zV G (d + 1) mL_law (kc + 4) (ks + 300) 529 [(0, .ref (G.2.2.2.2.2.1 3)), (1, .ref (x)), (2, .ref (m)), (3, .ref (o)), (4, .int (l4))] [.int (x157)] (I158, J, R, K, n) Q
                      refine zAload_n 2 2 530 (by decide +kernel) rfl rfl ?_
                      refine zAload_n 0 0 531 (by decide +kernel) rfl rfl ?_
                      refine zIload 4 4 533 (by decide +kernel) rfl rfl ?_
                      refine zIconst 1 1 534 (by decide +kernel) rfl (by decide) ?_
                      refine zIadd 535 (by decide +kernel) rfl ?_
                      obtain ⟨w159, F⟩ := F
                      refine zSaload 536 (by decide +kernel) rfl (w159) ?_
                      refine zCallV 12 zcls12 mX12_forgive 63 1 0 0 _ _ 539 [.int (G.2.2.2.2.2.2.2 (l4 + 1 : Int32).toNatClampNeg)] [.int (x157)] okX12_forgive mlL_63 imX12_forgive seX12_forgive (by decide +kernel) rfl rfl (Nat.le_of_ble_eq_true rfl) rfl rfl (Mod_0 S1_) (zC.mono F ?_)
                      rintro _ _ ⟨x160, I161, J162, R163, rfl, rfl, F⟩
                      change zV G (d + 1) mL_law (kc + 4) (ks + 300) 539 [(0, .ref (G.2.2.2.2.2.1 3)), (1, .ref (x)), (2, .ref (m)), (3, .ref (o)), (4, .int (l4))] [.int (x160), .int (x157)] (I161, J162, R163, K, n) Q
                      obtain ⟨u164, u165, u166, S167, F⟩ := F
                      obtain ⟨u168, u169, S170, F⟩ := F
                      obtain ⟨S171, F⟩ := F
                      refine zIcmp_eq 1044 1583 542 (by decide +kernel) rfl rfl ⟨fun q172 => ?_, fun q172 => ?_⟩
                      · replace F := F.1 q172
                        refine zIinc 4 6 4 (l4 + 6) [(4, .int (l4 + 6)), (0, .ref (G.2.2.2.2.2.1 3)), (1, .ref (x)), (2, .ref (m)), (3, .ref (o))] 1586 (by decide +kernel) rfl rfl (by rfl) (by decide) rfl ?_
                        refine zGoto (-1563) 23 (by decide +kernel) rfl ?_
                        exact zLoc [1, 2, 3, 4, 0] _ rfl F
                      · replace F := F.2 q172
                        refine zIconst 0 0 543 (by decide +kernel) rfl (by decide) ?_
                        exact zZret .boolean rfl (zNarZ (Or.inl rfl)) (by decide +kernel) F
                    · skip
                      by_cases q173 : ((G.2.2.2.2.2.2.2 l4.toNatClampNeg) &&& 63) = 9
                      · replace F := F.2.2.2.2.2.2.2.2.2.1 q173
                        have zt := zEqT q173 (show (9 : Int32).toInt = 9 by decide)
                        refine zTableIn 1543 0 39 #[176, 249, 274, 299, 324, 392, 429, 454, 479, 504, 541, 566, 615, 640, 665, 678, 747, 760, 797, 846, 883, 908, 945, 970, 1007, 1032, 1097, 1134, 1159, 1172, 1209, 1246, 1319, 1368, 1405, 1442, 1467, 1492, 1505, 1518] 176 504 544 (by decide +kernel) (by omega) (by omega) (by rw [zt]; decide) rfl ?_
                        refine zAload_n 1 1 545 (by decide +kernel) rfl rfl ?_
                        refine zAload_n 0 0 546 (by decide +kernel) rfl rfl ?_
                        refine zIload 4 4 548 (by decide +kernel) rfl rfl ?_
                        refine zIconst 1 1 549 (by decide +kernel) rfl (by decide) ?_
                        refine zIadd 550 (by decide +kernel) rfl ?_
                        obtain ⟨w174, F⟩ := F
                        refine zSaload 551 (by decide +kernel) rfl (w174) ?_
                        refine zAload_n 0 0 552 (by decide +kernel) rfl rfl ?_
                        refine zIload 4 4 554 (by decide +kernel) rfl rfl ?_
                        refine zIconst 2 2 555 (by decide +kernel) rfl (by decide) ?_
                        refine zIadd 556 (by decide +kernel) rfl ?_
                        obtain ⟨w175, F⟩ := F
                        refine zSaload 557 (by decide +kernel) rfl (w175) ?_
                        refine zCallV 11 zcls11 mX11_paint 64 2 0 0 _ _ 560 [.int (G.2.2.2.2.2.2.2 (l4 + 1 : Int32).toNatClampNeg), .int (G.2.2.2.2.2.2.2 (l4 + 2 : Int32).toNatClampNeg)] [] okX11_paint mlL_64 imX11_paint seX11_paint (by decide +kernel) rfl rfl (Nat.le_of_ble_eq_true rfl) rfl rfl (X_0 S0_) (zC.mono F ?_)
                        rintro _ _ ⟨x176, I177, rfl, rfl, F⟩
                        change zV G (d + 1) mL_law (kc + 4) (ks + 300) 560 [(0, .ref (G.2.2.2.2.2.1 3)), (1, .ref (x)), (2, .ref (m)), (3, .ref (o)), (4, .int (l4))] [.int (x176)] (I177, J, R, K, n) Q
                        refine zAload_n 2 2 561 (by decide +kernel) rfl rfl ?_
                        refine zAload_n 0 0 562 (by decide +kernel) rfl rfl ?_
                        refine zIload 4 4 564 (by decide +kernel) rfl rfl ?_
                        refine zIconst 1 1 565 (by decide +kernel) rfl (by decide) ?_
                        refine zIadd 566 (by decide +kernel) rfl ?_
                        obtain ⟨w178, F⟩ := F
                        refine zSaload 567 (by decide +kernel) rfl (w178) ?_
                        refine zAload_n 0 0 568 (by decide +kernel) rfl rfl ?_
                        refine zIload 4 4 570 (by decide +kernel) rfl rfl ?_
                        refine zIconst 2 2 571 (by decide +kernel) rfl (by decide) ?_
                        refine zIadd 572 (by decide +kernel) rfl ?_
                        obtain ⟨w179, F⟩ := F
                        refine zSaload 573 (by decide +kernel) rfl (w179) ?_
                        refine zCallV 12 zcls12 mX12_paint 67 2 0 0 _ _ 576 [.int (G.2.2.2.2.2.2.2 (l4 + 1 : Int32).toNatClampNeg), .int (G.2.2.2.2.2.2.2 (l4 + 2 : Int32).toNatClampNeg)] [.int (x176)] okX12_paint mlL_67 imX12_paint seX12_paint (by decide +kernel) rfl rfl (Nat.le_of_ble_eq_true rfl) rfl rfl (Mod_0 S1_) (zC.mono F ?_)
                        rintro _ _ ⟨x180, I181, rfl, rfl, F⟩
                        change zV G (d + 1) mL_law (kc + 4) (ks + 300) 576 [(0, .ref (G.2.2.2.2.2.1 3)), (1, .ref (x)), (2, .ref (m)), (3, .ref (o)), (4, .int (l4))] [.int (x180), .int (x176)] (I181, J, R, K, n) Q
                        refine zIcmp_eq 1007 1583 579 (by decide +kernel) rfl rfl ⟨fun q182 => ?_, fun q182 => ?_⟩
                        · replace F := F.1 q182
                          refine zIinc 4 6 4 (l4 + 6) [(4, .int (l4 + 6)), (0, .ref (G.2.2.2.2.2.1 3)), (1, .ref (x)), (2, .ref (m)), (3, .ref (o))] 1586 (by decide +kernel) rfl rfl (by rfl) (by decide) rfl ?_
                          refine zGoto (-1563) 23 (by decide +kernel) rfl ?_
                          exact zLoc [1, 2, 3, 4, 0] _ rfl F
                        · replace F := F.2 q182
                          refine zIconst 0 0 580 (by decide +kernel) rfl (by decide) ?_
                          exact zZret .boolean rfl (zNarZ (Or.inl rfl)) (by decide +kernel) F
                      · skip
                        by_cases q183 : ((G.2.2.2.2.2.2.2 l4.toNatClampNeg) &&& 63) = 10
                        · replace F := F.2.2.2.2.2.2.2.2.2.2.1 q183
                          have zt := zEqT q183 (show (10 : Int32).toInt = 10 by decide)
                          refine zTableIn 1543 0 39 #[176, 249, 274, 299, 324, 392, 429, 454, 479, 504, 541, 566, 615, 640, 665, 678, 747, 760, 797, 846, 883, 908, 945, 970, 1007, 1032, 1097, 1134, 1159, 1172, 1209, 1246, 1319, 1368, 1405, 1442, 1467, 1492, 1505, 1518] 176 541 581 (by decide +kernel) (by omega) (by omega) (by rw [zt]; decide) rfl ?_
                          refine zAload_n 1 1 582 (by decide +kernel) rfl rfl ?_
                          refine zAload_n 0 0 583 (by decide +kernel) rfl rfl ?_
                          refine zIload 4 4 585 (by decide +kernel) rfl rfl ?_
                          refine zIconst 1 1 586 (by decide +kernel) rfl (by decide) ?_
                          refine zIadd 587 (by decide +kernel) rfl ?_
                          obtain ⟨w184, F⟩ := F
                          refine zSaload 588 (by decide +kernel) rfl (w184) ?_
                          refine zCallV 11 zcls11 mX11_inspect 68 1 0 0 _ _ 591 [.int (G.2.2.2.2.2.2.2 (l4 + 1 : Int32).toNatClampNeg)] [] okX11_inspect mlL_68 imX11_inspect seX11_inspect (by decide +kernel) rfl rfl (Nat.le_of_ble_eq_true rfl) rfl rfl (X_0 S0_) (zC.mono F ?_)
                          rintro _ _ ⟨x185, I186, rfl, rfl, F⟩
                          change zV G (d + 1) mL_law (kc + 4) (ks + 300) 591 [(0, .ref (G.2.2.2.2.2.1 3)), (1, .ref (x)), (2, .ref (m)), (3, .ref (o)), (4, .int (l4))] [.int (x185)] (I186, J, R, K, n) Q
                          refine zAload_n 2 2 592 (by decide +kernel) rfl rfl ?_
                          refine zAload_n 0 0 593 (by decide +kernel) rfl rfl ?_
                          refine zIload 4 4 595 (by decide +kernel) rfl rfl ?_
                          refine zIconst 1 1 596 (by decide +kernel) rfl (by decide) ?_
                          refine zIadd 597 (by decide +kernel) rfl ?_
                          obtain ⟨w187, F⟩ := F
                          refine zSaload 598 (by decide +kernel) rfl (w187) ?_
                          refine zCallV 12 zcls12 mX12_inspect 71 1 0 0 _ _ 601 [.int (G.2.2.2.2.2.2.2 (l4 + 1 : Int32).toNatClampNeg)] [.int (x185)] okX12_inspect mlL_71 imX12_inspect seX12_inspect (by decide +kernel) rfl rfl (Nat.le_of_ble_eq_true rfl) rfl rfl (Mod_0 S1_) (zC.mono F ?_)
                          rintro _ _ ⟨x188, I189, rfl, rfl, F⟩
                          change zV G (d + 1) mL_law (kc + 4) (ks + 300) 601 [(0, .ref (G.2.2.2.2.2.1 3)), (1, .ref (x)), (2, .ref (m)), (3, .ref (o)), (4, .int (l4))] [.int (x188), .int (x185)] (I189, J, R, K, n) Q
                          refine zIcmp_eq 982 1583 604 (by decide +kernel) rfl rfl ⟨fun q190 => ?_, fun q190 => ?_⟩
                          · replace F := F.1 q190
                            refine zIinc 4 6 4 (l4 + 6) [(4, .int (l4 + 6)), (0, .ref (G.2.2.2.2.2.1 3)), (1, .ref (x)), (2, .ref (m)), (3, .ref (o))] 1586 (by decide +kernel) rfl rfl (by rfl) (by decide) rfl ?_
                            refine zGoto (-1563) 23 (by decide +kernel) rfl ?_
                            exact zLoc [1, 2, 3, 4, 0] _ rfl F
                          · replace F := F.2 q190
                            refine zIconst 0 0 605 (by decide +kernel) rfl (by decide) ?_
                            exact zZret .boolean rfl (zNarZ (Or.inl rfl)) (by decide +kernel) F
                        · skip
                          by_cases q191 : ((G.2.2.2.2.2.2.2 l4.toNatClampNeg) &&& 63) = 11
                          · replace F := F.2.2.2.2.2.2.2.2.2.2.2.1 q191
                            have zt := zEqT q191 (show (11 : Int32).toInt = 11 by decide)
                            refine zTableIn 1543 0 39 #[176, 249, 274, 299, 324, 392, 429, 454, 479, 504, 541, 566, 615, 640, 665, 678, 747, 760, 797, 846, 883, 908, 945, 970, 1007, 1032, 1097, 1134, 1159, 1172, 1209, 1246, 1319, 1368, 1405, 1442, 1467, 1492, 1505, 1518] 176 566 606 (by decide +kernel) (by omega) (by omega) (by rw [zt]; decide) rfl ?_
                            refine zAload_n 1 1 607 (by decide +kernel) rfl rfl ?_
                            refine zAload_n 0 0 608 (by decide +kernel) rfl rfl ?_
                            refine zIload 4 4 610 (by decide +kernel) rfl rfl ?_
                            refine zIconst 1 1 611 (by decide +kernel) rfl (by decide) ?_
                            refine zIadd 612 (by decide +kernel) rfl ?_
                            obtain ⟨w192, F⟩ := F
                            refine zSaload 613 (by decide +kernel) rfl (w192) ?_
                            refine zAload_n 0 0 614 (by decide +kernel) rfl rfl ?_
                            refine zIload 4 4 616 (by decide +kernel) rfl rfl ?_
                            refine zIconst 2 2 617 (by decide +kernel) rfl (by decide) ?_
                            refine zIadd 618 (by decide +kernel) rfl ?_
                            obtain ⟨w193, F⟩ := F
                            refine zSaload 619 (by decide +kernel) rfl (w193) ?_
                            refine zAload_n 0 0 620 (by decide +kernel) rfl rfl ?_
                            refine zIload 4 4 622 (by decide +kernel) rfl rfl ?_
                            refine zIconst 3 3 623 (by decide +kernel) rfl (by decide) ?_
                            refine zIadd 624 (by decide +kernel) rfl ?_
                            obtain ⟨w194, F⟩ := F
                            refine zSaload 625 (by decide +kernel) rfl (w194) ?_
                            refine zCallV 11 zcls11 mX11_sin 72 3 0 0 _ _ 628 [.int (G.2.2.2.2.2.2.2 (l4 + 1 : Int32).toNatClampNeg), .int (G.2.2.2.2.2.2.2 (l4 + 2 : Int32).toNatClampNeg), .int (G.2.2.2.2.2.2.2 (l4 + 3 : Int32).toNatClampNeg)] [] okX11_sin mlL_72 imX11_sin seX11_sin (by decide +kernel) rfl rfl (Nat.le_of_ble_eq_true rfl) rfl rfl (X_0 S0_) (zC.mono F ?_)
                            rintro _ _ ⟨x195, I196, rfl, rfl, F⟩
                            change zV G (d + 1) mL_law (kc + 4) (ks + 300) 628 [(0, .ref (G.2.2.2.2.2.1 3)), (1, .ref (x)), (2, .ref (m)), (3, .ref (o)), (4, .int (l4))] [.int (x195)] (I196, J, R, K, n) Q
                            refine zAload_n 2 2 629 (by decide +kernel) rfl rfl ?_
                            refine zAload_n 0 0 630 (by decide +kernel) rfl rfl ?_
                            refine zIload 4 4 632 (by decide +kernel) rfl rfl ?_
                            refine zIconst 1 1 633 (by decide +kernel) rfl (by decide) ?_
                            refine zIadd 634 (by decide +kernel) rfl ?_
                            obtain ⟨w197, F⟩ := F
                            refine zSaload 635 (by decide +kernel) rfl (w197) ?_
                            refine zAload_n 0 0 636 (by decide +kernel) rfl rfl ?_
                            refine zIload 4 4 638 (by decide +kernel) rfl rfl ?_
                            refine zIconst 2 2 639 (by decide +kernel) rfl (by decide) ?_
                            refine zIadd 640 (by decide +kernel) rfl ?_
                            obtain ⟨w198, F⟩ := F
                            refine zSaload 641 (by decide +kernel) rfl (w198) ?_
                            refine zAload_n 0 0 642 (by decide +kernel) rfl rfl ?_
                            refine zIload 4 4 644 (by decide +kernel) rfl rfl ?_
                            refine zIconst 3 3 645 (by decide +kernel) rfl (by decide) ?_
                            refine zIadd 646 (by decide +kernel) rfl ?_
                            obtain ⟨w199, F⟩ := F
                            refine zSaload 647 (by decide +kernel) rfl (w199) ?_
                            refine zCallV 12 zcls12 mX12_sin 76 3 0 0 _ _ 650 [.int (G.2.2.2.2.2.2.2 (l4 + 1 : Int32).toNatClampNeg), .int (G.2.2.2.2.2.2.2 (l4 + 2 : Int32).toNatClampNeg), .int (G.2.2.2.2.2.2.2 (l4 + 3 : Int32).toNatClampNeg)] [.int (x195)] okX12_sin mlL_76 imX12_sin seX12_sin (by decide +kernel) rfl rfl (Nat.le_of_ble_eq_true rfl) rfl rfl (Mod_0 S1_) (zC.mono F ?_)
                            rintro _ _ ⟨x200, I201, rfl, rfl, F⟩
                            change zV G (d + 1) mL_law (kc + 4) (ks + 300) 650 [(0, .ref (G.2.2.2.2.2.1 3)), (1, .ref (x)), (2, .ref (m)), (3, .ref (o)), (4, .int (l4))] [.int (x200), .int (x195)] (I201, J, R, K, n) Q
                            refine zIcmp_eq 933 1583 653 (by decide +kernel) rfl rfl ⟨fun q202 => ?_, fun q202 => ?_⟩
                            · replace F := F.1 q202
                              refine zIinc 4 6 4 (l4 + 6) [(4, .int (l4 + 6)), (0, .ref (G.2.2.2.2.2.1 3)), (1, .ref (x)), (2, .ref (m)), (3, .ref (o))] 1586 (by decide +kernel) rfl rfl (by rfl) (by decide) rfl ?_
                              refine zGoto (-1563) 23 (by decide +kernel) rfl ?_
                              exact zLoc [1, 2, 3, 4, 0] _ rfl F
                            · replace F := F.2 q202
                              refine zIconst 0 0 654 (by decide +kernel) rfl (by decide) ?_
                              exact zZret .boolean rfl (zNarZ (Or.inl rfl)) (by decide +kernel) F
                          · skip
                            by_cases q203 : ((G.2.2.2.2.2.2.2 l4.toNatClampNeg) &&& 63) = 12
                            · replace F := F.2.2.2.2.2.2.2.2.2.2.2.2.1 q203
                              have zt := zEqT q203 (show (12 : Int32).toInt = 12 by decide)
                              refine zTableIn 1543 0 39 #[176, 249, 274, 299, 324, 392, 429, 454, 479, 504, 541, 566, 615, 640, 665, 678, 747, 760, 797, 846, 883, 908, 945, 970, 1007, 1032, 1097, 1134, 1159, 1172, 1209, 1246, 1319, 1368, 1405, 1442, 1467, 1492, 1505, 1518] 176 615 655 (by decide +kernel) (by omega) (by omega) (by rw [zt]; decide) rfl ?_
                              refine zAload_n 1 1 656 (by decide +kernel) rfl rfl ?_
                              refine zAload_n 0 0 657 (by decide +kernel) rfl rfl ?_
                              refine zIload 4 4 659 (by decide +kernel) rfl rfl ?_
                              refine zIconst 1 1 660 (by decide +kernel) rfl (by decide) ?_
                              refine zIadd 661 (by decide +kernel) rfl ?_
                              obtain ⟨w204, F⟩ := F
                              refine zSaload 662 (by decide +kernel) rfl (w204) ?_
                              refine zCallV 11 zcls11 mX11_buy 77 1 0 0 _ _ 665 [.int (G.2.2.2.2.2.2.2 (l4 + 1 : Int32).toNatClampNeg)] [] okX11_buy mlL_77 imX11_buy seX11_buy (by decide +kernel) rfl rfl (Nat.le_of_ble_eq_true rfl) rfl rfl (X_0 S0_) (zC.mono F ?_)
                              rintro _ _ ⟨x205, I206, rfl, rfl, F⟩
                              change zV G (d + 1) mL_law (kc + 4) (ks + 300) 665 [(0, .ref (G.2.2.2.2.2.1 3)), (1, .ref (x)), (2, .ref (m)), (3, .ref (o)), (4, .int (l4))] [.int (x205)] (I206, J, R, K, n) Q
                              refine zAload_n 2 2 666 (by decide +kernel) rfl rfl ?_
                              refine zAload_n 0 0 667 (by decide +kernel) rfl rfl ?_
                              refine zIload 4 4 669 (by decide +kernel) rfl rfl ?_
                              refine zIconst 1 1 670 (by decide +kernel) rfl (by decide) ?_
                              refine zIadd 671 (by decide +kernel) rfl ?_
                              obtain ⟨w207, F⟩ := F
                              refine zSaload 672 (by decide +kernel) rfl (w207) ?_
                              refine zCallV 12 zcls12 mX12_buy 80 1 0 0 _ _ 675 [.int (G.2.2.2.2.2.2.2 (l4 + 1 : Int32).toNatClampNeg)] [.int (x205)] okX12_buy mlL_80 imX12_buy seX12_buy (by decide +kernel) rfl rfl (Nat.le_of_ble_eq_true rfl) rfl rfl (Mod_0 S1_) (zC.mono F ?_)
                              rintro _ _ ⟨x208, I209, rfl, rfl, F⟩
                              change zV G (d + 1) mL_law (kc + 4) (ks + 300) 675 [(0, .ref (G.2.2.2.2.2.1 3)), (1, .ref (x)), (2, .ref (m)), (3, .ref (o)), (4, .int (l4))] [.int (x208), .int (x205)] (I209, J, R, K, n) Q
                              refine zIcmp_eq 908 1583 678 (by decide +kernel) rfl rfl ⟨fun q210 => ?_, fun q210 => ?_⟩
                              · replace F := F.1 q210
                                refine zIinc 4 6 4 (l4 + 6) [(4, .int (l4 + 6)), (0, .ref (G.2.2.2.2.2.1 3)), (1, .ref (x)), (2, .ref (m)), (3, .ref (o))] 1586 (by decide +kernel) rfl rfl (by rfl) (by decide) rfl ?_
                                refine zGoto (-1563) 23 (by decide +kernel) rfl ?_
                                exact zLoc [1, 2, 3, 4, 0] _ rfl F
                              · replace F := F.2 q210
                                refine zIconst 0 0 679 (by decide +kernel) rfl (by decide) ?_
                                exact zZret .boolean rfl (zNarZ (Or.inl rfl)) (by decide +kernel) F
                            · skip
                              by_cases q211 : ((G.2.2.2.2.2.2.2 l4.toNatClampNeg) &&& 63) = 13
                              · replace F := F.2.2.2.2.2.2.2.2.2.2.2.2.2.1 q211
                                have zt := zEqT q211 (show (13 : Int32).toInt = 13 by decide)
                                refine zTableIn 1543 0 39 #[176, 249, 274, 299, 324, 392, 429, 454, 479, 504, 541, 566, 615, 640, 665, 678, 747, 760, 797, 846, 883, 908, 945, 970, 1007, 1032, 1097, 1134, 1159, 1172, 1209, 1246, 1319, 1368, 1405, 1442, 1467, 1492, 1505, 1518] 176 640 680 (by decide +kernel) (by omega) (by omega) (by rw [zt]; decide) rfl ?_
                                refine zAload_n 1 1 681 (by decide +kernel) rfl rfl ?_
                                refine zAload_n 0 0 682 (by decide +kernel) rfl rfl ?_
                                refine zIload 4 4 684 (by decide +kernel) rfl rfl ?_
                                refine zIconst 1 1 685 (by decide +kernel) rfl (by decide) ?_
                                refine zIadd 686 (by decide +kernel) rfl ?_
                                obtain ⟨w212, F⟩ := F
                                refine zSaload 687 (by decide +kernel) rfl (w212) ?_
                                refine zCallV 11 zcls11 mX11_give 81 1 0 0 _ _ 690 [.int (G.2.2.2.2.2.2.2 (l4 + 1 : Int32).toNatClampNeg)] [] okX11_give mlL_81 imX11_give seX11_give (by decide +kernel) rfl rfl (Nat.le_of_ble_eq_true rfl) rfl rfl (X_0 S0_) (zC.mono F ?_)
                                rintro _ _ ⟨x213, I214, rfl, rfl, F⟩
                                change zV G (d + 1) mL_law (kc + 4) (ks + 300) 690 [(0, .ref (G.2.2.2.2.2.1 3)), (1, .ref (x)), (2, .ref (m)), (3, .ref (o)), (4, .int (l4))] [.int (x213)] (I214, J, R, K, n) Q
                                refine zAload_n 2 2 691 (by decide +kernel) rfl rfl ?_
                                refine zAload_n 0 0 692 (by decide +kernel) rfl rfl ?_
                                refine zIload 4 4 694 (by decide +kernel) rfl rfl ?_
                                refine zIconst 1 1 695 (by decide +kernel) rfl (by decide) ?_
                                refine zIadd 696 (by decide +kernel) rfl ?_
                                obtain ⟨w215, F⟩ := F
                                refine zSaload 697 (by decide +kernel) rfl (w215) ?_
                                refine zCallV 12 zcls12 mX12_give 84 1 0 0 _ _ 700 [.int (G.2.2.2.2.2.2.2 (l4 + 1 : Int32).toNatClampNeg)] [.int (x213)] okX12_give mlL_84 imX12_give seX12_give (by decide +kernel) rfl rfl (Nat.le_of_ble_eq_true rfl) rfl rfl (Mod_0 S1_) (zC.mono F ?_)
                                rintro _ _ ⟨x216, I217, rfl, rfl, F⟩
                                change zV G (d + 1) mL_law (kc + 4) (ks + 300) 700 [(0, .ref (G.2.2.2.2.2.1 3)), (1, .ref (x)), (2, .ref (m)), (3, .ref (o)), (4, .int (l4))] [.int (x216), .int (x213)] (I217, J, R, K, n) Q
                                refine zIcmp_eq 883 1583 703 (by decide +kernel) rfl rfl ⟨fun q218 => ?_, fun q218 => ?_⟩
                                · replace F := F.1 q218
                                  refine zIinc 4 6 4 (l4 + 6) [(4, .int (l4 + 6)), (0, .ref (G.2.2.2.2.2.1 3)), (1, .ref (x)), (2, .ref (m)), (3, .ref (o))] 1586 (by decide +kernel) rfl rfl (by rfl) (by decide) rfl ?_
                                  refine zGoto (-1563) 23 (by decide +kernel) rfl ?_
                                  exact zLoc [1, 2, 3, 4, 0] _ rfl F
                                · replace F := F.2 q218
                                  refine zIconst 0 0 704 (by decide +kernel) rfl (by decide) ?_
                                  exact zZret .boolean rfl (zNarZ (Or.inl rfl)) (by decide +kernel) F
                              · skip
                                by_cases q219 : ((G.2.2.2.2.2.2.2 l4.toNatClampNeg) &&& 63) = 14
                                · replace F := F.2.2.2.2.2.2.2.2.2.2.2.2.2.2.1 q219
                                  have zt := zEqT q219 (show (14 : Int32).toInt = 14 by decide)
                                  refine zTableIn 1543 0 39 #[176, 249, 274, 299, 324, 392, 429, 454, 479, 504, 541, 566, 615, 640, 665, 678, 747, 760, 797, 846, 883, 908, 945, 970, 1007, 1032, 1097, 1134, 1159, 1172, 1209, 1246, 1319, 1368, 1405, 1442, 1467, 1492, 1505, 1518] 176 665 705 (by decide +kernel) (by omega) (by omega) (by rw [zt]; decide) rfl ?_
                                  refine zAload_n 1 1 706 (by decide +kernel) rfl rfl ?_
                                  refine zCallV 11 zcls11 mX11_day 85 0 0 0 _ _ 709 [] [] okX11_day mlL_85 imX11_day seX11_day (by decide +kernel) rfl rfl (Nat.le_of_ble_eq_true rfl) rfl rfl (X_0 S0_) (zC.mono F ?_)
                                  rintro _ _ ⟨x220, I221, rfl, rfl, F⟩
                                  change zV G (d + 1) mL_law (kc + 4) (ks + 300) 709 [(0, .ref (G.2.2.2.2.2.1 3)), (1, .ref (x)), (2, .ref (m)), (3, .ref (o)), (4, .int (l4))] [.int (x220)] (I221, J, R, K, n) Q
                                  refine zAload_n 2 2 710 (by decide +kernel) rfl rfl ?_
                                  refine zCallV 12 zcls12 mX12_day 88 0 0 0 _ _ 713 [] [.int (x220)] okX12_day mlL_88 imX12_day seX12_day (by decide +kernel) rfl rfl (Nat.le_of_ble_eq_true rfl) rfl rfl (Mod_0 S1_) (zC.mono F ?_)
                                  rintro _ _ ⟨x222, I223, rfl, rfl, F⟩
                                  change zV G (d + 1) mL_law (kc + 4) (ks + 300) 713 [(0, .ref (G.2.2.2.2.2.1 3)), (1, .ref (x)), (2, .ref (m)), (3, .ref (o)), (4, .int (l4))] [.int (x222), .int (x220)] (I223, J, R, K, n) Q
                                  refine zIcmp_eq 870 1583 716 (by decide +kernel) rfl rfl ⟨fun q224 => ?_, fun q224 => ?_⟩
                                  · replace F := F.1 q224
                                    refine zIinc 4 6 4 (l4 + 6) [(4, .int (l4 + 6)), (0, .ref (G.2.2.2.2.2.1 3)), (1, .ref (x)), (2, .ref (m)), (3, .ref (o))] 1586 (by decide +kernel) rfl rfl (by rfl) (by decide) rfl ?_
                                    refine zGoto (-1563) 23 (by decide +kernel) rfl ?_
                                    exact zLoc [1, 2, 3, 4, 0] _ rfl F
                                  · replace F := F.2 q224
                                    refine zIconst 0 0 717 (by decide +kernel) rfl (by decide) ?_
                                    exact zZret .boolean rfl (zNarZ (Or.inl rfl)) (by decide +kernel) F
                                · skip
                                  by_cases q225 : ((G.2.2.2.2.2.2.2 l4.toNatClampNeg) &&& 63) = 15
                                  · replace F := F.2.2.2.2.2.2.2.2.2.2.2.2.2.2.2.1 q225
                                    have zt := zEqT q225 (show (15 : Int32).toInt = 15 by decide)
                                    refine zTableIn 1543 0 39 #[176, 249, 274, 299, 324, 392, 429, 454, 479, 504, 541, 566, 615, 640, 665, 678, 747, 760, 797, 846, 883, 908, 945, 970, 1007, 1032, 1097, 1134, 1159, 1172, 1209, 1246, 1319, 1368, 1405, 1442, 1467, 1492, 1505, 1518] 176 678 718 (by decide +kernel) (by omega) (by omega) (by rw [zt]; decide) rfl ?_
                                    refine zAload_n 1 1 719 (by decide +kernel) rfl rfl ?_
                                    refine zAload_n 0 0 720 (by decide +kernel) rfl rfl ?_
                                    refine zIload 4 4 722 (by decide +kernel) rfl rfl ?_
                                    refine zIconst 1 1 723 (by decide +kernel) rfl (by decide) ?_
                                    refine zIadd 724 (by decide +kernel) rfl ?_
                                    obtain ⟨w226, F⟩ := F
                                    refine zSaload 725 (by decide +kernel) rfl (w226) ?_
                                    refine zAload_n 0 0 726 (by decide +kernel) rfl rfl ?_
                                    refine zIload 4 4 728 (by decide +kernel) rfl rfl ?_
                                    refine zIconst 2 2 729 (by decide +kernel) rfl (by decide) ?_
                                    refine zIadd 730 (by decide +kernel) rfl ?_
                                    obtain ⟨w227, F⟩ := F
                                    refine zSaload 731 (by decide +kernel) rfl (w227) ?_
                                    refine zI2l 732 (by decide +kernel) rfl ?_
                                    refine zBipush 32 32 734 (by decide +kernel) rfl (by decide) ?_
                                    refine zLshl 735 (by decide +kernel) rfl ?_
                                    refine zAload_n 0 0 736 (by decide +kernel) rfl rfl ?_
                                    refine zIload 4 4 738 (by decide +kernel) rfl rfl ?_
                                    refine zIconst 3 3 739 (by decide +kernel) rfl (by decide) ?_
                                    refine zIadd 740 (by decide +kernel) rfl ?_
                                    obtain ⟨w228, F⟩ := F
                                    refine zSaload 741 (by decide +kernel) rfl (w228) ?_
                                    refine zI2l 742 (by decide +kernel) rfl ?_
                                    refine zLdc2 89 4294967295 745 (by decide +kernel) rfl klL_89 ?_
                                    refine zLand 746 (by decide +kernel) rfl ?_
                                    refine zLor 747 (by decide +kernel) rfl ?_
                                    refine zCallV 11 zcls11 mX11_years 91 2 0 0 _ _ 750 [.int (G.2.2.2.2.2.2.2 (l4 + 1 : Int32).toNatClampNeg), .long ((((G.2.2.2.2.2.2.2 (l4 + 2 : Int32).toNatClampNeg : Int32).toInt64 : Int64) <<< ((32 : Int32).toInt64 &&& 63)) ||| (((G.2.2.2.2.2.2.2 (l4 + 3 : Int32).toNatClampNeg : Int32).toInt64) &&& 4294967295))] [] okX11_years mlL_91 imX11_years seX11_years (by decide +kernel) rfl rfl (Nat.le_of_ble_eq_true rfl) rfl rfl (X_0 S0_) (zC.mono F ?_)
                                    rintro _ _ ⟨x229, I230, J231, rfl, rfl, F⟩
                                    change zV G (d + 1) mL_law (kc + 4) (ks + 300) 750 [(0, .ref (G.2.2.2.2.2.1 3)), (1, .ref (x)), (2, .ref (m)), (3, .ref (o)), (4, .int (l4))] [.int (x229)] (I230, J231, R, K, n) Q
                                    refine zAload_n 2 2 751 (by decide +kernel) rfl rfl ?_
                                    refine zAload_n 0 0 752 (by decide +kernel) rfl rfl ?_
                                    refine zIload 4 4 754 (by decide +kernel) rfl rfl ?_
                                    refine zIconst 1 1 755 (by decide +kernel) rfl (by decide) ?_
                                    refine zIadd 756 (by decide +kernel) rfl ?_
                                    obtain ⟨w232, F⟩ := F
                                    refine zSaload 757 (by decide +kernel) rfl (w232) ?_
                                    refine zAload_n 0 0 758 (by decide +kernel) rfl rfl ?_
                                    refine zIload 4 4 760 (by decide +kernel) rfl rfl ?_
                                    refine zIconst 2 2 761 (by decide +kernel) rfl (by decide) ?_
                                    refine zIadd 762 (by decide +kernel) rfl ?_
                                    obtain ⟨w233, F⟩ := F
                                    refine zSaload 763 (by decide +kernel) rfl (w233) ?_
                                    refine zI2l 764 (by decide +kernel) rfl ?_
                                    refine zBipush 32 32 766 (by decide +kernel) rfl (by decide) ?_
                                    refine zLshl 767 (by decide +kernel) rfl ?_
                                    refine zAload_n 0 0 768 (by decide +kernel) rfl rfl ?_
                                    refine zIload 4 4 770 (by decide +kernel) rfl rfl ?_
                                    refine zIconst 3 3 771 (by decide +kernel) rfl (by decide) ?_
                                    refine zIadd 772 (by decide +kernel) rfl ?_
                                    obtain ⟨w234, F⟩ := F
                                    refine zSaload 773 (by decide +kernel) rfl (w234) ?_
                                    refine zI2l 774 (by decide +kernel) rfl ?_
                                    refine zLdc2 89 4294967295 777 (by decide +kernel) rfl klL_89 ?_
                                    refine zLand 778 (by decide +kernel) rfl ?_
                                    refine zLor 779 (by decide +kernel) rfl ?_
                                    refine zCallV 12 zcls12 mX12_years 95 2 0 0 _ _ 782 [.int (G.2.2.2.2.2.2.2 (l4 + 1 : Int32).toNatClampNeg), .long ((((G.2.2.2.2.2.2.2 (l4 + 2 : Int32).toNatClampNeg : Int32).toInt64 : Int64) <<< ((32 : Int32).toInt64 &&& 63)) ||| (((G.2.2.2.2.2.2.2 (l4 + 3 : Int32).toNatClampNeg : Int32).toInt64) &&& 4294967295))] [.int (x229)] okX12_years mlL_95 imX12_years seX12_years (by decide +kernel) rfl rfl (Nat.le_of_ble_eq_true rfl) rfl rfl (Mod_0 S1_) (zC.mono F ?_)
                                    rintro _ _ ⟨x235, I236, J237, R238, rfl, rfl, F⟩
                                    change zV G (d + 1) mL_law (kc + 4) (ks + 300) 782 [(0, .ref (G.2.2.2.2.2.1 3)), (1, .ref (x)), (2, .ref (m)), (3, .ref (o)), (4, .int (l4))] [.int (x235), .int (x229)] (I236, J237, R238, K, n) Q
                                    obtain ⟨u239, u240, u241, S242, F⟩ := F
                                    obtain ⟨u243, u244, S245, F⟩ := F
                                    obtain ⟨S246, F⟩ := F
                                    refine zIcmp_eq 801 1583 785 (by decide +kernel) rfl rfl ⟨fun q247 => ?_, fun q247 => ?_⟩
                                    · replace F := F.1 q247
                                      refine zIinc 4 6 4 (l4 + 6) [(4, .int (l4 + 6)), (0, .ref (G.2.2.2.2.2.1 3)), (1, .ref (x)), (2, .ref (m)), (3, .ref (o))] 1586 (by decide +kernel) rfl rfl (by rfl) (by decide) rfl ?_
                                      refine zGoto (-1563) 23 (by decide +kernel) rfl ?_
                                      exact zLoc [1, 2, 3, 4, 0] _ rfl F
                                    · replace F := F.2 q247
                                      refine zIconst 0 0 786 (by decide +kernel) rfl (by decide) ?_
                                      exact zZret .boolean rfl (zNarZ (Or.inl rfl)) (by decide +kernel) F
                                  · skip
                                    by_cases q248 : ((G.2.2.2.2.2.2.2 l4.toNatClampNeg) &&& 63) = 16
                                    · replace F := F.2.2.2.2.2.2.2.2.2.2.2.2.2.2.2.2.1 q248
                                      have zt := zEqT q248 (show (16 : Int32).toInt = 16 by decide)
                                      refine zTableIn 1543 0 39 #[176, 249, 274, 299, 324, 392, 429, 454, 479, 504, 541, 566, 615, 640, 665, 678, 747, 760, 797, 846, 883, 908, 945, 970, 1007, 1032, 1097, 1134, 1159, 1172, 1209, 1246, 1319, 1368, 1405, 1442, 1467, 1492, 1505, 1518] 176 747 787 (by decide +kernel) (by omega) (by omega) (by rw [zt]; decide) rfl ?_
                                      refine zAload_n 1 1 788 (by decide +kernel) rfl rfl ?_
                                      refine zCallV 11 zcls11 mX11_undo 96 0 0 0 _ _ 791 [] [] okX11_undo mlL_96 imX11_undo seX11_undo (by decide +kernel) rfl rfl (Nat.le_of_ble_eq_true rfl) rfl rfl (X_0 S0_) (zC.mono F ?_)
                                      rintro _ _ ⟨x249, I250, rfl, rfl, F⟩
                                      change zV G (d + 1) mL_law (kc + 4) (ks + 300) 791 [(0, .ref (G.2.2.2.2.2.1 3)), (1, .ref (x)), (2, .ref (m)), (3, .ref (o)), (4, .int (l4))] [.int (x249)] (I250, J, R, K, n) Q
                                      refine zAload_n 2 2 792 (by decide +kernel) rfl rfl ?_
                                      refine zCallV 12 zcls12 mX12_undo 99 0 0 0 _ _ 795 [] [.int (x249)] okX12_undo mlL_99 imX12_undo seX12_undo (by decide +kernel) rfl rfl (Nat.le_of_ble_eq_true rfl) rfl rfl (Mod_0 S1_) (zC.mono F ?_)
                                      rintro _ _ ⟨x251, I252, rfl, rfl, F⟩
                                      change zV G (d + 1) mL_law (kc + 4) (ks + 300) 795 [(0, .ref (G.2.2.2.2.2.1 3)), (1, .ref (x)), (2, .ref (m)), (3, .ref (o)), (4, .int (l4))] [.int (x251), .int (x249)] (I252, J, R, K, n) Q
                                      refine zIcmp_eq 788 1583 798 (by decide +kernel) rfl rfl ⟨fun q253 => ?_, fun q253 => ?_⟩
                                      · replace F := F.1 q253
                                        refine zIinc 4 6 4 (l4 + 6) [(4, .int (l4 + 6)), (0, .ref (G.2.2.2.2.2.1 3)), (1, .ref (x)), (2, .ref (m)), (3, .ref (o))] 1586 (by decide +kernel) rfl rfl (by rfl) (by decide) rfl ?_
                                        refine zGoto (-1563) 23 (by decide +kernel) rfl ?_
                                        exact zLoc [1, 2, 3, 4, 0] _ rfl F
                                      · replace F := F.2 q253
                                        refine zIconst 0 0 799 (by decide +kernel) rfl (by decide) ?_
                                        exact zZret .boolean rfl (zNarZ (Or.inl rfl)) (by decide +kernel) F
                                    · skip
                                      by_cases q254 : ((G.2.2.2.2.2.2.2 l4.toNatClampNeg) &&& 63) = 17
                                      · replace F := F.2.2.2.2.2.2.2.2.2.2.2.2.2.2.2.2.2.1 q254
                                        have zt := zEqT q254 (show (17 : Int32).toInt = 17 by decide)
                                        refine zTableIn 1543 0 39 #[176, 249, 274, 299, 324, 392, 429, 454, 479, 504, 541, 566, 615, 640, 665, 678, 747, 760, 797, 846, 883, 908, 945, 970, 1007, 1032, 1097, 1134, 1159, 1172, 1209, 1246, 1319, 1368, 1405, 1442, 1467, 1492, 1505, 1518] 176 760 800 (by decide +kernel) (by omega) (by omega) (by rw [zt]; decide) rfl ?_
                                        refine zAload_n 1 1 801 (by decide +kernel) rfl rfl ?_
                                        refine zAload_n 0 0 802 (by decide +kernel) rfl rfl ?_
                                        refine zIload 4 4 804 (by decide +kernel) rfl rfl ?_
                                        refine zIconst 1 1 805 (by decide +kernel) rfl (by decide) ?_
                                        refine zIadd 806 (by decide +kernel) rfl ?_
                                        obtain ⟨w255, F⟩ := F
                                        refine zSaload 807 (by decide +kernel) rfl (w255) ?_
                                        refine zAload_n 0 0 808 (by decide +kernel) rfl rfl ?_
                                        refine zIload 4 4 810 (by decide +kernel) rfl rfl ?_
                                        refine zIconst 2 2 811 (by decide +kernel) rfl (by decide) ?_
                                        refine zIadd 812 (by decide +kernel) rfl ?_
                                        obtain ⟨w256, F⟩ := F
                                        refine zSaload 813 (by decide +kernel) rfl (w256) ?_
                                        refine zCallV 11 zcls11 mX11_log 100 2 0 0 _ _ 816 [.int (G.2.2.2.2.2.2.2 (l4 + 1 : Int32).toNatClampNeg), .int (G.2.2.2.2.2.2.2 (l4 + 2 : Int32).toNatClampNeg)] [] okX11_log mlL_100 imX11_log seX11_log (by decide +kernel) rfl rfl (Nat.le_of_ble_eq_true rfl) rfl rfl (X_0 S0_) (zC.mono F ?_)
                                        rintro _ _ ⟨x257, I258, rfl, rfl, F⟩
                                        change zV G (d + 1) mL_law (kc + 4) (ks + 300) 816 [(0, .ref (G.2.2.2.2.2.1 3)), (1, .ref (x)), (2, .ref (m)), (3, .ref (o)), (4, .int (l4))] [.int (x257)] (I258, J, R, K, n) Q
                                        refine zAload_n 2 2 817 (by decide +kernel) rfl rfl ?_
                                        refine zAload_n 0 0 818 (by decide +kernel) rfl rfl ?_
                                        refine zIload 4 4 820 (by decide +kernel) rfl rfl ?_
                                        refine zIconst 1 1 821 (by decide +kernel) rfl (by decide) ?_
                                        refine zIadd 822 (by decide +kernel) rfl ?_
                                        obtain ⟨w259, F⟩ := F
                                        refine zSaload 823 (by decide +kernel) rfl (w259) ?_
                                        refine zAload_n 0 0 824 (by decide +kernel) rfl rfl ?_
                                        refine zIload 4 4 826 (by decide +kernel) rfl rfl ?_
                                        refine zIconst 2 2 827 (by decide +kernel) rfl (by decide) ?_
                                        refine zIadd 828 (by decide +kernel) rfl ?_
                                        obtain ⟨w260, F⟩ := F
                                        refine zSaload 829 (by decide +kernel) rfl (w260) ?_
                                        refine zCallV 12 zcls12 mX12_log 103 2 0 0 _ _ 832 [.int (G.2.2.2.2.2.2.2 (l4 + 1 : Int32).toNatClampNeg), .int (G.2.2.2.2.2.2.2 (l4 + 2 : Int32).toNatClampNeg)] [.int (x257)] okX12_log mlL_103 imX12_log seX12_log (by decide +kernel) rfl rfl (Nat.le_of_ble_eq_true rfl) rfl rfl (Mod_0 S1_) (zC.mono F ?_)
                                        rintro _ _ ⟨x261, I262, rfl, rfl, F⟩
                                        change zV G (d + 1) mL_law (kc + 4) (ks + 300) 832 [(0, .ref (G.2.2.2.2.2.1 3)), (1, .ref (x)), (2, .ref (m)), (3, .ref (o)), (4, .int (l4))] [.int (x261), .int (x257)] (I262, J, R, K, n) Q
                                        refine zIcmp_eq 751 1583 835 (by decide +kernel) rfl rfl ⟨fun q263 => ?_, fun q263 => ?_⟩
                                        · replace F := F.1 q263
                                          refine zIinc 4 6 4 (l4 + 6) [(4, .int (l4 + 6)), (0, .ref (G.2.2.2.2.2.1 3)), (1, .ref (x)), (2, .ref (m)), (3, .ref (o))] 1586 (by decide +kernel) rfl rfl (by rfl) (by decide) rfl ?_
                                          refine zGoto (-1563) 23 (by decide +kernel) rfl ?_
                                          exact zLoc [1, 2, 3, 4, 0] _ rfl F
                                        · replace F := F.2 q263
                                          refine zIconst 0 0 836 (by decide +kernel) rfl (by decide) ?_
                                          exact zZret .boolean rfl (zNarZ (Or.inl rfl)) (by decide +kernel) F
                                      · skip
                                        by_cases q264 : ((G.2.2.2.2.2.2.2 l4.toNatClampNeg) &&& 63) = 18
                                        · replace F := F.2.2.2.2.2.2.2.2.2.2.2.2.2.2.2.2.2.2.1 q264
                                          have zt := zEqT q264 (show (18 : Int32).toInt = 18 by decide)
                                          refine zTableIn 1543 0 39 #[176, 249, 274, 299, 324, 392, 429, 454, 479, 504, 541, 566, 615, 640, 665, 678, 747, 760, 797, 846, 883, 908, 945, 970, 1007, 1032, 1097, 1134, 1159, 1172, 1209, 1246, 1319, 1368, 1405, 1442, 1467, 1492, 1505, 1518] 176 797 837 (by decide +kernel) (by omega) (by omega) (by rw [zt]; decide) rfl ?_
                                          refine zAload_n 1 1 838 (by decide +kernel) rfl rfl ?_
                                          refine zAload_n 0 0 839 (by decide +kernel) rfl rfl ?_
                                          refine zIload 4 4 841 (by decide +kernel) rfl rfl ?_
                                          refine zIconst 1 1 842 (by decide +kernel) rfl (by decide) ?_
                                          refine zIadd 843 (by decide +kernel) rfl ?_
                                          obtain ⟨w265, F⟩ := F
                                          refine zSaload 844 (by decide +kernel) rfl (w265) ?_
                                          refine zAload_n 0 0 845 (by decide +kernel) rfl rfl ?_
                                          refine zIload 4 4 847 (by decide +kernel) rfl rfl ?_
                                          refine zIconst 2 2 848 (by decide +kernel) rfl (by decide) ?_
                                          refine zIadd 849 (by decide +kernel) rfl ?_
                                          obtain ⟨w266, F⟩ := F
                                          refine zSaload 850 (by decide +kernel) rfl (w266) ?_
                                          refine zAload_n 0 0 851 (by decide +kernel) rfl rfl ?_
                                          refine zIload 4 4 853 (by decide +kernel) rfl rfl ?_
                                          refine zIconst 3 3 854 (by decide +kernel) rfl (by decide) ?_
                                          refine zIadd 855 (by decide +kernel) rfl ?_
                                          obtain ⟨w267, F⟩ := F
                                          refine zSaload 856 (by decide +kernel) rfl (w267) ?_
                                          refine zCallV 11 zcls11 mX11_step 104 3 0 0 _ _ 859 [.int (G.2.2.2.2.2.2.2 (l4 + 1 : Int32).toNatClampNeg), .int (G.2.2.2.2.2.2.2 (l4 + 2 : Int32).toNatClampNeg), .int (G.2.2.2.2.2.2.2 (l4 + 3 : Int32).toNatClampNeg)] [] okX11_step mlL_104 imX11_step seX11_step (by decide +kernel) rfl rfl (Nat.le_of_ble_eq_true rfl) rfl rfl (X_0 S0_) (zC.mono F ?_)
                                          rintro _ _ ⟨x268, I269, rfl, rfl, F⟩
                                          change zV G (d + 1) mL_law (kc + 4) (ks + 300) 859 [(0, .ref (G.2.2.2.2.2.1 3)), (1, .ref (x)), (2, .ref (m)), (3, .ref (o)), (4, .int (l4))] [.int (x268)] (I269, J, R, K, n) Q
                                          refine zAload_n 2 2 860 (by decide +kernel) rfl rfl ?_
                                          refine zAload_n 0 0 861 (by decide +kernel) rfl rfl ?_
                                          refine zIload 4 4 863 (by decide +kernel) rfl rfl ?_
                                          refine zIconst 1 1 864 (by decide +kernel) rfl (by decide) ?_
                                          refine zIadd 865 (by decide +kernel) rfl ?_
                                          obtain ⟨w270, F⟩ := F
                                          refine zSaload 866 (by decide +kernel) rfl (w270) ?_
                                          refine zAload_n 0 0 867 (by decide +kernel) rfl rfl ?_
                                          refine zIload 4 4 869 (by decide +kernel) rfl rfl ?_
                                          refine zIconst 2 2 870 (by decide +kernel) rfl (by decide) ?_
                                          refine zIadd 871 (by decide +kernel) rfl ?_
                                          obtain ⟨w271, F⟩ := F
                                          refine zSaload 872 (by decide +kernel) rfl (w271) ?_
                                          refine zAload_n 0 0 873 (by decide +kernel) rfl rfl ?_
                                          refine zIload 4 4 875 (by decide +kernel) rfl rfl ?_
                                          refine zIconst 3 3 876 (by decide +kernel) rfl (by decide) ?_
                                          refine zIadd 877 (by decide +kernel) rfl ?_
                                          obtain ⟨w272, F⟩ := F
                                          refine zSaload 878 (by decide +kernel) rfl (w272) ?_
                                          refine zCallV 12 zcls12 mX12_step 107 3 0 0 _ _ 881 [.int (G.2.2.2.2.2.2.2 (l4 + 1 : Int32).toNatClampNeg), .int (G.2.2.2.2.2.2.2 (l4 + 2 : Int32).toNatClampNeg), .int (G.2.2.2.2.2.2.2 (l4 + 3 : Int32).toNatClampNeg)] [.int (x268)] okX12_step mlL_107 imX12_step seX12_step (by decide +kernel) rfl rfl (Nat.le_of_ble_eq_true rfl) rfl rfl (Mod_0 S1_) (zC.mono F ?_)
                                          rintro _ _ ⟨x273, I274, rfl, rfl, F⟩
                                          change zV G (d + 1) mL_law (kc + 4) (ks + 300) 881 [(0, .ref (G.2.2.2.2.2.1 3)), (1, .ref (x)), (2, .ref (m)), (3, .ref (o)), (4, .int (l4))] [.int (x273), .int (x268)] (I274, J, R, K, n) Q
                                          refine zIcmp_eq 702 1583 884 (by decide +kernel) rfl rfl ⟨fun q275 => ?_, fun q275 => ?_⟩
                                          · replace F := F.1 q275
                                            refine zIinc 4 6 4 (l4 + 6) [(4, .int (l4 + 6)), (0, .ref (G.2.2.2.2.2.1 3)), (1, .ref (x)), (2, .ref (m)), (3, .ref (o))] 1586 (by decide +kernel) rfl rfl (by rfl) (by decide) rfl ?_
                                            refine zGoto (-1563) 23 (by decide +kernel) rfl ?_
                                            exact zLoc [1, 2, 3, 4, 0] _ rfl F
                                          · replace F := F.2 q275
                                            refine zIconst 0 0 885 (by decide +kernel) rfl (by decide) ?_
                                            exact zZret .boolean rfl (zNarZ (Or.inl rfl)) (by decide +kernel) F
                                        · skip
                                          by_cases q276 : ((G.2.2.2.2.2.2.2 l4.toNatClampNeg) &&& 63) = 19
                                          · replace F := F.2.2.2.2.2.2.2.2.2.2.2.2.2.2.2.2.2.2.2.1 q276
                                            have zt := zEqT q276 (show (19 : Int32).toInt = 19 by decide)
                                            refine zTableIn 1543 0 39 #[176, 249, 274, 299, 324, 392, 429, 454, 479, 504, 541, 566, 615, 640, 665, 678, 747, 760, 797, 846, 883, 908, 945, 970, 1007, 1032, 1097, 1134, 1159, 1172, 1209, 1246, 1319, 1368, 1405, 1442, 1467, 1492, 1505, 1518] 176 846 886 (by decide +kernel) (by omega) (by omega) (by rw [zt]; decide) rfl ?_
                                            refine zAload_n 1 1 887 (by decide +kernel) rfl rfl ?_
                                            refine zAload_n 0 0 888 (by decide +kernel) rfl rfl ?_
                                            refine zIload 4 4 890 (by decide +kernel) rfl rfl ?_
                                            refine zIconst 1 1 891 (by decide +kernel) rfl (by decide) ?_
                                            refine zIadd 892 (by decide +kernel) rfl ?_
                                            obtain ⟨w277, F⟩ := F
                                            refine zSaload 893 (by decide +kernel) rfl (w277) ?_
                                            refine zAload_n 0 0 894 (by decide +kernel) rfl rfl ?_
                                            refine zIload 4 4 896 (by decide +kernel) rfl rfl ?_
                                            refine zIconst 2 2 897 (by decide +kernel) rfl (by decide) ?_
                                            refine zIadd 898 (by decide +kernel) rfl ?_
                                            obtain ⟨w278, F⟩ := F
                                            refine zSaload 899 (by decide +kernel) rfl (w278) ?_
                                            refine zCallV 11 zcls11 mX11_run 108 2 0 0 _ _ 902 [.int (G.2.2.2.2.2.2.2 (l4 + 1 : Int32).toNatClampNeg), .int (G.2.2.2.2.2.2.2 (l4 + 2 : Int32).toNatClampNeg)] [] okX11_run mlL_108 imX11_run seX11_run (by decide +kernel) rfl rfl (Nat.le_of_ble_eq_true rfl) rfl rfl (X_0 S0_) (zC.mono F ?_)
                                            rintro _ _ ⟨x279, I280, rfl, rfl, F⟩
                                            change zV G (d + 1) mL_law (kc + 4) (ks + 300) 902 [(0, .ref (G.2.2.2.2.2.1 3)), (1, .ref (x)), (2, .ref (m)), (3, .ref (o)), (4, .int (l4))] [.int (x279)] (I280, J, R, K, n) Q
                                            refine zAload_n 2 2 903 (by decide +kernel) rfl rfl ?_
                                            refine zAload_n 0 0 904 (by decide +kernel) rfl rfl ?_
                                            refine zIload 4 4 906 (by decide +kernel) rfl rfl ?_
                                            refine zIconst 1 1 907 (by decide +kernel) rfl (by decide) ?_
                                            refine zIadd 908 (by decide +kernel) rfl ?_
                                            obtain ⟨w281, F⟩ := F
                                            refine zSaload 909 (by decide +kernel) rfl (w281) ?_
                                            refine zAload_n 0 0 910 (by decide +kernel) rfl rfl ?_
                                            refine zIload 4 4 912 (by decide +kernel) rfl rfl ?_
                                            refine zIconst 2 2 913 (by decide +kernel) rfl (by decide) ?_
                                            refine zIadd 914 (by decide +kernel) rfl ?_
                                            obtain ⟨w282, F⟩ := F
                                            refine zSaload 915 (by decide +kernel) rfl (w282) ?_
                                            refine zCallV 12 zcls12 mX12_run 111 2 0 0 _ _ 918 [.int (G.2.2.2.2.2.2.2 (l4 + 1 : Int32).toNatClampNeg), .int (G.2.2.2.2.2.2.2 (l4 + 2 : Int32).toNatClampNeg)] [.int (x279)] okX12_run mlL_111 imX12_run seX12_run (by decide +kernel) rfl rfl (Nat.le_of_ble_eq_true rfl) rfl rfl (Mod_0 S1_) (zC.mono F ?_)
                                            rintro _ _ ⟨x283, I284, J285, R286, rfl, rfl, F⟩
                                            change zV G (d + 1) mL_law (kc + 4) (ks + 300) 918 [(0, .ref (G.2.2.2.2.2.1 3)), (1, .ref (x)), (2, .ref (m)), (3, .ref (o)), (4, .int (l4))] [.int (x283), .int (x279)] (I284, J285, R286, K, n) Q
                                            obtain ⟨u287, u288, u289, S290, F⟩ := F
                                            obtain ⟨u291, u292, S293, F⟩ := F
                                            obtain ⟨S294, F⟩ := F
                                            refine zIcmp_eq 665 1583 921 (by decide +kernel) rfl rfl ⟨fun q295 => ?_, fun q295 => ?_⟩
                                            · replace F := F.1 q295
                                              refine zIinc 4 6 4 (l4 + 6) [(4, .int (l4 + 6)), (0, .ref (G.2.2.2.2.2.1 3)), (1, .ref (x)), (2, .ref (m)), (3, .ref (o))] 1586 (by decide +kernel) rfl rfl (by rfl) (by decide) rfl ?_
                                              refine zGoto (-1563) 23 (by decide +kernel) rfl ?_
                                              exact zLoc [1, 2, 3, 4, 0] _ rfl F
                                            · replace F := F.2 q295
                                              refine zIconst 0 0 922 (by decide +kernel) rfl (by decide) ?_
                                              exact zZret .boolean rfl (zNarZ (Or.inl rfl)) (by decide +kernel) F
                                          · skip
                                            by_cases q296 : ((G.2.2.2.2.2.2.2 l4.toNatClampNeg) &&& 63) = 20
                                            · replace F := F.2.2.2.2.2.2.2.2.2.2.2.2.2.2.2.2.2.2.2.2.1 q296
                                              have zt := zEqT q296 (show (20 : Int32).toInt = 20 by decide)
                                              refine zTableIn 1543 0 39 #[176, 249, 274, 299, 324, 392, 429, 454, 479, 504, 541, 566, 615, 640, 665, 678, 747, 760, 797, 846, 883, 908, 945, 970, 1007, 1032, 1097, 1134, 1159, 1172, 1209, 1246, 1319, 1368, 1405, 1442, 1467, 1492, 1505, 1518] 176 883 923 (by decide +kernel) (by omega) (by omega) (by rw [zt]; decide) rfl ?_
                                              refine zAload_n 1 1 924 (by decide +kernel) rfl rfl ?_
                                              refine zAload_n 0 0 925 (by decide +kernel) rfl rfl ?_
                                              refine zIload 4 4 927 (by decide +kernel) rfl rfl ?_
                                              refine zIconst 1 1 928 (by decide +kernel) rfl (by decide) ?_
                                              refine zIadd 929 (by decide +kernel) rfl ?_
                                              obtain ⟨w297, F⟩ := F
                                              refine zSaload 930 (by decide +kernel) rfl (w297) ?_
                                              refine zCallV 11 zcls11 mX11_perform 112 1 0 0 _ _ 933 [.int (G.2.2.2.2.2.2.2 (l4 + 1 : Int32).toNatClampNeg)] [] okX11_perform mlL_112 imX11_perform seX11_perform (by decide +kernel) rfl rfl (Nat.le_of_ble_eq_true rfl) rfl rfl (X_0 S0_) (zC.mono F ?_)
                                              rintro _ _ ⟨x298, I299, rfl, rfl, F⟩
                                              change zV G (d + 1) mL_law (kc + 4) (ks + 300) 933 [(0, .ref (G.2.2.2.2.2.1 3)), (1, .ref (x)), (2, .ref (m)), (3, .ref (o)), (4, .int (l4))] [.int (x298)] (I299, J, R, K, n) Q
                                              refine zAload_n 2 2 934 (by decide +kernel) rfl rfl ?_
                                              refine zAload_n 0 0 935 (by decide +kernel) rfl rfl ?_
                                              refine zIload 4 4 937 (by decide +kernel) rfl rfl ?_
                                              refine zIconst 1 1 938 (by decide +kernel) rfl (by decide) ?_
                                              refine zIadd 939 (by decide +kernel) rfl ?_
                                              obtain ⟨w300, F⟩ := F
                                              refine zSaload 940 (by decide +kernel) rfl (w300) ?_
                                              refine zCallV 12 zcls12 mX12_perform 115 1 0 0 _ _ 943 [.int (G.2.2.2.2.2.2.2 (l4 + 1 : Int32).toNatClampNeg)] [.int (x298)] okX12_perform mlL_115 imX12_perform seX12_perform (by decide +kernel) rfl rfl (Nat.le_of_ble_eq_true rfl) rfl rfl (Mod_0 S1_) (zC.mono F ?_)
                                              rintro _ _ ⟨x301, I302, J303, R304, rfl, rfl, F⟩
                                              change zV G (d + 1) mL_law (kc + 4) (ks + 300) 943 [(0, .ref (G.2.2.2.2.2.1 3)), (1, .ref (x)), (2, .ref (m)), (3, .ref (o)), (4, .int (l4))] [.int (x301), .int (x298)] (I302, J303, R304, K, n) Q
                                              obtain ⟨u305, u306, u307, S308, F⟩ := F
                                              obtain ⟨u309, u310, S311, F⟩ := F
                                              obtain ⟨S312, F⟩ := F
                                              refine zIcmp_eq 640 1583 946 (by decide +kernel) rfl rfl ⟨fun q313 => ?_, fun q313 => ?_⟩
                                              · replace F := F.1 q313
                                                refine zIinc 4 6 4 (l4 + 6) [(4, .int (l4 + 6)), (0, .ref (G.2.2.2.2.2.1 3)), (1, .ref (x)), (2, .ref (m)), (3, .ref (o))] 1586 (by decide +kernel) rfl rfl (by rfl) (by decide) rfl ?_
                                                refine zGoto (-1563) 23 (by decide +kernel) rfl ?_
                                                exact zLoc [1, 2, 3, 4, 0] _ rfl F
                                              · replace F := F.2 q313
                                                refine zIconst 0 0 947 (by decide +kernel) rfl (by decide) ?_
                                                exact zZret .boolean rfl (zNarZ (Or.inl rfl)) (by decide +kernel) F
                                            · skip
                                              by_cases q314 : ((G.2.2.2.2.2.2.2 l4.toNatClampNeg) &&& 63) = 21
                                              · replace F := F.2.2.2.2.2.2.2.2.2.2.2.2.2.2.2.2.2.2.2.2.2.1 q314
                                                have zt := zEqT q314 (show (21 : Int32).toInt = 21 by decide)
                                                refine zTableIn 1543 0 39 #[176, 249, 274, 299, 324, 392, 429, 454, 479, 504, 541, 566, 615, 640, 665, 678, 747, 760, 797, 846, 883, 908, 945, 970, 1007, 1032, 1097, 1134, 1159, 1172, 1209, 1246, 1319, 1368, 1405, 1442, 1467, 1492, 1505, 1518] 176 908 948 (by decide +kernel) (by omega) (by omega) (by rw [zt]; decide) rfl ?_
                                                refine zAload_n 1 1 949 (by decide +kernel) rfl rfl ?_
                                                refine zAload_n 0 0 950 (by decide +kernel) rfl rfl ?_
                                                refine zIload 4 4 952 (by decide +kernel) rfl rfl ?_
                                                refine zIconst 1 1 953 (by decide +kernel) rfl (by decide) ?_
                                                refine zIadd 954 (by decide +kernel) rfl ?_
                                                obtain ⟨w315, F⟩ := F
                                                refine zSaload 955 (by decide +kernel) rfl (w315) ?_
                                                refine zAload_n 0 0 956 (by decide +kernel) rfl rfl ?_
                                                refine zIload 4 4 958 (by decide +kernel) rfl rfl ?_
                                                refine zIconst 2 2 959 (by decide +kernel) rfl (by decide) ?_
                                                refine zIadd 960 (by decide +kernel) rfl ?_
                                                obtain ⟨w316, F⟩ := F
                                                refine zSaload 961 (by decide +kernel) rfl (w316) ?_
                                                refine zCallV 11 zcls11 mX11_least 116 2 0 0 _ _ 964 [.int (G.2.2.2.2.2.2.2 (l4 + 1 : Int32).toNatClampNeg), .int (G.2.2.2.2.2.2.2 (l4 + 2 : Int32).toNatClampNeg)] [] okX11_least mlL_116 imX11_least seX11_least (by decide +kernel) rfl rfl (Nat.le_of_ble_eq_true rfl) rfl rfl (X_0 S0_) (zC.mono F ?_)
                                                rintro _ _ ⟨x317, I318, rfl, rfl, F⟩
                                                change zV G (d + 1) mL_law (kc + 4) (ks + 300) 964 [(0, .ref (G.2.2.2.2.2.1 3)), (1, .ref (x)), (2, .ref (m)), (3, .ref (o)), (4, .int (l4))] [.int (x317)] (I318, J, R, K, n) Q
                                                refine zAload_n 2 2 965 (by decide +kernel) rfl rfl ?_
                                                refine zAload_n 0 0 966 (by decide +kernel) rfl rfl ?_
                                                refine zIload 4 4 968 (by decide +kernel) rfl rfl ?_
                                                refine zIconst 1 1 969 (by decide +kernel) rfl (by decide) ?_
                                                refine zIadd 970 (by decide +kernel) rfl ?_
                                                obtain ⟨w319, F⟩ := F
                                                refine zSaload 971 (by decide +kernel) rfl (w319) ?_
                                                refine zAload_n 0 0 972 (by decide +kernel) rfl rfl ?_
                                                refine zIload 4 4 974 (by decide +kernel) rfl rfl ?_
                                                refine zIconst 2 2 975 (by decide +kernel) rfl (by decide) ?_
                                                refine zIadd 976 (by decide +kernel) rfl ?_
                                                obtain ⟨w320, F⟩ := F
                                                refine zSaload 977 (by decide +kernel) rfl (w320) ?_
                                                refine zCallV 12 zcls12 mX12_least 119 2 0 0 _ _ 980 [.int (G.2.2.2.2.2.2.2 (l4 + 1 : Int32).toNatClampNeg), .int (G.2.2.2.2.2.2.2 (l4 + 2 : Int32).toNatClampNeg)] [.int (x317)] okX12_least mlL_119 imX12_least seX12_least (by decide +kernel) rfl rfl (Nat.le_of_ble_eq_true rfl) rfl rfl (Mod_0 S1_) (zC.mono F ?_)
                                                rintro _ _ ⟨x321, I322, J323, R324, rfl, rfl, F⟩
                                                change zV G (d + 1) mL_law (kc + 4) (ks + 300) 980 [(0, .ref (G.2.2.2.2.2.1 3)), (1, .ref (x)), (2, .ref (m)), (3, .ref (o)), (4, .int (l4))] [.int (x321), .int (x317)] (I322, J323, R324, K, n) Q
                                                obtain ⟨u325, u326, u327, S328, F⟩ := F
                                                obtain ⟨u329, u330, S331, F⟩ := F
                                                obtain ⟨S332, F⟩ := F
                                                refine zIcmp_eq 603 1583 983 (by decide +kernel) rfl rfl ⟨fun q333 => ?_, fun q333 => ?_⟩
                                                · replace F := F.1 q333
                                                  refine zIinc 4 6 4 (l4 + 6) [(4, .int (l4 + 6)), (0, .ref (G.2.2.2.2.2.1 3)), (1, .ref (x)), (2, .ref (m)), (3, .ref (o))] 1586 (by decide +kernel) rfl rfl (by rfl) (by decide) rfl ?_
                                                  refine zGoto (-1563) 23 (by decide +kernel) rfl ?_
                                                  exact zLoc [1, 2, 3, 4, 0] _ rfl F
                                                · replace F := F.2 q333
                                                  refine zIconst 0 0 984 (by decide +kernel) rfl (by decide) ?_
                                                  exact zZret .boolean rfl (zNarZ (Or.inl rfl)) (by decide +kernel) F
                                              · skip
                                                by_cases q334 : ((G.2.2.2.2.2.2.2 l4.toNatClampNeg) &&& 63) = 22
                                                · replace F := F.2.2.2.2.2.2.2.2.2.2.2.2.2.2.2.2.2.2.2.2.2.2.1 q334
                                                  have zt := zEqT q334 (show (22 : Int32).toInt = 22 by decide)
                                                  refine zTableIn 1543 0 39 #[176, 249, 274, 299, 324, 392, 429, 454, 479, 504, 541, 566, 615, 640, 665, 678, 747, 760, 797, 846, 883, 908, 945, 970, 1007, 1032, 1097, 1134, 1159, 1172, 1209, 1246, 1319, 1368, 1405, 1442, 1467, 1492, 1505, 1518] 176 945 985 (by decide +kernel) (by omega) (by omega) (by rw [zt]; decide) rfl ?_
                                                  refine zAload_n 1 1 986 (by decide +kernel) rfl rfl ?_
                                                  refine zAload_n 0 0 987 (by decide +kernel) rfl rfl ?_
                                                  refine zIload 4 4 989 (by decide +kernel) rfl rfl ?_
                                                  refine zIconst 1 1 990 (by decide +kernel) rfl (by decide) ?_
                                                  refine zIadd 991 (by decide +kernel) rfl ?_
                                                  obtain ⟨w335, F⟩ := F
                                                  refine zSaload 992 (by decide +kernel) rfl (w335) ?_
                                                  refine zCallV 11 zcls11 mX11_every 120 1 0 0 _ _ 995 [.int (G.2.2.2.2.2.2.2 (l4 + 1 : Int32).toNatClampNeg)] [] okX11_every mlL_120 imX11_every seX11_every (by decide +kernel) rfl rfl (Nat.le_of_ble_eq_true rfl) rfl rfl (X_0 S0_) (zC.mono F ?_)
                                                  rintro _ _ ⟨x336, I337, rfl, rfl, F⟩
                                                  change zV G (d + 1) mL_law (kc + 4) (ks + 300) 995 [(0, .ref (G.2.2.2.2.2.1 3)), (1, .ref (x)), (2, .ref (m)), (3, .ref (o)), (4, .int (l4))] [.int (x336)] (I337, J, R, K, n) Q
                                                  refine zAload_n 2 2 996 (by decide +kernel) rfl rfl ?_
                                                  refine zAload_n 0 0 997 (by decide +kernel) rfl rfl ?_
                                                  refine zIload 4 4 999 (by decide +kernel) rfl rfl ?_
                                                  refine zIconst 1 1 1000 (by decide +kernel) rfl (by decide) ?_
                                                  refine zIadd 1001 (by decide +kernel) rfl ?_
                                                  obtain ⟨w338, F⟩ := F
                                                  refine zSaload 1002 (by decide +kernel) rfl (w338) ?_
                                                  refine zCallV 12 zcls12 mX12_every 123 1 0 0 _ _ 1005 [.int (G.2.2.2.2.2.2.2 (l4 + 1 : Int32).toNatClampNeg)] [.int (x336)] okX12_every mlL_123 imX12_every seX12_every (by decide +kernel) rfl rfl (Nat.le_of_ble_eq_true rfl) rfl rfl (Mod_0 S1_) (zC.mono F ?_)
                                                  rintro _ _ ⟨x339, I340, J341, R342, rfl, rfl, F⟩
                                                  change zV G (d + 1) mL_law (kc + 4) (ks + 300) 1005 [(0, .ref (G.2.2.2.2.2.1 3)), (1, .ref (x)), (2, .ref (m)), (3, .ref (o)), (4, .int (l4))] [.int (x339), .int (x336)] (I340, J341, R342, K, n) Q
                                                  obtain ⟨u343, u344, u345, S346, F⟩ := F
                                                  obtain ⟨u347, u348, S349, F⟩ := F
                                                  obtain ⟨S350, F⟩ := F
                                                  refine zIcmp_eq 578 1583 1008 (by decide +kernel) rfl rfl ⟨fun q351 => ?_, fun q351 => ?_⟩
                                                  · replace F := F.1 q351
                                                    refine zIinc 4 6 4 (l4 + 6) [(4, .int (l4 + 6)), (0, .ref (G.2.2.2.2.2.1 3)), (1, .ref (x)), (2, .ref (m)), (3, .ref (o))] 1586 (by decide +kernel) rfl rfl (by rfl) (by decide) rfl ?_
                                                    refine zGoto (-1563) 23 (by decide +kernel) rfl ?_
                                                    exact zLoc [1, 2, 3, 4, 0] _ rfl F
                                                  · replace F := F.2 q351
                                                    refine zIconst 0 0 1009 (by decide +kernel) rfl (by decide) ?_
                                                    exact zZret .boolean rfl (zNarZ (Or.inl rfl)) (by decide +kernel) F
                                                · skip
                                                  by_cases q352 : ((G.2.2.2.2.2.2.2 l4.toNatClampNeg) &&& 63) = 23
                                                  · replace F := F.2.2.2.2.2.2.2.2.2.2.2.2.2.2.2.2.2.2.2.2.2.2.2.1 q352
                                                    have zt := zEqT q352 (show (23 : Int32).toInt = 23 by decide)
                                                    refine zTableIn 1543 0 39 #[176, 249, 274, 299, 324, 392, 429, 454, 479, 504, 541, 566, 615, 640, 665, 678, 747, 760, 797, 846, 883, 908, 945, 970, 1007, 1032, 1097, 1134, 1159, 1172, 1209, 1246, 1319, 1368, 1405, 1442, 1467, 1492, 1505, 1518] 176 970 1010 (by decide +kernel) (by omega) (by omega) (by rw [zt]; decide) rfl ?_
                                                    refine zAload_n 1 1 1011 (by decide +kernel) rfl rfl ?_
                                                    refine zAload_n 0 0 1012 (by decide +kernel) rfl rfl ?_
                                                    refine zIload 4 4 1014 (by decide +kernel) rfl rfl ?_
                                                    refine zIconst 1 1 1015 (by decide +kernel) rfl (by decide) ?_
                                                    refine zIadd 1016 (by decide +kernel) rfl ?_
                                                    obtain ⟨w353, F⟩ := F
                                                    refine zSaload 1017 (by decide +kernel) rfl (w353) ?_
                                                    refine zAload_n 0 0 1018 (by decide +kernel) rfl rfl ?_
                                                    refine zIload 4 4 1020 (by decide +kernel) rfl rfl ?_
                                                    refine zIconst 2 2 1021 (by decide +kernel) rfl (by decide) ?_
                                                    refine zIadd 1022 (by decide +kernel) rfl ?_
                                                    obtain ⟨w354, F⟩ := F
                                                    refine zSaload 1023 (by decide +kernel) rfl (w354) ?_
                                                    refine zCallV 11 zcls11 mX11_richest 124 2 0 0 _ _ 1026 [.int (G.2.2.2.2.2.2.2 (l4 + 1 : Int32).toNatClampNeg), .int (G.2.2.2.2.2.2.2 (l4 + 2 : Int32).toNatClampNeg)] [] okX11_richest mlL_124 imX11_richest seX11_richest (by decide +kernel) rfl rfl (Nat.le_of_ble_eq_true rfl) rfl rfl (X_0 S0_) (zC.mono F ?_)
                                                    rintro _ _ ⟨x355, I356, rfl, rfl, F⟩
                                                    change zV G (d + 1) mL_law (kc + 4) (ks + 300) 1026 [(0, .ref (G.2.2.2.2.2.1 3)), (1, .ref (x)), (2, .ref (m)), (3, .ref (o)), (4, .int (l4))] [.int (x355)] (I356, J, R, K, n) Q
                                                    refine zAload_n 2 2 1027 (by decide +kernel) rfl rfl ?_
                                                    refine zAload_n 0 0 1028 (by decide +kernel) rfl rfl ?_
                                                    refine zIload 4 4 1030 (by decide +kernel) rfl rfl ?_
                                                    refine zIconst 1 1 1031 (by decide +kernel) rfl (by decide) ?_
                                                    refine zIadd 1032 (by decide +kernel) rfl ?_
                                                    obtain ⟨w357, F⟩ := F
                                                    refine zSaload 1033 (by decide +kernel) rfl (w357) ?_
                                                    refine zAload_n 0 0 1034 (by decide +kernel) rfl rfl ?_
                                                    refine zIload 4 4 1036 (by decide +kernel) rfl rfl ?_
                                                    refine zIconst 2 2 1037 (by decide +kernel) rfl (by decide) ?_
                                                    refine zIadd 1038 (by decide +kernel) rfl ?_
                                                    obtain ⟨w358, F⟩ := F
                                                    refine zSaload 1039 (by decide +kernel) rfl (w358) ?_
                                                    refine zCallV 12 zcls12 mX12_richest 127 2 0 0 _ _ 1042 [.int (G.2.2.2.2.2.2.2 (l4 + 1 : Int32).toNatClampNeg), .int (G.2.2.2.2.2.2.2 (l4 + 2 : Int32).toNatClampNeg)] [.int (x355)] okX12_richest mlL_127 imX12_richest seX12_richest (by decide +kernel) rfl rfl (Nat.le_of_ble_eq_true rfl) rfl rfl (Mod_0 S1_) (zC.mono F ?_)
                                                    rintro _ _ ⟨x359, I360, J361, R362, rfl, rfl, F⟩
                                                    change zV G (d + 1) mL_law (kc + 4) (ks + 300) 1042 [(0, .ref (G.2.2.2.2.2.1 3)), (1, .ref (x)), (2, .ref (m)), (3, .ref (o)), (4, .int (l4))] [.int (x359), .int (x355)] (I360, J361, R362, K, n) Q
                                                    obtain ⟨u363, u364, u365, S366, F⟩ := F
                                                    obtain ⟨u367, u368, S369, F⟩ := F
                                                    obtain ⟨S370, F⟩ := F
                                                    refine zIcmp_eq 541 1583 1045 (by decide +kernel) rfl rfl ⟨fun q371 => ?_, fun q371 => ?_⟩
                                                    · replace F := F.1 q371
                                                      refine zIinc 4 6 4 (l4 + 6) [(4, .int (l4 + 6)), (0, .ref (G.2.2.2.2.2.1 3)), (1, .ref (x)), (2, .ref (m)), (3, .ref (o))] 1586 (by decide +kernel) rfl rfl (by rfl) (by decide) rfl ?_
                                                      refine zGoto (-1563) 23 (by decide +kernel) rfl ?_
                                                      exact zLoc [1, 2, 3, 4, 0] _ rfl F
                                                    · replace F := F.2 q371
                                                      refine zIconst 0 0 1046 (by decide +kernel) rfl (by decide) ?_
                                                      exact zZret .boolean rfl (zNarZ (Or.inl rfl)) (by decide +kernel) F
                                                  · skip
                                                    by_cases q372 : ((G.2.2.2.2.2.2.2 l4.toNatClampNeg) &&& 63) = 24
                                                    · replace F := F.2.2.2.2.2.2.2.2.2.2.2.2.2.2.2.2.2.2.2.2.2.2.2.2.1 q372
                                                      have zt := zEqT q372 (show (24 : Int32).toInt = 24 by decide)
                                                      refine zTableIn 1543 0 39 #[176, 249, 274, 299, 324, 392, 429, 454, 479, 504, 541, 566, 615, 640, 665, 678, 747, 760, 797, 846, 883, 908, 945, 970, 1007, 1032, 1097, 1134, 1159, 1172, 1209, 1246, 1319, 1368, 1405, 1442, 1467, 1492, 1505, 1518] 176 1007 1047 (by decide +kernel) (by omega) (by omega) (by rw [zt]; decide) rfl ?_
                                                      refine zAload_n 1 1 1048 (by decide +kernel) rfl rfl ?_
                                                      refine zAload_n 0 0 1049 (by decide +kernel) rfl rfl ?_
                                                      refine zIload 4 4 1051 (by decide +kernel) rfl rfl ?_
                                                      refine zIconst 1 1 1052 (by decide +kernel) rfl (by decide) ?_
                                                      refine zIadd 1053 (by decide +kernel) rfl ?_
                                                      obtain ⟨w373, F⟩ := F
                                                      refine zSaload 1054 (by decide +kernel) rfl (w373) ?_
                                                      refine zCallV 11 zcls11 mX11_pairs 128 1 0 0 _ _ 1057 [.int (G.2.2.2.2.2.2.2 (l4 + 1 : Int32).toNatClampNeg)] [] okX11_pairs mlL_128 imX11_pairs seX11_pairs (by decide +kernel) rfl rfl (Nat.le_of_ble_eq_true rfl) rfl rfl (X_0 S0_) (zC.mono F ?_)
                                                      rintro _ _ ⟨x374, I375, rfl, rfl, F⟩
                                                      change zV G (d + 1) mL_law (kc + 4) (ks + 300) 1057 [(0, .ref (G.2.2.2.2.2.1 3)), (1, .ref (x)), (2, .ref (m)), (3, .ref (o)), (4, .int (l4))] [.int (x374)] (I375, J, R, K, n) Q
                                                      refine zAload_n 2 2 1058 (by decide +kernel) rfl rfl ?_
                                                      refine zAload_n 0 0 1059 (by decide +kernel) rfl rfl ?_
                                                      refine zIload 4 4 1061 (by decide +kernel) rfl rfl ?_
                                                      refine zIconst 1 1 1062 (by decide +kernel) rfl (by decide) ?_
                                                      refine zIadd 1063 (by decide +kernel) rfl ?_
                                                      obtain ⟨w376, F⟩ := F
                                                      refine zSaload 1064 (by decide +kernel) rfl (w376) ?_
                                                      refine zCallV 12 zcls12 mX12_pairs 131 1 0 0 _ _ 1067 [.int (G.2.2.2.2.2.2.2 (l4 + 1 : Int32).toNatClampNeg)] [.int (x374)] okX12_pairs mlL_131 imX12_pairs seX12_pairs (by decide +kernel) rfl rfl (Nat.le_of_ble_eq_true rfl) rfl rfl (Mod_0 S1_) (zC.mono F ?_)
                                                      rintro _ _ ⟨x377, I378, J379, R380, rfl, rfl, F⟩
                                                      change zV G (d + 1) mL_law (kc + 4) (ks + 300) 1067 [(0, .ref (G.2.2.2.2.2.1 3)), (1, .ref (x)), (2, .ref (m)), (3, .ref (o)), (4, .int (l4))] [.int (x377), .int (x374)] (I378, J379, R380, K, n) Q
                                                      obtain ⟨u381, u382, u383, S384, F⟩ := F
                                                      obtain ⟨u385, u386, S387, F⟩ := F
                                                      obtain ⟨S388, F⟩ := F
                                                      refine zIcmp_eq 516 1583 1070 (by decide +kernel) rfl rfl ⟨fun q389 => ?_, fun q389 => ?_⟩
                                                      · replace F := F.1 q389
                                                        refine zIinc 4 6 4 (l4 + 6) [(4, .int (l4 + 6)), (0, .ref (G.2.2.2.2.2.1 3)), (1, .ref (x)), (2, .ref (m)), (3, .ref (o))] 1586 (by decide +kernel) rfl rfl (by rfl) (by decide) rfl ?_
                                                        refine zGoto (-1563) 23 (by decide +kernel) rfl ?_
                                                        exact zLoc [1, 2, 3, 4, 0] _ rfl F
                                                      · replace F := F.2 q389
                                                        refine zIconst 0 0 1071 (by decide +kernel) rfl (by decide) ?_
                                                        exact zZret .boolean rfl (zNarZ (Or.inl rfl)) (by decide +kernel) F
                                                    · skip
                                                      by_cases q390 : ((G.2.2.2.2.2.2.2 l4.toNatClampNeg) &&& 63) = 25
                                                      · replace F := F.2.2.2.2.2.2.2.2.2.2.2.2.2.2.2.2.2.2.2.2.2.2.2.2.2.1 q390
                                                        have zt := zEqT q390 (show (25 : Int32).toInt = 25 by decide)
                                                        refine zTableIn 1543 0 39 #[176, 249, 274, 299, 324, 392, 429, 454, 479, 504, 541, 566, 615, 640, 665, 678, 747, 760, 797, 846, 883, 908, 945, 970, 1007, 1032, 1097, 1134, 1159, 1172, 1209, 1246, 1319, 1368, 1405, 1442, 1467, 1492, 1505, 1518] 176 1032 1072 (by decide +kernel) (by omega) (by omega) (by rw [zt]; decide) rfl ?_
                                                        refine zAload_n 1 1 1073 (by decide +kernel) rfl rfl ?_
                                                        refine zAload_n 0 0 1074 (by decide +kernel) rfl rfl ?_
                                                        refine zIload 4 4 1076 (by decide +kernel) rfl rfl ?_
                                                        refine zIconst 1 1 1077 (by decide +kernel) rfl (by decide) ?_
                                                        refine zIadd 1078 (by decide +kernel) rfl ?_
                                                        obtain ⟨w391, F⟩ := F
                                                        refine zSaload 1079 (by decide +kernel) rfl (w391) ?_
                                                        refine zAload_n 0 0 1080 (by decide +kernel) rfl rfl ?_
                                                        refine zIload 4 4 1082 (by decide +kernel) rfl rfl ?_
                                                        refine zIconst 2 2 1083 (by decide +kernel) rfl (by decide) ?_
                                                        refine zIadd 1084 (by decide +kernel) rfl ?_
                                                        obtain ⟨w392, F⟩ := F
                                                        refine zSaload 1085 (by decide +kernel) rfl (w392) ?_
                                                        refine zAload_n 0 0 1086 (by decide +kernel) rfl rfl ?_
                                                        refine zIload 4 4 1088 (by decide +kernel) rfl rfl ?_
                                                        refine zIconst 3 3 1089 (by decide +kernel) rfl (by decide) ?_
                                                        refine zIadd 1090 (by decide +kernel) rfl ?_
                                                        obtain ⟨w393, F⟩ := F
                                                        refine zSaload 1091 (by decide +kernel) rfl (w393) ?_
                                                        suffices KK : zV G (d + 1) mL_law (kc + 4) (ks + 300) 1099 [(0, .ref (G.2.2.2.2.2.1 3)), (1, .ref (x)), (2, .ref (m)), (3, .ref (o)), (4, .int (l4))] [.int ((if (G.2.2.2.2.2.2.2 (l4 + 3 : Int32).toNatClampNeg : Int32) = 0 then 0 else 1)), .int (G.2.2.2.2.2.2.2 (l4 + 2 : Int32).toNatClampNeg), .int (G.2.2.2.2.2.2.2 (l4 + 1 : Int32).toNatClampNeg), .ref (x)] (I, J, R, K, n) Q by
                                                          refine zIf_eq 7 1098 1094 (by decide +kernel) rfl rfl ⟨fun q394 => ?_, fun q394 => ?_⟩
                                                          · refine zIconst 0 0 1099 (by decide +kernel) rfl (by decide) ?_
                                                            exact zTop (by rw [if_pos q394]) KK
                                                          · refine zIconst 1 1 1095 (by decide +kernel) rfl (by decide) ?_
                                                            refine zGoto 4 1099 (by decide +kernel) rfl ?_
                                                            exact zTop (by rw [if_neg q394]) KK
                                                        refine zCallV 11 zcls11 mX11_seen 132 3 0 0 _ _ 1102 [.int (G.2.2.2.2.2.2.2 (l4 + 1 : Int32).toNatClampNeg), .int (G.2.2.2.2.2.2.2 (l4 + 2 : Int32).toNatClampNeg), .int ((if (G.2.2.2.2.2.2.2 (l4 + 3 : Int32).toNatClampNeg : Int32) = 0 then 0 else 1))] [] okX11_seen mlL_132 imX11_seen seX11_seen (by decide +kernel) rfl rfl (Nat.le_of_ble_eq_true rfl) rfl rfl (X_0 S0_) (zC.mono F ?_)
                                                        rintro _ _ ⟨x395, I396, rfl, rfl, F⟩
                                                        change zV G (d + 1) mL_law (kc + 4) (ks + 300) 1102 [(0, .ref (G.2.2.2.2.2.1 3)), (1, .ref (x)), (2, .ref (m)), (3, .ref (o)), (4, .int (l4))] [.int (x395)] (I396, J, R, K, n) Q
                                                        refine zAload_n 2 2 1103 (by decide +kernel) rfl rfl ?_
                                                        refine zAload_n 0 0 1104 (by decide +kernel) rfl rfl ?_
                                                        refine zIload 4 4 1106 (by decide +kernel) rfl rfl ?_
                                                        refine zIconst 1 1 1107 (by decide +kernel) rfl (by decide) ?_
                                                        refine zIadd 1108 (by decide +kernel) rfl ?_
                                                        obtain ⟨w397, F⟩ := F
                                                        refine zSaload 1109 (by decide +kernel) rfl (w397) ?_
                                                        refine zAload_n 0 0 1110 (by decide +kernel) rfl rfl ?_
                                                        refine zIload 4 4 1112 (by decide +kernel) rfl rfl ?_
                                                        refine zIconst 2 2 1113 (by decide +kernel) rfl (by decide) ?_
                                                        refine zIadd 1114 (by decide +kernel) rfl ?_
                                                        obtain ⟨w398, F⟩ := F
                                                        refine zSaload 1115 (by decide +kernel) rfl (w398) ?_
                                                        refine zAload_n 0 0 1116 (by decide +kernel) rfl rfl ?_
                                                        refine zIload 4 4 1118 (by decide +kernel) rfl rfl ?_
                                                        refine zIconst 3 3 1119 (by decide +kernel) rfl (by decide) ?_
                                                        refine zIadd 1120 (by decide +kernel) rfl ?_
                                                        obtain ⟨w399, F⟩ := F
                                                        refine zSaload 1121 (by decide +kernel) rfl (w399) ?_
                                                        suffices KK : zV G (d + 1) mL_law (kc + 4) (ks + 300) 1129 [(0, .ref (G.2.2.2.2.2.1 3)), (1, .ref (x)), (2, .ref (m)), (3, .ref (o)), (4, .int (l4))] [.int ((if (G.2.2.2.2.2.2.2 (l4 + 3 : Int32).toNatClampNeg : Int32) = 0 then 0 else 1)), .int (G.2.2.2.2.2.2.2 (l4 + 2 : Int32).toNatClampNeg), .int (G.2.2.2.2.2.2.2 (l4 + 1 : Int32).toNatClampNeg), .ref (m), .int (x395)] (I396, J, R, K, n) Q by
                                                          refine zIf_eq 7 1128 1124 (by decide +kernel) rfl rfl ⟨fun q400 => ?_, fun q400 => ?_⟩
                                                          · refine zIconst 0 0 1129 (by decide +kernel) rfl (by decide) ?_
                                                            exact zTop (by rw [if_pos q400]) KK
                                                          · refine zIconst 1 1 1125 (by decide +kernel) rfl (by decide) ?_
                                                            refine zGoto 4 1129 (by decide +kernel) rfl ?_
                                                            exact zTop (by rw [if_neg q400]) KK
                                                        refine zCallV 12 zcls12 mX12_seen 136 3 0 0 _ _ 1132 [.int (G.2.2.2.2.2.2.2 (l4 + 1 : Int32).toNatClampNeg), .int (G.2.2.2.2.2.2.2 (l4 + 2 : Int32).toNatClampNeg), .int ((if (G.2.2.2.2.2.2.2 (l4 + 3 : Int32).toNatClampNeg : Int32) = 0 then 0 else 1))] [.int (x395)] okX12_seen mlL_136 imX12_seen seX12_seen (by decide +kernel) rfl rfl (Nat.le_of_ble_eq_true rfl) rfl rfl (Mod_0 S1_) (zC.mono F ?_)
                                                        rintro _ _ ⟨x401, I402, rfl, rfl, F⟩
                                                        change zV G (d + 1) mL_law (kc + 4) (ks + 300) 1132 [(0, .ref (G.2.2.2.2.2.1 3)), (1, .ref (x)), (2, .ref (m)), (3, .ref (o)), (4, .int (l4))] [.int (x401), .int (x395)] (I402, J, R, K, n) Q
                                                        refine zIcmp_eq 451 1583 1135 (by decide +kernel) rfl rfl ⟨fun q403 => ?_, fun q403 => ?_⟩
                                                        · replace F := F.1 q403
                                                          refine zIinc 4 6 4 (l4 + 6) [(4, .int (l4 + 6)), (0, .ref (G.2.2.2.2.2.1 3)), (1, .ref (x)), (2, .ref (m)), (3, .ref (o))] 1586 (by decide +kernel) rfl rfl (by rfl) (by decide) rfl ?_
                                                          refine zGoto (-1563) 23 (by decide +kernel) rfl ?_
                                                          exact zLoc [1, 2, 3, 4, 0] _ rfl F
                                                        · replace F := F.2 q403
                                                          refine zIconst 0 0 1136 (by decide +kernel) rfl (by decide) ?_
                                                          exact zZret .boolean rfl (zNarZ (Or.inl rfl)) (by decide +kernel) F
                                                      · skip
                                                        by_cases q404 : ((G.2.2.2.2.2.2.2 l4.toNatClampNeg) &&& 63) = 26
                                                        · replace F := F.2.2.2.2.2.2.2.2.2.2.2.2.2.2.2.2.2.2.2.2.2.2.2.2.2.2.1 q404
                                                          have zt := zEqT q404 (show (26 : Int32).toInt = 26 by decide)
                                                          refine zTableIn 1543 0 39 #[176, 249, 274, 299, 324, 392, 429, 454, 479, 504, 541, 566, 615, 640, 665, 678, 747, 760, 797, 846, 883, 908, 945, 970, 1007, 1032, 1097, 1134, 1159, 1172, 1209, 1246, 1319, 1368, 1405, 1442, 1467, 1492, 1505, 1518] 176 1097 1137 (by decide +kernel) (by omega) (by omega) (by rw [zt]; decide) rfl ?_
                                                          refine zAload_n 1 1 1138 (by decide +kernel) rfl rfl ?_
                                                          refine zAload_n 0 0 1139 (by decide +kernel) rfl rfl ?_
                                                          refine zIload 4 4 1141 (by decide +kernel) rfl rfl ?_
                                                          refine zIconst 1 1 1142 (by decide +kernel) rfl (by decide) ?_
                                                          refine zIadd 1143 (by decide +kernel) rfl ?_
                                                          obtain ⟨w405, F⟩ := F
                                                          refine zSaload 1144 (by decide +kernel) rfl (w405) ?_
                                                          refine zAload_n 0 0 1145 (by decide +kernel) rfl rfl ?_
                                                          refine zIload 4 4 1147 (by decide +kernel) rfl rfl ?_
                                                          refine zIconst 2 2 1148 (by decide +kernel) rfl (by decide) ?_
                                                          refine zIadd 1149 (by decide +kernel) rfl ?_
                                                          obtain ⟨w406, F⟩ := F
                                                          refine zSaload 1150 (by decide +kernel) rfl (w406) ?_
                                                          refine zCallV 11 zcls11 mX11_weights 137 2 0 0 _ _ 1153 [.int (G.2.2.2.2.2.2.2 (l4 + 1 : Int32).toNatClampNeg), .int (G.2.2.2.2.2.2.2 (l4 + 2 : Int32).toNatClampNeg)] [] okX11_weights mlL_137 imX11_weights seX11_weights (by decide +kernel) rfl rfl (Nat.le_of_ble_eq_true rfl) rfl rfl (X_0 S0_) (zC.mono F ?_)
                                                          rintro _ _ ⟨x407, I408, rfl, rfl, F⟩
                                                          change zV G (d + 1) mL_law (kc + 4) (ks + 300) 1153 [(0, .ref (G.2.2.2.2.2.1 3)), (1, .ref (x)), (2, .ref (m)), (3, .ref (o)), (4, .int (l4))] [.int (x407)] (I408, J, R, K, n) Q
                                                          refine zAload_n 2 2 1154 (by decide +kernel) rfl rfl ?_
                                                          refine zAload_n 0 0 1155 (by decide +kernel) rfl rfl ?_
                                                          refine zIload 4 4 1157 (by decide +kernel) rfl rfl ?_
                                                          refine zIconst 1 1 1158 (by decide +kernel) rfl (by decide) ?_
                                                          refine zIadd 1159 (by decide +kernel) rfl ?_
                                                          obtain ⟨w409, F⟩ := F
                                                          refine zSaload 1160 (by decide +kernel) rfl (w409) ?_
                                                          refine zAload_n 0 0 1161 (by decide +kernel) rfl rfl ?_
                                                          refine zIload 4 4 1163 (by decide +kernel) rfl rfl ?_
                                                          refine zIconst 2 2 1164 (by decide +kernel) rfl (by decide) ?_
                                                          refine zIadd 1165 (by decide +kernel) rfl ?_
                                                          obtain ⟨w410, F⟩ := F
                                                          refine zSaload 1166 (by decide +kernel) rfl (w410) ?_
                                                          refine zCallV 12 zcls12 mX12_weights 140 2 0 0 _ _ 1169 [.int (G.2.2.2.2.2.2.2 (l4 + 1 : Int32).toNatClampNeg), .int (G.2.2.2.2.2.2.2 (l4 + 2 : Int32).toNatClampNeg)] [.int (x407)] okX12_weights mlL_140 imX12_weights seX12_weights (by decide +kernel) rfl rfl (Nat.le_of_ble_eq_true rfl) rfl rfl (Mod_0 S1_) (zC.mono F ?_)
                                                          rintro _ _ ⟨x411, I412, J413, R414, rfl, rfl, F⟩
                                                          change zV G (d + 1) mL_law (kc + 4) (ks + 300) 1169 [(0, .ref (G.2.2.2.2.2.1 3)), (1, .ref (x)), (2, .ref (m)), (3, .ref (o)), (4, .int (l4))] [.int (x411), .int (x407)] (I412, J413, R414, K, n) Q
                                                          obtain ⟨u415, u416, u417, S418, F⟩ := F
                                                          obtain ⟨u419, u420, S421, F⟩ := F
                                                          obtain ⟨S422, F⟩ := F
                                                          refine zIcmp_eq 414 1583 1172 (by decide +kernel) rfl rfl ⟨fun q423 => ?_, fun q423 => ?_⟩
                                                          · replace F := F.1 q423
                                                            refine zIinc 4 6 4 (l4 + 6) [(4, .int (l4 + 6)), (0, .ref (G.2.2.2.2.2.1 3)), (1, .ref (x)), (2, .ref (m)), (3, .ref (o))] 1586 (by decide +kernel) rfl rfl (by rfl) (by decide) rfl ?_
                                                            refine zGoto (-1563) 23 (by decide +kernel) rfl ?_
                                                            exact zLoc [1, 2, 3, 4, 0] _ rfl F
                                                          · replace F := F.2 q423
                                                            refine zIconst 0 0 1173 (by decide +kernel) rfl (by decide) ?_
                                                            exact zZret .boolean rfl (zNarZ (Or.inl rfl)) (by decide +kernel) F
                                                        · skip
                                                          by_cases q424 : ((G.2.2.2.2.2.2.2 l4.toNatClampNeg) &&& 63) = 27
                                                          · replace F := F.2.2.2.2.2.2.2.2.2.2.2.2.2.2.2.2.2.2.2.2.2.2.2.2.2.2.2.1 q424
                                                            have zt := zEqT q424 (show (27 : Int32).toInt = 27 by decide)
                                                            refine zTableIn 1543 0 39 #[176, 249, 274, 299, 324, 392, 429, 454, 479, 504, 541, 566, 615, 640, 665, 678, 747, 760, 797, 846, 883, 908, 945, 970, 1007, 1032, 1097, 1134, 1159, 1172, 1209, 1246, 1319, 1368, 1405, 1442, 1467, 1492, 1505, 1518] 176 1134 1174 (by decide +kernel) (by omega) (by omega) (by rw [zt]; decide) rfl ?_
                                                            refine zAload_n 1 1 1175 (by decide +kernel) rfl rfl ?_
                                                            refine zAload_n 0 0 1176 (by decide +kernel) rfl rfl ?_
                                                            refine zIload 4 4 1178 (by decide +kernel) rfl rfl ?_
                                                            refine zIconst 1 1 1179 (by decide +kernel) rfl (by decide) ?_
                                                            refine zIadd 1180 (by decide +kernel) rfl ?_
                                                            obtain ⟨w425, F⟩ := F
                                                            refine zSaload 1181 (by decide +kernel) rfl (w425) ?_
                                                            refine zCallV 11 zcls11 mX11_ask 141 1 0 0 _ _ 1184 [.int (G.2.2.2.2.2.2.2 (l4 + 1 : Int32).toNatClampNeg)] [] okX11_ask mlL_141 imX11_ask seX11_ask (by decide +kernel) rfl rfl (Nat.le_of_ble_eq_true rfl) rfl rfl (X_0 S0_) (zC.mono F ?_)
                                                            rintro _ _ ⟨x426, I427, rfl, rfl, F⟩
                                                            change zV G (d + 1) mL_law (kc + 4) (ks + 300) 1184 [(0, .ref (G.2.2.2.2.2.1 3)), (1, .ref (x)), (2, .ref (m)), (3, .ref (o)), (4, .int (l4))] [.int (x426)] (I427, J, R, K, n) Q
                                                            refine zAload_n 2 2 1185 (by decide +kernel) rfl rfl ?_
                                                            refine zAload_n 0 0 1186 (by decide +kernel) rfl rfl ?_
                                                            refine zIload 4 4 1188 (by decide +kernel) rfl rfl ?_
                                                            refine zIconst 1 1 1189 (by decide +kernel) rfl (by decide) ?_
                                                            refine zIadd 1190 (by decide +kernel) rfl ?_
                                                            obtain ⟨w428, F⟩ := F
                                                            refine zSaload 1191 (by decide +kernel) rfl (w428) ?_
                                                            refine zCallV 12 zcls12 mX12_ask 144 1 0 0 _ _ 1194 [.int (G.2.2.2.2.2.2.2 (l4 + 1 : Int32).toNatClampNeg)] [.int (x426)] okX12_ask mlL_144 imX12_ask seX12_ask (by decide +kernel) rfl rfl (Nat.le_of_ble_eq_true rfl) rfl rfl (Mod_0 S1_) (zC.mono F ?_)
                                                            rintro _ _ ⟨x429, I430, J431, R432, rfl, rfl, F⟩
                                                            change zV G (d + 1) mL_law (kc + 4) (ks + 300) 1194 [(0, .ref (G.2.2.2.2.2.1 3)), (1, .ref (x)), (2, .ref (m)), (3, .ref (o)), (4, .int (l4))] [.int (x429), .int (x426)] (I430, J431, R432, K, n) Q
                                                            obtain ⟨u433, u434, u435, S436, F⟩ := F
                                                            obtain ⟨u437, u438, S439, F⟩ := F
                                                            obtain ⟨S440, F⟩ := F
                                                            refine zIcmp_eq 389 1583 1197 (by decide +kernel) rfl rfl ⟨fun q441 => ?_, fun q441 => ?_⟩
                                                            · replace F := F.1 q441
                                                              refine zIinc 4 6 4 (l4 + 6) [(4, .int (l4 + 6)), (0, .ref (G.2.2.2.2.2.1 3)), (1, .ref (x)), (2, .ref (m)), (3, .ref (o))] 1586 (by decide +kernel) rfl rfl (by rfl) (by decide) rfl ?_
                                                              refine zGoto (-1563) 23 (by decide +kernel) rfl ?_
                                                              exact zLoc [1, 2, 3, 4, 0] _ rfl F
                                                            · replace F := F.2 q441
                                                              refine zIconst 0 0 1198 (by decide +kernel) rfl (by decide) ?_
                                                              exact zZret .boolean rfl (zNarZ (Or.inl rfl)) (by decide +kernel) F
                                                          · skip
                                                            by_cases q442 : ((G.2.2.2.2.2.2.2 l4.toNatClampNeg) &&& 63) = 28
                                                            · replace F := F.2.2.2.2.2.2.2.2.2.2.2.2.2.2.2.2.2.2.2.2.2.2.2.2.2.2.2.2.1 q442
                                                              have zt := zEqT q442 (show (28 : Int32).toInt = 28 by decide)
                                                              refine zTableIn 1543 0 39 #[176, 249, 274, 299, 324, 392, 429, 454, 479, 504, 541, 566, 615, 640, 665, 678, 747, 760, 797, 846, 883, 908, 945, 970, 1007, 1032, 1097, 1134, 1159, 1172, 1209, 1246, 1319, 1368, 1405, 1442, 1467, 1492, 1505, 1518] 176 1159 1199 (by decide +kernel) (by omega) (by omega) (by rw [zt]; decide) rfl ?_
                                                              refine zAload_n 1 1 1200 (by decide +kernel) rfl rfl ?_
                                                              refine zCallV 11 zcls11 mX11_ring 145 0 0 0 _ _ 1203 [] [] okX11_ring mlL_145 imX11_ring seX11_ring (by decide +kernel) rfl rfl (Nat.le_of_ble_eq_true rfl) rfl rfl (X_0 S0_) (zC.mono F ?_)
                                                              rintro _ _ ⟨x443, I444, rfl, rfl, F⟩
                                                              change zV G (d + 1) mL_law (kc + 4) (ks + 300) 1203 [(0, .ref (G.2.2.2.2.2.1 3)), (1, .ref (x)), (2, .ref (m)), (3, .ref (o)), (4, .int (l4))] [.int (x443)] (I444, J, R, K, n) Q
                                                              refine zAload_n 2 2 1204 (by decide +kernel) rfl rfl ?_
                                                              refine zCallV 12 zcls12 mX12_ring 148 0 0 0 _ _ 1207 [] [.int (x443)] okX12_ring mlL_148 imX12_ring seX12_ring (by decide +kernel) rfl rfl (Nat.le_of_ble_eq_true rfl) rfl rfl (Mod_0 S1_) (zC.mono F ?_)
                                                              rintro _ _ ⟨x445, I446, rfl, rfl, F⟩
                                                              change zV G (d + 1) mL_law (kc + 4) (ks + 300) 1207 [(0, .ref (G.2.2.2.2.2.1 3)), (1, .ref (x)), (2, .ref (m)), (3, .ref (o)), (4, .int (l4))] [.int (x445), .int (x443)] (I446, J, R, K, n) Q
                                                              refine zIcmp_eq 376 1583 1210 (by decide +kernel) rfl rfl ⟨fun q447 => ?_, fun q447 => ?_⟩
                                                              · replace F := F.1 q447
                                                                refine zIinc 4 6 4 (l4 + 6) [(4, .int (l4 + 6)), (0, .ref (G.2.2.2.2.2.1 3)), (1, .ref (x)), (2, .ref (m)), (3, .ref (o))] 1586 (by decide +kernel) rfl rfl (by rfl) (by decide) rfl ?_
                                                                refine zGoto (-1563) 23 (by decide +kernel) rfl ?_
                                                                exact zLoc [1, 2, 3, 4, 0] _ rfl F
                                                              · replace F := F.2 q447
                                                                refine zIconst 0 0 1211 (by decide +kernel) rfl (by decide) ?_
                                                                exact zZret .boolean rfl (zNarZ (Or.inl rfl)) (by decide +kernel) F
                                                            · skip
                                                              by_cases q448 : ((G.2.2.2.2.2.2.2 l4.toNatClampNeg) &&& 63) = 29
                                                              · replace F := F.2.2.2.2.2.2.2.2.2.2.2.2.2.2.2.2.2.2.2.2.2.2.2.2.2.2.2.2.2.1 q448
                                                                have zt := zEqT q448 (show (29 : Int32).toInt = 29 by decide)
                                                                refine zTableIn 1543 0 39 #[176, 249, 274, 299, 324, 392, 429, 454, 479, 504, 541, 566, 615, 640, 665, 678, 747, 760, 797, 846, 883, 908, 945, 970, 1007, 1032, 1097, 1134, 1159, 1172, 1209, 1246, 1319, 1368, 1405, 1442, 1467, 1492, 1505, 1518] 176 1172 1212 (by decide +kernel) (by omega) (by omega) (by rw [zt]; decide) rfl ?_
                                                                refine zAload_n 1 1 1213 (by decide +kernel) rfl rfl ?_
                                                                refine zAload_n 0 0 1214 (by decide +kernel) rfl rfl ?_
                                                                refine zIload 4 4 1216 (by decide +kernel) rfl rfl ?_
                                                                refine zIconst 1 1 1217 (by decide +kernel) rfl (by decide) ?_
                                                                refine zIadd 1218 (by decide +kernel) rfl ?_
                                                                obtain ⟨w449, F⟩ := F
                                                                refine zSaload 1219 (by decide +kernel) rfl (w449) ?_
                                                                refine zAload_n 0 0 1220 (by decide +kernel) rfl rfl ?_
                                                                refine zIload 4 4 1222 (by decide +kernel) rfl rfl ?_
                                                                refine zIconst 2 2 1223 (by decide +kernel) rfl (by decide) ?_
                                                                refine zIadd 1224 (by decide +kernel) rfl ?_
                                                                obtain ⟨w450, F⟩ := F
                                                                refine zSaload 1225 (by decide +kernel) rfl (w450) ?_
                                                                refine zCallV 11 zcls11 mX11_chain 149 2 0 0 _ _ 1228 [.int (G.2.2.2.2.2.2.2 (l4 + 1 : Int32).toNatClampNeg), .int (G.2.2.2.2.2.2.2 (l4 + 2 : Int32).toNatClampNeg)] [] okX11_chain mlL_149 imX11_chain seX11_chain (by decide +kernel) rfl rfl (Nat.le_of_ble_eq_true rfl) rfl rfl (X_0 S0_) (zC.mono F ?_)
                                                                rintro _ _ ⟨x451, I452, rfl, rfl, F⟩
                                                                change zV G (d + 1) mL_law (kc + 4) (ks + 300) 1228 [(0, .ref (G.2.2.2.2.2.1 3)), (1, .ref (x)), (2, .ref (m)), (3, .ref (o)), (4, .int (l4))] [.int (x451)] (I452, J, R, K, n) Q
                                                                refine zAload_n 2 2 1229 (by decide +kernel) rfl rfl ?_
                                                                refine zAload_n 0 0 1230 (by decide +kernel) rfl rfl ?_
                                                                refine zIload 4 4 1232 (by decide +kernel) rfl rfl ?_
                                                                refine zIconst 1 1 1233 (by decide +kernel) rfl (by decide) ?_
                                                                refine zIadd 1234 (by decide +kernel) rfl ?_
                                                                obtain ⟨w453, F⟩ := F
                                                                refine zSaload 1235 (by decide +kernel) rfl (w453) ?_
                                                                refine zAload_n 0 0 1236 (by decide +kernel) rfl rfl ?_
                                                                refine zIload 4 4 1238 (by decide +kernel) rfl rfl ?_
                                                                refine zIconst 2 2 1239 (by decide +kernel) rfl (by decide) ?_
                                                                refine zIadd 1240 (by decide +kernel) rfl ?_
                                                                obtain ⟨w454, F⟩ := F
                                                                refine zSaload 1241 (by decide +kernel) rfl (w454) ?_
                                                                refine zCallV 12 zcls12 mX12_chain 152 2 0 0 _ _ 1244 [.int (G.2.2.2.2.2.2.2 (l4 + 1 : Int32).toNatClampNeg), .int (G.2.2.2.2.2.2.2 (l4 + 2 : Int32).toNatClampNeg)] [.int (x451)] okX12_chain mlL_152 imX12_chain seX12_chain (by decide +kernel) rfl rfl (Nat.le_of_ble_eq_true rfl) rfl rfl (Mod_0 S1_) (zC.mono F ?_)
                                                                rintro _ _ ⟨x455, I456, rfl, rfl, F⟩
                                                                change zV G (d + 1) mL_law (kc + 4) (ks + 300) 1244 [(0, .ref (G.2.2.2.2.2.1 3)), (1, .ref (x)), (2, .ref (m)), (3, .ref (o)), (4, .int (l4))] [.int (x455), .int (x451)] (I456, J, R, K, n) Q
                                                                refine zIcmp_eq 339 1583 1247 (by decide +kernel) rfl rfl ⟨fun q457 => ?_, fun q457 => ?_⟩
                                                                · replace F := F.1 q457
                                                                  refine zIinc 4 6 4 (l4 + 6) [(4, .int (l4 + 6)), (0, .ref (G.2.2.2.2.2.1 3)), (1, .ref (x)), (2, .ref (m)), (3, .ref (o))] 1586 (by decide +kernel) rfl rfl (by rfl) (by decide) rfl ?_
                                                                  refine zGoto (-1563) 23 (by decide +kernel) rfl ?_
                                                                  exact zLoc [1, 2, 3, 4, 0] _ rfl F
                                                                · replace F := F.2 q457
                                                                  refine zIconst 0 0 1248 (by decide +kernel) rfl (by decide) ?_
                                                                  exact zZret .boolean rfl (zNarZ (Or.inl rfl)) (by decide +kernel) F
                                                              · skip
                                                                by_cases q458 : ((G.2.2.2.2.2.2.2 l4.toNatClampNeg) &&& 63) = 30
                                                                · replace F := F.2.2.2.2.2.2.2.2.2.2.2.2.2.2.2.2.2.2.2.2.2.2.2.2.2.2.2.2.2.2.1 q458
                                                                  have zt := zEqT q458 (show (30 : Int32).toInt = 30 by decide)
                                                                  refine zTableIn 1543 0 39 #[176, 249, 274, 299, 324, 392, 429, 454, 479, 504, 541, 566, 615, 640, 665, 678, 747, 760, 797, 846, 883, 908, 945, 970, 1007, 1032, 1097, 1134, 1159, 1172, 1209, 1246, 1319, 1368, 1405, 1442, 1467, 1492, 1505, 1518] 176 1209 1249 (by decide +kernel) (by omega) (by omega) (by rw [zt]; decide) rfl ?_
                                                                  refine zAload_n 1 1 1250 (by decide +kernel) rfl rfl ?_
                                                                  refine zAload_n 0 0 1251 (by decide +kernel) rfl rfl ?_
                                                                  refine zIload 4 4 1253 (by decide +kernel) rfl rfl ?_
                                                                  refine zIconst 1 1 1254 (by decide +kernel) rfl (by decide) ?_
                                                                  refine zIadd 1255 (by decide +kernel) rfl ?_
                                                                  obtain ⟨w459, F⟩ := F
                                                                  refine zSaload 1256 (by decide +kernel) rfl (w459) ?_
                                                                  refine zAload_n 0 0 1257 (by decide +kernel) rfl rfl ?_
                                                                  refine zIload 4 4 1259 (by decide +kernel) rfl rfl ?_
                                                                  refine zIconst 2 2 1260 (by decide +kernel) rfl (by decide) ?_
                                                                  refine zIadd 1261 (by decide +kernel) rfl ?_
                                                                  obtain ⟨w460, F⟩ := F
                                                                  refine zSaload 1262 (by decide +kernel) rfl (w460) ?_
                                                                  refine zCallV 11 zcls11 mX11_score 153 2 0 0 _ _ 1265 [.int (G.2.2.2.2.2.2.2 (l4 + 1 : Int32).toNatClampNeg), .int (G.2.2.2.2.2.2.2 (l4 + 2 : Int32).toNatClampNeg)] [] okX11_score mlL_153 imX11_score seX11_score (by decide +kernel) rfl rfl (Nat.le_of_ble_eq_true rfl) rfl rfl (X_0 S0_) (zC.mono F ?_)
                                                                  rintro _ _ ⟨x461, I462, rfl, rfl, F⟩
                                                                  change zV G (d + 1) mL_law (kc + 4) (ks + 300) 1265 [(0, .ref (G.2.2.2.2.2.1 3)), (1, .ref (x)), (2, .ref (m)), (3, .ref (o)), (4, .int (l4))] [.int (x461)] (I462, J, R, K, n) Q
                                                                  refine zAload_n 2 2 1266 (by decide +kernel) rfl rfl ?_
                                                                  refine zAload_n 0 0 1267 (by decide +kernel) rfl rfl ?_
                                                                  refine zIload 4 4 1269 (by decide +kernel) rfl rfl ?_
                                                                  refine zIconst 1 1 1270 (by decide +kernel) rfl (by decide) ?_
                                                                  refine zIadd 1271 (by decide +kernel) rfl ?_
                                                                  obtain ⟨w463, F⟩ := F
                                                                  refine zSaload 1272 (by decide +kernel) rfl (w463) ?_
                                                                  refine zAload_n 0 0 1273 (by decide +kernel) rfl rfl ?_
                                                                  refine zIload 4 4 1275 (by decide +kernel) rfl rfl ?_
                                                                  refine zIconst 2 2 1276 (by decide +kernel) rfl (by decide) ?_
                                                                  refine zIadd 1277 (by decide +kernel) rfl ?_
                                                                  obtain ⟨w464, F⟩ := F
                                                                  refine zSaload 1278 (by decide +kernel) rfl (w464) ?_
                                                                  refine zCallV 12 zcls12 mX12_score 156 2 0 0 _ _ 1281 [.int (G.2.2.2.2.2.2.2 (l4 + 1 : Int32).toNatClampNeg), .int (G.2.2.2.2.2.2.2 (l4 + 2 : Int32).toNatClampNeg)] [.int (x461)] okX12_score mlL_156 imX12_score seX12_score (by decide +kernel) rfl rfl (Nat.le_of_ble_eq_true rfl) rfl rfl (Mod_0 S1_) (zC.mono F ?_)
                                                                  rintro _ _ ⟨x465, I466, rfl, rfl, F⟩
                                                                  change zV G (d + 1) mL_law (kc + 4) (ks + 300) 1281 [(0, .ref (G.2.2.2.2.2.1 3)), (1, .ref (x)), (2, .ref (m)), (3, .ref (o)), (4, .int (l4))] [.int (x465), .int (x461)] (I466, J, R, K, n) Q
                                                                  refine zIcmp_eq 302 1583 1284 (by decide +kernel) rfl rfl ⟨fun q467 => ?_, fun q467 => ?_⟩
                                                                  · replace F := F.1 q467
                                                                    refine zIinc 4 6 4 (l4 + 6) [(4, .int (l4 + 6)), (0, .ref (G.2.2.2.2.2.1 3)), (1, .ref (x)), (2, .ref (m)), (3, .ref (o))] 1586 (by decide +kernel) rfl rfl (by rfl) (by decide) rfl ?_
                                                                    refine zGoto (-1563) 23 (by decide +kernel) rfl ?_
                                                                    exact zLoc [1, 2, 3, 4, 0] _ rfl F
                                                                  · replace F := F.2 q467
                                                                    refine zIconst 0 0 1285 (by decide +kernel) rfl (by decide) ?_
                                                                    exact zZret .boolean rfl (zNarZ (Or.inl rfl)) (by decide +kernel) F
                                                                · skip
                                                                  by_cases q468 : ((G.2.2.2.2.2.2.2 l4.toNatClampNeg) &&& 63) = 31
                                                                  · replace F := F.2.2.2.2.2.2.2.2.2.2.2.2.2.2.2.2.2.2.2.2.2.2.2.2.2.2.2.2.2.2.2.1 q468
                                                                    have zt := zEqT q468 (show (31 : Int32).toInt = 31 by decide)
                                                                    refine zTableIn 1543 0 39 #[176, 249, 274, 299, 324, 392, 429, 454, 479, 504, 541, 566, 615, 640, 665, 678, 747, 760, 797, 846, 883, 908, 945, 970, 1007, 1032, 1097, 1134, 1159, 1172, 1209, 1246, 1319, 1368, 1405, 1442, 1467, 1492, 1505, 1518] 176 1246 1286 (by decide +kernel) (by omega) (by omega) (by rw [zt]; decide) rfl ?_
                                                                    refine zAload_n 1 1 1287 (by decide +kernel) rfl rfl ?_
                                                                    refine zAload_n 0 0 1288 (by decide +kernel) rfl rfl ?_
                                                                    refine zIload 4 4 1290 (by decide +kernel) rfl rfl ?_
                                                                    refine zIconst 1 1 1291 (by decide +kernel) rfl (by decide) ?_
                                                                    refine zIadd 1292 (by decide +kernel) rfl ?_
                                                                    obtain ⟨w469, F⟩ := F
                                                                    refine zSaload 1293 (by decide +kernel) rfl (w469) ?_
                                                                    refine zAload_n 0 0 1294 (by decide +kernel) rfl rfl ?_
                                                                    refine zIload 4 4 1296 (by decide +kernel) rfl rfl ?_
                                                                    refine zIconst 2 2 1297 (by decide +kernel) rfl (by decide) ?_
                                                                    refine zIadd 1298 (by decide +kernel) rfl ?_
                                                                    obtain ⟨w470, F⟩ := F
                                                                    refine zSaload 1299 (by decide +kernel) rfl (w470) ?_
                                                                    refine zAload_n 0 0 1300 (by decide +kernel) rfl rfl ?_
                                                                    refine zIload 4 4 1302 (by decide +kernel) rfl rfl ?_
                                                                    refine zIconst 3 3 1303 (by decide +kernel) rfl (by decide) ?_
                                                                    refine zIadd 1304 (by decide +kernel) rfl ?_
                                                                    obtain ⟨w471, F⟩ := F
                                                                    refine zSaload 1305 (by decide +kernel) rfl (w471) ?_
                                                                    refine zAload_n 0 0 1306 (by decide +kernel) rfl rfl ?_
                                                                    refine zIload 4 4 1308 (by decide +kernel) rfl rfl ?_
                                                                    refine zIconst 4 4 1309 (by decide +kernel) rfl (by decide) ?_
                                                                    refine zIadd 1310 (by decide +kernel) rfl ?_
                                                                    obtain ⟨w472, F⟩ := F
                                                                    refine zSaload 1311 (by decide +kernel) rfl (w472) ?_
                                                                    refine zAload_n 0 0 1312 (by decide +kernel) rfl rfl ?_
                                                                    refine zIload 4 4 1314 (by decide +kernel) rfl rfl ?_
                                                                    refine zIconst 5 5 1315 (by decide +kernel) rfl (by decide) ?_
                                                                    refine zIadd 1316 (by decide +kernel) rfl ?_
                                                                    obtain ⟨w473, F⟩ := F
                                                                    refine zSaload 1317 (by decide +kernel) rfl (w473) ?_
                                                                    refine zCallV 11 zcls11 mX11_game 157 5 0 0 _ _ 1320 [.int (G.2.2.2.2.2.2.2 (l4 + 1 : Int32).toNatClampNeg), .int (G.2.2.2.2.2.2.2 (l4 + 2 : Int32).toNatClampNeg), .int (G.2.2.2.2.2.2.2 (l4 + 3 : Int32).toNatClampNeg), .int (G.2.2.2.2.2.2.2 (l4 + 4 : Int32).toNatClampNeg), .int (G.2.2.2.2.2.2.2 (l4 + 5 : Int32).toNatClampNeg)] [] okX11_game mlL_157 imX11_game seX11_game (by decide +kernel) rfl rfl (Nat.le_of_ble_eq_true rfl) rfl rfl (X_0 S0_) (zC.mono F ?_)
                                                                    rintro _ _ ⟨x474, I475, rfl, rfl, F⟩
                                                                    change zV G (d + 1) mL_law (kc + 4) (ks + 300) 1320 [(0, .ref (G.2.2.2.2.2.1 3)), (1, .ref (x)), (2, .ref (m)), (3, .ref (o)), (4, .int (l4))] [.int (x474)] (I475, J, R, K, n) Q
                                                                    refine zAload_n 2 2 1321 (by decide +kernel) rfl rfl ?_
                                                                    refine zAload_n 0 0 1322 (by decide +kernel) rfl rfl ?_
                                                                    refine zIload 4 4 1324 (by decide +kernel) rfl rfl ?_
                                                                    refine zIconst 1 1 1325 (by decide +kernel) rfl (by decide) ?_
                                                                    refine zIadd 1326 (by decide +kernel) rfl ?_
                                                                    obtain ⟨w476, F⟩ := F
                                                                    refine zSaload 1327 (by decide +kernel) rfl (w476) ?_
                                                                    refine zAload_n 0 0 1328 (by decide +kernel) rfl rfl ?_
                                                                    refine zIload 4 4 1330 (by decide +kernel) rfl rfl ?_
                                                                    refine zIconst 2 2 1331 (by decide +kernel) rfl (by decide) ?_
                                                                    refine zIadd 1332 (by decide +kernel) rfl ?_
                                                                    obtain ⟨w477, F⟩ := F
                                                                    refine zSaload 1333 (by decide +kernel) rfl (w477) ?_
                                                                    refine zAload_n 0 0 1334 (by decide +kernel) rfl rfl ?_
                                                                    refine zIload 4 4 1336 (by decide +kernel) rfl rfl ?_
                                                                    refine zIconst 3 3 1337 (by decide +kernel) rfl (by decide) ?_
                                                                    refine zIadd 1338 (by decide +kernel) rfl ?_
                                                                    obtain ⟨w478, F⟩ := F
                                                                    refine zSaload 1339 (by decide +kernel) rfl (w478) ?_
                                                                    refine zAload_n 0 0 1340 (by decide +kernel) rfl rfl ?_
                                                                    refine zIload 4 4 1342 (by decide +kernel) rfl rfl ?_
                                                                    refine zIconst 4 4 1343 (by decide +kernel) rfl (by decide) ?_
                                                                    refine zIadd 1344 (by decide +kernel) rfl ?_
                                                                    obtain ⟨w479, F⟩ := F
                                                                    refine zSaload 1345 (by decide +kernel) rfl (w479) ?_
                                                                    refine zAload_n 0 0 1346 (by decide +kernel) rfl rfl ?_
                                                                    refine zIload 4 4 1348 (by decide +kernel) rfl rfl ?_
                                                                    refine zIconst 5 5 1349 (by decide +kernel) rfl (by decide) ?_
                                                                    refine zIadd 1350 (by decide +kernel) rfl ?_
                                                                    obtain ⟨w480, F⟩ := F
                                                                    refine zSaload 1351 (by decide +kernel) rfl (w480) ?_
                                                                    refine zCallV 12 zcls12 mX12_game 160 5 0 0 _ _ 1354 [.int (G.2.2.2.2.2.2.2 (l4 + 1 : Int32).toNatClampNeg), .int (G.2.2.2.2.2.2.2 (l4 + 2 : Int32).toNatClampNeg), .int (G.2.2.2.2.2.2.2 (l4 + 3 : Int32).toNatClampNeg), .int (G.2.2.2.2.2.2.2 (l4 + 4 : Int32).toNatClampNeg), .int (G.2.2.2.2.2.2.2 (l4 + 5 : Int32).toNatClampNeg)] [.int (x474)] okX12_game mlL_160 imX12_game seX12_game (by decide +kernel) rfl rfl (Nat.le_of_ble_eq_true rfl) rfl rfl (Mod_0 S1_) (zC.mono F ?_)
                                                                    rintro _ _ ⟨x481, I482, J483, R484, rfl, rfl, F⟩
                                                                    change zV G (d + 1) mL_law (kc + 4) (ks + 300) 1354 [(0, .ref (G.2.2.2.2.2.1 3)), (1, .ref (x)), (2, .ref (m)), (3, .ref (o)), (4, .int (l4))] [.int (x481), .int (x474)] (I482, J483, R484, K, n) Q
                                                                    obtain ⟨u485, u486, u487, S488, F⟩ := F
                                                                    obtain ⟨u489, u490, S491, F⟩ := F
                                                                    obtain ⟨S492, F⟩ := F
                                                                    refine zIcmp_eq 229 1583 1357 (by decide +kernel) rfl rfl ⟨fun q493 => ?_, fun q493 => ?_⟩
                                                                    · replace F := F.1 q493
                                                                      refine zIinc 4 6 4 (l4 + 6) [(4, .int (l4 + 6)), (0, .ref (G.2.2.2.2.2.1 3)), (1, .ref (x)), (2, .ref (m)), (3, .ref (o))] 1586 (by decide +kernel) rfl rfl (by rfl) (by decide) rfl ?_
                                                                      refine zGoto (-1563) 23 (by decide +kernel) rfl ?_
                                                                      exact zLoc [1, 2, 3, 4, 0] _ rfl F
                                                                    · replace F := F.2 q493
                                                                      refine zIconst 0 0 1358 (by decide +kernel) rfl (by decide) ?_
                                                                      exact zZret .boolean rfl (zNarZ (Or.inl rfl)) (by decide +kernel) F
                                                                  · skip
                                                                    by_cases q494 : ((G.2.2.2.2.2.2.2 l4.toNatClampNeg) &&& 63) = 32
                                                                    · replace F := F.2.2.2.2.2.2.2.2.2.2.2.2.2.2.2.2.2.2.2.2.2.2.2.2.2.2.2.2.2.2.2.2.1 q494
                                                                      have zt := zEqT q494 (show (32 : Int32).toInt = 32 by decide)
                                                                      refine zTableIn 1543 0 39 #[176, 249, 274, 299, 324, 392, 429, 454, 479, 504, 541, 566, 615, 640, 665, 678, 747, 760, 797, 846, 883, 908, 945, 970, 1007, 1032, 1097, 1134, 1159, 1172, 1209, 1246, 1319, 1368, 1405, 1442, 1467, 1492, 1505, 1518] 176 1319 1359 (by decide +kernel) (by omega) (by omega) (by rw [zt]; decide) rfl ?_
                                                                      refine zAload_n 1 1 1360 (by decide +kernel) rfl rfl ?_
                                                                      refine zAload_n 0 0 1361 (by decide +kernel) rfl rfl ?_
                                                                      refine zIload 4 4 1363 (by decide +kernel) rfl rfl ?_
                                                                      refine zIconst 1 1 1364 (by decide +kernel) rfl (by decide) ?_
                                                                      refine zIadd 1365 (by decide +kernel) rfl ?_
                                                                      obtain ⟨w495, F⟩ := F
                                                                      refine zSaload 1366 (by decide +kernel) rfl (w495) ?_
                                                                      refine zAload_n 0 0 1367 (by decide +kernel) rfl rfl ?_
                                                                      refine zIload 4 4 1369 (by decide +kernel) rfl rfl ?_
                                                                      refine zIconst 2 2 1370 (by decide +kernel) rfl (by decide) ?_
                                                                      refine zIadd 1371 (by decide +kernel) rfl ?_
                                                                      obtain ⟨w496, F⟩ := F
                                                                      refine zSaload 1372 (by decide +kernel) rfl (w496) ?_
                                                                      refine zAload_n 0 0 1373 (by decide +kernel) rfl rfl ?_
                                                                      refine zIload 4 4 1375 (by decide +kernel) rfl rfl ?_
                                                                      refine zIconst 3 3 1376 (by decide +kernel) rfl (by decide) ?_
                                                                      refine zIadd 1377 (by decide +kernel) rfl ?_
                                                                      obtain ⟨w497, F⟩ := F
                                                                      refine zSaload 1378 (by decide +kernel) rfl (w497) ?_
                                                                      refine zCallV 11 zcls11 mX11_rests 161 3 0 0 _ _ 1381 [.int (G.2.2.2.2.2.2.2 (l4 + 1 : Int32).toNatClampNeg), .int (G.2.2.2.2.2.2.2 (l4 + 2 : Int32).toNatClampNeg), .int (G.2.2.2.2.2.2.2 (l4 + 3 : Int32).toNatClampNeg)] [] okX11_rests mlL_161 imX11_rests seX11_rests (by decide +kernel) rfl rfl (Nat.le_of_ble_eq_true rfl) rfl rfl (X_0 S0_) (zC.mono F ?_)
                                                                      rintro _ _ ⟨x498, I499, rfl, rfl, F⟩
                                                                      change zV G (d + 1) mL_law (kc + 4) (ks + 300) 1381 [(0, .ref (G.2.2.2.2.2.1 3)), (1, .ref (x)), (2, .ref (m)), (3, .ref (o)), (4, .int (l4))] [.int (x498)] (I499, J, R, K, n) Q
                                                                      refine zAload_n 2 2 1382 (by decide +kernel) rfl rfl ?_
                                                                      refine zAload_n 0 0 1383 (by decide +kernel) rfl rfl ?_
                                                                      refine zIload 4 4 1385 (by decide +kernel) rfl rfl ?_
                                                                      refine zIconst 1 1 1386 (by decide +kernel) rfl (by decide) ?_
                                                                      refine zIadd 1387 (by decide +kernel) rfl ?_
                                                                      obtain ⟨w500, F⟩ := F
                                                                      refine zSaload 1388 (by decide +kernel) rfl (w500) ?_
                                                                      refine zAload_n 0 0 1389 (by decide +kernel) rfl rfl ?_
                                                                      refine zIload 4 4 1391 (by decide +kernel) rfl rfl ?_
                                                                      refine zIconst 2 2 1392 (by decide +kernel) rfl (by decide) ?_
                                                                      refine zIadd 1393 (by decide +kernel) rfl ?_
                                                                      obtain ⟨w501, F⟩ := F
                                                                      refine zSaload 1394 (by decide +kernel) rfl (w501) ?_
                                                                      refine zAload_n 0 0 1395 (by decide +kernel) rfl rfl ?_
                                                                      refine zIload 4 4 1397 (by decide +kernel) rfl rfl ?_
                                                                      refine zIconst 3 3 1398 (by decide +kernel) rfl (by decide) ?_
                                                                      refine zIadd 1399 (by decide +kernel) rfl ?_
                                                                      obtain ⟨w502, F⟩ := F
                                                                      refine zSaload 1400 (by decide +kernel) rfl (w502) ?_
                                                                      refine zCallV 12 zcls12 mX12_rests 164 3 0 0 _ _ 1403 [.int (G.2.2.2.2.2.2.2 (l4 + 1 : Int32).toNatClampNeg), .int (G.2.2.2.2.2.2.2 (l4 + 2 : Int32).toNatClampNeg), .int (G.2.2.2.2.2.2.2 (l4 + 3 : Int32).toNatClampNeg)] [.int (x498)] okX12_rests mlL_164 imX12_rests seX12_rests (by decide +kernel) rfl rfl (Nat.le_of_ble_eq_true rfl) rfl rfl (Mod_0 S1_) (zC.mono F ?_)
                                                                      rintro _ _ ⟨x503, I504, J505, R506, rfl, rfl, F⟩
                                                                      change zV G (d + 1) mL_law (kc + 4) (ks + 300) 1403 [(0, .ref (G.2.2.2.2.2.1 3)), (1, .ref (x)), (2, .ref (m)), (3, .ref (o)), (4, .int (l4))] [.int (x503), .int (x498)] (I504, J505, R506, K, n) Q
                                                                      obtain ⟨u507, u508, u509, S510, F⟩ := F
                                                                      obtain ⟨u511, u512, S513, F⟩ := F
                                                                      obtain ⟨S514, F⟩ := F
                                                                      refine zIcmp_eq 180 1583 1406 (by decide +kernel) rfl rfl ⟨fun q515 => ?_, fun q515 => ?_⟩
                                                                      · replace F := F.1 q515
                                                                        refine zIinc 4 6 4 (l4 + 6) [(4, .int (l4 + 6)), (0, .ref (G.2.2.2.2.2.1 3)), (1, .ref (x)), (2, .ref (m)), (3, .ref (o))] 1586 (by decide +kernel) rfl rfl (by rfl) (by decide) rfl ?_
                                                                        refine zGoto (-1563) 23 (by decide +kernel) rfl ?_
                                                                        exact zLoc [1, 2, 3, 4, 0] _ rfl F
                                                                      · replace F := F.2 q515
                                                                        refine zIconst 0 0 1407 (by decide +kernel) rfl (by decide) ?_
                                                                        exact zZret .boolean rfl (zNarZ (Or.inl rfl)) (by decide +kernel) F
                                                                    · skip
                                                                      by_cases q516 : ((G.2.2.2.2.2.2.2 l4.toNatClampNeg) &&& 63) = 33
                                                                      · replace F := F.2.2.2.2.2.2.2.2.2.2.2.2.2.2.2.2.2.2.2.2.2.2.2.2.2.2.2.2.2.2.2.2.2.1 q516
                                                                        have zt := zEqT q516 (show (33 : Int32).toInt = 33 by decide)
                                                                        refine zTableIn 1543 0 39 #[176, 249, 274, 299, 324, 392, 429, 454, 479, 504, 541, 566, 615, 640, 665, 678, 747, 760, 797, 846, 883, 908, 945, 970, 1007, 1032, 1097, 1134, 1159, 1172, 1209, 1246, 1319, 1368, 1405, 1442, 1467, 1492, 1505, 1518] 176 1368 1408 (by decide +kernel) (by omega) (by omega) (by rw [zt]; decide) rfl ?_
                                                                        refine zAload_n 1 1 1409 (by decide +kernel) rfl rfl ?_
                                                                        refine zAload_n 0 0 1410 (by decide +kernel) rfl rfl ?_
                                                                        refine zIload 4 4 1412 (by decide +kernel) rfl rfl ?_
                                                                        refine zIconst 1 1 1413 (by decide +kernel) rfl (by decide) ?_
                                                                        refine zIadd 1414 (by decide +kernel) rfl ?_
                                                                        obtain ⟨w517, F⟩ := F
                                                                        refine zSaload 1415 (by decide +kernel) rfl (w517) ?_
                                                                        refine zAload_n 0 0 1416 (by decide +kernel) rfl rfl ?_
                                                                        refine zIload 4 4 1418 (by decide +kernel) rfl rfl ?_
                                                                        refine zIconst 2 2 1419 (by decide +kernel) rfl (by decide) ?_
                                                                        refine zIadd 1420 (by decide +kernel) rfl ?_
                                                                        obtain ⟨w518, F⟩ := F
                                                                        refine zSaload 1421 (by decide +kernel) rfl (w518) ?_
                                                                        refine zCallV 11 zcls11 mX11_odds 165 2 0 0 _ _ 1424 [.int (G.2.2.2.2.2.2.2 (l4 + 1 : Int32).toNatClampNeg), .int (G.2.2.2.2.2.2.2 (l4 + 2 : Int32).toNatClampNeg)] [] okX11_odds mlL_165 imX11_odds seX11_odds (by decide +kernel) rfl rfl (Nat.le_of_ble_eq_true rfl) rfl rfl (X_0 S0_) (zC.mono F ?_)
                                                                        rintro _ _ ⟨x519, I520, rfl, rfl, F⟩
                                                                        change zV G (d + 1) mL_law (kc + 4) (ks + 300) 1424 [(0, .ref (G.2.2.2.2.2.1 3)), (1, .ref (x)), (2, .ref (m)), (3, .ref (o)), (4, .int (l4))] [.int (x519)] (I520, J, R, K, n) Q
                                                                        refine zAload_n 2 2 1425 (by decide +kernel) rfl rfl ?_
                                                                        refine zAload_n 0 0 1426 (by decide +kernel) rfl rfl ?_
                                                                        refine zIload 4 4 1428 (by decide +kernel) rfl rfl ?_
                                                                        refine zIconst 1 1 1429 (by decide +kernel) rfl (by decide) ?_
                                                                        refine zIadd 1430 (by decide +kernel) rfl ?_
                                                                        obtain ⟨w521, F⟩ := F
                                                                        refine zSaload 1431 (by decide +kernel) rfl (w521) ?_
                                                                        refine zAload_n 0 0 1432 (by decide +kernel) rfl rfl ?_
                                                                        refine zIload 4 4 1434 (by decide +kernel) rfl rfl ?_
                                                                        refine zIconst 2 2 1435 (by decide +kernel) rfl (by decide) ?_
                                                                        refine zIadd 1436 (by decide +kernel) rfl ?_
                                                                        obtain ⟨w522, F⟩ := F
                                                                        refine zSaload 1437 (by decide +kernel) rfl (w522) ?_
                                                                        refine zCallV 12 zcls12 mX12_odds 168 2 0 0 _ _ 1440 [.int (G.2.2.2.2.2.2.2 (l4 + 1 : Int32).toNatClampNeg), .int (G.2.2.2.2.2.2.2 (l4 + 2 : Int32).toNatClampNeg)] [.int (x519)] okX12_odds mlL_168 imX12_odds seX12_odds (by decide +kernel) rfl rfl (Nat.le_of_ble_eq_true rfl) rfl rfl (Mod_0 S1_) (zC.mono F ?_)
                                                                        rintro _ _ ⟨x523, I524, J525, R526, rfl, rfl, F⟩
                                                                        change zV G (d + 1) mL_law (kc + 4) (ks + 300) 1440 [(0, .ref (G.2.2.2.2.2.1 3)), (1, .ref (x)), (2, .ref (m)), (3, .ref (o)), (4, .int (l4))] [.int (x523), .int (x519)] (I524, J525, R526, K, n) Q
                                                                        obtain ⟨u527, u528, u529, S530, F⟩ := F
                                                                        obtain ⟨u531, u532, S533, F⟩ := F
                                                                        obtain ⟨S534, F⟩ := F
                                                                        refine zIcmp_eq 143 1583 1443 (by decide +kernel) rfl rfl ⟨fun q535 => ?_, fun q535 => ?_⟩
                                                                        · replace F := F.1 q535
                                                                          refine zIinc 4 6 4 (l4 + 6) [(4, .int (l4 + 6)), (0, .ref (G.2.2.2.2.2.1 3)), (1, .ref (x)), (2, .ref (m)), (3, .ref (o))] 1586 (by decide +kernel) rfl rfl (by rfl) (by decide) rfl ?_
                                                                          refine zGoto (-1563) 23 (by decide +kernel) rfl ?_
                                                                          exact zLoc [1, 2, 3, 4, 0] _ rfl F
                                                                        · replace F := F.2 q535
                                                                          refine zIconst 0 0 1444 (by decide +kernel) rfl (by decide) ?_
                                                                          exact zZret .boolean rfl (zNarZ (Or.inl rfl)) (by decide +kernel) F
                                                                      · skip
                                                                        by_cases q536 : ((G.2.2.2.2.2.2.2 l4.toNatClampNeg) &&& 63) = 34
                                                                        · replace F := F.2.2.2.2.2.2.2.2.2.2.2.2.2.2.2.2.2.2.2.2.2.2.2.2.2.2.2.2.2.2.2.2.2.2.1 q536
                                                                          have zt := zEqT q536 (show (34 : Int32).toInt = 34 by decide)
                                                                          refine zTableIn 1543 0 39 #[176, 249, 274, 299, 324, 392, 429, 454, 479, 504, 541, 566, 615, 640, 665, 678, 747, 760, 797, 846, 883, 908, 945, 970, 1007, 1032, 1097, 1134, 1159, 1172, 1209, 1246, 1319, 1368, 1405, 1442, 1467, 1492, 1505, 1518] 176 1405 1445 (by decide +kernel) (by omega) (by omega) (by rw [zt]; decide) rfl ?_
                                                                          refine zAload_n 1 1 1446 (by decide +kernel) rfl rfl ?_
                                                                          refine zAload_n 0 0 1447 (by decide +kernel) rfl rfl ?_
                                                                          refine zIload 4 4 1449 (by decide +kernel) rfl rfl ?_
                                                                          refine zIconst 1 1 1450 (by decide +kernel) rfl (by decide) ?_
                                                                          refine zIadd 1451 (by decide +kernel) rfl ?_
                                                                          obtain ⟨w537, F⟩ := F
                                                                          refine zSaload 1452 (by decide +kernel) rfl (w537) ?_
                                                                          refine zAload_n 0 0 1453 (by decide +kernel) rfl rfl ?_
                                                                          refine zIload 4 4 1455 (by decide +kernel) rfl rfl ?_
                                                                          refine zIconst 2 2 1456 (by decide +kernel) rfl (by decide) ?_
                                                                          refine zIadd 1457 (by decide +kernel) rfl ?_
                                                                          obtain ⟨w538, F⟩ := F
                                                                          refine zSaload 1458 (by decide +kernel) rfl (w538) ?_
                                                                          refine zCallV 11 zcls11 mX11_shares 169 2 0 0 _ _ 1461 [.int (G.2.2.2.2.2.2.2 (l4 + 1 : Int32).toNatClampNeg), .int (G.2.2.2.2.2.2.2 (l4 + 2 : Int32).toNatClampNeg)] [] okX11_shares mlL_169 imX11_shares seX11_shares (by decide +kernel) rfl rfl (Nat.le_of_ble_eq_true rfl) rfl rfl (X_0 S0_) (zC.mono F ?_)
                                                                          rintro _ _ ⟨x539, I540, rfl, rfl, F⟩
                                                                          change zV G (d + 1) mL_law (kc + 4) (ks + 300) 1461 [(0, .ref (G.2.2.2.2.2.1 3)), (1, .ref (x)), (2, .ref (m)), (3, .ref (o)), (4, .int (l4))] [.int (x539)] (I540, J, R, K, n) Q
                                                                          refine zAload_n 2 2 1462 (by decide +kernel) rfl rfl ?_
                                                                          refine zAload_n 0 0 1463 (by decide +kernel) rfl rfl ?_
                                                                          refine zIload 4 4 1465 (by decide +kernel) rfl rfl ?_
                                                                          refine zIconst 1 1 1466 (by decide +kernel) rfl (by decide) ?_
                                                                          refine zIadd 1467 (by decide +kernel) rfl ?_
                                                                          obtain ⟨w541, F⟩ := F
                                                                          refine zSaload 1468 (by decide +kernel) rfl (w541) ?_
                                                                          refine zAload_n 0 0 1469 (by decide +kernel) rfl rfl ?_
                                                                          refine zIload 4 4 1471 (by decide +kernel) rfl rfl ?_
                                                                          refine zIconst 2 2 1472 (by decide +kernel) rfl (by decide) ?_
                                                                          refine zIadd 1473 (by decide +kernel) rfl ?_
                                                                          obtain ⟨w542, F⟩ := F
                                                                          refine zSaload 1474 (by decide +kernel) rfl (w542) ?_
                                                                          refine zCallV 12 zcls12 mX12_shares 172 2 0 0 _ _ 1477 [.int (G.2.2.2.2.2.2.2 (l4 + 1 : Int32).toNatClampNeg), .int (G.2.2.2.2.2.2.2 (l4 + 2 : Int32).toNatClampNeg)] [.int (x539)] okX12_shares mlL_172 imX12_shares seX12_shares (by decide +kernel) rfl rfl (Nat.le_of_ble_eq_true rfl) rfl rfl (Mod_0 S1_) (zC.mono F ?_)
                                                                          rintro _ _ ⟨x543, I544, rfl, rfl, F⟩
                                                                          change zV G (d + 1) mL_law (kc + 4) (ks + 300) 1477 [(0, .ref (G.2.2.2.2.2.1 3)), (1, .ref (x)), (2, .ref (m)), (3, .ref (o)), (4, .int (l4))] [.int (x543), .int (x539)] (I544, J, R, K, n) Q
                                                                          refine zIcmp_eq 106 1583 1480 (by decide +kernel) rfl rfl ⟨fun q545 => ?_, fun q545 => ?_⟩
                                                                          · replace F := F.1 q545
                                                                            refine zIinc 4 6 4 (l4 + 6) [(4, .int (l4 + 6)), (0, .ref (G.2.2.2.2.2.1 3)), (1, .ref (x)), (2, .ref (m)), (3, .ref (o))] 1586 (by decide +kernel) rfl rfl (by rfl) (by decide) rfl ?_
                                                                            refine zGoto (-1563) 23 (by decide +kernel) rfl ?_
                                                                            exact zLoc [1, 2, 3, 4, 0] _ rfl F
                                                                          · replace F := F.2 q545
                                                                            refine zIconst 0 0 1481 (by decide +kernel) rfl (by decide) ?_
                                                                            exact zZret .boolean rfl (zNarZ (Or.inl rfl)) (by decide +kernel) F
                                                                        · skip
                                                                          by_cases q546 : ((G.2.2.2.2.2.2.2 l4.toNatClampNeg) &&& 63) = 35
                                                                          · replace F := F.2.2.2.2.2.2.2.2.2.2.2.2.2.2.2.2.2.2.2.2.2.2.2.2.2.2.2.2.2.2.2.2.2.2.2.1 q546
                                                                            have zt := zEqT q546 (show (35 : Int32).toInt = 35 by decide)
                                                                            refine zTableIn 1543 0 39 #[176, 249, 274, 299, 324, 392, 429, 454, 479, 504, 541, 566, 615, 640, 665, 678, 747, 760, 797, 846, 883, 908, 945, 970, 1007, 1032, 1097, 1134, 1159, 1172, 1209, 1246, 1319, 1368, 1405, 1442, 1467, 1492, 1505, 1518] 176 1442 1482 (by decide +kernel) (by omega) (by omega) (by rw [zt]; decide) rfl ?_
                                                                            refine zAload_n 1 1 1483 (by decide +kernel) rfl rfl ?_
                                                                            refine zAload_n 0 0 1484 (by decide +kernel) rfl rfl ?_
                                                                            refine zIload 4 4 1486 (by decide +kernel) rfl rfl ?_
                                                                            refine zIconst 1 1 1487 (by decide +kernel) rfl (by decide) ?_
                                                                            refine zIadd 1488 (by decide +kernel) rfl ?_
                                                                            obtain ⟨w547, F⟩ := F
                                                                            refine zSaload 1489 (by decide +kernel) rfl (w547) ?_
                                                                            refine zCallV 11 zcls11 mX11_fades 173 1 0 0 _ _ 1492 [.int (G.2.2.2.2.2.2.2 (l4 + 1 : Int32).toNatClampNeg)] [] okX11_fades mlL_173 imX11_fades seX11_fades (by decide +kernel) rfl rfl (Nat.le_of_ble_eq_true rfl) rfl rfl (X_0 S0_) (zC.mono F ?_)
                                                                            rintro _ _ ⟨x548, I549, rfl, rfl, F⟩
                                                                            change zV G (d + 1) mL_law (kc + 4) (ks + 300) 1492 [(0, .ref (G.2.2.2.2.2.1 3)), (1, .ref (x)), (2, .ref (m)), (3, .ref (o)), (4, .int (l4))] [.int (x548)] (I549, J, R, K, n) Q
                                                                            refine zAload_n 2 2 1493 (by decide +kernel) rfl rfl ?_
                                                                            refine zAload_n 0 0 1494 (by decide +kernel) rfl rfl ?_
                                                                            refine zIload 4 4 1496 (by decide +kernel) rfl rfl ?_
                                                                            refine zIconst 1 1 1497 (by decide +kernel) rfl (by decide) ?_
                                                                            refine zIadd 1498 (by decide +kernel) rfl ?_
                                                                            obtain ⟨w550, F⟩ := F
                                                                            refine zSaload 1499 (by decide +kernel) rfl (w550) ?_
                                                                            refine zCallV 12 zcls12 mX12_fades 176 1 0 0 _ _ 1502 [.int (G.2.2.2.2.2.2.2 (l4 + 1 : Int32).toNatClampNeg)] [.int (x548)] okX12_fades mlL_176 imX12_fades seX12_fades (by decide +kernel) rfl rfl (Nat.le_of_ble_eq_true rfl) rfl rfl (Mod_0 S1_) (zC.mono F ?_)
                                                                            rintro _ _ ⟨x551, I552, rfl, rfl, F⟩
                                                                            change zV G (d + 1) mL_law (kc + 4) (ks + 300) 1502 [(0, .ref (G.2.2.2.2.2.1 3)), (1, .ref (x)), (2, .ref (m)), (3, .ref (o)), (4, .int (l4))] [.int (x551), .int (x548)] (I552, J, R, K, n) Q
                                                                            refine zIcmp_eq 81 1583 1505 (by decide +kernel) rfl rfl ⟨fun q553 => ?_, fun q553 => ?_⟩
                                                                            · replace F := F.1 q553
                                                                              refine zIinc 4 6 4 (l4 + 6) [(4, .int (l4 + 6)), (0, .ref (G.2.2.2.2.2.1 3)), (1, .ref (x)), (2, .ref (m)), (3, .ref (o))] 1586 (by decide +kernel) rfl rfl (by rfl) (by decide) rfl ?_
                                                                              refine zGoto (-1563) 23 (by decide +kernel) rfl ?_
                                                                              exact zLoc [1, 2, 3, 4, 0] _ rfl F
                                                                            · replace F := F.2 q553
                                                                              refine zIconst 0 0 1506 (by decide +kernel) rfl (by decide) ?_
                                                                              exact zZret .boolean rfl (zNarZ (Or.inl rfl)) (by decide +kernel) F
                                                                          · skip
                                                                            by_cases q554 : ((G.2.2.2.2.2.2.2 l4.toNatClampNeg) &&& 63) = 36
                                                                            · replace F := F.2.2.2.2.2.2.2.2.2.2.2.2.2.2.2.2.2.2.2.2.2.2.2.2.2.2.2.2.2.2.2.2.2.2.2.2.1 q554
                                                                              have zt := zEqT q554 (show (36 : Int32).toInt = 36 by decide)
                                                                              refine zTableIn 1543 0 39 #[176, 249, 274, 299, 324, 392, 429, 454, 479, 504, 541, 566, 615, 640, 665, 678, 747, 760, 797, 846, 883, 908, 945, 970, 1007, 1032, 1097, 1134, 1159, 1172, 1209, 1246, 1319, 1368, 1405, 1442, 1467, 1492, 1505, 1518] 176 1467 1507 (by decide +kernel) (by omega) (by omega) (by rw [zt]; decide) rfl ?_
                                                                              refine zAload_n 1 1 1508 (by decide +kernel) rfl rfl ?_
                                                                              refine zAload_n 0 0 1509 (by decide +kernel) rfl rfl ?_
                                                                              refine zIload 4 4 1511 (by decide +kernel) rfl rfl ?_
                                                                              refine zIconst 1 1 1512 (by decide +kernel) rfl (by decide) ?_
                                                                              refine zIadd 1513 (by decide +kernel) rfl ?_
                                                                              obtain ⟨w555, F⟩ := F
                                                                              refine zSaload 1514 (by decide +kernel) rfl (w555) ?_
                                                                              refine zCallV 11 zcls11 mX11_all 177 1 0 0 _ _ 1517 [.int (G.2.2.2.2.2.2.2 (l4 + 1 : Int32).toNatClampNeg)] [] okX11_all mlL_177 imX11_all seX11_all (by decide +kernel) rfl rfl (Nat.le_of_ble_eq_true rfl) rfl rfl (X_0 S0_) (zC.mono F ?_)
                                                                              rintro _ _ ⟨x556, I557, rfl, rfl, F⟩
                                                                              change zV G (d + 1) mL_law (kc + 4) (ks + 300) 1517 [(0, .ref (G.2.2.2.2.2.1 3)), (1, .ref (x)), (2, .ref (m)), (3, .ref (o)), (4, .int (l4))] [.int (x556)] (I557, J, R, K, n) Q
                                                                              refine zAload_n 2 2 1518 (by decide +kernel) rfl rfl ?_
                                                                              refine zAload_n 0 0 1519 (by decide +kernel) rfl rfl ?_
                                                                              refine zIload 4 4 1521 (by decide +kernel) rfl rfl ?_
                                                                              refine zIconst 1 1 1522 (by decide +kernel) rfl (by decide) ?_
                                                                              refine zIadd 1523 (by decide +kernel) rfl ?_
                                                                              obtain ⟨w558, F⟩ := F
                                                                              refine zSaload 1524 (by decide +kernel) rfl (w558) ?_
                                                                              refine zCallV 12 zcls12 mX12_all 180 1 0 0 _ _ 1527 [.int (G.2.2.2.2.2.2.2 (l4 + 1 : Int32).toNatClampNeg)] [.int (x556)] okX12_all mlL_180 imX12_all seX12_all (by decide +kernel) rfl rfl (Nat.le_of_ble_eq_true rfl) rfl rfl (Mod_0 S1_) (zC.mono F ?_)
                                                                              rintro _ _ ⟨x559, I560, rfl, rfl, F⟩
                                                                              change zV G (d + 1) mL_law (kc + 4) (ks + 300) 1527 [(0, .ref (G.2.2.2.2.2.1 3)), (1, .ref (x)), (2, .ref (m)), (3, .ref (o)), (4, .int (l4))] [.int (x559), .int (x556)] (I560, J, R, K, n) Q
                                                                              refine zIcmp_eq 56 1583 1530 (by decide +kernel) rfl rfl ⟨fun q561 => ?_, fun q561 => ?_⟩
                                                                              · replace F := F.1 q561
                                                                                refine zIinc 4 6 4 (l4 + 6) [(4, .int (l4 + 6)), (0, .ref (G.2.2.2.2.2.1 3)), (1, .ref (x)), (2, .ref (m)), (3, .ref (o))] 1586 (by decide +kernel) rfl rfl (by rfl) (by decide) rfl ?_
                                                                                refine zGoto (-1563) 23 (by decide +kernel) rfl ?_
                                                                                exact zLoc [1, 2, 3, 4, 0] _ rfl F
                                                                              · replace F := F.2 q561
                                                                                refine zIconst 0 0 1531 (by decide +kernel) rfl (by decide) ?_
                                                                                exact zZret .boolean rfl (zNarZ (Or.inl rfl)) (by decide +kernel) F
                                                                            · skip
                                                                              by_cases q562 : ((G.2.2.2.2.2.2.2 l4.toNatClampNeg) &&& 63) = 37
                                                                              · replace F := F.2.2.2.2.2.2.2.2.2.2.2.2.2.2.2.2.2.2.2.2.2.2.2.2.2.2.2.2.2.2.2.2.2.2.2.2.2.1 q562
                                                                                have zt := zEqT q562 (show (37 : Int32).toInt = 37 by decide)
                                                                                refine zTableIn 1543 0 39 #[176, 249, 274, 299, 324, 392, 429, 454, 479, 504, 541, 566, 615, 640, 665, 678, 747, 760, 797, 846, 883, 908, 945, 970, 1007, 1032, 1097, 1134, 1159, 1172, 1209, 1246, 1319, 1368, 1405, 1442, 1467, 1492, 1505, 1518] 176 1492 1532 (by decide +kernel) (by omega) (by omega) (by rw [zt]; decide) rfl ?_
                                                                                refine zAload_n 1 1 1533 (by decide +kernel) rfl rfl ?_
                                                                                refine zCallV 11 zcls11 mX11_image 181 0 0 0 _ _ 1536 [] [] okX11_image mlL_181 imX11_image seX11_image (by decide +kernel) rfl rfl (Nat.le_of_ble_eq_true rfl) rfl rfl (X_0 S0_) (zC.mono F ?_)
                                                                                rintro _ _ ⟨x563, I564, rfl, rfl, F⟩
                                                                                change zV G (d + 1) mL_law (kc + 4) (ks + 300) 1536 [(0, .ref (G.2.2.2.2.2.1 3)), (1, .ref (x)), (2, .ref (m)), (3, .ref (o)), (4, .int (l4))] [.int (x563)] (I564, J, R, K, n) Q
                                                                                refine zAload_n 2 2 1537 (by decide +kernel) rfl rfl ?_
                                                                                refine zCallV 12 zcls12 mX12_image 184 0 0 0 _ _ 1540 [] [.int (x563)] okX12_image mlL_184 imX12_image seX12_image (by decide +kernel) rfl rfl (Nat.le_of_ble_eq_true rfl) rfl rfl (Mod_0 S1_) (zC.mono F ?_)
                                                                                rintro _ _ ⟨x565, I566, rfl, rfl, F⟩
                                                                                change zV G (d + 1) mL_law (kc + 4) (ks + 300) 1540 [(0, .ref (G.2.2.2.2.2.1 3)), (1, .ref (x)), (2, .ref (m)), (3, .ref (o)), (4, .int (l4))] [.int (x565), .int (x563)] (I566, J, R, K, n) Q
                                                                                refine zIcmp_eq 43 1583 1543 (by decide +kernel) rfl rfl ⟨fun q567 => ?_, fun q567 => ?_⟩
                                                                                · replace F := F.1 q567
                                                                                  refine zIinc 4 6 4 (l4 + 6) [(4, .int (l4 + 6)), (0, .ref (G.2.2.2.2.2.1 3)), (1, .ref (x)), (2, .ref (m)), (3, .ref (o))] 1586 (by decide +kernel) rfl rfl (by rfl) (by decide) rfl ?_
                                                                                  refine zGoto (-1563) 23 (by decide +kernel) rfl ?_
                                                                                  exact zLoc [1, 2, 3, 4, 0] _ rfl F
                                                                                · replace F := F.2 q567
                                                                                  refine zIconst 0 0 1544 (by decide +kernel) rfl (by decide) ?_
                                                                                  exact zZret .boolean rfl (zNarZ (Or.inl rfl)) (by decide +kernel) F
                                                                              · skip
                                                                                by_cases q568 : ((G.2.2.2.2.2.2.2 l4.toNatClampNeg) &&& 63) = 38
                                                                                · replace F := F.2.2.2.2.2.2.2.2.2.2.2.2.2.2.2.2.2.2.2.2.2.2.2.2.2.2.2.2.2.2.2.2.2.2.2.2.2.2.1 q568
                                                                                  have zt := zEqT q568 (show (38 : Int32).toInt = 38 by decide)
                                                                                  refine zTableIn 1543 0 39 #[176, 249, 274, 299, 324, 392, 429, 454, 479, 504, 541, 566, 615, 640, 665, 678, 747, 760, 797, 846, 883, 908, 945, 970, 1007, 1032, 1097, 1134, 1159, 1172, 1209, 1246, 1319, 1368, 1405, 1442, 1467, 1492, 1505, 1518] 176 1505 1545 (by decide +kernel) (by omega) (by omega) (by rw [zt]; decide) rfl ?_
                                                                                  refine zAload_n 1 1 1546 (by decide +kernel) rfl rfl ?_
                                                                                  refine zCallV 11 zcls11 mX11_back 185 0 0 0 _ _ 1549 [] [] okX11_back mlL_185 imX11_back seX11_back (by decide +kernel) rfl rfl (Nat.le_of_ble_eq_true rfl) rfl rfl (X_0 S0_) (zC.mono F ?_)
                                                                                  rintro _ _ ⟨x569, I570, rfl, rfl, F⟩
                                                                                  change zV G (d + 1) mL_law (kc + 4) (ks + 300) 1549 [(0, .ref (G.2.2.2.2.2.1 3)), (1, .ref (x)), (2, .ref (m)), (3, .ref (o)), (4, .int (l4))] [.int (x569)] (I570, J, R, K, n) Q
                                                                                  refine zAload_n 2 2 1550 (by decide +kernel) rfl rfl ?_
                                                                                  refine zCallV 12 zcls12 mX12_back 188 0 0 0 _ _ 1553 [] [.int (x569)] okX12_back mlL_188 imX12_back seX12_back (by decide +kernel) rfl rfl (Nat.le_of_ble_eq_true rfl) rfl rfl (Mod_0 S1_) (zC.mono F ?_)
                                                                                  rintro _ _ ⟨x571, I572, rfl, rfl, F⟩
                                                                                  change zV G (d + 1) mL_law (kc + 4) (ks + 300) 1553 [(0, .ref (G.2.2.2.2.2.1 3)), (1, .ref (x)), (2, .ref (m)), (3, .ref (o)), (4, .int (l4))] [.int (x571), .int (x569)] (I572, J, R, K, n) Q
                                                                                  refine zIcmp_eq 30 1583 1556 (by decide +kernel) rfl rfl ⟨fun q573 => ?_, fun q573 => ?_⟩
                                                                                  · replace F := F.1 q573
                                                                                    refine zIinc 4 6 4 (l4 + 6) [(4, .int (l4 + 6)), (0, .ref (G.2.2.2.2.2.1 3)), (1, .ref (x)), (2, .ref (m)), (3, .ref (o))] 1586 (by decide +kernel) rfl rfl (by rfl) (by decide) rfl ?_
                                                                                    refine zGoto (-1563) 23 (by decide +kernel) rfl ?_
                                                                                    exact zLoc [1, 2, 3, 4, 0] _ rfl F
                                                                                  · replace F := F.2 q573
                                                                                    refine zIconst 0 0 1557 (by decide +kernel) rfl (by decide) ?_
                                                                                    exact zZret .boolean rfl (zNarZ (Or.inl rfl)) (by decide +kernel) F
                                                                                · skip
                                                                                  by_cases q574 : ((G.2.2.2.2.2.2.2 l4.toNatClampNeg) &&& 63) = 39
                                                                                  · replace F := F.2.2.2.2.2.2.2.2.2.2.2.2.2.2.2.2.2.2.2.2.2.2.2.2.2.2.2.2.2.2.2.2.2.2.2.2.2.2.2.1 q574
                                                                                    have zt := zEqT q574 (show (39 : Int32).toInt = 39 by decide)
                                                                                    refine zTableIn 1543 0 39 #[176, 249, 274, 299, 324, 392, 429, 454, 479, 504, 541, 566, 615, 640, 665, 678, 747, 760, 797, 846, 883, 908, 945, 970, 1007, 1032, 1097, 1134, 1159, 1172, 1209, 1246, 1319, 1368, 1405, 1442, 1467, 1492, 1505, 1518] 176 1518 1558 (by decide +kernel) (by omega) (by omega) (by rw [zt]; decide) rfl ?_
                                                                                    refine zAload_n 1 1 1559 (by decide +kernel) rfl rfl ?_
                                                                                    refine zAload_n 0 0 1560 (by decide +kernel) rfl rfl ?_
                                                                                    refine zIload 4 4 1562 (by decide +kernel) rfl rfl ?_
                                                                                    refine zIconst 1 1 1563 (by decide +kernel) rfl (by decide) ?_
                                                                                    refine zIadd 1564 (by decide +kernel) rfl ?_
                                                                                    obtain ⟨w575, F⟩ := F
                                                                                    refine zSaload 1565 (by decide +kernel) rfl (w575) ?_
                                                                                    refine zCallV 11 zcls11 mX11_count 189 1 0 0 _ _ 1568 [.int (G.2.2.2.2.2.2.2 (l4 + 1 : Int32).toNatClampNeg)] [] okX11_count mlL_189 imX11_count seX11_count (by decide +kernel) rfl rfl (Nat.le_of_ble_eq_true rfl) rfl rfl (X_0 S0_) (zC.mono F ?_)
                                                                                    rintro _ _ ⟨x576, I577, rfl, rfl, F⟩
                                                                                    change zV G (d + 1) mL_law (kc + 4) (ks + 300) 1568 [(0, .ref (G.2.2.2.2.2.1 3)), (1, .ref (x)), (2, .ref (m)), (3, .ref (o)), (4, .int (l4))] [.int (x576)] (I577, J, R, K, n) Q
                                                                                    refine zAload_n 2 2 1569 (by decide +kernel) rfl rfl ?_
                                                                                    refine zAload_n 0 0 1570 (by decide +kernel) rfl rfl ?_
                                                                                    refine zIload 4 4 1572 (by decide +kernel) rfl rfl ?_
                                                                                    refine zIconst 1 1 1573 (by decide +kernel) rfl (by decide) ?_
                                                                                    refine zIadd 1574 (by decide +kernel) rfl ?_
                                                                                    obtain ⟨w578, F⟩ := F
                                                                                    refine zSaload 1575 (by decide +kernel) rfl (w578) ?_
                                                                                    refine zCallV 12 zcls12 mX12_count 192 1 0 0 _ _ 1578 [.int (G.2.2.2.2.2.2.2 (l4 + 1 : Int32).toNatClampNeg)] [.int (x576)] okX12_count mlL_192 imX12_count seX12_count (by decide +kernel) rfl rfl (Nat.le_of_ble_eq_true rfl) rfl rfl (Mod_0 S1_) (zC.mono F ?_)
                                                                                    rintro _ _ ⟨x579, I580, rfl, rfl, F⟩
                                                                                    change zV G (d + 1) mL_law (kc + 4) (ks + 300) 1578 [(0, .ref (G.2.2.2.2.2.1 3)), (1, .ref (x)), (2, .ref (m)), (3, .ref (o)), (4, .int (l4))] [.int (x579), .int (x576)] (I580, J, R, K, n) Q
                                                                                    refine zIcmp_eq 5 1583 1581 (by decide +kernel) rfl rfl ⟨fun q581 => ?_, fun q581 => ?_⟩
                                                                                    · replace F := F.1 q581
                                                                                      refine zIinc 4 6 4 (l4 + 6) [(4, .int (l4 + 6)), (0, .ref (G.2.2.2.2.2.1 3)), (1, .ref (x)), (2, .ref (m)), (3, .ref (o))] 1586 (by decide +kernel) rfl rfl (by rfl) (by decide) rfl ?_
                                                                                      refine zGoto (-1563) 23 (by decide +kernel) rfl ?_
                                                                                      exact zLoc [1, 2, 3, 4, 0] _ rfl F
                                                                                    · replace F := F.2 q581
                                                                                      refine zIconst 0 0 1582 (by decide +kernel) rfl (by decide) ?_
                                                                                      exact zZret .boolean rfl (zNarZ (Or.inl rfl)) (by decide +kernel) F
                                                                                  · skip
                                                                                    replace F := F.2.2.2.2.2.2.2.2.2.2.2.2.2.2.2.2.2.2.2.2.2.2.2.2.2.2.2.2.2.2.2.2.2.2.2.2.2.2.2.2 q3 q19 q27 q54 q84 q110 q130 q147 q155 q173 q183 q191 q203 q211 q219 q225 q248 q254 q264 q276 q296 q314 q334 q352 q372 q390 q404 q424 q442 q448 q458 q468 q494 q516 q536 q546 q554 q562 q568 q574
                                                                                    have zq3 := zNeT q3 (show (0 : Int32).toInt = 0 by decide)
                                                                                    have zq19 := zNeT q19 (show (1 : Int32).toInt = 1 by decide)
                                                                                    have zq27 := zNeT q27 (show (2 : Int32).toInt = 2 by decide)
                                                                                    have zq54 := zNeT q54 (show (3 : Int32).toInt = 3 by decide)
                                                                                    have zq84 := zNeT q84 (show (4 : Int32).toInt = 4 by decide)
                                                                                    have zq110 := zNeT q110 (show (5 : Int32).toInt = 5 by decide)
                                                                                    have zq130 := zNeT q130 (show (6 : Int32).toInt = 6 by decide)
                                                                                    have zq147 := zNeT q147 (show (7 : Int32).toInt = 7 by decide)
                                                                                    have zq155 := zNeT q155 (show (8 : Int32).toInt = 8 by decide)
                                                                                    have zq173 := zNeT q173 (show (9 : Int32).toInt = 9 by decide)
                                                                                    have zq183 := zNeT q183 (show (10 : Int32).toInt = 10 by decide)
                                                                                    have zq191 := zNeT q191 (show (11 : Int32).toInt = 11 by decide)
                                                                                    have zq203 := zNeT q203 (show (12 : Int32).toInt = 12 by decide)
                                                                                    have zq211 := zNeT q211 (show (13 : Int32).toInt = 13 by decide)
                                                                                    have zq219 := zNeT q219 (show (14 : Int32).toInt = 14 by decide)
                                                                                    have zq225 := zNeT q225 (show (15 : Int32).toInt = 15 by decide)
                                                                                    have zq248 := zNeT q248 (show (16 : Int32).toInt = 16 by decide)
                                                                                    have zq254 := zNeT q254 (show (17 : Int32).toInt = 17 by decide)
                                                                                    have zq264 := zNeT q264 (show (18 : Int32).toInt = 18 by decide)
                                                                                    have zq276 := zNeT q276 (show (19 : Int32).toInt = 19 by decide)
                                                                                    have zq296 := zNeT q296 (show (20 : Int32).toInt = 20 by decide)
                                                                                    have zq314 := zNeT q314 (show (21 : Int32).toInt = 21 by decide)
                                                                                    have zq334 := zNeT q334 (show (22 : Int32).toInt = 22 by decide)
                                                                                    have zq352 := zNeT q352 (show (23 : Int32).toInt = 23 by decide)
                                                                                    have zq372 := zNeT q372 (show (24 : Int32).toInt = 24 by decide)
                                                                                    have zq390 := zNeT q390 (show (25 : Int32).toInt = 25 by decide)
                                                                                    have zq404 := zNeT q404 (show (26 : Int32).toInt = 26 by decide)
                                                                                    have zq424 := zNeT q424 (show (27 : Int32).toInt = 27 by decide)
                                                                                    have zq442 := zNeT q442 (show (28 : Int32).toInt = 28 by decide)
                                                                                    have zq448 := zNeT q448 (show (29 : Int32).toInt = 29 by decide)
                                                                                    have zq458 := zNeT q458 (show (30 : Int32).toInt = 30 by decide)
                                                                                    have zq468 := zNeT q468 (show (31 : Int32).toInt = 31 by decide)
                                                                                    have zq494 := zNeT q494 (show (32 : Int32).toInt = 32 by decide)
                                                                                    have zq516 := zNeT q516 (show (33 : Int32).toInt = 33 by decide)
                                                                                    have zq536 := zNeT q536 (show (34 : Int32).toInt = 34 by decide)
                                                                                    have zq546 := zNeT q546 (show (35 : Int32).toInt = 35 by decide)
                                                                                    have zq554 := zNeT q554 (show (36 : Int32).toInt = 36 by decide)
                                                                                    have zq562 := zNeT q562 (show (37 : Int32).toInt = 37 by decide)
                                                                                    have zq568 := zNeT q568 (show (38 : Int32).toInt = 38 by decide)
                                                                                    have zq574 := zNeT q574 (show (39 : Int32).toInt = 39 by decide)
                                                                                    refine zTableOut 1543 0 39 #[176, 249, 274, 299, 324, 392, 429, 454, 479, 504, 541, 566, 615, 640, 665, 678, 747, 760, 797, 846, 883, 908, 945, 970, 1007, 1032, 1097, 1134, 1159, 1172, 1209, 1246, 1319, 1368, 1405, 1442, 1467, 1492, 1505, 1518] 176 1583 (by decide +kernel) (by omega) rfl ?_
                                                                                    refine zIinc 4 6 4 (l4 + 6) [(4, .int (l4 + 6)), (0, .ref (G.2.2.2.2.2.1 3)), (1, .ref (x)), (2, .ref (m)), (3, .ref (o))] 1586 (by decide +kernel) rfl rfl (by rfl) (by decide) rfl ?_
                                                                                    refine zGoto (-1563) 23 (by decide +kernel) rfl ?_
                                                                                    exact zLoc [1, 2, 3, 4, 0] _ rfl F
