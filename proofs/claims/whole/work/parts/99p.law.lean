/-! THE LAW, its loop: text may change the longs -/
set_option maxHeartbeats 20000000 in
set_option maxRecDepth 100000 in
theorem wM_law_23 {G : zG} {d kc ks : Nat} {I : Nat → Nat → Int32} {J : Nat → Nat → Int64} {R : Nat → Nat → Option Nat} {K : Nat → Nat × Nat} {n : Nat} {Q : Option Value → zH → Prop} (x v w q m t c o : Nat) (S0_ : hX G R K n x v w q) (S1_ : hMod G R K n m t c) (S2_ : hOut G R K n o) (l4 : Int32) (F : ((((nI G.2.2.2.2.2.2.1) - 6 : Int32) < l4 → Q (some (.int (1))) (I, J, R, K, n)) ∧ (¬ (((nI G.2.2.2.2.2.2.1) - 6 : Int32) < l4) → ((vp_in l4 G.2.2.2.2.2.2.1) ∧ ((((G.2.2.2.2.2.2.2 l4.toNatClampNeg) &&& 63) = 0 → ((vp_in (l4 + 1) G.2.2.2.2.2.2.1) ∧ ((vp_in (l4 + 2) G.2.2.2.2.2.2.1) ∧ ((vp_in (l4 + 3) G.2.2.2.2.2.2.1) ∧ ((vp_in (l4 + 4) G.2.2.2.2.2.2.1) ∧ ((vp_in (l4 + 5) G.2.2.2.2.2.2.1) ∧ zC G d mX11_feed 0 0 [.ref (x), .int (G.2.2.2.2.2.2.2 (l4 + 1 : Int32).toNatClampNeg), .int (G.2.2.2.2.2.2.2 (l4 + 2 : Int32).toNatClampNeg), .int (G.2.2.2.2.2.2.2 (l4 + 3 : Int32).toNatClampNeg), .int (G.2.2.2.2.2.2.2 (l4 + 4 : Int32).toNatClampNeg), .int (G.2.2.2.2.2.2.2 (l4 + 5 : Int32).toNatClampNeg)] (I, J, R, K, n) (fun r h => ∃ (x9 : Int32) (I10 : Nat → Nat → Int32), r = some (.int x9) ∧ h = (I10, J, R, K, n) ∧ ((vp_in (l4 + 1) G.2.2.2.2.2.2.1) ∧ ((vp_in (l4 + 2) G.2.2.2.2.2.2.1) ∧ ((vp_in (l4 + 3) G.2.2.2.2.2.2.1) ∧ ((vp_in (l4 + 4) G.2.2.2.2.2.2.1) ∧ ((vp_in (l4 + 5) G.2.2.2.2.2.2.1) ∧ zC G d mX12_feed 0 0 [.ref (m), .int (G.2.2.2.2.2.2.2 (l4 + 1 : Int32).toNatClampNeg), .int (G.2.2.2.2.2.2.2 (l4 + 2 : Int32).toNatClampNeg), .int (G.2.2.2.2.2.2.2 (l4 + 3 : Int32).toNatClampNeg), .int (G.2.2.2.2.2.2.2 (l4 + 4 : Int32).toNatClampNeg), .int (G.2.2.2.2.2.2.2 (l4 + 5 : Int32).toNatClampNeg)] (I10, J, R, K, n) (fun r h => ∃ (x16 : Int32) (I17 : Nat → Nat → Int32), r = some (.int x16) ∧ h = (I17, J, R, K, n) ∧ ((x9 = x16 → zV G (d + 1) mL_law (kc + 4) (ks + 300) 23 [(0, .ref (G.2.2.2.2.2.1 3)), (1, .ref (x)), (2, .ref (m)), (3, .ref (o)), (4, .int (l4 + 6))] [] (I17, J, R, K, n) Q) ∧ (¬ (x9 = x16) → Q (some (.int (0))) (I17, J, R, K, n)))))))))))))))) ∧ (((G.2.2.2.2.2.2.2 l4.toNatClampNeg) &&& 63) = 1 → ((vp_in (l4 + 1) G.2.2.2.2.2.2.1) ∧ zC G d mX11_end 0 0 [.ref (x), .int (G.2.2.2.2.2.2.2 (l4 + 1 : Int32).toNatClampNeg)] (I, J, R, K, n) (fun r h => ∃ (x21 : Int32) (I22 : Nat → Nat → Int32), r = some (.int x21) ∧ h = (I22, J, R, K, n) ∧ ((vp_in (l4 + 1) G.2.2.2.2.2.2.1) ∧ zC G d mX12_end 0 0 [.ref (m), .int (G.2.2.2.2.2.2.2 (l4 + 1 : Int32).toNatClampNeg)] (I22, J, R, K, n) (fun r h => ∃ (x24 : Int32) (I25 : Nat → Nat → Int32), r = some (.int x24) ∧ h = (I25, J, R, K, n) ∧ ((x21 = x24 → zV G (d + 1) mL_law (kc + 4) (ks + 300) 23 [(0, .ref (G.2.2.2.2.2.1 3)), (1, .ref (x)), (2, .ref (m)), (3, .ref (o)), (4, .int (l4 + 6))] [] (I25, J, R, K, n) Q) ∧ (¬ (x21 = x24) → Q (some (.int (0))) (I25, J, R, K, n)))))))) ∧ (((G.2.2.2.2.2.2.2 l4.toNatClampNeg) &&& 63) = 2 → ((vp_in (l4 + 1) G.2.2.2.2.2.2.1) ∧ zC G d mX11_fault 0 0 [.ref (x), .int (G.2.2.2.2.2.2.2 (l4 + 1 : Int32).toNatClampNeg)] (I, J, R, K, n) (fun r h => ∃ (x29 : Int32) (I30 : Nat → Nat → Int32) (J31 : Nat → Nat → Int64) (R32 : Nat → Nat → Option Nat), r = some (.int x29) ∧ h = (I30, J31, R32, K, n) ∧ ∃ u33 u34 u35 : Nat, hX G R32 K n x u33 u34 u35 ∧ ∃ u37 u38 : Nat, hMod G R32 K n m u37 u38 ∧ hOut G R32 K n o ∧ ((vp_in (l4 + 1) G.2.2.2.2.2.2.1) ∧ zC G d mX12_fault 0 0 [.ref (m), .int (G.2.2.2.2.2.2.2 (l4 + 1 : Int32).toNatClampNeg)] (I30, J31, R32, K, n) (fun r h => ∃ (x42 : Int32) (I43 : Nat → Nat → Int32) (J44 : Nat → Nat → Int64) (R45 : Nat → Nat → Option Nat), r = some (.int x42) ∧ h = (I43, J44, R45, K, n) ∧ ∃ u46 u47 u48 : Nat, hX G R45 K n x u46 u47 u48 ∧ ∃ u50 u51 : Nat, hMod G R45 K n m u50 u51 ∧ hOut G R45 K n o ∧ ((x29 = x42 → zV G (d + 1) mL_law (kc + 4) (ks + 300) 23 [(0, .ref (G.2.2.2.2.2.1 3)), (1, .ref (x)), (2, .ref (m)), (3, .ref (o)), (4, .int (l4 + 6))] [] (I43, J44, R45, K, n) Q) ∧ (¬ (x29 = x42) → Q (some (.int (0))) (I43, J44, R45, K, n)))))))) ∧ (((G.2.2.2.2.2.2.2 l4.toNatClampNeg) &&& 63) = 3 → ((vp_in (l4 + 1) G.2.2.2.2.2.2.1) ∧ zC G d mX11_text 4 300 [.ref (x), .int (G.2.2.2.2.2.2.2 (l4 + 1 : Int32).toNatClampNeg)] (I, J, R, K, n) (fun r h => ∃ (x57 : Int32) (I58 : Nat → Nat → Int32) (J59 : Nat → Nat → Int64) (R60 : Nat → Nat → Option Nat) (K61 : Nat → Nat × Nat) (n62 : Nat), r = some (.int x57) ∧ h = (I58, J59, R60, K61, n62) ∧ ∃ u63 u64 u65 : Nat, hX G R60 K61 n62 x u63 u64 u65 ∧ ∃ u67 u68 : Nat, hMod G R60 K61 n62 m u67 u68 ∧ hOut G R60 K61 n62 o ∧ ((vp_in (l4 + 1) G.2.2.2.2.2.2.1) ∧ zC G d mX12_text 0 0 [.ref (m), .int (G.2.2.2.2.2.2.2 (l4 + 1 : Int32).toNatClampNeg)] (I58, J59, R60, K61, n62) (fun r h => ∃ (x72 : Int32) (I73 : Nat → Nat → Int32) (J74 : Nat → Nat → Int64) (R75 : Nat → Nat → Option Nat), r = some (.int x72) ∧ h = (I73, J74, R75, K61, n62) ∧ ∃ u76 u77 u78 : Nat, hX G R75 K61 n62 x u76 u77 u78 ∧ ∃ u80 u81 : Nat, hMod G R75 K61 n62 m u80 u81 ∧ hOut G R75 K61 n62 o ∧ ((x57 = x72 → zV G (d + 1) mL_law kc ks 23 [(0, .ref (G.2.2.2.2.2.1 3)), (1, .ref (x)), (2, .ref (m)), (3, .ref (o)), (4, .int (l4 + 6))] [] (I73, J74, R75, K61, n62) Q) ∧ (¬ (x57 = x72) → Q (some (.int (0))) (I73, J74, R75, K61, n62)))))))) ∧ (((G.2.2.2.2.2.2.2 l4.toNatClampNeg) &&& 63) = 4 → ((vp_in (l4 + 1) G.2.2.2.2.2.2.1) ∧ ((vp_in (l4 + 2) G.2.2.2.2.2.2.1) ∧ zCF G d 1 6 [.ref (x), .int (G.2.2.2.2.2.2.2 (l4 + 1 : Int32).toNatClampNeg), .int (G.2.2.2.2.2.2.2 (l4 + 2 : Int32).toNatClampNeg), .ref (o)] (I, J, R, K, n) (fun r h => ∃ (x88 : Int32) (I89 : Nat → Nat → Int32) (J90 : Nat → Nat → Int64) (K91 : Nat → Nat × Nat) (n92 : Nat), r = some (.int x88) ∧ h = (I89, J90, R, K91, n92) ∧ ∃ u93 u94 u95 : Nat, hX G R K91 n92 x u93 u94 u95 ∧ ∃ u97 u98 : Nat, hMod G R K91 n92 m u97 u98 ∧ hOut G R K91 n92 o ∧ ((vp_in (l4 + 1) G.2.2.2.2.2.2.1) ∧ ((vp_in (l4 + 2) G.2.2.2.2.2.2.1) ∧ zC G d mX12_farm 0 0 [.ref (m), .int (G.2.2.2.2.2.2.2 (l4 + 1 : Int32).toNatClampNeg), .int (G.2.2.2.2.2.2.2 (l4 + 2 : Int32).toNatClampNeg)] (I89, J90, R, K91, n92) (fun r h => ∃ (x103 : Int32) (I104 : Nat → Nat → Int32), r = some (.int x103) ∧ h = (I104, J90, R, K91, n92) ∧ zC G d mX12_thrown 0 0 [.ref (m)] (I104, J90, R, K91, n92) (fun r h => ∃ (x105 : Int32) (I106 : Nat → Nat → Int32), r = some (.int x105) ∧ h = (I106, J90, R, K91, n92) ∧ ((x105 = x88 → ((x88 = 0 → ((vp_in 0 1) ∧ (((lg_cmp (J90 o (0 : Int32).toNatClampNeg) x103.toInt64 : Int32) = 0 → zV G (d + 1) mL_law (kc + 3) (ks + 294) 23 [(0, .ref (G.2.2.2.2.2.1 3)), (1, .ref (x)), (2, .ref (m)), (3, .ref (o)), (4, .int (l4 + 6))] [] (I106, J90, R, K91, n92) Q) ∧ (¬ ((lg_cmp (J90 o (0 : Int32).toNatClampNeg) x103.toInt64 : Int32) = 0) → Q (some (.int (0))) (I106, J90, R, K91, n92))))) ∧ (¬ (x88 = 0) → zV G (d + 1) mL_law (kc + 3) (ks + 294) 23 [(0, .ref (G.2.2.2.2.2.1 3)), (1, .ref (x)), (2, .ref (m)), (3, .ref (o)), (4, .int (l4 + 6))] [] (I106, J90, R, K91, n92) Q))) ∧ (¬ (x105 = x88) → Q (some (.int (0))) (I106, J90, R, K91, n92))))))))))) ∧ (((G.2.2.2.2.2.2.2 l4.toNatClampNeg) &&& 63) = 5 → ((vp_in (l4 + 1) G.2.2.2.2.2.2.1) ∧ ((vp_in (l4 + 2) G.2.2.2.2.2.2.1) ∧ zC G d mX11_wrong 0 0 [.ref (x), .int (G.2.2.2.2.2.2.2 (l4 + 1 : Int32).toNatClampNeg), .int (G.2.2.2.2.2.2.2 (l4 + 2 : Int32).toNatClampNeg)] (I, J, R, K, n) (fun r h => ∃ (x114 : Int32) (I115 : Nat → Nat → Int32), r = some (.int x114) ∧ h = (I115, J, R, K, n) ∧ ((vp_in (l4 + 1) G.2.2.2.2.2.2.1) ∧ ((vp_in (l4 + 2) G.2.2.2.2.2.2.1) ∧ zC G d mX12_wrong 0 0 [.ref (m), .int (G.2.2.2.2.2.2.2 (l4 + 1 : Int32).toNatClampNeg), .int (G.2.2.2.2.2.2.2 (l4 + 2 : Int32).toNatClampNeg)] (I115, J, R, K, n) (fun r h => ∃ (x118 : Int32) (I119 : Nat → Nat → Int32) (J120 : Nat → Nat → Int64) (R121 : Nat → Nat → Option Nat), r = some (.int x118) ∧ h = (I119, J120, R121, K, n) ∧ ∃ u122 u123 u124 : Nat, hX G R121 K n x u122 u123 u124 ∧ ∃ u126 u127 : Nat, hMod G R121 K n m u126 u127 ∧ hOut G R121 K n o ∧ ((x114 = x118 → zV G (d + 1) mL_law (kc + 4) (ks + 300) 23 [(0, .ref (G.2.2.2.2.2.1 3)), (1, .ref (x)), (2, .ref (m)), (3, .ref (o)), (4, .int (l4 + 6))] [] (I119, J120, R121, K, n) Q) ∧ (¬ (x114 = x118) → Q (some (.int (0))) (I119, J120, R121, K, n)))))))))) ∧ (((G.2.2.2.2.2.2.2 l4.toNatClampNeg) &&& 63) = 6 → ((vp_in (l4 + 1) G.2.2.2.2.2.2.1) ∧ zC G d mX11_law 0 0 [.ref (x), .int (G.2.2.2.2.2.2.2 (l4 + 1 : Int32).toNatClampNeg)] (I, J, R, K, n) (fun r h => ∃ (x133 : Int32) (I134 : Nat → Nat → Int32) (J135 : Nat → Nat → Int64) (R136 : Nat → Nat → Option Nat), r = some (.int x133) ∧ h = (I134, J135, R136, K, n) ∧ ∃ u137 u138 u139 : Nat, hX G R136 K n x u137 u138 u139 ∧ ∃ u141 u142 : Nat, hMod G R136 K n m u141 u142 ∧ hOut G R136 K n o ∧ ((vp_in (l4 + 1) G.2.2.2.2.2.2.1) ∧ zC G d mX12_law 0 0 [.ref (m), .int (G.2.2.2.2.2.2.2 (l4 + 1 : Int32).toNatClampNeg)] (I134, J135, R136, K, n) (fun r h => ∃ (x146 : Int32) (I147 : Nat → Nat → Int32), r = some (.int x146) ∧ h = (I147, J135, R136, K, n) ∧ ((x133 = x146 → zV G (d + 1) mL_law (kc + 4) (ks + 300) 23 [(0, .ref (G.2.2.2.2.2.1 3)), (1, .ref (x)), (2, .ref (m)), (3, .ref (o)), (4, .int (l4 + 6))] [] (I147, J135, R136, K, n) Q) ∧ (¬ (x133 = x146) → Q (some (.int (0))) (I147, J135, R136, K, n)))))))) ∧ (((G.2.2.2.2.2.2.2 l4.toNatClampNeg) &&& 63) = 7 → ((vp_in (l4 + 1) G.2.2.2.2.2.2.1) ∧ zC G d mX11_apples 0 0 [.ref (x), .int (G.2.2.2.2.2.2.2 (l4 + 1 : Int32).toNatClampNeg)] (I, J, R, K, n) (fun r h => ∃ (x151 : Int32) (I152 : Nat → Nat → Int32), r = some (.int x151) ∧ h = (I152, J, R, K, n) ∧ ((vp_in (l4 + 1) G.2.2.2.2.2.2.1) ∧ zC G d mX12_apples 0 0 [.ref (m), .int (G.2.2.2.2.2.2.2 (l4 + 1 : Int32).toNatClampNeg)] (I152, J, R, K, n) (fun r h => ∃ (x154 : Int32) (I155 : Nat → Nat → Int32), r = some (.int x154) ∧ h = (I155, J, R, K, n) ∧ ((x151 = x154 → zV G (d + 1) mL_law (kc + 4) (ks + 300) 23 [(0, .ref (G.2.2.2.2.2.1 3)), (1, .ref (x)), (2, .ref (m)), (3, .ref (o)), (4, .int (l4 + 6))] [] (I155, J, R, K, n) Q) ∧ (¬ (x151 = x154) → Q (some (.int (0))) (I155, J, R, K, n)))))))) ∧ (((G.2.2.2.2.2.2.2 l4.toNatClampNeg) &&& 63) = 8 → ((vp_in (l4 + 1) G.2.2.2.2.2.2.1) ∧ zC G d mX11_forgive 0 0 [.ref (x), .int (G.2.2.2.2.2.2.2 (l4 + 1 : Int32).toNatClampNeg)] (I, J, R, K, n) (fun r h => ∃ (x159 : Int32) (I160 : Nat → Nat → Int32), r = some (.int x159) ∧ h = (I160, J, R, K, n) ∧ ((vp_in (l4 + 1) G.2.2.2.2.2.2.1) ∧ zC G d mX12_forgive 0 0 [.ref (m), .int (G.2.2.2.2.2.2.2 (l4 + 1 : Int32).toNatClampNeg)] (I160, J, R, K, n) (fun r h => ∃ (x162 : Int32) (I163 : Nat → Nat → Int32) (J164 : Nat → Nat → Int64) (R165 : Nat → Nat → Option Nat), r = some (.int x162) ∧ h = (I163, J164, R165, K, n) ∧ ∃ u166 u167 u168 : Nat, hX G R165 K n x u166 u167 u168 ∧ ∃ u170 u171 : Nat, hMod G R165 K n m u170 u171 ∧ hOut G R165 K n o ∧ ((x159 = x162 → zV G (d + 1) mL_law (kc + 4) (ks + 300) 23 [(0, .ref (G.2.2.2.2.2.1 3)), (1, .ref (x)), (2, .ref (m)), (3, .ref (o)), (4, .int (l4 + 6))] [] (I163, J164, R165, K, n) Q) ∧ (¬ (x159 = x162) → Q (some (.int (0))) (I163, J164, R165, K, n)))))))) ∧ (((G.2.2.2.2.2.2.2 l4.toNatClampNeg) &&& 63) = 9 → ((vp_in (l4 + 1) G.2.2.2.2.2.2.1) ∧ ((vp_in (l4 + 2) G.2.2.2.2.2.2.1) ∧ zC G d mX11_paint 0 0 [.ref (x), .int (G.2.2.2.2.2.2.2 (l4 + 1 : Int32).toNatClampNeg), .int (G.2.2.2.2.2.2.2 (l4 + 2 : Int32).toNatClampNeg)] (I, J, R, K, n) (fun r h => ∃ (x178 : Int32) (I179 : Nat → Nat → Int32), r = some (.int x178) ∧ h = (I179, J, R, K, n) ∧ ((vp_in (l4 + 1) G.2.2.2.2.2.2.1) ∧ ((vp_in (l4 + 2) G.2.2.2.2.2.2.1) ∧ zC G d mX12_paint 0 0 [.ref (m), .int (G.2.2.2.2.2.2.2 (l4 + 1 : Int32).toNatClampNeg), .int (G.2.2.2.2.2.2.2 (l4 + 2 : Int32).toNatClampNeg)] (I179, J, R, K, n) (fun r h => ∃ (x182 : Int32) (I183 : Nat → Nat → Int32), r = some (.int x182) ∧ h = (I183, J, R, K, n) ∧ ((x178 = x182 → zV G (d + 1) mL_law (kc + 4) (ks + 300) 23 [(0, .ref (G.2.2.2.2.2.1 3)), (1, .ref (x)), (2, .ref (m)), (3, .ref (o)), (4, .int (l4 + 6))] [] (I183, J, R, K, n) Q) ∧ (¬ (x178 = x182) → Q (some (.int (0))) (I183, J, R, K, n)))))))))) ∧ (((G.2.2.2.2.2.2.2 l4.toNatClampNeg) &&& 63) = 10 → ((vp_in (l4 + 1) G.2.2.2.2.2.2.1) ∧ zC G d mX11_inspect 0 0 [.ref (x), .int (G.2.2.2.2.2.2.2 (l4 + 1 : Int32).toNatClampNeg)] (I, J, R, K, n) (fun r h => ∃ (x187 : Int32) (I188 : Nat → Nat → Int32), r = some (.int x187) ∧ h = (I188, J, R, K, n) ∧ ((vp_in (l4 + 1) G.2.2.2.2.2.2.1) ∧ zC G d mX12_inspect 0 0 [.ref (m), .int (G.2.2.2.2.2.2.2 (l4 + 1 : Int32).toNatClampNeg)] (I188, J, R, K, n) (fun r h => ∃ (x190 : Int32) (I191 : Nat → Nat → Int32), r = some (.int x190) ∧ h = (I191, J, R, K, n) ∧ ((x187 = x190 → zV G (d + 1) mL_law (kc + 4) (ks + 300) 23 [(0, .ref (G.2.2.2.2.2.1 3)), (1, .ref (x)), (2, .ref (m)), (3, .ref (o)), (4, .int (l4 + 6))] [] (I191, J, R, K, n) Q) ∧ (¬ (x187 = x190) → Q (some (.int (0))) (I191, J, R, K, n)))))))) ∧ (((G.2.2.2.2.2.2.2 l4.toNatClampNeg) &&& 63) = 11 → ((vp_in (l4 + 1) G.2.2.2.2.2.2.1) ∧ ((vp_in (l4 + 2) G.2.2.2.2.2.2.1) ∧ ((vp_in (l4 + 3) G.2.2.2.2.2.2.1) ∧ zC G d mX11_sin 0 0 [.ref (x), .int (G.2.2.2.2.2.2.2 (l4 + 1 : Int32).toNatClampNeg), .int (G.2.2.2.2.2.2.2 (l4 + 2 : Int32).toNatClampNeg), .int (G.2.2.2.2.2.2.2 (l4 + 3 : Int32).toNatClampNeg)] (I, J, R, K, n) (fun r h => ∃ (x197 : Int32) (I198 : Nat → Nat → Int32), r = some (.int x197) ∧ h = (I198, J, R, K, n) ∧ ((vp_in (l4 + 1) G.2.2.2.2.2.2.1) ∧ ((vp_in (l4 + 2) G.2.2.2.2.2.2.1) ∧ ((vp_in (l4 + 3) G.2.2.2.2.2.2.1) ∧ zC G d mX12_sin 0 0 [.ref (m), .int (G.2.2.2.2.2.2.2 (l4 + 1 : Int32).toNatClampNeg), .int (G.2.2.2.2.2.2.2 (l4 + 2 : Int32).toNatClampNeg), .int (G.2.2.2.2.2.2.2 (l4 + 3 : Int32).toNatClampNeg)] (I198, J, R, K, n) (fun r h => ∃ (x202 : Int32) (I203 : Nat → Nat → Int32), r = some (.int x202) ∧ h = (I203, J, R, K, n) ∧ ((x197 = x202 → zV G (d + 1) mL_law (kc + 4) (ks + 300) 23 [(0, .ref (G.2.2.2.2.2.1 3)), (1, .ref (x)), (2, .ref (m)), (3, .ref (o)), (4, .int (l4 + 6))] [] (I203, J, R, K, n) Q) ∧ (¬ (x197 = x202) → Q (some (.int (0))) (I203, J, R, K, n)))))))))))) ∧ (((G.2.2.2.2.2.2.2 l4.toNatClampNeg) &&& 63) = 12 → ((vp_in (l4 + 1) G.2.2.2.2.2.2.1) ∧ zC G d mX11_buy 0 0 [.ref (x), .int (G.2.2.2.2.2.2.2 (l4 + 1 : Int32).toNatClampNeg)] (I, J, R, K, n) (fun r h => ∃ (x207 : Int32) (I208 : Nat → Nat → Int32), r = some (.int x207) ∧ h = (I208, J, R, K, n) ∧ ((vp_in (l4 + 1) G.2.2.2.2.2.2.1) ∧ zC G d mX12_buy 0 0 [.ref (m), .int (G.2.2.2.2.2.2.2 (l4 + 1 : Int32).toNatClampNeg)] (I208, J, R, K, n) (fun r h => ∃ (x210 : Int32) (I211 : Nat → Nat → Int32), r = some (.int x210) ∧ h = (I211, J, R, K, n) ∧ ((x207 = x210 → zV G (d + 1) mL_law (kc + 4) (ks + 300) 23 [(0, .ref (G.2.2.2.2.2.1 3)), (1, .ref (x)), (2, .ref (m)), (3, .ref (o)), (4, .int (l4 + 6))] [] (I211, J, R, K, n) Q) ∧ (¬ (x207 = x210) → Q (some (.int (0))) (I211, J, R, K, n)))))))) ∧ (((G.2.2.2.2.2.2.2 l4.toNatClampNeg) &&& 63) = 13 → ((vp_in (l4 + 1) G.2.2.2.2.2.2.1) ∧ zC G d mX11_give 0 0 [.ref (x), .int (G.2.2.2.2.2.2.2 (l4 + 1 : Int32).toNatClampNeg)] (I, J, R, K, n) (fun r h => ∃ (x215 : Int32) (I216 : Nat → Nat → Int32), r = some (.int x215) ∧ h = (I216, J, R, K, n) ∧ ((vp_in (l4 + 1) G.2.2.2.2.2.2.1) ∧ zC G d mX12_give 0 0 [.ref (m), .int (G.2.2.2.2.2.2.2 (l4 + 1 : Int32).toNatClampNeg)] (I216, J, R, K, n) (fun r h => ∃ (x218 : Int32) (I219 : Nat → Nat → Int32), r = some (.int x218) ∧ h = (I219, J, R, K, n) ∧ ((x215 = x218 → zV G (d + 1) mL_law (kc + 4) (ks + 300) 23 [(0, .ref (G.2.2.2.2.2.1 3)), (1, .ref (x)), (2, .ref (m)), (3, .ref (o)), (4, .int (l4 + 6))] [] (I219, J, R, K, n) Q) ∧ (¬ (x215 = x218) → Q (some (.int (0))) (I219, J, R, K, n)))))))) ∧ (((G.2.2.2.2.2.2.2 l4.toNatClampNeg) &&& 63) = 14 → zC G d mX11_day 0 0 [.ref (x)] (I, J, R, K, n) (fun r h => ∃ (x222 : Int32) (I223 : Nat → Nat → Int32), r = some (.int x222) ∧ h = (I223, J, R, K, n) ∧ zC G d mX12_day 0 0 [.ref (m)] (I223, J, R, K, n) (fun r h => ∃ (x224 : Int32) (I225 : Nat → Nat → Int32), r = some (.int x224) ∧ h = (I225, J, R, K, n) ∧ ((x222 = x224 → zV G (d + 1) mL_law (kc + 4) (ks + 300) 23 [(0, .ref (G.2.2.2.2.2.1 3)), (1, .ref (x)), (2, .ref (m)), (3, .ref (o)), (4, .int (l4 + 6))] [] (I225, J, R, K, n) Q) ∧ (¬ (x222 = x224) → Q (some (.int (0))) (I225, J, R, K, n)))))) ∧ (((G.2.2.2.2.2.2.2 l4.toNatClampNeg) &&& 63) = 15 → ((vp_in (l4 + 1) G.2.2.2.2.2.2.1) ∧ ((vp_in (l4 + 2) G.2.2.2.2.2.2.1) ∧ ((vp_in (l4 + 3) G.2.2.2.2.2.2.1) ∧ zC G d mX11_years 0 0 [.ref (x), .int (G.2.2.2.2.2.2.2 (l4 + 1 : Int32).toNatClampNeg), .long ((((G.2.2.2.2.2.2.2 (l4 + 2 : Int32).toNatClampNeg : Int32).toInt64 : Int64) <<< ((32 : Int32).toInt64 &&& 63)) ||| (((G.2.2.2.2.2.2.2 (l4 + 3 : Int32).toNatClampNeg : Int32).toInt64) &&& 4294967295))] (I, J, R, K, n) (fun r h => ∃ (x231 : Int32) (I232 : Nat → Nat → Int32) (J233 : Nat → Nat → Int64) (R234 : Nat → Nat → Option Nat), r = some (.int x231) ∧ h = (I232, J233, R234, K, n) ∧ ∃ u235 u236 u237 : Nat, hX G R234 K n x u235 u236 u237 ∧ ∃ u239 u240 : Nat, hMod G R234 K n m u239 u240 ∧ hOut G R234 K n o ∧ ((vp_in (l4 + 1) G.2.2.2.2.2.2.1) ∧ ((vp_in (l4 + 2) G.2.2.2.2.2.2.1) ∧ ((vp_in (l4 + 3) G.2.2.2.2.2.2.1) ∧ zC G d mX12_years 0 0 [.ref (m), .int (G.2.2.2.2.2.2.2 (l4 + 1 : Int32).toNatClampNeg), .long ((((G.2.2.2.2.2.2.2 (l4 + 2 : Int32).toNatClampNeg : Int32).toInt64 : Int64) <<< ((32 : Int32).toInt64 &&& 63)) ||| (((G.2.2.2.2.2.2.2 (l4 + 3 : Int32).toNatClampNeg : Int32).toInt64) &&& 4294967295))] (I232, J233, R234, K, n) (fun r h => ∃ (x246 : Int32) (I247 : Nat → Nat → Int32) (J248 : Nat → Nat → Int64) (R249 : Nat → Nat → Option Nat), r = some (.int x246) ∧ h = (I247, J248, R249, K, n) ∧ ∃ u250 u251 u252 : Nat, hX G R249 K n x u250 u251 u252 ∧ ∃ u254 u255 : Nat, hMod G R249 K n m u254 u255 ∧ hOut G R249 K n o ∧ ((x231 = x246 → zV G (d + 1) mL_law (kc + 4) (ks + 300) 23 [(0, .ref (G.2.2.2.2.2.1 3)), (1, .ref (x)), (2, .ref (m)), (3, .ref (o)), (4, .int (l4 + 6))] [] (I247, J248, R249, K, n) Q) ∧ (¬ (x231 = x246) → Q (some (.int (0))) (I247, J248, R249, K, n)))))))))))) ∧ (((G.2.2.2.2.2.2.2 l4.toNatClampNeg) &&& 63) = 16 → zC G d mX11_undo 0 0 [.ref (x)] (I, J, R, K, n) (fun r h => ∃ (x260 : Int32) (I261 : Nat → Nat → Int32), r = some (.int x260) ∧ h = (I261, J, R, K, n) ∧ zC G d mX12_undo 0 0 [.ref (m)] (I261, J, R, K, n) (fun r h => ∃ (x262 : Int32) (I263 : Nat → Nat → Int32), r = some (.int x262) ∧ h = (I263, J, R, K, n) ∧ ((x260 = x262 → zV G (d + 1) mL_law (kc + 4) (ks + 300) 23 [(0, .ref (G.2.2.2.2.2.1 3)), (1, .ref (x)), (2, .ref (m)), (3, .ref (o)), (4, .int (l4 + 6))] [] (I263, J, R, K, n) Q) ∧ (¬ (x260 = x262) → Q (some (.int (0))) (I263, J, R, K, n)))))) ∧ (((G.2.2.2.2.2.2.2 l4.toNatClampNeg) &&& 63) = 17 → ((vp_in (l4 + 1) G.2.2.2.2.2.2.1) ∧ ((vp_in (l4 + 2) G.2.2.2.2.2.2.1) ∧ zC G d mX11_log 0 0 [.ref (x), .int (G.2.2.2.2.2.2.2 (l4 + 1 : Int32).toNatClampNeg), .int (G.2.2.2.2.2.2.2 (l4 + 2 : Int32).toNatClampNeg)] (I, J, R, K, n) (fun r h => ∃ (x268 : Int32) (I269 : Nat → Nat → Int32), r = some (.int x268) ∧ h = (I269, J, R, K, n) ∧ ((vp_in (l4 + 1) G.2.2.2.2.2.2.1) ∧ ((vp_in (l4 + 2) G.2.2.2.2.2.2.1) ∧ zC G d mX12_log 0 0 [.ref (m), .int (G.2.2.2.2.2.2.2 (l4 + 1 : Int32).toNatClampNeg), .int (G.2.2.2.2.2.2.2 (l4 + 2 : Int32).toNatClampNeg)] (I269, J, R, K, n) (fun r h => ∃ (x272 : Int32) (I273 : Nat → Nat → Int32), r = some (.int x272) ∧ h = (I273, J, R, K, n) ∧ ((x268 = x272 → zV G (d + 1) mL_law (kc + 4) (ks + 300) 23 [(0, .ref (G.2.2.2.2.2.1 3)), (1, .ref (x)), (2, .ref (m)), (3, .ref (o)), (4, .int (l4 + 6))] [] (I273, J, R, K, n) Q) ∧ (¬ (x268 = x272) → Q (some (.int (0))) (I273, J, R, K, n)))))))))) ∧ (((G.2.2.2.2.2.2.2 l4.toNatClampNeg) &&& 63) = 18 → ((vp_in (l4 + 1) G.2.2.2.2.2.2.1) ∧ ((vp_in (l4 + 2) G.2.2.2.2.2.2.1) ∧ ((vp_in (l4 + 3) G.2.2.2.2.2.2.1) ∧ zC G d mX11_step 0 0 [.ref (x), .int (G.2.2.2.2.2.2.2 (l4 + 1 : Int32).toNatClampNeg), .int (G.2.2.2.2.2.2.2 (l4 + 2 : Int32).toNatClampNeg), .int (G.2.2.2.2.2.2.2 (l4 + 3 : Int32).toNatClampNeg)] (I, J, R, K, n) (fun r h => ∃ (x279 : Int32) (I280 : Nat → Nat → Int32), r = some (.int x279) ∧ h = (I280, J, R, K, n) ∧ ((vp_in (l4 + 1) G.2.2.2.2.2.2.1) ∧ ((vp_in (l4 + 2) G.2.2.2.2.2.2.1) ∧ ((vp_in (l4 + 3) G.2.2.2.2.2.2.1) ∧ zC G d mX12_step 0 0 [.ref (m), .int (G.2.2.2.2.2.2.2 (l4 + 1 : Int32).toNatClampNeg), .int (G.2.2.2.2.2.2.2 (l4 + 2 : Int32).toNatClampNeg), .int (G.2.2.2.2.2.2.2 (l4 + 3 : Int32).toNatClampNeg)] (I280, J, R, K, n) (fun r h => ∃ (x284 : Int32) (I285 : Nat → Nat → Int32), r = some (.int x284) ∧ h = (I285, J, R, K, n) ∧ ((x279 = x284 → zV G (d + 1) mL_law (kc + 4) (ks + 300) 23 [(0, .ref (G.2.2.2.2.2.1 3)), (1, .ref (x)), (2, .ref (m)), (3, .ref (o)), (4, .int (l4 + 6))] [] (I285, J, R, K, n) Q) ∧ (¬ (x279 = x284) → Q (some (.int (0))) (I285, J, R, K, n)))))))))))) ∧ (((G.2.2.2.2.2.2.2 l4.toNatClampNeg) &&& 63) = 19 → ((vp_in (l4 + 1) G.2.2.2.2.2.2.1) ∧ ((vp_in (l4 + 2) G.2.2.2.2.2.2.1) ∧ zC G d mX11_run 0 0 [.ref (x), .int (G.2.2.2.2.2.2.2 (l4 + 1 : Int32).toNatClampNeg), .int (G.2.2.2.2.2.2.2 (l4 + 2 : Int32).toNatClampNeg)] (I, J, R, K, n) (fun r h => ∃ (x290 : Int32) (I291 : Nat → Nat → Int32), r = some (.int x290) ∧ h = (I291, J, R, K, n) ∧ ((vp_in (l4 + 1) G.2.2.2.2.2.2.1) ∧ ((vp_in (l4 + 2) G.2.2.2.2.2.2.1) ∧ zC G d mX12_run 0 0 [.ref (m), .int (G.2.2.2.2.2.2.2 (l4 + 1 : Int32).toNatClampNeg), .int (G.2.2.2.2.2.2.2 (l4 + 2 : Int32).toNatClampNeg)] (I291, J, R, K, n) (fun r h => ∃ (x294 : Int32) (I295 : Nat → Nat → Int32) (J296 : Nat → Nat → Int64) (R297 : Nat → Nat → Option Nat), r = some (.int x294) ∧ h = (I295, J296, R297, K, n) ∧ ∃ u298 u299 u300 : Nat, hX G R297 K n x u298 u299 u300 ∧ ∃ u302 u303 : Nat, hMod G R297 K n m u302 u303 ∧ hOut G R297 K n o ∧ ((x290 = x294 → zV G (d + 1) mL_law (kc + 4) (ks + 300) 23 [(0, .ref (G.2.2.2.2.2.1 3)), (1, .ref (x)), (2, .ref (m)), (3, .ref (o)), (4, .int (l4 + 6))] [] (I295, J296, R297, K, n) Q) ∧ (¬ (x290 = x294) → Q (some (.int (0))) (I295, J296, R297, K, n)))))))))) ∧ (((G.2.2.2.2.2.2.2 l4.toNatClampNeg) &&& 63) = 20 → ((vp_in (l4 + 1) G.2.2.2.2.2.2.1) ∧ zC G d mX11_perform 0 0 [.ref (x), .int (G.2.2.2.2.2.2.2 (l4 + 1 : Int32).toNatClampNeg)] (I, J, R, K, n) (fun r h => ∃ (x309 : Int32) (I310 : Nat → Nat → Int32), r = some (.int x309) ∧ h = (I310, J, R, K, n) ∧ ((vp_in (l4 + 1) G.2.2.2.2.2.2.1) ∧ zC G d mX12_perform 0 0 [.ref (m), .int (G.2.2.2.2.2.2.2 (l4 + 1 : Int32).toNatClampNeg)] (I310, J, R, K, n) (fun r h => ∃ (x312 : Int32) (I313 : Nat → Nat → Int32) (J314 : Nat → Nat → Int64) (R315 : Nat → Nat → Option Nat), r = some (.int x312) ∧ h = (I313, J314, R315, K, n) ∧ ∃ u316 u317 u318 : Nat, hX G R315 K n x u316 u317 u318 ∧ ∃ u320 u321 : Nat, hMod G R315 K n m u320 u321 ∧ hOut G R315 K n o ∧ ((x309 = x312 → zV G (d + 1) mL_law (kc + 4) (ks + 300) 23 [(0, .ref (G.2.2.2.2.2.1 3)), (1, .ref (x)), (2, .ref (m)), (3, .ref (o)), (4, .int (l4 + 6))] [] (I313, J314, R315, K, n) Q) ∧ (¬ (x309 = x312) → Q (some (.int (0))) (I313, J314, R315, K, n)))))))) ∧ (((G.2.2.2.2.2.2.2 l4.toNatClampNeg) &&& 63) = 21 → ((vp_in (l4 + 1) G.2.2.2.2.2.2.1) ∧ ((vp_in (l4 + 2) G.2.2.2.2.2.2.1) ∧ zC G d mX11_least 0 0 [.ref (x), .int (G.2.2.2.2.2.2.2 (l4 + 1 : Int32).toNatClampNeg), .int (G.2.2.2.2.2.2.2 (l4 + 2 : Int32).toNatClampNeg)] (I, J, R, K, n) (fun r h => ∃ (x328 : Int32) (I329 : Nat → Nat → Int32), r = some (.int x328) ∧ h = (I329, J, R, K, n) ∧ ((vp_in (l4 + 1) G.2.2.2.2.2.2.1) ∧ ((vp_in (l4 + 2) G.2.2.2.2.2.2.1) ∧ zC G d mX12_least 0 0 [.ref (m), .int (G.2.2.2.2.2.2.2 (l4 + 1 : Int32).toNatClampNeg), .int (G.2.2.2.2.2.2.2 (l4 + 2 : Int32).toNatClampNeg)] (I329, J, R, K, n) (fun r h => ∃ (x332 : Int32) (I333 : Nat → Nat → Int32) (J334 : Nat → Nat → Int64) (R335 : Nat → Nat → Option Nat), r = some (.int x332) ∧ h = (I333, J334, R335, K, n) ∧ ∃ u336 u337 u338 : Nat, hX G R335 K n x u336 u337 u338 ∧ ∃ u340 u341 : Nat, hMod G R335 K n m u340 u341 ∧ hOut G R335 K n o ∧ ((x328 = x332 → zV G (d + 1) mL_law (kc + 4) (ks + 300) 23 [(0, .ref (G.2.2.2.2.2.1 3)), (1, .ref (x)), (2, .ref (m)), (3, .ref (o)), (4, .int (l4 + 6))] [] (I333, J334, R335, K, n) Q) ∧ (¬ (x328 = x332) → Q (some (.int (0))) (I333, J334, R335, K, n)))))))))) ∧ (((G.2.2.2.2.2.2.2 l4.toNatClampNeg) &&& 63) = 22 → ((vp_in (l4 + 1) G.2.2.2.2.2.2.1) ∧ zC G d mX11_every 0 0 [.ref (x), .int (G.2.2.2.2.2.2.2 (l4 + 1 : Int32).toNatClampNeg)] (I, J, R, K, n) (fun r h => ∃ (x347 : Int32) (I348 : Nat → Nat → Int32), r = some (.int x347) ∧ h = (I348, J, R, K, n) ∧ ((vp_in (l4 + 1) G.2.2.2.2.2.2.1) ∧ zC G d mX12_every 0 0 [.ref (m), .int (G.2.2.2.2.2.2.2 (l4 + 1 : Int32).toNatClampNeg)] (I348, J, R, K, n) (fun r h => ∃ (x350 : Int32) (I351 : Nat → Nat → Int32) (J352 : Nat → Nat → Int64) (R353 : Nat → Nat → Option Nat), r = some (.int x350) ∧ h = (I351, J352, R353, K, n) ∧ ∃ u354 u355 u356 : Nat, hX G R353 K n x u354 u355 u356 ∧ ∃ u358 u359 : Nat, hMod G R353 K n m u358 u359 ∧ hOut G R353 K n o ∧ ((x347 = x350 → zV G (d + 1) mL_law (kc + 4) (ks + 300) 23 [(0, .ref (G.2.2.2.2.2.1 3)), (1, .ref (x)), (2, .ref (m)), (3, .ref (o)), (4, .int (l4 + 6))] [] (I351, J352, R353, K, n) Q) ∧ (¬ (x347 = x350) → Q (some (.int (0))) (I351, J352, R353, K, n)))))))) ∧ (((G.2.2.2.2.2.2.2 l4.toNatClampNeg) &&& 63) = 23 → ((vp_in (l4 + 1) G.2.2.2.2.2.2.1) ∧ ((vp_in (l4 + 2) G.2.2.2.2.2.2.1) ∧ zC G d mX11_richest 0 0 [.ref (x), .int (G.2.2.2.2.2.2.2 (l4 + 1 : Int32).toNatClampNeg), .int (G.2.2.2.2.2.2.2 (l4 + 2 : Int32).toNatClampNeg)] (I, J, R, K, n) (fun r h => ∃ (x366 : Int32) (I367 : Nat → Nat → Int32), r = some (.int x366) ∧ h = (I367, J, R, K, n) ∧ ((vp_in (l4 + 1) G.2.2.2.2.2.2.1) ∧ ((vp_in (l4 + 2) G.2.2.2.2.2.2.1) ∧ zC G d mX12_richest 0 0 [.ref (m), .int (G.2.2.2.2.2.2.2 (l4 + 1 : Int32).toNatClampNeg), .int (G.2.2.2.2.2.2.2 (l4 + 2 : Int32).toNatClampNeg)] (I367, J, R, K, n) (fun r h => ∃ (x370 : Int32) (I371 : Nat → Nat → Int32) (J372 : Nat → Nat → Int64) (R373 : Nat → Nat → Option Nat), r = some (.int x370) ∧ h = (I371, J372, R373, K, n) ∧ ∃ u374 u375 u376 : Nat, hX G R373 K n x u374 u375 u376 ∧ ∃ u378 u379 : Nat, hMod G R373 K n m u378 u379 ∧ hOut G R373 K n o ∧ ((x366 = x370 → zV G (d + 1) mL_law (kc + 4) (ks + 300) 23 [(0, .ref (G.2.2.2.2.2.1 3)), (1, .ref (x)), (2, .ref (m)), (3, .ref (o)), (4, .int (l4 + 6))] [] (I371, J372, R373, K, n) Q) ∧ (¬ (x366 = x370) → Q (some (.int (0))) (I371, J372, R373, K, n)))))))))) ∧ (((G.2.2.2.2.2.2.2 l4.toNatClampNeg) &&& 63) = 24 → ((vp_in (l4 + 1) G.2.2.2.2.2.2.1) ∧ zC G d mX11_pairs 0 0 [.ref (x), .int (G.2.2.2.2.2.2.2 (l4 + 1 : Int32).toNatClampNeg)] (I, J, R, K, n) (fun r h => ∃ (x385 : Int32) (I386 : Nat → Nat → Int32), r = some (.int x385) ∧ h = (I386, J, R, K, n) ∧ ((vp_in (l4 + 1) G.2.2.2.2.2.2.1) ∧ zC G d mX12_pairs 0 0 [.ref (m), .int (G.2.2.2.2.2.2.2 (l4 + 1 : Int32).toNatClampNeg)] (I386, J, R, K, n) (fun r h => ∃ (x388 : Int32) (I389 : Nat → Nat → Int32) (J390 : Nat → Nat → Int64) (R391 : Nat → Nat → Option Nat), r = some (.int x388) ∧ h = (I389, J390, R391, K, n) ∧ ∃ u392 u393 u394 : Nat, hX G R391 K n x u392 u393 u394 ∧ ∃ u396 u397 : Nat, hMod G R391 K n m u396 u397 ∧ hOut G R391 K n o ∧ ((x385 = x388 → zV G (d + 1) mL_law (kc + 4) (ks + 300) 23 [(0, .ref (G.2.2.2.2.2.1 3)), (1, .ref (x)), (2, .ref (m)), (3, .ref (o)), (4, .int (l4 + 6))] [] (I389, J390, R391, K, n) Q) ∧ (¬ (x385 = x388) → Q (some (.int (0))) (I389, J390, R391, K, n)))))))) ∧ (((G.2.2.2.2.2.2.2 l4.toNatClampNeg) &&& 63) = 25 → ((vp_in (l4 + 1) G.2.2.2.2.2.2.1) ∧ ((vp_in (l4 + 2) G.2.2.2.2.2.2.1) ∧ ((vp_in (l4 + 3) G.2.2.2.2.2.2.1) ∧ zC G d mX11_seen 0 0 [.ref (x), .int (G.2.2.2.2.2.2.2 (l4 + 1 : Int32).toNatClampNeg), .int (G.2.2.2.2.2.2.2 (l4 + 2 : Int32).toNatClampNeg), .int ((if (G.2.2.2.2.2.2.2 (l4 + 3 : Int32).toNatClampNeg : Int32) = 0 then 0 else 1))] (I, J, R, K, n) (fun r h => ∃ (x406 : Int32) (I407 : Nat → Nat → Int32), r = some (.int x406) ∧ h = (I407, J, R, K, n) ∧ ((vp_in (l4 + 1) G.2.2.2.2.2.2.1) ∧ ((vp_in (l4 + 2) G.2.2.2.2.2.2.1) ∧ ((vp_in (l4 + 3) G.2.2.2.2.2.2.1) ∧ zC G d mX12_seen 0 0 [.ref (m), .int (G.2.2.2.2.2.2.2 (l4 + 1 : Int32).toNatClampNeg), .int (G.2.2.2.2.2.2.2 (l4 + 2 : Int32).toNatClampNeg), .int ((if (G.2.2.2.2.2.2.2 (l4 + 3 : Int32).toNatClampNeg : Int32) = 0 then 0 else 1))] (I407, J, R, K, n) (fun r h => ∃ (x412 : Int32) (I413 : Nat → Nat → Int32), r = some (.int x412) ∧ h = (I413, J, R, K, n) ∧ ((x406 = x412 → zV G (d + 1) mL_law (kc + 4) (ks + 300) 23 [(0, .ref (G.2.2.2.2.2.1 3)), (1, .ref (x)), (2, .ref (m)), (3, .ref (o)), (4, .int (l4 + 6))] [] (I413, J, R, K, n) Q) ∧ (¬ (x406 = x412) → Q (some (.int (0))) (I413, J, R, K, n)))))))))))) ∧ (((G.2.2.2.2.2.2.2 l4.toNatClampNeg) &&& 63) = 26 → ((vp_in (l4 + 1) G.2.2.2.2.2.2.1) ∧ ((vp_in (l4 + 2) G.2.2.2.2.2.2.1) ∧ zC G d mX11_weights 0 0 [.ref (x), .int (G.2.2.2.2.2.2.2 (l4 + 1 : Int32).toNatClampNeg), .int (G.2.2.2.2.2.2.2 (l4 + 2 : Int32).toNatClampNeg)] (I, J, R, K, n) (fun r h => ∃ (x418 : Int32) (I419 : Nat → Nat → Int32), r = some (.int x418) ∧ h = (I419, J, R, K, n) ∧ ((vp_in (l4 + 1) G.2.2.2.2.2.2.1) ∧ ((vp_in (l4 + 2) G.2.2.2.2.2.2.1) ∧ zC G d mX12_weights 0 0 [.ref (m), .int (G.2.2.2.2.2.2.2 (l4 + 1 : Int32).toNatClampNeg), .int (G.2.2.2.2.2.2.2 (l4 + 2 : Int32).toNatClampNeg)] (I419, J, R, K, n) (fun r h => ∃ (x422 : Int32) (I423 : Nat → Nat → Int32) (J424 : Nat → Nat → Int64) (R425 : Nat → Nat → Option Nat), r = some (.int x422) ∧ h = (I423, J424, R425, K, n) ∧ ∃ u426 u427 u428 : Nat, hX G R425 K n x u426 u427 u428 ∧ ∃ u430 u431 : Nat, hMod G R425 K n m u430 u431 ∧ hOut G R425 K n o ∧ ((x418 = x422 → zV G (d + 1) mL_law (kc + 4) (ks + 300) 23 [(0, .ref (G.2.2.2.2.2.1 3)), (1, .ref (x)), (2, .ref (m)), (3, .ref (o)), (4, .int (l4 + 6))] [] (I423, J424, R425, K, n) Q) ∧ (¬ (x418 = x422) → Q (some (.int (0))) (I423, J424, R425, K, n)))))))))) ∧ (((G.2.2.2.2.2.2.2 l4.toNatClampNeg) &&& 63) = 27 → ((vp_in (l4 + 1) G.2.2.2.2.2.2.1) ∧ zC G d mX11_ask 0 0 [.ref (x), .int (G.2.2.2.2.2.2.2 (l4 + 1 : Int32).toNatClampNeg)] (I, J, R, K, n) (fun r h => ∃ (x437 : Int32) (I438 : Nat → Nat → Int32), r = some (.int x437) ∧ h = (I438, J, R, K, n) ∧ ((vp_in (l4 + 1) G.2.2.2.2.2.2.1) ∧ zC G d mX12_ask 0 0 [.ref (m), .int (G.2.2.2.2.2.2.2 (l4 + 1 : Int32).toNatClampNeg)] (I438, J, R, K, n) (fun r h => ∃ (x440 : Int32) (I441 : Nat → Nat → Int32) (J442 : Nat → Nat → Int64) (R443 : Nat → Nat → Option Nat), r = some (.int x440) ∧ h = (I441, J442, R443, K, n) ∧ ∃ u444 u445 u446 : Nat, hX G R443 K n x u444 u445 u446 ∧ ∃ u448 u449 : Nat, hMod G R443 K n m u448 u449 ∧ hOut G R443 K n o ∧ ((x437 = x440 → zV G (d + 1) mL_law (kc + 4) (ks + 300) 23 [(0, .ref (G.2.2.2.2.2.1 3)), (1, .ref (x)), (2, .ref (m)), (3, .ref (o)), (4, .int (l4 + 6))] [] (I441, J442, R443, K, n) Q) ∧ (¬ (x437 = x440) → Q (some (.int (0))) (I441, J442, R443, K, n)))))))) ∧ (((G.2.2.2.2.2.2.2 l4.toNatClampNeg) &&& 63) = 28 → zC G d mX11_ring 0 0 [.ref (x)] (I, J, R, K, n) (fun r h => ∃ (x454 : Int32) (I455 : Nat → Nat → Int32), r = some (.int x454) ∧ h = (I455, J, R, K, n) ∧ zC G d mX12_ring 0 0 [.ref (m)] (I455, J, R, K, n) (fun r h => ∃ (x456 : Int32) (I457 : Nat → Nat → Int32), r = some (.int x456) ∧ h = (I457, J, R, K, n) ∧ ((x454 = x456 → zV G (d + 1) mL_law (kc + 4) (ks + 300) 23 [(0, .ref (G.2.2.2.2.2.1 3)), (1, .ref (x)), (2, .ref (m)), (3, .ref (o)), (4, .int (l4 + 6))] [] (I457, J, R, K, n) Q) ∧ (¬ (x454 = x456) → Q (some (.int (0))) (I457, J, R, K, n)))))) ∧ (((G.2.2.2.2.2.2.2 l4.toNatClampNeg) &&& 63) = 29 → ((vp_in (l4 + 1) G.2.2.2.2.2.2.1) ∧ ((vp_in (l4 + 2) G.2.2.2.2.2.2.1) ∧ zC G d mX11_chain 0 0 [.ref (x), .int (G.2.2.2.2.2.2.2 (l4 + 1 : Int32).toNatClampNeg), .int (G.2.2.2.2.2.2.2 (l4 + 2 : Int32).toNatClampNeg)] (I, J, R, K, n) (fun r h => ∃ (x462 : Int32) (I463 : Nat → Nat → Int32), r = some (.int x462) ∧ h = (I463, J, R, K, n) ∧ ((vp_in (l4 + 1) G.2.2.2.2.2.2.1) ∧ ((vp_in (l4 + 2) G.2.2.2.2.2.2.1) ∧ zC G d mX12_chain 0 0 [.ref (m), .int (G.2.2.2.2.2.2.2 (l4 + 1 : Int32).toNatClampNeg), .int (G.2.2.2.2.2.2.2 (l4 + 2 : Int32).toNatClampNeg)] (I463, J, R, K, n) (fun r h => ∃ (x466 : Int32) (I467 : Nat → Nat → Int32), r = some (.int x466) ∧ h = (I467, J, R, K, n) ∧ ((x462 = x466 → zV G (d + 1) mL_law (kc + 4) (ks + 300) 23 [(0, .ref (G.2.2.2.2.2.1 3)), (1, .ref (x)), (2, .ref (m)), (3, .ref (o)), (4, .int (l4 + 6))] [] (I467, J, R, K, n) Q) ∧ (¬ (x462 = x466) → Q (some (.int (0))) (I467, J, R, K, n)))))))))) ∧ (((G.2.2.2.2.2.2.2 l4.toNatClampNeg) &&& 63) = 30 → ((vp_in (l4 + 1) G.2.2.2.2.2.2.1) ∧ ((vp_in (l4 + 2) G.2.2.2.2.2.2.1) ∧ zC G d mX11_score 0 0 [.ref (x), .int (G.2.2.2.2.2.2.2 (l4 + 1 : Int32).toNatClampNeg), .int (G.2.2.2.2.2.2.2 (l4 + 2 : Int32).toNatClampNeg)] (I, J, R, K, n) (fun r h => ∃ (x472 : Int32) (I473 : Nat → Nat → Int32), r = some (.int x472) ∧ h = (I473, J, R, K, n) ∧ ((vp_in (l4 + 1) G.2.2.2.2.2.2.1) ∧ ((vp_in (l4 + 2) G.2.2.2.2.2.2.1) ∧ zC G d mX12_score 0 0 [.ref (m), .int (G.2.2.2.2.2.2.2 (l4 + 1 : Int32).toNatClampNeg), .int (G.2.2.2.2.2.2.2 (l4 + 2 : Int32).toNatClampNeg)] (I473, J, R, K, n) (fun r h => ∃ (x476 : Int32) (I477 : Nat → Nat → Int32), r = some (.int x476) ∧ h = (I477, J, R, K, n) ∧ ((x472 = x476 → zV G (d + 1) mL_law (kc + 4) (ks + 300) 23 [(0, .ref (G.2.2.2.2.2.1 3)), (1, .ref (x)), (2, .ref (m)), (3, .ref (o)), (4, .int (l4 + 6))] [] (I477, J, R, K, n) Q) ∧ (¬ (x472 = x476) → Q (some (.int (0))) (I477, J, R, K, n)))))))))) ∧ (((G.2.2.2.2.2.2.2 l4.toNatClampNeg) &&& 63) = 31 → ((vp_in (l4 + 1) G.2.2.2.2.2.2.1) ∧ ((vp_in (l4 + 2) G.2.2.2.2.2.2.1) ∧ ((vp_in (l4 + 3) G.2.2.2.2.2.2.1) ∧ ((vp_in (l4 + 4) G.2.2.2.2.2.2.1) ∧ ((vp_in (l4 + 5) G.2.2.2.2.2.2.1) ∧ zC G d mX11_game 0 0 [.ref (x), .int (G.2.2.2.2.2.2.2 (l4 + 1 : Int32).toNatClampNeg), .int (G.2.2.2.2.2.2.2 (l4 + 2 : Int32).toNatClampNeg), .int (G.2.2.2.2.2.2.2 (l4 + 3 : Int32).toNatClampNeg), .int (G.2.2.2.2.2.2.2 (l4 + 4 : Int32).toNatClampNeg), .int (G.2.2.2.2.2.2.2 (l4 + 5 : Int32).toNatClampNeg)] (I, J, R, K, n) (fun r h => ∃ (x485 : Int32) (I486 : Nat → Nat → Int32), r = some (.int x485) ∧ h = (I486, J, R, K, n) ∧ ((vp_in (l4 + 1) G.2.2.2.2.2.2.1) ∧ ((vp_in (l4 + 2) G.2.2.2.2.2.2.1) ∧ ((vp_in (l4 + 3) G.2.2.2.2.2.2.1) ∧ ((vp_in (l4 + 4) G.2.2.2.2.2.2.1) ∧ ((vp_in (l4 + 5) G.2.2.2.2.2.2.1) ∧ zC G d mX12_game 0 0 [.ref (m), .int (G.2.2.2.2.2.2.2 (l4 + 1 : Int32).toNatClampNeg), .int (G.2.2.2.2.2.2.2 (l4 + 2 : Int32).toNatClampNeg), .int (G.2.2.2.2.2.2.2 (l4 + 3 : Int32).toNatClampNeg), .int (G.2.2.2.2.2.2.2 (l4 + 4 : Int32).toNatClampNeg), .int (G.2.2.2.2.2.2.2 (l4 + 5 : Int32).toNatClampNeg)] (I486, J, R, K, n) (fun r h => ∃ (x492 : Int32) (I493 : Nat → Nat → Int32) (J494 : Nat → Nat → Int64) (R495 : Nat → Nat → Option Nat), r = some (.int x492) ∧ h = (I493, J494, R495, K, n) ∧ ∃ u496 u497 u498 : Nat, hX G R495 K n x u496 u497 u498 ∧ ∃ u500 u501 : Nat, hMod G R495 K n m u500 u501 ∧ hOut G R495 K n o ∧ ((x485 = x492 → zV G (d + 1) mL_law (kc + 4) (ks + 300) 23 [(0, .ref (G.2.2.2.2.2.1 3)), (1, .ref (x)), (2, .ref (m)), (3, .ref (o)), (4, .int (l4 + 6))] [] (I493, J494, R495, K, n) Q) ∧ (¬ (x485 = x492) → Q (some (.int (0))) (I493, J494, R495, K, n)))))))))))))))) ∧ (((G.2.2.2.2.2.2.2 l4.toNatClampNeg) &&& 63) = 32 → ((vp_in (l4 + 1) G.2.2.2.2.2.2.1) ∧ ((vp_in (l4 + 2) G.2.2.2.2.2.2.1) ∧ ((vp_in (l4 + 3) G.2.2.2.2.2.2.1) ∧ zC G d mX11_rests 0 0 [.ref (x), .int (G.2.2.2.2.2.2.2 (l4 + 1 : Int32).toNatClampNeg), .int (G.2.2.2.2.2.2.2 (l4 + 2 : Int32).toNatClampNeg), .int (G.2.2.2.2.2.2.2 (l4 + 3 : Int32).toNatClampNeg)] (I, J, R, K, n) (fun r h => ∃ (x509 : Int32) (I510 : Nat → Nat → Int32), r = some (.int x509) ∧ h = (I510, J, R, K, n) ∧ ((vp_in (l4 + 1) G.2.2.2.2.2.2.1) ∧ ((vp_in (l4 + 2) G.2.2.2.2.2.2.1) ∧ ((vp_in (l4 + 3) G.2.2.2.2.2.2.1) ∧ zC G d mX12_rests 0 0 [.ref (m), .int (G.2.2.2.2.2.2.2 (l4 + 1 : Int32).toNatClampNeg), .int (G.2.2.2.2.2.2.2 (l4 + 2 : Int32).toNatClampNeg), .int (G.2.2.2.2.2.2.2 (l4 + 3 : Int32).toNatClampNeg)] (I510, J, R, K, n) (fun r h => ∃ (x514 : Int32) (I515 : Nat → Nat → Int32) (J516 : Nat → Nat → Int64) (R517 : Nat → Nat → Option Nat), r = some (.int x514) ∧ h = (I515, J516, R517, K, n) ∧ ∃ u518 u519 u520 : Nat, hX G R517 K n x u518 u519 u520 ∧ ∃ u522 u523 : Nat, hMod G R517 K n m u522 u523 ∧ hOut G R517 K n o ∧ ((x509 = x514 → zV G (d + 1) mL_law (kc + 4) (ks + 300) 23 [(0, .ref (G.2.2.2.2.2.1 3)), (1, .ref (x)), (2, .ref (m)), (3, .ref (o)), (4, .int (l4 + 6))] [] (I515, J516, R517, K, n) Q) ∧ (¬ (x509 = x514) → Q (some (.int (0))) (I515, J516, R517, K, n)))))))))))) ∧ (((G.2.2.2.2.2.2.2 l4.toNatClampNeg) &&& 63) = 33 → ((vp_in (l4 + 1) G.2.2.2.2.2.2.1) ∧ ((vp_in (l4 + 2) G.2.2.2.2.2.2.1) ∧ zC G d mX11_odds 0 0 [.ref (x), .int (G.2.2.2.2.2.2.2 (l4 + 1 : Int32).toNatClampNeg), .int (G.2.2.2.2.2.2.2 (l4 + 2 : Int32).toNatClampNeg)] (I, J, R, K, n) (fun r h => ∃ (x530 : Int32) (I531 : Nat → Nat → Int32), r = some (.int x530) ∧ h = (I531, J, R, K, n) ∧ ((vp_in (l4 + 1) G.2.2.2.2.2.2.1) ∧ ((vp_in (l4 + 2) G.2.2.2.2.2.2.1) ∧ zC G d mX12_odds 0 0 [.ref (m), .int (G.2.2.2.2.2.2.2 (l4 + 1 : Int32).toNatClampNeg), .int (G.2.2.2.2.2.2.2 (l4 + 2 : Int32).toNatClampNeg)] (I531, J, R, K, n) (fun r h => ∃ (x534 : Int32) (I535 : Nat → Nat → Int32) (J536 : Nat → Nat → Int64) (R537 : Nat → Nat → Option Nat), r = some (.int x534) ∧ h = (I535, J536, R537, K, n) ∧ ∃ u538 u539 u540 : Nat, hX G R537 K n x u538 u539 u540 ∧ ∃ u542 u543 : Nat, hMod G R537 K n m u542 u543 ∧ hOut G R537 K n o ∧ ((x530 = x534 → zV G (d + 1) mL_law (kc + 4) (ks + 300) 23 [(0, .ref (G.2.2.2.2.2.1 3)), (1, .ref (x)), (2, .ref (m)), (3, .ref (o)), (4, .int (l4 + 6))] [] (I535, J536, R537, K, n) Q) ∧ (¬ (x530 = x534) → Q (some (.int (0))) (I535, J536, R537, K, n)))))))))) ∧ (((G.2.2.2.2.2.2.2 l4.toNatClampNeg) &&& 63) = 34 → ((vp_in (l4 + 1) G.2.2.2.2.2.2.1) ∧ ((vp_in (l4 + 2) G.2.2.2.2.2.2.1) ∧ zC G d mX11_shares 0 0 [.ref (x), .int (G.2.2.2.2.2.2.2 (l4 + 1 : Int32).toNatClampNeg), .int (G.2.2.2.2.2.2.2 (l4 + 2 : Int32).toNatClampNeg)] (I, J, R, K, n) (fun r h => ∃ (x550 : Int32) (I551 : Nat → Nat → Int32), r = some (.int x550) ∧ h = (I551, J, R, K, n) ∧ ((vp_in (l4 + 1) G.2.2.2.2.2.2.1) ∧ ((vp_in (l4 + 2) G.2.2.2.2.2.2.1) ∧ zC G d mX12_shares 0 0 [.ref (m), .int (G.2.2.2.2.2.2.2 (l4 + 1 : Int32).toNatClampNeg), .int (G.2.2.2.2.2.2.2 (l4 + 2 : Int32).toNatClampNeg)] (I551, J, R, K, n) (fun r h => ∃ (x554 : Int32) (I555 : Nat → Nat → Int32), r = some (.int x554) ∧ h = (I555, J, R, K, n) ∧ ((x550 = x554 → zV G (d + 1) mL_law (kc + 4) (ks + 300) 23 [(0, .ref (G.2.2.2.2.2.1 3)), (1, .ref (x)), (2, .ref (m)), (3, .ref (o)), (4, .int (l4 + 6))] [] (I555, J, R, K, n) Q) ∧ (¬ (x550 = x554) → Q (some (.int (0))) (I555, J, R, K, n)))))))))) ∧ (((G.2.2.2.2.2.2.2 l4.toNatClampNeg) &&& 63) = 35 → ((vp_in (l4 + 1) G.2.2.2.2.2.2.1) ∧ zC G d mX11_fades 0 0 [.ref (x), .int (G.2.2.2.2.2.2.2 (l4 + 1 : Int32).toNatClampNeg)] (I, J, R, K, n) (fun r h => ∃ (x559 : Int32) (I560 : Nat → Nat → Int32), r = some (.int x559) ∧ h = (I560, J, R, K, n) ∧ ((vp_in (l4 + 1) G.2.2.2.2.2.2.1) ∧ zC G d mX12_fades 0 0 [.ref (m), .int (G.2.2.2.2.2.2.2 (l4 + 1 : Int32).toNatClampNeg)] (I560, J, R, K, n) (fun r h => ∃ (x562 : Int32) (I563 : Nat → Nat → Int32), r = some (.int x562) ∧ h = (I563, J, R, K, n) ∧ ((x559 = x562 → zV G (d + 1) mL_law (kc + 4) (ks + 300) 23 [(0, .ref (G.2.2.2.2.2.1 3)), (1, .ref (x)), (2, .ref (m)), (3, .ref (o)), (4, .int (l4 + 6))] [] (I563, J, R, K, n) Q) ∧ (¬ (x559 = x562) → Q (some (.int (0))) (I563, J, R, K, n)))))))) ∧ (((G.2.2.2.2.2.2.2 l4.toNatClampNeg) &&& 63) = 36 → ((vp_in (l4 + 1) G.2.2.2.2.2.2.1) ∧ zC G d mX11_all 0 0 [.ref (x), .int (G.2.2.2.2.2.2.2 (l4 + 1 : Int32).toNatClampNeg)] (I, J, R, K, n) (fun r h => ∃ (x567 : Int32) (I568 : Nat → Nat → Int32), r = some (.int x567) ∧ h = (I568, J, R, K, n) ∧ ((vp_in (l4 + 1) G.2.2.2.2.2.2.1) ∧ zC G d mX12_all 0 0 [.ref (m), .int (G.2.2.2.2.2.2.2 (l4 + 1 : Int32).toNatClampNeg)] (I568, J, R, K, n) (fun r h => ∃ (x570 : Int32) (I571 : Nat → Nat → Int32), r = some (.int x570) ∧ h = (I571, J, R, K, n) ∧ ((x567 = x570 → zV G (d + 1) mL_law (kc + 4) (ks + 300) 23 [(0, .ref (G.2.2.2.2.2.1 3)), (1, .ref (x)), (2, .ref (m)), (3, .ref (o)), (4, .int (l4 + 6))] [] (I571, J, R, K, n) Q) ∧ (¬ (x567 = x570) → Q (some (.int (0))) (I571, J, R, K, n)))))))) ∧ (((G.2.2.2.2.2.2.2 l4.toNatClampNeg) &&& 63) = 37 → zC G d mX11_image 0 0 [.ref (x)] (I, J, R, K, n) (fun r h => ∃ (x574 : Int32) (I575 : Nat → Nat → Int32), r = some (.int x574) ∧ h = (I575, J, R, K, n) ∧ zC G d mX12_image 0 0 [.ref (m)] (I575, J, R, K, n) (fun r h => ∃ (x576 : Int32) (I577 : Nat → Nat → Int32), r = some (.int x576) ∧ h = (I577, J, R, K, n) ∧ ((x574 = x576 → zV G (d + 1) mL_law (kc + 4) (ks + 300) 23 [(0, .ref (G.2.2.2.2.2.1 3)), (1, .ref (x)), (2, .ref (m)), (3, .ref (o)), (4, .int (l4 + 6))] [] (I577, J, R, K, n) Q) ∧ (¬ (x574 = x576) → Q (some (.int (0))) (I577, J, R, K, n)))))) ∧ (((G.2.2.2.2.2.2.2 l4.toNatClampNeg) &&& 63) = 38 → zC G d mX11_back 0 0 [.ref (x)] (I, J, R, K, n) (fun r h => ∃ (x580 : Int32) (I581 : Nat → Nat → Int32), r = some (.int x580) ∧ h = (I581, J, R, K, n) ∧ zC G d mX12_back 0 0 [.ref (m)] (I581, J, R, K, n) (fun r h => ∃ (x582 : Int32) (I583 : Nat → Nat → Int32), r = some (.int x582) ∧ h = (I583, J, R, K, n) ∧ ((x580 = x582 → zV G (d + 1) mL_law (kc + 4) (ks + 300) 23 [(0, .ref (G.2.2.2.2.2.1 3)), (1, .ref (x)), (2, .ref (m)), (3, .ref (o)), (4, .int (l4 + 6))] [] (I583, J, R, K, n) Q) ∧ (¬ (x580 = x582) → Q (some (.int (0))) (I583, J, R, K, n)))))) ∧ (((G.2.2.2.2.2.2.2 l4.toNatClampNeg) &&& 63) = 39 → ((vp_in (l4 + 1) G.2.2.2.2.2.2.1) ∧ zC G d mX11_count 0 0 [.ref (x), .int (G.2.2.2.2.2.2.2 (l4 + 1 : Int32).toNatClampNeg)] (I, J, R, K, n) (fun r h => ∃ (x587 : Int32) (I588 : Nat → Nat → Int32), r = some (.int x587) ∧ h = (I588, J, R, K, n) ∧ ((vp_in (l4 + 1) G.2.2.2.2.2.2.1) ∧ zC G d mX12_count 0 0 [.ref (m), .int (G.2.2.2.2.2.2.2 (l4 + 1 : Int32).toNatClampNeg)] (I588, J, R, K, n) (fun r h => ∃ (x590 : Int32) (I591 : Nat → Nat → Int32), r = some (.int x590) ∧ h = (I591, J, R, K, n) ∧ ((x587 = x590 → zV G (d + 1) mL_law (kc + 4) (ks + 300) 23 [(0, .ref (G.2.2.2.2.2.1 3)), (1, .ref (x)), (2, .ref (m)), (3, .ref (o)), (4, .int (l4 + 6))] [] (I591, J, R, K, n) Q) ∧ (¬ (x587 = x590) → Q (some (.int (0))) (I591, J, R, K, n)))))))) ∧ (¬ ((G.2.2.2.2.2.2.2 l4.toNatClampNeg) &&& 63) = 0 → ¬ ((G.2.2.2.2.2.2.2 l4.toNatClampNeg) &&& 63) = 1 → ¬ ((G.2.2.2.2.2.2.2 l4.toNatClampNeg) &&& 63) = 2 → ¬ ((G.2.2.2.2.2.2.2 l4.toNatClampNeg) &&& 63) = 3 → ¬ ((G.2.2.2.2.2.2.2 l4.toNatClampNeg) &&& 63) = 4 → ¬ ((G.2.2.2.2.2.2.2 l4.toNatClampNeg) &&& 63) = 5 → ¬ ((G.2.2.2.2.2.2.2 l4.toNatClampNeg) &&& 63) = 6 → ¬ ((G.2.2.2.2.2.2.2 l4.toNatClampNeg) &&& 63) = 7 → ¬ ((G.2.2.2.2.2.2.2 l4.toNatClampNeg) &&& 63) = 8 → ¬ ((G.2.2.2.2.2.2.2 l4.toNatClampNeg) &&& 63) = 9 → ¬ ((G.2.2.2.2.2.2.2 l4.toNatClampNeg) &&& 63) = 10 → ¬ ((G.2.2.2.2.2.2.2 l4.toNatClampNeg) &&& 63) = 11 → ¬ ((G.2.2.2.2.2.2.2 l4.toNatClampNeg) &&& 63) = 12 → ¬ ((G.2.2.2.2.2.2.2 l4.toNatClampNeg) &&& 63) = 13 → ¬ ((G.2.2.2.2.2.2.2 l4.toNatClampNeg) &&& 63) = 14 → ¬ ((G.2.2.2.2.2.2.2 l4.toNatClampNeg) &&& 63) = 15 → ¬ ((G.2.2.2.2.2.2.2 l4.toNatClampNeg) &&& 63) = 16 → ¬ ((G.2.2.2.2.2.2.2 l4.toNatClampNeg) &&& 63) = 17 → ¬ ((G.2.2.2.2.2.2.2 l4.toNatClampNeg) &&& 63) = 18 → ¬ ((G.2.2.2.2.2.2.2 l4.toNatClampNeg) &&& 63) = 19 → ¬ ((G.2.2.2.2.2.2.2 l4.toNatClampNeg) &&& 63) = 20 → ¬ ((G.2.2.2.2.2.2.2 l4.toNatClampNeg) &&& 63) = 21 → ¬ ((G.2.2.2.2.2.2.2 l4.toNatClampNeg) &&& 63) = 22 → ¬ ((G.2.2.2.2.2.2.2 l4.toNatClampNeg) &&& 63) = 23 → ¬ ((G.2.2.2.2.2.2.2 l4.toNatClampNeg) &&& 63) = 24 → ¬ ((G.2.2.2.2.2.2.2 l4.toNatClampNeg) &&& 63) = 25 → ¬ ((G.2.2.2.2.2.2.2 l4.toNatClampNeg) &&& 63) = 26 → ¬ ((G.2.2.2.2.2.2.2 l4.toNatClampNeg) &&& 63) = 27 → ¬ ((G.2.2.2.2.2.2.2 l4.toNatClampNeg) &&& 63) = 28 → ¬ ((G.2.2.2.2.2.2.2 l4.toNatClampNeg) &&& 63) = 29 → ¬ ((G.2.2.2.2.2.2.2 l4.toNatClampNeg) &&& 63) = 30 → ¬ ((G.2.2.2.2.2.2.2 l4.toNatClampNeg) &&& 63) = 31 → ¬ ((G.2.2.2.2.2.2.2 l4.toNatClampNeg) &&& 63) = 32 → ¬ ((G.2.2.2.2.2.2.2 l4.toNatClampNeg) &&& 63) = 33 → ¬ ((G.2.2.2.2.2.2.2 l4.toNatClampNeg) &&& 63) = 34 → ¬ ((G.2.2.2.2.2.2.2 l4.toNatClampNeg) &&& 63) = 35 → ¬ ((G.2.2.2.2.2.2.2 l4.toNatClampNeg) &&& 63) = 36 → ¬ ((G.2.2.2.2.2.2.2 l4.toNatClampNeg) &&& 63) = 37 → ¬ ((G.2.2.2.2.2.2.2 l4.toNatClampNeg) &&& 63) = 38 → ¬ ((G.2.2.2.2.2.2.2 l4.toNatClampNeg) &&& 63) = 39 → zV G (d + 1) mL_law (kc + 4) (ks + 300) 23 [(0, .ref (G.2.2.2.2.2.1 3)), (1, .ref (x)), (2, .ref (m)), (3, .ref (o)), (4, .int (l4 + 6))] [] (I, J, R, K, n) Q)))))) : zV G (d + 1) mL_law (kc + 4) (ks + 300) 23 [(0, .ref (G.2.2.2.2.2.1 3)), (1, .ref (x)), (2, .ref (m)), (3, .ref (o)), (4, .int (l4))] [] (I, J, R, K, n) Q := by
  refine zIload 4 4 25 (by decide +kernel) rfl rfl ?_
  refine zAload_n 0 0 26 (by decide +kernel) rfl rfl ?_
  refine zSalen 27 (by decide +kernel) rfl ?_
  refine zBipush 6 6 29 (by decide +kernel) rfl (by decide) ?_
  refine zIsub 30 (by decide +kernel) rfl ?_
  refine zIcmp_gt 1559 1589 33 (by decide +kernel) rfl rfl ⟨fun q1 => ?_, fun q1 => ?_⟩
  · replace F := F.1 q1
    refine zIconst 1 1 1590 (by decide +kernel) rfl (by decide) ?_
    exact zZret .boolean rfl (zNarZ (Or.inr rfl)) (by decide +kernel) F
  · replace F := F.2 q1
    refine zAload_n 0 0 34 (by decide +kernel) rfl rfl ?_
    refine zIload 4 4 36 (by decide +kernel) rfl rfl ?_
    obtain ⟨w2, F⟩ := F
    refine zSaload 37 (by decide +kernel) rfl (w2) ?_
    refine zBipush 63 63 39 (by decide +kernel) rfl (by decide) ?_
    refine zIand 40 (by decide +kernel) rfl ?_
    by_cases q3 : ((G.2.2.2.2.2.2.2 l4.toNatClampNeg) &&& 63) = 0
    · replace F := F.1 q3
      have zt := zEqT q3 (show (0 : Int32).toInt = 0 by decide)
      refine zTableIn 1543 0 39 #[176, 249, 274, 299, 324, 392, 429, 454, 479, 504, 541, 566, 615, 640, 665, 678, 747, 760, 797, 846, 883, 908, 945, 970, 1007, 1032, 1097, 1134, 1159, 1172, 1209, 1246, 1319, 1368, 1405, 1442, 1467, 1492, 1505, 1518] 176 176 216 (by decide +kernel) (by omega) (by omega) (by rw [zt]; decide) rfl ?_
      refine zAload_n 1 1 217 (by decide +kernel) rfl rfl ?_
      refine zAload_n 0 0 218 (by decide +kernel) rfl rfl ?_
      refine zIload 4 4 220 (by decide +kernel) rfl rfl ?_
      refine zIconst 1 1 221 (by decide +kernel) rfl (by decide) ?_
      refine zIadd 222 (by decide +kernel) rfl ?_
      obtain ⟨w4, F⟩ := F
      refine zSaload 223 (by decide +kernel) rfl (w4) ?_
      refine zAload_n 0 0 224 (by decide +kernel) rfl rfl ?_
      refine zIload 4 4 226 (by decide +kernel) rfl rfl ?_
      refine zIconst 2 2 227 (by decide +kernel) rfl (by decide) ?_
      refine zIadd 228 (by decide +kernel) rfl ?_
      obtain ⟨w5, F⟩ := F
      refine zSaload 229 (by decide +kernel) rfl (w5) ?_
      refine zAload_n 0 0 230 (by decide +kernel) rfl rfl ?_
      refine zIload 4 4 232 (by decide +kernel) rfl rfl ?_
      refine zIconst 3 3 233 (by decide +kernel) rfl (by decide) ?_
      refine zIadd 234 (by decide +kernel) rfl ?_
      obtain ⟨w6, F⟩ := F
      refine zSaload 235 (by decide +kernel) rfl (w6) ?_
      refine zAload_n 0 0 236 (by decide +kernel) rfl rfl ?_
      refine zIload 4 4 238 (by decide +kernel) rfl rfl ?_
      refine zIconst 4 4 239 (by decide +kernel) rfl (by decide) ?_
      refine zIadd 240 (by decide +kernel) rfl ?_
      obtain ⟨w7, F⟩ := F
      refine zSaload 241 (by decide +kernel) rfl (w7) ?_
      refine zAload_n 0 0 242 (by decide +kernel) rfl rfl ?_
      refine zIload 4 4 244 (by decide +kernel) rfl rfl ?_
      refine zIconst 5 5 245 (by decide +kernel) rfl (by decide) ?_
      refine zIadd 246 (by decide +kernel) rfl ?_
      obtain ⟨w8, F⟩ := F
      refine zSaload 247 (by decide +kernel) rfl (w8) ?_
      refine zCallV 11 zcls11 mX11_feed 19 5 0 0 _ _ 250 [.int (G.2.2.2.2.2.2.2 (l4 + 1 : Int32).toNatClampNeg), .int (G.2.2.2.2.2.2.2 (l4 + 2 : Int32).toNatClampNeg), .int (G.2.2.2.2.2.2.2 (l4 + 3 : Int32).toNatClampNeg), .int (G.2.2.2.2.2.2.2 (l4 + 4 : Int32).toNatClampNeg), .int (G.2.2.2.2.2.2.2 (l4 + 5 : Int32).toNatClampNeg)] [] okX11_feed mlL_19 imX11_feed seX11_feed (by decide +kernel) rfl rfl (Nat.le_of_ble_eq_true rfl) rfl rfl (X_0 S0_) (zC.mono F ?_)
      rintro _ _ ⟨x9, I10, rfl, rfl, F⟩
      change zV G (d + 1) mL_law (kc + 4) (ks + 300) 250 [(0, .ref (G.2.2.2.2.2.1 3)), (1, .ref (x)), (2, .ref (m)), (3, .ref (o)), (4, .int (l4))] [.int (x9)] (I10, J, R, K, n) Q
      refine zAload_n 2 2 251 (by decide +kernel) rfl rfl ?_
      refine zAload_n 0 0 252 (by decide +kernel) rfl rfl ?_
      refine zIload 4 4 254 (by decide +kernel) rfl rfl ?_
      refine zIconst 1 1 255 (by decide +kernel) rfl (by decide) ?_
      refine zIadd 256 (by decide +kernel) rfl ?_
      obtain ⟨w11, F⟩ := F
      refine zSaload 257 (by decide +kernel) rfl (w11) ?_
      refine zAload_n 0 0 258 (by decide +kernel) rfl rfl ?_
      refine zIload 4 4 260 (by decide +kernel) rfl rfl ?_
      refine zIconst 2 2 261 (by decide +kernel) rfl (by decide) ?_
      refine zIadd 262 (by decide +kernel) rfl ?_
      obtain ⟨w12, F⟩ := F
      refine zSaload 263 (by decide +kernel) rfl (w12) ?_
      refine zAload_n 0 0 264 (by decide +kernel) rfl rfl ?_
      refine zIload 4 4 266 (by decide +kernel) rfl rfl ?_
      refine zIconst 3 3 267 (by decide +kernel) rfl (by decide) ?_
      refine zIadd 268 (by decide +kernel) rfl ?_
      obtain ⟨w13, F⟩ := F
      refine zSaload 269 (by decide +kernel) rfl (w13) ?_
      refine zAload_n 0 0 270 (by decide +kernel) rfl rfl ?_
      refine zIload 4 4 272 (by decide +kernel) rfl rfl ?_
      refine zIconst 4 4 273 (by decide +kernel) rfl (by decide) ?_
      refine zIadd 274 (by decide +kernel) rfl ?_
      obtain ⟨w14, F⟩ := F
      refine zSaload 275 (by decide +kernel) rfl (w14) ?_
      refine zAload_n 0 0 276 (by decide +kernel) rfl rfl ?_
      refine zIload 4 4 278 (by decide +kernel) rfl rfl ?_
      refine zIconst 5 5 279 (by decide +kernel) rfl (by decide) ?_
      refine zIadd 280 (by decide +kernel) rfl ?_
      obtain ⟨w15, F⟩ := F
      refine zSaload 281 (by decide +kernel) rfl (w15) ?_
      refine zCallV 12 zcls12 mX12_feed 23 5 0 0 _ _ 284 [.int (G.2.2.2.2.2.2.2 (l4 + 1 : Int32).toNatClampNeg), .int (G.2.2.2.2.2.2.2 (l4 + 2 : Int32).toNatClampNeg), .int (G.2.2.2.2.2.2.2 (l4 + 3 : Int32).toNatClampNeg), .int (G.2.2.2.2.2.2.2 (l4 + 4 : Int32).toNatClampNeg), .int (G.2.2.2.2.2.2.2 (l4 + 5 : Int32).toNatClampNeg)] [.int (x9)] okX12_feed mlL_23 imX12_feed seX12_feed (by decide +kernel) rfl rfl (Nat.le_of_ble_eq_true rfl) rfl rfl (Mod_0 S1_) (zC.mono F ?_)
      rintro _ _ ⟨x16, I17, rfl, rfl, F⟩
      change zV G (d + 1) mL_law (kc + 4) (ks + 300) 284 [(0, .ref (G.2.2.2.2.2.1 3)), (1, .ref (x)), (2, .ref (m)), (3, .ref (o)), (4, .int (l4))] [.int (x16), .int (x9)] (I17, J, R, K, n) Q
      refine zIcmp_eq 1299 1583 287 (by decide +kernel) rfl rfl ⟨fun q18 => ?_, fun q18 => ?_⟩
      · replace F := F.1 q18
        refine zIinc 4 6 4 (l4 + 6) [(4, .int (l4 + 6)), (0, .ref (G.2.2.2.2.2.1 3)), (1, .ref (x)), (2, .ref (m)), (3, .ref (o))] 1586 (by decide +kernel) rfl rfl (by rfl) (by decide) rfl ?_
        refine zGoto (-1563) 23 (by decide +kernel) rfl ?_
        exact zLoc [1, 2, 3, 4, 0] _ rfl F
      · replace F := F.2 q18
        refine zIconst 0 0 288 (by decide +kernel) rfl (by decide) ?_
        exact zZret .boolean rfl (zNarZ (Or.inl rfl)) (by decide +kernel) F
    · skip
      by_cases q19 : ((G.2.2.2.2.2.2.2 l4.toNatClampNeg) &&& 63) = 1
      · replace F := F.2.1 q19
        have zt := zEqT q19 (show (1 : Int32).toInt = 1 by decide)
        refine zTableIn 1543 0 39 #[176, 249, 274, 299, 324, 392, 429, 454, 479, 504, 541, 566, 615, 640, 665, 678, 747, 760, 797, 846, 883, 908, 945, 970, 1007, 1032, 1097, 1134, 1159, 1172, 1209, 1246, 1319, 1368, 1405, 1442, 1467, 1492, 1505, 1518] 176 249 289 (by decide +kernel) (by omega) (by omega) (by rw [zt]; decide) rfl ?_
        refine zAload_n 1 1 290 (by decide +kernel) rfl rfl ?_
        refine zAload_n 0 0 291 (by decide +kernel) rfl rfl ?_
        refine zIload 4 4 293 (by decide +kernel) rfl rfl ?_
        refine zIconst 1 1 294 (by decide +kernel) rfl (by decide) ?_
        refine zIadd 295 (by decide +kernel) rfl ?_
        obtain ⟨w20, F⟩ := F
        refine zSaload 296 (by decide +kernel) rfl (w20) ?_
        refine zCallV 11 zcls11 mX11_end 24 1 0 0 _ _ 299 [.int (G.2.2.2.2.2.2.2 (l4 + 1 : Int32).toNatClampNeg)] [] okX11_end mlL_24 imX11_end seX11_end (by decide +kernel) rfl rfl (Nat.le_of_ble_eq_true rfl) rfl rfl (X_0 S0_) (zC.mono F ?_)
        rintro _ _ ⟨x21, I22, rfl, rfl, F⟩
        change zV G (d + 1) mL_law (kc + 4) (ks + 300) 299 [(0, .ref (G.2.2.2.2.2.1 3)), (1, .ref (x)), (2, .ref (m)), (3, .ref (o)), (4, .int (l4))] [.int (x21)] (I22, J, R, K, n) Q
        refine zAload_n 2 2 300 (by decide +kernel) rfl rfl ?_
        refine zAload_n 0 0 301 (by decide +kernel) rfl rfl ?_
        refine zIload 4 4 303 (by decide +kernel) rfl rfl ?_
        refine zIconst 1 1 304 (by decide +kernel) rfl (by decide) ?_
        refine zIadd 305 (by decide +kernel) rfl ?_
        obtain ⟨w23, F⟩ := F
        refine zSaload 306 (by decide +kernel) rfl (w23) ?_
        refine zCallV 12 zcls12 mX12_end 28 1 0 0 _ _ 309 [.int (G.2.2.2.2.2.2.2 (l4 + 1 : Int32).toNatClampNeg)] [.int (x21)] okX12_end mlL_28 imX12_end seX12_end (by decide +kernel) rfl rfl (Nat.le_of_ble_eq_true rfl) rfl rfl (Mod_0 S1_) (zC.mono F ?_)
        rintro _ _ ⟨x24, I25, rfl, rfl, F⟩
        change zV G (d + 1) mL_law (kc + 4) (ks + 300) 309 [(0, .ref (G.2.2.2.2.2.1 3)), (1, .ref (x)), (2, .ref (m)), (3, .ref (o)), (4, .int (l4))] [.int (x24), .int (x21)] (I25, J, R, K, n) Q
        refine zIcmp_eq 1274 1583 312 (by decide +kernel) rfl rfl ⟨fun q26 => ?_, fun q26 => ?_⟩
        · replace F := F.1 q26
          refine zIinc 4 6 4 (l4 + 6) [(4, .int (l4 + 6)), (0, .ref (G.2.2.2.2.2.1 3)), (1, .ref (x)), (2, .ref (m)), (3, .ref (o))] 1586 (by decide +kernel) rfl rfl (by rfl) (by decide) rfl ?_
          refine zGoto (-1563) 23 (by decide +kernel) rfl ?_
          exact zLoc [1, 2, 3, 4, 0] _ rfl F
        · replace F := F.2 q26
          refine zIconst 0 0 313 (by decide +kernel) rfl (by decide) ?_
          exact zZret .boolean rfl (zNarZ (Or.inl rfl)) (by decide +kernel) F
      · skip
        by_cases q27 : ((G.2.2.2.2.2.2.2 l4.toNatClampNeg) &&& 63) = 2
        · replace F := F.2.2.1 q27
          have zt := zEqT q27 (show (2 : Int32).toInt = 2 by decide)
          refine zTableIn 1543 0 39 #[176, 249, 274, 299, 324, 392, 429, 454, 479, 504, 541, 566, 615, 640, 665, 678, 747, 760, 797, 846, 883, 908, 945, 970, 1007, 1032, 1097, 1134, 1159, 1172, 1209, 1246, 1319, 1368, 1405, 1442, 1467, 1492, 1505, 1518] 176 274 314 (by decide +kernel) (by omega) (by omega) (by rw [zt]; decide) rfl ?_
          refine zAload_n 1 1 315 (by decide +kernel) rfl rfl ?_
          refine zAload_n 0 0 316 (by decide +kernel) rfl rfl ?_
          refine zIload 4 4 318 (by decide +kernel) rfl rfl ?_
          refine zIconst 1 1 319 (by decide +kernel) rfl (by decide) ?_
          refine zIadd 320 (by decide +kernel) rfl ?_
          obtain ⟨w28, F⟩ := F
          refine zSaload 321 (by decide +kernel) rfl (w28) ?_
          refine zCallV 11 zcls11 mX11_fault 29 1 0 0 _ _ 324 [.int (G.2.2.2.2.2.2.2 (l4 + 1 : Int32).toNatClampNeg)] [] okX11_fault mlL_29 imX11_fault seX11_fault (by decide +kernel) rfl rfl (Nat.le_of_ble_eq_true rfl) rfl rfl (X_0 S0_) (zC.mono F ?_)
          rintro _ _ ⟨x29, I30, J31, R32, rfl, rfl, F⟩
          change zV G (d + 1) mL_law (kc + 4) (ks + 300) 324 [(0, .ref (G.2.2.2.2.2.1 3)), (1, .ref (x)), (2, .ref (m)), (3, .ref (o)), (4, .int (l4))] [.int (x29)] (I30, J31, R32, K, n) Q
          obtain ⟨u33, u34, u35, S36, F⟩ := F
          obtain ⟨u37, u38, S39, F⟩ := F
          obtain ⟨S40, F⟩ := F
          refine zAload_n 2 2 325 (by decide +kernel) rfl rfl ?_
          refine zAload_n 0 0 326 (by decide +kernel) rfl rfl ?_
          refine zIload 4 4 328 (by decide +kernel) rfl rfl ?_
          refine zIconst 1 1 329 (by decide +kernel) rfl (by decide) ?_
          refine zIadd 330 (by decide +kernel) rfl ?_
          obtain ⟨w41, F⟩ := F
          refine zSaload 331 (by decide +kernel) rfl (w41) ?_
          refine zCallV 12 zcls12 mX12_fault 33 1 0 0 _ _ 334 [.int (G.2.2.2.2.2.2.2 (l4 + 1 : Int32).toNatClampNeg)] [.int (x29)] okX12_fault mlL_33 imX12_fault seX12_fault (by decide +kernel) rfl rfl (Nat.le_of_ble_eq_true rfl) rfl rfl (Mod_0 S39) (zC.mono F ?_)
          rintro _ _ ⟨x42, I43, J44, R45, rfl, rfl, F⟩
          change zV G (d + 1) mL_law (kc + 4) (ks + 300) 334 [(0, .ref (G.2.2.2.2.2.1 3)), (1, .ref (x)), (2, .ref (m)), (3, .ref (o)), (4, .int (l4))] [.int (x42), .int (x29)] (I43, J44, R45, K, n) Q
          obtain ⟨u46, u47, u48, S49, F⟩ := F
          obtain ⟨u50, u51, S52, F⟩ := F
          obtain ⟨S53, F⟩ := F
          refine zIcmp_eq 1249 1583 337 (by decide +kernel) rfl rfl ⟨fun q54 => ?_, fun q54 => ?_⟩
          · replace F := F.1 q54
            refine zIinc 4 6 4 (l4 + 6) [(4, .int (l4 + 6)), (0, .ref (G.2.2.2.2.2.1 3)), (1, .ref (x)), (2, .ref (m)), (3, .ref (o))] 1586 (by decide +kernel) rfl rfl (by rfl) (by decide) rfl ?_
            refine zGoto (-1563) 23 (by decide +kernel) rfl ?_
            exact zLoc [1, 2, 3, 4, 0] _ rfl F
          · replace F := F.2 q54
            refine zIconst 0 0 338 (by decide +kernel) rfl (by decide) ?_
            exact zZret .boolean rfl (zNarZ (Or.inl rfl)) (by decide +kernel) F
        · skip
          by_cases q55 : ((G.2.2.2.2.2.2.2 l4.toNatClampNeg) &&& 63) = 3
          · replace F := F.2.2.2.1 q55
            have zt := zEqT q55 (show (3 : Int32).toInt = 3 by decide)
            refine zTableIn 1543 0 39 #[176, 249, 274, 299, 324, 392, 429, 454, 479, 504, 541, 566, 615, 640, 665, 678, 747, 760, 797, 846, 883, 908, 945, 970, 1007, 1032, 1097, 1134, 1159, 1172, 1209, 1246, 1319, 1368, 1405, 1442, 1467, 1492, 1505, 1518] 176 299 339 (by decide +kernel) (by omega) (by omega) (by rw [zt]; decide) rfl ?_
            refine zAload_n 1 1 340 (by decide +kernel) rfl rfl ?_
            refine zAload_n 0 0 341 (by decide +kernel) rfl rfl ?_
            refine zIload 4 4 343 (by decide +kernel) rfl rfl ?_
            refine zIconst 1 1 344 (by decide +kernel) rfl (by decide) ?_
            refine zIadd 345 (by decide +kernel) rfl ?_
            obtain ⟨w56, F⟩ := F
            refine zSaload 346 (by decide +kernel) rfl (w56) ?_
            refine zCallV 11 zcls11 mX11_text 34 1 4 300 kc ks 349 [.int (G.2.2.2.2.2.2.2 (l4 + 1 : Int32).toNatClampNeg)] [] okX11_text mlL_34 imX11_text seX11_text (by decide +kernel) rfl rfl (Nat.le_of_ble_eq_true rfl) (by omega) (by omega) (X_0 S0_) (zC.mono F ?_)
            rintro _ _ ⟨x57, I58, J59, R60, K61, n62, rfl, rfl, F⟩
            change zV G (d + 1) mL_law kc ks 349 [(0, .ref (G.2.2.2.2.2.1 3)), (1, .ref (x)), (2, .ref (m)), (3, .ref (o)), (4, .int (l4))] [.int (x57)] (I58, J59, R60, K61, n62) Q
            obtain ⟨u63, u64, u65, S66, F⟩ := F
            obtain ⟨u67, u68, S69, F⟩ := F
            obtain ⟨S70, F⟩ := F
            refine zAload_n 2 2 350 (by decide +kernel) rfl rfl ?_
            refine zAload_n 0 0 351 (by decide +kernel) rfl rfl ?_
            refine zIload 4 4 353 (by decide +kernel) rfl rfl ?_
            refine zIconst 1 1 354 (by decide +kernel) rfl (by decide) ?_
            refine zIadd 355 (by decide +kernel) rfl ?_
            obtain ⟨w71, F⟩ := F
            refine zSaload 356 (by decide +kernel) rfl (w71) ?_
            refine zCallV 12 zcls12 mX12_text 37 1 0 0 _ _ 359 [.int (G.2.2.2.2.2.2.2 (l4 + 1 : Int32).toNatClampNeg)] [.int (x57)] okX12_text mlL_37 imX12_text seX12_text (by decide +kernel) rfl rfl (Nat.le_of_ble_eq_true rfl) rfl rfl (Mod_0 S69) (zC.mono F ?_)
            rintro _ _ ⟨x72, I73, J74, R75, rfl, rfl, F⟩
            change zV G (d + 1) mL_law kc ks 359 [(0, .ref (G.2.2.2.2.2.1 3)), (1, .ref (x)), (2, .ref (m)), (3, .ref (o)), (4, .int (l4))] [.int (x72), .int (x57)] (I73, J74, R75, K61, n62) Q
            obtain ⟨u76, u77, u78, S79, F⟩ := F
            obtain ⟨u80, u81, S82, F⟩ := F
            obtain ⟨S83, F⟩ := F
            refine zIcmp_eq 1224 1583 362 (by decide +kernel) rfl rfl ⟨fun q84 => ?_, fun q84 => ?_⟩
            · replace F := F.1 q84
              refine zIinc 4 6 4 (l4 + 6) [(4, .int (l4 + 6)), (0, .ref (G.2.2.2.2.2.1 3)), (1, .ref (x)), (2, .ref (m)), (3, .ref (o))] 1586 (by decide +kernel) rfl rfl (by rfl) (by decide) rfl ?_
              refine zGoto (-1563) 23 (by decide +kernel) rfl ?_
              exact zLoc [1, 2, 3, 4, 0] _ rfl F
            · replace F := F.2 q84
              refine zIconst 0 0 363 (by decide +kernel) rfl (by decide) ?_
              exact zZret .boolean rfl (zNarZ (Or.inl rfl)) (by decide +kernel) F
          · skip
            by_cases q85 : ((G.2.2.2.2.2.2.2 l4.toNatClampNeg) &&& 63) = 4
            · replace F := F.2.2.2.2.1 q85
              have zt := zEqT q85 (show (4 : Int32).toInt = 4 by decide)
              refine zTableIn 1543 0 39 #[176, 249, 274, 299, 324, 392, 429, 454, 479, 504, 541, 566, 615, 640, 665, 678, 747, 760, 797, 846, 883, 908, 945, 970, 1007, 1032, 1097, 1134, 1159, 1172, 1209, 1246, 1319, 1368, 1405, 1442, 1467, 1492, 1505, 1518] 176 324 364 (by decide +kernel) (by omega) (by omega) (by rw [zt]; decide) rfl ?_
              refine zAload_n 1 1 365 (by decide +kernel) rfl rfl ?_
              refine zAload_n 0 0 366 (by decide +kernel) rfl rfl ?_
              refine zIload 4 4 368 (by decide +kernel) rfl rfl ?_
              refine zIconst 1 1 369 (by decide +kernel) rfl (by decide) ?_
              refine zIadd 370 (by decide +kernel) rfl ?_
              obtain ⟨w86, F⟩ := F
              refine zSaload 371 (by decide +kernel) rfl (w86) ?_
              refine zAload_n 0 0 372 (by decide +kernel) rfl rfl ?_
              refine zIload 4 4 374 (by decide +kernel) rfl rfl ?_
              refine zIconst 2 2 375 (by decide +kernel) rfl (by decide) ?_
              refine zIadd 376 (by decide +kernel) rfl ?_
              obtain ⟨w87, F⟩ := F
              refine zSaload 377 (by decide +kernel) rfl (w87) ?_
              refine zAload_n 3 3 378 (by decide +kernel) rfl rfl ?_
              refine zCallF 38 1 6 (kc + 3) (ks + 294) 381 [.ref (x), .int (G.2.2.2.2.2.2.2 (l4 + 1 : Int32).toNatClampNeg), .int (G.2.2.2.2.2.2.2 (l4 + 2 : Int32).toNatClampNeg), .ref (o)] [] mlL_38 (by decide +kernel) rfl rfl (Nat.le_of_ble_eq_true rfl) (by omega) (by omega) (fun l hl => zCF.mono F ?_ l hl)
              rintro _ _ ⟨x88, I89, J90, K91, n92, rfl, rfl, F⟩
              change zV G (d + 1) mL_law (kc + 3) (ks + 294) 381 [(0, .ref (G.2.2.2.2.2.1 3)), (1, .ref (x)), (2, .ref (m)), (3, .ref (o)), (4, .int (l4))] [.int (x88)] (I89, J90, R, K91, n92) Q
              obtain ⟨u93, u94, u95, S96, F⟩ := F
              obtain ⟨u97, u98, S99, F⟩ := F
              obtain ⟨S100, F⟩ := F
              refine zIstore 5 [(5, .int (x88)), (0, .ref (G.2.2.2.2.2.1 3)), (1, .ref (x)), (2, .ref (m)), (3, .ref (o)), (4, .int (l4))] 383 (by decide +kernel) rfl (by decide) rfl ?_
              refine zAload_n 2 3 384 (by decide +kernel) rfl rfl ?_
              refine zAload_n 0 1 385 (by decide +kernel) rfl rfl ?_
              refine zIload 4 5 387 (by decide +kernel) rfl rfl ?_
              refine zIconst 1 1 388 (by decide +kernel) rfl (by decide) ?_
              refine zIadd 389 (by decide +kernel) rfl ?_
              obtain ⟨w101, F⟩ := F
              refine zSaload 390 (by decide +kernel) rfl (w101) ?_
              refine zAload_n 0 1 391 (by decide +kernel) rfl rfl ?_
              refine zIload 4 5 393 (by decide +kernel) rfl rfl ?_
              refine zIconst 2 2 394 (by decide +kernel) rfl (by decide) ?_
              refine zIadd 395 (by decide +kernel) rfl ?_
              obtain ⟨w102, F⟩ := F
              refine zSaload 396 (by decide +kernel) rfl (w102) ?_
              refine zCallV 12 zcls12 mX12_farm 43 2 0 0 _ _ 399 [.int (G.2.2.2.2.2.2.2 (l4 + 1 : Int32).toNatClampNeg), .int (G.2.2.2.2.2.2.2 (l4 + 2 : Int32).toNatClampNeg)] [] okX12_farm mlL_43 imX12_farm seX12_farm (by decide +kernel) rfl rfl (Nat.le_of_ble_eq_true rfl) rfl rfl (Mod_0 S99) (zC.mono F ?_)
              rintro _ _ ⟨x103, I104, rfl, rfl, F⟩
              change zV G (d + 1) mL_law (kc + 3) (ks + 294) 399 [(5, .int (x88)), (0, .ref (G.2.2.2.2.2.1 3)), (1, .ref (x)), (2, .ref (m)), (3, .ref (o)), (4, .int (l4))] [.int (x103)] (I104, J90, R, K91, n92) Q
              refine zIstore 6 [(6, .int (x103)), (5, .int (x88)), (0, .ref (G.2.2.2.2.2.1 3)), (1, .ref (x)), (2, .ref (m)), (3, .ref (o)), (4, .int (l4))] 401 (by decide +kernel) rfl (by decide) rfl ?_
              refine zAload_n 2 4 402 (by decide +kernel) rfl rfl ?_
              refine zCallV 12 zcls12 mX12_thrown 44 0 0 0 _ _ 405 [] [] okX12_thrown mlL_44 imX12_thrown seX12_thrown (by decide +kernel) rfl rfl (Nat.le_of_ble_eq_true rfl) rfl rfl (Mod_0 S99) (zC.mono F ?_)
              rintro _ _ ⟨x105, I106, rfl, rfl, F⟩
              change zV G (d + 1) mL_law (kc + 3) (ks + 294) 405 [(6, .int (x103)), (5, .int (x88)), (0, .ref (G.2.2.2.2.2.1 3)), (1, .ref (x)), (2, .ref (m)), (3, .ref (o)), (4, .int (l4))] [.int (x105)] (I106, J90, R, K91, n92) Q
              refine zIload 5 1 407 (by decide +kernel) rfl rfl ?_
              refine zIcmp_eq 5 412 410 (by decide +kernel) rfl rfl ⟨fun q107 => ?_, fun q107 => ?_⟩
              · replace F := F.1 q107
                refine zIload 5 1 414 (by decide +kernel) rfl rfl ?_
                refine zIf_ne 15 429 417 (by decide +kernel) rfl rfl ⟨fun q108 => ?_, fun q108 => ?_⟩
                · replace F := F.2 q108
                  refine zGoto 1154 1583 (by decide +kernel) rfl ?_
                  refine zIinc 4 6 6 (l4 + 6) [(4, .int (l4 + 6)), (6, .int (x103)), (5, .int (x88)), (0, .ref (G.2.2.2.2.2.1 3)), (1, .ref (x)), (2, .ref (m)), (3, .ref (o))] 1586 (by decide +kernel) rfl rfl (by rfl) (by decide) rfl ?_
                  refine zGoto (-1563) 23 (by decide +kernel) rfl ?_
                  exact zLoc [3, 4, 5, 6, 0] _ rfl F
                · replace F := F.1 q108
                  refine zAload_n 3 5 418 (by decide +kernel) rfl rfl ?_
                  refine zIconst 0 0 419 (by decide +kernel) rfl (by decide) ?_
                  obtain ⟨w109, F⟩ := F
                  refine yLaload 1 420 (by decide +kernel) rfl (Out_0 S100) (w109) ?_
                  refine zIload 6 0 422 (by decide +kernel) rfl rfl ?_
                  refine zI2l 423 (by decide +kernel) rfl ?_
                  refine zLcmp 424 (by decide +kernel) rfl ?_
                  refine zIf_eq 5 429 427 (by decide +kernel) rfl rfl ⟨fun q110 => ?_, fun q110 => ?_⟩
                  · replace F := F.1 q110
                    refine zGoto 1154 1583 (by decide +kernel) rfl ?_
                    refine zIinc 4 6 6 (l4 + 6) [(4, .int (l4 + 6)), (6, .int (x103)), (5, .int (x88)), (0, .ref (G.2.2.2.2.2.1 3)), (1, .ref (x)), (2, .ref (m)), (3, .ref (o))] 1586 (by decide +kernel) rfl rfl (by rfl) (by decide) rfl ?_
                    refine zGoto (-1563) 23 (by decide +kernel) rfl ?_
                    exact zLoc [3, 4, 5, 6, 0] _ rfl F
                  · replace F := F.2 q110
                    refine zIconst 0 0 428 (by decide +kernel) rfl (by decide) ?_
                    exact zZret .boolean rfl (zNarZ (Or.inl rfl)) (by decide +kernel) F
              · replace F := F.2 q107
                refine zIconst 0 0 411 (by decide +kernel) rfl (by decide) ?_
                exact zZret .boolean rfl (zNarZ (Or.inl rfl)) (by decide +kernel) F
            · skip
              by_cases q111 : ((G.2.2.2.2.2.2.2 l4.toNatClampNeg) &&& 63) = 5
              · replace F := F.2.2.2.2.2.1 q111
                have zt := zEqT q111 (show (5 : Int32).toInt = 5 by decide)
                refine zTableIn 1543 0 39 #[176, 249, 274, 299, 324, 392, 429, 454, 479, 504, 541, 566, 615, 640, 665, 678, 747, 760, 797, 846, 883, 908, 945, 970, 1007, 1032, 1097, 1134, 1159, 1172, 1209, 1246, 1319, 1368, 1405, 1442, 1467, 1492, 1505, 1518] 176 392 432 (by decide +kernel) (by omega) (by omega) (by rw [zt]; decide) rfl ?_
                refine zAload_n 1 1 433 (by decide +kernel) rfl rfl ?_
                refine zAload_n 0 0 434 (by decide +kernel) rfl rfl ?_
                refine zIload 4 4 436 (by decide +kernel) rfl rfl ?_
                refine zIconst 1 1 437 (by decide +kernel) rfl (by decide) ?_
                refine zIadd 438 (by decide +kernel) rfl ?_
                obtain ⟨w112, F⟩ := F
                refine zSaload 439 (by decide +kernel) rfl (w112) ?_
                refine zAload_n 0 0 440 (by decide +kernel) rfl rfl ?_
                refine zIload 4 4 442 (by decide +kernel) rfl rfl ?_
                refine zIconst 2 2 443 (by decide +kernel) rfl (by decide) ?_
                refine zIadd 444 (by decide +kernel) rfl ?_
                obtain ⟨w113, F⟩ := F
                refine zSaload 445 (by decide +kernel) rfl (w113) ?_
                refine zCallV 11 zcls11 mX11_wrong 48 2 0 0 _ _ 448 [.int (G.2.2.2.2.2.2.2 (l4 + 1 : Int32).toNatClampNeg), .int (G.2.2.2.2.2.2.2 (l4 + 2 : Int32).toNatClampNeg)] [] okX11_wrong mlL_48 imX11_wrong seX11_wrong (by decide +kernel) rfl rfl (Nat.le_of_ble_eq_true rfl) rfl rfl (X_0 S0_) (zC.mono F ?_)
                rintro _ _ ⟨x114, I115, rfl, rfl, F⟩
                change zV G (d + 1) mL_law (kc + 4) (ks + 300) 448 [(0, .ref (G.2.2.2.2.2.1 3)), (1, .ref (x)), (2, .ref (m)), (3, .ref (o)), (4, .int (l4))] [.int (x114)] (I115, J, R, K, n) Q
                refine zAload_n 2 2 449 (by decide +kernel) rfl rfl ?_
                refine zAload_n 0 0 450 (by decide +kernel) rfl rfl ?_
                refine zIload 4 4 452 (by decide +kernel) rfl rfl ?_
                refine zIconst 1 1 453 (by decide +kernel) rfl (by decide) ?_
                refine zIadd 454 (by decide +kernel) rfl ?_
                obtain ⟨w116, F⟩ := F
                refine zSaload 455 (by decide +kernel) rfl (w116) ?_
                refine zAload_n 0 0 456 (by decide +kernel) rfl rfl ?_
                refine zIload 4 4 458 (by decide +kernel) rfl rfl ?_
                refine zIconst 2 2 459 (by decide +kernel) rfl (by decide) ?_
                refine zIadd 460 (by decide +kernel) rfl ?_
                obtain ⟨w117, F⟩ := F
                refine zSaload 461 (by decide +kernel) rfl (w117) ?_
                refine zCallV 12 zcls12 mX12_wrong 51 2 0 0 _ _ 464 [.int (G.2.2.2.2.2.2.2 (l4 + 1 : Int32).toNatClampNeg), .int (G.2.2.2.2.2.2.2 (l4 + 2 : Int32).toNatClampNeg)] [.int (x114)] okX12_wrong mlL_51 imX12_wrong seX12_wrong (by decide +kernel) rfl rfl (Nat.le_of_ble_eq_true rfl) rfl rfl (Mod_0 S1_) (zC.mono F ?_)
                rintro _ _ ⟨x118, I119, J120, R121, rfl, rfl, F⟩
                change zV G (d + 1) mL_law (kc + 4) (ks + 300) 464 [(0, .ref (G.2.2.2.2.2.1 3)), (1, .ref (x)), (2, .ref (m)), (3, .ref (o)), (4, .int (l4))] [.int (x118), .int (x114)] (I119, J120, R121, K, n) Q
                obtain ⟨u122, u123, u124, S125, F⟩ := F
                obtain ⟨u126, u127, S128, F⟩ := F
                obtain ⟨S129, F⟩ := F
                refine zIcmp_eq 1119 1583 467 (by decide +kernel) rfl rfl ⟨fun q130 => ?_, fun q130 => ?_⟩
                · replace F := F.1 q130
                  refine zIinc 4 6 4 (l4 + 6) [(4, .int (l4 + 6)), (0, .ref (G.2.2.2.2.2.1 3)), (1, .ref (x)), (2, .ref (m)), (3, .ref (o))] 1586 (by decide +kernel) rfl rfl (by rfl) (by decide) rfl ?_
                  refine zGoto (-1563) 23 (by decide +kernel) rfl ?_
                  exact zLoc [1, 2, 3, 4, 0] _ rfl F
                · replace F := F.2 q130
                  refine zIconst 0 0 468 (by decide +kernel) rfl (by decide) ?_
                  exact zZret .boolean rfl (zNarZ (Or.inl rfl)) (by decide +kernel) F
              · skip
                by_cases q131 : ((G.2.2.2.2.2.2.2 l4.toNatClampNeg) &&& 63) = 6
                · replace F := F.2.2.2.2.2.2.1 q131
                  have zt := zEqT q131 (show (6 : Int32).toInt = 6 by decide)
                  refine zTableIn 1543 0 39 #[176, 249, 274, 299, 324, 392, 429, 454, 479, 504, 541, 566, 615, 640, 665, 678, 747, 760, 797, 846, 883, 908, 945, 970, 1007, 1032, 1097, 1134, 1159, 1172, 1209, 1246, 1319, 1368, 1405, 1442, 1467, 1492, 1505, 1518] 176 429 469 (by decide +kernel) (by omega) (by omega) (by rw [zt]; decide) rfl ?_
                  refine zAload_n 1 1 470 (by decide +kernel) rfl rfl ?_
                  refine zAload_n 0 0 471 (by decide +kernel) rfl rfl ?_
                  refine zIload 4 4 473 (by decide +kernel) rfl rfl ?_
                  refine zIconst 1 1 474 (by decide +kernel) rfl (by decide) ?_
                  refine zIadd 475 (by decide +kernel) rfl ?_
                  obtain ⟨w132, F⟩ := F
                  refine zSaload 476 (by decide +kernel) rfl (w132) ?_
                  refine zCallV 11 zcls11 mX11_law 52 1 0 0 _ _ 479 [.int (G.2.2.2.2.2.2.2 (l4 + 1 : Int32).toNatClampNeg)] [] okX11_law mlL_52 imX11_law seX11_law (by decide +kernel) rfl rfl (Nat.le_of_ble_eq_true rfl) rfl rfl (X_0 S0_) (zC.mono F ?_)
                  rintro _ _ ⟨x133, I134, J135, R136, rfl, rfl, F⟩
                  change zV G (d + 1) mL_law (kc + 4) (ks + 300) 479 [(0, .ref (G.2.2.2.2.2.1 3)), (1, .ref (x)), (2, .ref (m)), (3, .ref (o)), (4, .int (l4))] [.int (x133)] (I134, J135, R136, K, n) Q
                  obtain ⟨u137, u138, u139, S140, F⟩ := F
                  obtain ⟨u141, u142, S143, F⟩ := F
                  obtain ⟨S144, F⟩ := F
                  refine zAload_n 2 2 480 (by decide +kernel) rfl rfl ?_
                  refine zAload_n 0 0 481 (by decide +kernel) rfl rfl ?_
                  refine zIload 4 4 483 (by decide +kernel) rfl rfl ?_
                  refine zIconst 1 1 484 (by decide +kernel) rfl (by decide) ?_
                  refine zIadd 485 (by decide +kernel) rfl ?_
                  obtain ⟨w145, F⟩ := F
                  refine zSaload 486 (by decide +kernel) rfl (w145) ?_
                  refine zCallV 12 zcls12 mX12_law 55 1 0 0 _ _ 489 [.int (G.2.2.2.2.2.2.2 (l4 + 1 : Int32).toNatClampNeg)] [.int (x133)] okX12_law mlL_55 imX12_law seX12_law (by decide +kernel) rfl rfl (Nat.le_of_ble_eq_true rfl) rfl rfl (Mod_0 S143) (zC.mono F ?_)
                  rintro _ _ ⟨x146, I147, rfl, rfl, F⟩
                  change zV G (d + 1) mL_law (kc + 4) (ks + 300) 489 [(0, .ref (G.2.2.2.2.2.1 3)), (1, .ref (x)), (2, .ref (m)), (3, .ref (o)), (4, .int (l4))] [.int (x146), .int (x133)] (I147, J135, R136, K, n) Q
                  refine zIcmp_eq 1094 1583 492 (by decide +kernel) rfl rfl ⟨fun q148 => ?_, fun q148 => ?_⟩
                  · replace F := F.1 q148
                    refine zIinc 4 6 4 (l4 + 6) [(4, .int (l4 + 6)), (0, .ref (G.2.2.2.2.2.1 3)), (1, .ref (x)), (2, .ref (m)), (3, .ref (o))] 1586 (by decide +kernel) rfl rfl (by rfl) (by decide) rfl ?_
                    refine zGoto (-1563) 23 (by decide +kernel) rfl ?_
                    exact zLoc [1, 2, 3, 4, 0] _ rfl F
                  · replace F := F.2 q148
                    refine zIconst 0 0 493 (by decide +kernel) rfl (by decide) ?_
                    exact zZret .boolean rfl (zNarZ (Or.inl rfl)) (by decide +kernel) F
                · skip
                  by_cases q149 : ((G.2.2.2.2.2.2.2 l4.toNatClampNeg) &&& 63) = 7
                  · replace F := F.2.2.2.2.2.2.2.1 q149
                    have zt := zEqT q149 (show (7 : Int32).toInt = 7 by decide)
                    refine zTableIn 1543 0 39 #[176, 249, 274, 299, 324, 392, 429, 454, 479, 504, 541, 566, 615, 640, 665, 678, 747, 760, 797, 846, 883, 908, 945, 970, 1007, 1032, 1097, 1134, 1159, 1172, 1209, 1246, 1319, 1368, 1405, 1442, 1467, 1492, 1505, 1518] 176 454 494 (by decide +kernel) (by omega) (by omega) (by rw [zt]; decide) rfl ?_
                    refine zAload_n 1 1 495 (by decide +kernel) rfl rfl ?_
                    refine zAload_n 0 0 496 (by decide +kernel) rfl rfl ?_
                    refine zIload 4 4 498 (by decide +kernel) rfl rfl ?_
                    refine zIconst 1 1 499 (by decide +kernel) rfl (by decide) ?_
                    refine zIadd 500 (by decide +kernel) rfl ?_
                    obtain ⟨w150, F⟩ := F
                    refine zSaload 501 (by decide +kernel) rfl (w150) ?_
                    refine zCallV 11 zcls11 mX11_apples 56 1 0 0 _ _ 504 [.int (G.2.2.2.2.2.2.2 (l4 + 1 : Int32).toNatClampNeg)] [] okX11_apples mlL_56 imX11_apples seX11_apples (by decide +kernel) rfl rfl (Nat.le_of_ble_eq_true rfl) rfl rfl (X_0 S0_) (zC.mono F ?_)
                    rintro _ _ ⟨x151, I152, rfl, rfl, F⟩
                    change zV G (d + 1) mL_law (kc + 4) (ks + 300) 504 [(0, .ref (G.2.2.2.2.2.1 3)), (1, .ref (x)), (2, .ref (m)), (3, .ref (o)), (4, .int (l4))] [.int (x151)] (I152, J, R, K, n) Q
                    refine zAload_n 2 2 505 (by decide +kernel) rfl rfl ?_
                    refine zAload_n 0 0 506 (by decide +kernel) rfl rfl ?_
                    refine zIload 4 4 508 (by decide +kernel) rfl rfl ?_
                    refine zIconst 1 1 509 (by decide +kernel) rfl (by decide) ?_
                    refine zIadd 510 (by decide +kernel) rfl ?_
                    obtain ⟨w153, F⟩ := F
                    refine zSaload 511 (by decide +kernel) rfl (w153) ?_
                    refine zCallV 12 zcls12 mX12_apples 59 1 0 0 _ _ 514 [.int (G.2.2.2.2.2.2.2 (l4 + 1 : Int32).toNatClampNeg)] [.int (x151)] okX12_apples mlL_59 imX12_apples seX12_apples (by decide +kernel) rfl rfl (Nat.le_of_ble_eq_true rfl) rfl rfl (Mod_0 S1_) (zC.mono F ?_)
                    rintro _ _ ⟨x154, I155, rfl, rfl, F⟩
                    change zV G (d + 1) mL_law (kc + 4) (ks + 300) 514 [(0, .ref (G.2.2.2.2.2.1 3)), (1, .ref (x)), (2, .ref (m)), (3, .ref (o)), (4, .int (l4))] [.int (x154), .int (x151)] (I155, J, R, K, n) Q
                    refine zIcmp_eq 1069 1583 517 (by decide +kernel) rfl rfl ⟨fun q156 => ?_, fun q156 => ?_⟩
                    · replace F := F.1 q156
                      refine zIinc 4 6 4 (l4 + 6) [(4, .int (l4 + 6)), (0, .ref (G.2.2.2.2.2.1 3)), (1, .ref (x)), (2, .ref (m)), (3, .ref (o))] 1586 (by decide +kernel) rfl rfl (by rfl) (by decide) rfl ?_
                      refine zGoto (-1563) 23 (by decide +kernel) rfl ?_
                      exact zLoc [1, 2, 3, 4, 0] _ rfl F
                    · replace F := F.2 q156
                      refine zIconst 0 0 518 (by decide +kernel) rfl (by decide) ?_
                      exact zZret .boolean rfl (zNarZ (Or.inl rfl)) (by decide +kernel) F
                  · skip
                    by_cases q157 : ((G.2.2.2.2.2.2.2 l4.toNatClampNeg) &&& 63) = 8
                    · replace F := F.2.2.2.2.2.2.2.2.1 q157
                      have zt := zEqT q157 (show (8 : Int32).toInt = 8 by decide)
                      refine zTableIn 1543 0 39 #[176, 249, 274, 299, 324, 392, 429, 454, 479, 504, 541, 566, 615, 640, 665, 678, 747, 760, 797, 846, 883, 908, 945, 970, 1007, 1032, 1097, 1134, 1159, 1172, 1209, 1246, 1319, 1368, 1405, 1442, 1467, 1492, 1505, 1518] 176 479 519 (by decide +kernel) (by omega) (by omega) (by rw [zt]; decide) rfl ?_
                      refine zAload_n 1 1 520 (by decide +kernel) rfl rfl ?_
                      refine zAload_n 0 0 521 (by decide +kernel) rfl rfl ?_
                      refine zIload 4 4 523 (by decide +kernel) rfl rfl ?_
                      refine zIconst 1 1 524 (by decide +kernel) rfl (by decide) ?_
                      refine zIadd 525 (by decide +kernel) rfl ?_
                      obtain ⟨w158, F⟩ := F
                      refine zSaload 526 (by decide +kernel) rfl (w158) ?_
                      refine zCallV 11 zcls11 mX11_forgive 60 1 0 0 _ _ 529 [.int (G.2.2.2.2.2.2.2 (l4 + 1 : Int32).toNatClampNeg)] [] okX11_forgive mlL_60 imX11_forgive seX11_forgive (by decide +kernel) rfl rfl (Nat.le_of_ble_eq_true rfl) rfl rfl (X_0 S0_) (zC.mono F ?_)
                      rintro _ _ ⟨x159, I160, rfl, rfl, F⟩
                      change zV G (d + 1) mL_law (kc + 4) (ks + 300) 529 [(0, .ref (G.2.2.2.2.2.1 3)), (1, .ref (x)), (2, .ref (m)), (3, .ref (o)), (4, .int (l4))] [.int (x159)] (I160, J, R, K, n) Q
                      refine zAload_n 2 2 530 (by decide +kernel) rfl rfl ?_
                      refine zAload_n 0 0 531 (by decide +kernel) rfl rfl ?_
                      refine zIload 4 4 533 (by decide +kernel) rfl rfl ?_
                      refine zIconst 1 1 534 (by decide +kernel) rfl (by decide) ?_
                      refine zIadd 535 (by decide +kernel) rfl ?_
                      obtain ⟨w161, F⟩ := F
                      refine zSaload 536 (by decide +kernel) rfl (w161) ?_
                      refine zCallV 12 zcls12 mX12_forgive 63 1 0 0 _ _ 539 [.int (G.2.2.2.2.2.2.2 (l4 + 1 : Int32).toNatClampNeg)] [.int (x159)] okX12_forgive mlL_63 imX12_forgive seX12_forgive (by decide +kernel) rfl rfl (Nat.le_of_ble_eq_true rfl) rfl rfl (Mod_0 S1_) (zC.mono F ?_)
                      rintro _ _ ⟨x162, I163, J164, R165, rfl, rfl, F⟩
                      change zV G (d + 1) mL_law (kc + 4) (ks + 300) 539 [(0, .ref (G.2.2.2.2.2.1 3)), (1, .ref (x)), (2, .ref (m)), (3, .ref (o)), (4, .int (l4))] [.int (x162), .int (x159)] (I163, J164, R165, K, n) Q
                      obtain ⟨u166, u167, u168, S169, F⟩ := F
                      obtain ⟨u170, u171, S172, F⟩ := F
                      obtain ⟨S173, F⟩ := F
                      refine zIcmp_eq 1044 1583 542 (by decide +kernel) rfl rfl ⟨fun q174 => ?_, fun q174 => ?_⟩
                      · replace F := F.1 q174
                        refine zIinc 4 6 4 (l4 + 6) [(4, .int (l4 + 6)), (0, .ref (G.2.2.2.2.2.1 3)), (1, .ref (x)), (2, .ref (m)), (3, .ref (o))] 1586 (by decide +kernel) rfl rfl (by rfl) (by decide) rfl ?_
                        refine zGoto (-1563) 23 (by decide +kernel) rfl ?_
                        exact zLoc [1, 2, 3, 4, 0] _ rfl F
                      · replace F := F.2 q174
                        refine zIconst 0 0 543 (by decide +kernel) rfl (by decide) ?_
                        exact zZret .boolean rfl (zNarZ (Or.inl rfl)) (by decide +kernel) F
                    · skip
                      by_cases q175 : ((G.2.2.2.2.2.2.2 l4.toNatClampNeg) &&& 63) = 9
                      · replace F := F.2.2.2.2.2.2.2.2.2.1 q175
                        have zt := zEqT q175 (show (9 : Int32).toInt = 9 by decide)
                        refine zTableIn 1543 0 39 #[176, 249, 274, 299, 324, 392, 429, 454, 479, 504, 541, 566, 615, 640, 665, 678, 747, 760, 797, 846, 883, 908, 945, 970, 1007, 1032, 1097, 1134, 1159, 1172, 1209, 1246, 1319, 1368, 1405, 1442, 1467, 1492, 1505, 1518] 176 504 544 (by decide +kernel) (by omega) (by omega) (by rw [zt]; decide) rfl ?_
                        refine zAload_n 1 1 545 (by decide +kernel) rfl rfl ?_
                        refine zAload_n 0 0 546 (by decide +kernel) rfl rfl ?_
                        refine zIload 4 4 548 (by decide +kernel) rfl rfl ?_
                        refine zIconst 1 1 549 (by decide +kernel) rfl (by decide) ?_
                        refine zIadd 550 (by decide +kernel) rfl ?_
                        obtain ⟨w176, F⟩ := F
                        refine zSaload 551 (by decide +kernel) rfl (w176) ?_
                        refine zAload_n 0 0 552 (by decide +kernel) rfl rfl ?_
                        refine zIload 4 4 554 (by decide +kernel) rfl rfl ?_
                        refine zIconst 2 2 555 (by decide +kernel) rfl (by decide) ?_
                        refine zIadd 556 (by decide +kernel) rfl ?_
                        obtain ⟨w177, F⟩ := F
                        refine zSaload 557 (by decide +kernel) rfl (w177) ?_
                        refine zCallV 11 zcls11 mX11_paint 64 2 0 0 _ _ 560 [.int (G.2.2.2.2.2.2.2 (l4 + 1 : Int32).toNatClampNeg), .int (G.2.2.2.2.2.2.2 (l4 + 2 : Int32).toNatClampNeg)] [] okX11_paint mlL_64 imX11_paint seX11_paint (by decide +kernel) rfl rfl (Nat.le_of_ble_eq_true rfl) rfl rfl (X_0 S0_) (zC.mono F ?_)
                        rintro _ _ ⟨x178, I179, rfl, rfl, F⟩
                        change zV G (d + 1) mL_law (kc + 4) (ks + 300) 560 [(0, .ref (G.2.2.2.2.2.1 3)), (1, .ref (x)), (2, .ref (m)), (3, .ref (o)), (4, .int (l4))] [.int (x178)] (I179, J, R, K, n) Q
                        refine zAload_n 2 2 561 (by decide +kernel) rfl rfl ?_
                        refine zAload_n 0 0 562 (by decide +kernel) rfl rfl ?_
                        refine zIload 4 4 564 (by decide +kernel) rfl rfl ?_
                        refine zIconst 1 1 565 (by decide +kernel) rfl (by decide) ?_
                        refine zIadd 566 (by decide +kernel) rfl ?_
                        obtain ⟨w180, F⟩ := F
                        refine zSaload 567 (by decide +kernel) rfl (w180) ?_
                        refine zAload_n 0 0 568 (by decide +kernel) rfl rfl ?_
                        refine zIload 4 4 570 (by decide +kernel) rfl rfl ?_
                        refine zIconst 2 2 571 (by decide +kernel) rfl (by decide) ?_
                        refine zIadd 572 (by decide +kernel) rfl ?_
                        obtain ⟨w181, F⟩ := F
                        refine zSaload 573 (by decide +kernel) rfl (w181) ?_
                        refine zCallV 12 zcls12 mX12_paint 67 2 0 0 _ _ 576 [.int (G.2.2.2.2.2.2.2 (l4 + 1 : Int32).toNatClampNeg), .int (G.2.2.2.2.2.2.2 (l4 + 2 : Int32).toNatClampNeg)] [.int (x178)] okX12_paint mlL_67 imX12_paint seX12_paint (by decide +kernel) rfl rfl (Nat.le_of_ble_eq_true rfl) rfl rfl (Mod_0 S1_) (zC.mono F ?_)
                        rintro _ _ ⟨x182, I183, rfl, rfl, F⟩
                        change zV G (d + 1) mL_law (kc + 4) (ks + 300) 576 [(0, .ref (G.2.2.2.2.2.1 3)), (1, .ref (x)), (2, .ref (m)), (3, .ref (o)), (4, .int (l4))] [.int (x182), .int (x178)] (I183, J, R, K, n) Q
                        refine zIcmp_eq 1007 1583 579 (by decide +kernel) rfl rfl ⟨fun q184 => ?_, fun q184 => ?_⟩
                        · replace F := F.1 q184
                          refine zIinc 4 6 4 (l4 + 6) [(4, .int (l4 + 6)), (0, .ref (G.2.2.2.2.2.1 3)), (1, .ref (x)), (2, .ref (m)), (3, .ref (o))] 1586 (by decide +kernel) rfl rfl (by rfl) (by decide) rfl ?_
                          refine zGoto (-1563) 23 (by decide +kernel) rfl ?_
                          exact zLoc [1, 2, 3, 4, 0] _ rfl F
                        · replace F := F.2 q184
                          refine zIconst 0 0 580 (by decide +kernel) rfl (by decide) ?_
                          exact zZret .boolean rfl (zNarZ (Or.inl rfl)) (by decide +kernel) F
                      · skip
                        by_cases q185 : ((G.2.2.2.2.2.2.2 l4.toNatClampNeg) &&& 63) = 10
                        · replace F := F.2.2.2.2.2.2.2.2.2.2.1 q185
                          have zt := zEqT q185 (show (10 : Int32).toInt = 10 by decide)
                          refine zTableIn 1543 0 39 #[176, 249, 274, 299, 324, 392, 429, 454, 479, 504, 541, 566, 615, 640, 665, 678, 747, 760, 797, 846, 883, 908, 945, 970, 1007, 1032, 1097, 1134, 1159, 1172, 1209, 1246, 1319, 1368, 1405, 1442, 1467, 1492, 1505, 1518] 176 541 581 (by decide +kernel) (by omega) (by omega) (by rw [zt]; decide) rfl ?_
                          refine zAload_n 1 1 582 (by decide +kernel) rfl rfl ?_
                          refine zAload_n 0 0 583 (by decide +kernel) rfl rfl ?_
                          refine zIload 4 4 585 (by decide +kernel) rfl rfl ?_
                          refine zIconst 1 1 586 (by decide +kernel) rfl (by decide) ?_
                          refine zIadd 587 (by decide +kernel) rfl ?_
                          obtain ⟨w186, F⟩ := F
                          refine zSaload 588 (by decide +kernel) rfl (w186) ?_
                          refine zCallV 11 zcls11 mX11_inspect 68 1 0 0 _ _ 591 [.int (G.2.2.2.2.2.2.2 (l4 + 1 : Int32).toNatClampNeg)] [] okX11_inspect mlL_68 imX11_inspect seX11_inspect (by decide +kernel) rfl rfl (Nat.le_of_ble_eq_true rfl) rfl rfl (X_0 S0_) (zC.mono F ?_)
                          rintro _ _ ⟨x187, I188, rfl, rfl, F⟩
                          change zV G (d + 1) mL_law (kc + 4) (ks + 300) 591 [(0, .ref (G.2.2.2.2.2.1 3)), (1, .ref (x)), (2, .ref (m)), (3, .ref (o)), (4, .int (l4))] [.int (x187)] (I188, J, R, K, n) Q
                          refine zAload_n 2 2 592 (by decide +kernel) rfl rfl ?_
                          refine zAload_n 0 0 593 (by decide +kernel) rfl rfl ?_
                          refine zIload 4 4 595 (by decide +kernel) rfl rfl ?_
                          refine zIconst 1 1 596 (by decide +kernel) rfl (by decide) ?_
                          refine zIadd 597 (by decide +kernel) rfl ?_
                          obtain ⟨w189, F⟩ := F
                          refine zSaload 598 (by decide +kernel) rfl (w189) ?_
                          refine zCallV 12 zcls12 mX12_inspect 71 1 0 0 _ _ 601 [.int (G.2.2.2.2.2.2.2 (l4 + 1 : Int32).toNatClampNeg)] [.int (x187)] okX12_inspect mlL_71 imX12_inspect seX12_inspect (by decide +kernel) rfl rfl (Nat.le_of_ble_eq_true rfl) rfl rfl (Mod_0 S1_) (zC.mono F ?_)
                          rintro _ _ ⟨x190, I191, rfl, rfl, F⟩
                          change zV G (d + 1) mL_law (kc + 4) (ks + 300) 601 [(0, .ref (G.2.2.2.2.2.1 3)), (1, .ref (x)), (2, .ref (m)), (3, .ref (o)), (4, .int (l4))] [.int (x190), .int (x187)] (I191, J, R, K, n) Q
                          refine zIcmp_eq 982 1583 604 (by decide +kernel) rfl rfl ⟨fun q192 => ?_, fun q192 => ?_⟩
                          · replace F := F.1 q192
                            refine zIinc 4 6 4 (l4 + 6) [(4, .int (l4 + 6)), (0, .ref (G.2.2.2.2.2.1 3)), (1, .ref (x)), (2, .ref (m)), (3, .ref (o))] 1586 (by decide +kernel) rfl rfl (by rfl) (by decide) rfl ?_
                            refine zGoto (-1563) 23 (by decide +kernel) rfl ?_
                            exact zLoc [1, 2, 3, 4, 0] _ rfl F
                          · replace F := F.2 q192
                            refine zIconst 0 0 605 (by decide +kernel) rfl (by decide) ?_
                            exact zZret .boolean rfl (zNarZ (Or.inl rfl)) (by decide +kernel) F
                        · skip
                          by_cases q193 : ((G.2.2.2.2.2.2.2 l4.toNatClampNeg) &&& 63) = 11
                          · replace F := F.2.2.2.2.2.2.2.2.2.2.2.1 q193
                            have zt := zEqT q193 (show (11 : Int32).toInt = 11 by decide)
                            refine zTableIn 1543 0 39 #[176, 249, 274, 299, 324, 392, 429, 454, 479, 504, 541, 566, 615, 640, 665, 678, 747, 760, 797, 846, 883, 908, 945, 970, 1007, 1032, 1097, 1134, 1159, 1172, 1209, 1246, 1319, 1368, 1405, 1442, 1467, 1492, 1505, 1518] 176 566 606 (by decide +kernel) (by omega) (by omega) (by rw [zt]; decide) rfl ?_
                            refine zAload_n 1 1 607 (by decide +kernel) rfl rfl ?_
                            refine zAload_n 0 0 608 (by decide +kernel) rfl rfl ?_
                            refine zIload 4 4 610 (by decide +kernel) rfl rfl ?_
                            refine zIconst 1 1 611 (by decide +kernel) rfl (by decide) ?_
                            refine zIadd 612 (by decide +kernel) rfl ?_
                            obtain ⟨w194, F⟩ := F
                            refine zSaload 613 (by decide +kernel) rfl (w194) ?_
                            refine zAload_n 0 0 614 (by decide +kernel) rfl rfl ?_
                            refine zIload 4 4 616 (by decide +kernel) rfl rfl ?_
                            refine zIconst 2 2 617 (by decide +kernel) rfl (by decide) ?_
                            refine zIadd 618 (by decide +kernel) rfl ?_
                            obtain ⟨w195, F⟩ := F
                            refine zSaload 619 (by decide +kernel) rfl (w195) ?_
                            refine zAload_n 0 0 620 (by decide +kernel) rfl rfl ?_
                            refine zIload 4 4 622 (by decide +kernel) rfl rfl ?_
                            refine zIconst 3 3 623 (by decide +kernel) rfl (by decide) ?_
                            refine zIadd 624 (by decide +kernel) rfl ?_
                            obtain ⟨w196, F⟩ := F
                            refine zSaload 625 (by decide +kernel) rfl (w196) ?_
                            refine zCallV 11 zcls11 mX11_sin 72 3 0 0 _ _ 628 [.int (G.2.2.2.2.2.2.2 (l4 + 1 : Int32).toNatClampNeg), .int (G.2.2.2.2.2.2.2 (l4 + 2 : Int32).toNatClampNeg), .int (G.2.2.2.2.2.2.2 (l4 + 3 : Int32).toNatClampNeg)] [] okX11_sin mlL_72 imX11_sin seX11_sin (by decide +kernel) rfl rfl (Nat.le_of_ble_eq_true rfl) rfl rfl (X_0 S0_) (zC.mono F ?_)
                            rintro _ _ ⟨x197, I198, rfl, rfl, F⟩
                            change zV G (d + 1) mL_law (kc + 4) (ks + 300) 628 [(0, .ref (G.2.2.2.2.2.1 3)), (1, .ref (x)), (2, .ref (m)), (3, .ref (o)), (4, .int (l4))] [.int (x197)] (I198, J, R, K, n) Q
                            refine zAload_n 2 2 629 (by decide +kernel) rfl rfl ?_
                            refine zAload_n 0 0 630 (by decide +kernel) rfl rfl ?_
                            refine zIload 4 4 632 (by decide +kernel) rfl rfl ?_
                            refine zIconst 1 1 633 (by decide +kernel) rfl (by decide) ?_
                            refine zIadd 634 (by decide +kernel) rfl ?_
                            obtain ⟨w199, F⟩ := F
                            refine zSaload 635 (by decide +kernel) rfl (w199) ?_
                            refine zAload_n 0 0 636 (by decide +kernel) rfl rfl ?_
                            refine zIload 4 4 638 (by decide +kernel) rfl rfl ?_
                            refine zIconst 2 2 639 (by decide +kernel) rfl (by decide) ?_
                            refine zIadd 640 (by decide +kernel) rfl ?_
                            obtain ⟨w200, F⟩ := F
                            refine zSaload 641 (by decide +kernel) rfl (w200) ?_
                            refine zAload_n 0 0 642 (by decide +kernel) rfl rfl ?_
                            refine zIload 4 4 644 (by decide +kernel) rfl rfl ?_
                            refine zIconst 3 3 645 (by decide +kernel) rfl (by decide) ?_
                            refine zIadd 646 (by decide +kernel) rfl ?_
                            obtain ⟨w201, F⟩ := F
                            refine zSaload 647 (by decide +kernel) rfl (w201) ?_
                            refine zCallV 12 zcls12 mX12_sin 76 3 0 0 _ _ 650 [.int (G.2.2.2.2.2.2.2 (l4 + 1 : Int32).toNatClampNeg), .int (G.2.2.2.2.2.2.2 (l4 + 2 : Int32).toNatClampNeg), .int (G.2.2.2.2.2.2.2 (l4 + 3 : Int32).toNatClampNeg)] [.int (x197)] okX12_sin mlL_76 imX12_sin seX12_sin (by decide +kernel) rfl rfl (Nat.le_of_ble_eq_true rfl) rfl rfl (Mod_0 S1_) (zC.mono F ?_)
                            rintro _ _ ⟨x202, I203, rfl, rfl, F⟩
                            change zV G (d + 1) mL_law (kc + 4) (ks + 300) 650 [(0, .ref (G.2.2.2.2.2.1 3)), (1, .ref (x)), (2, .ref (m)), (3, .ref (o)), (4, .int (l4))] [.int (x202), .int (x197)] (I203, J, R, K, n) Q
                            refine zIcmp_eq 933 1583 653 (by decide +kernel) rfl rfl ⟨fun q204 => ?_, fun q204 => ?_⟩
                            · replace F := F.1 q204
                              refine zIinc 4 6 4 (l4 + 6) [(4, .int (l4 + 6)), (0, .ref (G.2.2.2.2.2.1 3)), (1, .ref (x)), (2, .ref (m)), (3, .ref (o))] 1586 (by decide +kernel) rfl rfl (by rfl) (by decide) rfl ?_
                              refine zGoto (-1563) 23 (by decide +kernel) rfl ?_
                              exact zLoc [1, 2, 3, 4, 0] _ rfl F
                            · replace F := F.2 q204
                              refine zIconst 0 0 654 (by decide +kernel) rfl (by decide) ?_
                              exact zZret .boolean rfl (zNarZ (Or.inl rfl)) (by decide +kernel) F
                          · skip
                            by_cases q205 : ((G.2.2.2.2.2.2.2 l4.toNatClampNeg) &&& 63) = 12
                            · replace F := F.2.2.2.2.2.2.2.2.2.2.2.2.1 q205
                              have zt := zEqT q205 (show (12 : Int32).toInt = 12 by decide)
                              refine zTableIn 1543 0 39 #[176, 249, 274, 299, 324, 392, 429, 454, 479, 504, 541, 566, 615, 640, 665, 678, 747, 760, 797, 846, 883, 908, 945, 970, 1007, 1032, 1097, 1134, 1159, 1172, 1209, 1246, 1319, 1368, 1405, 1442, 1467, 1492, 1505, 1518] 176 615 655 (by decide +kernel) (by omega) (by omega) (by rw [zt]; decide) rfl ?_
                              refine zAload_n 1 1 656 (by decide +kernel) rfl rfl ?_
                              refine zAload_n 0 0 657 (by decide +kernel) rfl rfl ?_
                              refine zIload 4 4 659 (by decide +kernel) rfl rfl ?_
                              refine zIconst 1 1 660 (by decide +kernel) rfl (by decide) ?_
                              refine zIadd 661 (by decide +kernel) rfl ?_
                              obtain ⟨w206, F⟩ := F
                              refine zSaload 662 (by decide +kernel) rfl (w206) ?_
                              refine zCallV 11 zcls11 mX11_buy 77 1 0 0 _ _ 665 [.int (G.2.2.2.2.2.2.2 (l4 + 1 : Int32).toNatClampNeg)] [] okX11_buy mlL_77 imX11_buy seX11_buy (by decide +kernel) rfl rfl (Nat.le_of_ble_eq_true rfl) rfl rfl (X_0 S0_) (zC.mono F ?_)
                              rintro _ _ ⟨x207, I208, rfl, rfl, F⟩
                              change zV G (d + 1) mL_law (kc + 4) (ks + 300) 665 [(0, .ref (G.2.2.2.2.2.1 3)), (1, .ref (x)), (2, .ref (m)), (3, .ref (o)), (4, .int (l4))] [.int (x207)] (I208, J, R, K, n) Q
                              refine zAload_n 2 2 666 (by decide +kernel) rfl rfl ?_
                              refine zAload_n 0 0 667 (by decide +kernel) rfl rfl ?_
                              refine zIload 4 4 669 (by decide +kernel) rfl rfl ?_
                              refine zIconst 1 1 670 (by decide +kernel) rfl (by decide) ?_
                              refine zIadd 671 (by decide +kernel) rfl ?_
                              obtain ⟨w209, F⟩ := F
                              refine zSaload 672 (by decide +kernel) rfl (w209) ?_
                              refine zCallV 12 zcls12 mX12_buy 80 1 0 0 _ _ 675 [.int (G.2.2.2.2.2.2.2 (l4 + 1 : Int32).toNatClampNeg)] [.int (x207)] okX12_buy mlL_80 imX12_buy seX12_buy (by decide +kernel) rfl rfl (Nat.le_of_ble_eq_true rfl) rfl rfl (Mod_0 S1_) (zC.mono F ?_)
                              rintro _ _ ⟨x210, I211, rfl, rfl, F⟩
                              change zV G (d + 1) mL_law (kc + 4) (ks + 300) 675 [(0, .ref (G.2.2.2.2.2.1 3)), (1, .ref (x)), (2, .ref (m)), (3, .ref (o)), (4, .int (l4))] [.int (x210), .int (x207)] (I211, J, R, K, n) Q
                              refine zIcmp_eq 908 1583 678 (by decide +kernel) rfl rfl ⟨fun q212 => ?_, fun q212 => ?_⟩
                              · replace F := F.1 q212
                                refine zIinc 4 6 4 (l4 + 6) [(4, .int (l4 + 6)), (0, .ref (G.2.2.2.2.2.1 3)), (1, .ref (x)), (2, .ref (m)), (3, .ref (o))] 1586 (by decide +kernel) rfl rfl (by rfl) (by decide) rfl ?_
                                refine zGoto (-1563) 23 (by decide +kernel) rfl ?_
                                exact zLoc [1, 2, 3, 4, 0] _ rfl F
                              · replace F := F.2 q212
                                refine zIconst 0 0 679 (by decide +kernel) rfl (by decide) ?_
                                exact zZret .boolean rfl (zNarZ (Or.inl rfl)) (by decide +kernel) F
                            · skip
                              by_cases q213 : ((G.2.2.2.2.2.2.2 l4.toNatClampNeg) &&& 63) = 13
                              · replace F := F.2.2.2.2.2.2.2.2.2.2.2.2.2.1 q213
                                have zt := zEqT q213 (show (13 : Int32).toInt = 13 by decide)
                                refine zTableIn 1543 0 39 #[176, 249, 274, 299, 324, 392, 429, 454, 479, 504, 541, 566, 615, 640, 665, 678, 747, 760, 797, 846, 883, 908, 945, 970, 1007, 1032, 1097, 1134, 1159, 1172, 1209, 1246, 1319, 1368, 1405, 1442, 1467, 1492, 1505, 1518] 176 640 680 (by decide +kernel) (by omega) (by omega) (by rw [zt]; decide) rfl ?_
                                refine zAload_n 1 1 681 (by decide +kernel) rfl rfl ?_
                                refine zAload_n 0 0 682 (by decide +kernel) rfl rfl ?_
                                refine zIload 4 4 684 (by decide +kernel) rfl rfl ?_
                                refine zIconst 1 1 685 (by decide +kernel) rfl (by decide) ?_
                                refine zIadd 686 (by decide +kernel) rfl ?_
                                obtain ⟨w214, F⟩ := F
                                refine zSaload 687 (by decide +kernel) rfl (w214) ?_
                                refine zCallV 11 zcls11 mX11_give 81 1 0 0 _ _ 690 [.int (G.2.2.2.2.2.2.2 (l4 + 1 : Int32).toNatClampNeg)] [] okX11_give mlL_81 imX11_give seX11_give (by decide +kernel) rfl rfl (Nat.le_of_ble_eq_true rfl) rfl rfl (X_0 S0_) (zC.mono F ?_)
                                rintro _ _ ⟨x215, I216, rfl, rfl, F⟩
                                change zV G (d + 1) mL_law (kc + 4) (ks + 300) 690 [(0, .ref (G.2.2.2.2.2.1 3)), (1, .ref (x)), (2, .ref (m)), (3, .ref (o)), (4, .int (l4))] [.int (x215)] (I216, J, R, K, n) Q
                                refine zAload_n 2 2 691 (by decide +kernel) rfl rfl ?_
                                refine zAload_n 0 0 692 (by decide +kernel) rfl rfl ?_
                                refine zIload 4 4 694 (by decide +kernel) rfl rfl ?_
                                refine zIconst 1 1 695 (by decide +kernel) rfl (by decide) ?_
                                refine zIadd 696 (by decide +kernel) rfl ?_
                                obtain ⟨w217, F⟩ := F
                                refine zSaload 697 (by decide +kernel) rfl (w217) ?_
                                refine zCallV 12 zcls12 mX12_give 84 1 0 0 _ _ 700 [.int (G.2.2.2.2.2.2.2 (l4 + 1 : Int32).toNatClampNeg)] [.int (x215)] okX12_give mlL_84 imX12_give seX12_give (by decide +kernel) rfl rfl (Nat.le_of_ble_eq_true rfl) rfl rfl (Mod_0 S1_) (zC.mono F ?_)
                                rintro _ _ ⟨x218, I219, rfl, rfl, F⟩
                                change zV G (d + 1) mL_law (kc + 4) (ks + 300) 700 [(0, .ref (G.2.2.2.2.2.1 3)), (1, .ref (x)), (2, .ref (m)), (3, .ref (o)), (4, .int (l4))] [.int (x218), .int (x215)] (I219, J, R, K, n) Q
                                refine zIcmp_eq 883 1583 703 (by decide +kernel) rfl rfl ⟨fun q220 => ?_, fun q220 => ?_⟩
                                · replace F := F.1 q220
                                  refine zIinc 4 6 4 (l4 + 6) [(4, .int (l4 + 6)), (0, .ref (G.2.2.2.2.2.1 3)), (1, .ref (x)), (2, .ref (m)), (3, .ref (o))] 1586 (by decide +kernel) rfl rfl (by rfl) (by decide) rfl ?_
                                  refine zGoto (-1563) 23 (by decide +kernel) rfl ?_
                                  exact zLoc [1, 2, 3, 4, 0] _ rfl F
                                · replace F := F.2 q220
                                  refine zIconst 0 0 704 (by decide +kernel) rfl (by decide) ?_
                                  exact zZret .boolean rfl (zNarZ (Or.inl rfl)) (by decide +kernel) F
                              · skip
                                by_cases q221 : ((G.2.2.2.2.2.2.2 l4.toNatClampNeg) &&& 63) = 14
                                · replace F := F.2.2.2.2.2.2.2.2.2.2.2.2.2.2.1 q221
                                  have zt := zEqT q221 (show (14 : Int32).toInt = 14 by decide)
                                  refine zTableIn 1543 0 39 #[176, 249, 274, 299, 324, 392, 429, 454, 479, 504, 541, 566, 615, 640, 665, 678, 747, 760, 797, 846, 883, 908, 945, 970, 1007, 1032, 1097, 1134, 1159, 1172, 1209, 1246, 1319, 1368, 1405, 1442, 1467, 1492, 1505, 1518] 176 665 705 (by decide +kernel) (by omega) (by omega) (by rw [zt]; decide) rfl ?_
                                  refine zAload_n 1 1 706 (by decide +kernel) rfl rfl ?_
                                  refine zCallV 11 zcls11 mX11_day 85 0 0 0 _ _ 709 [] [] okX11_day mlL_85 imX11_day seX11_day (by decide +kernel) rfl rfl (Nat.le_of_ble_eq_true rfl) rfl rfl (X_0 S0_) (zC.mono F ?_)
                                  rintro _ _ ⟨x222, I223, rfl, rfl, F⟩
                                  change zV G (d + 1) mL_law (kc + 4) (ks + 300) 709 [(0, .ref (G.2.2.2.2.2.1 3)), (1, .ref (x)), (2, .ref (m)), (3, .ref (o)), (4, .int (l4))] [.int (x222)] (I223, J, R, K, n) Q
                                  refine zAload_n 2 2 710 (by decide +kernel) rfl rfl ?_
                                  refine zCallV 12 zcls12 mX12_day 88 0 0 0 _ _ 713 [] [.int (x222)] okX12_day mlL_88 imX12_day seX12_day (by decide +kernel) rfl rfl (Nat.le_of_ble_eq_true rfl) rfl rfl (Mod_0 S1_) (zC.mono F ?_)
                                  rintro _ _ ⟨x224, I225, rfl, rfl, F⟩
                                  change zV G (d + 1) mL_law (kc + 4) (ks + 300) 713 [(0, .ref (G.2.2.2.2.2.1 3)), (1, .ref (x)), (2, .ref (m)), (3, .ref (o)), (4, .int (l4))] [.int (x224), .int (x222)] (I225, J, R, K, n) Q
                                  refine zIcmp_eq 870 1583 716 (by decide +kernel) rfl rfl ⟨fun q226 => ?_, fun q226 => ?_⟩
                                  · replace F := F.1 q226
                                    refine zIinc 4 6 4 (l4 + 6) [(4, .int (l4 + 6)), (0, .ref (G.2.2.2.2.2.1 3)), (1, .ref (x)), (2, .ref (m)), (3, .ref (o))] 1586 (by decide +kernel) rfl rfl (by rfl) (by decide) rfl ?_
                                    refine zGoto (-1563) 23 (by decide +kernel) rfl ?_
                                    exact zLoc [1, 2, 3, 4, 0] _ rfl F
                                  · replace F := F.2 q226
                                    refine zIconst 0 0 717 (by decide +kernel) rfl (by decide) ?_
                                    exact zZret .boolean rfl (zNarZ (Or.inl rfl)) (by decide +kernel) F
                                · skip
                                  by_cases q227 : ((G.2.2.2.2.2.2.2 l4.toNatClampNeg) &&& 63) = 15
                                  · replace F := F.2.2.2.2.2.2.2.2.2.2.2.2.2.2.2.1 q227
                                    have zt := zEqT q227 (show (15 : Int32).toInt = 15 by decide)
                                    refine zTableIn 1543 0 39 #[176, 249, 274, 299, 324, 392, 429, 454, 479, 504, 541, 566, 615, 640, 665, 678, 747, 760, 797, 846, 883, 908, 945, 970, 1007, 1032, 1097, 1134, 1159, 1172, 1209, 1246, 1319, 1368, 1405, 1442, 1467, 1492, 1505, 1518] 176 678 718 (by decide +kernel) (by omega) (by omega) (by rw [zt]; decide) rfl ?_
                                    refine zAload_n 1 1 719 (by decide +kernel) rfl rfl ?_
                                    refine zAload_n 0 0 720 (by decide +kernel) rfl rfl ?_
                                    refine zIload 4 4 722 (by decide +kernel) rfl rfl ?_
                                    refine zIconst 1 1 723 (by decide +kernel) rfl (by decide) ?_
                                    refine zIadd 724 (by decide +kernel) rfl ?_
                                    obtain ⟨w228, F⟩ := F
                                    refine zSaload 725 (by decide +kernel) rfl (w228) ?_
                                    refine zAload_n 0 0 726 (by decide +kernel) rfl rfl ?_
                                    refine zIload 4 4 728 (by decide +kernel) rfl rfl ?_
                                    refine zIconst 2 2 729 (by decide +kernel) rfl (by decide) ?_
                                    refine zIadd 730 (by decide +kernel) rfl ?_
                                    obtain ⟨w229, F⟩ := F
                                    refine zSaload 731 (by decide +kernel) rfl (w229) ?_
                                    refine zI2l 732 (by decide +kernel) rfl ?_
                                    refine zBipush 32 32 734 (by decide +kernel) rfl (by decide) ?_
                                    refine zLshl 735 (by decide +kernel) rfl ?_
                                    refine zAload_n 0 0 736 (by decide +kernel) rfl rfl ?_
                                    refine zIload 4 4 738 (by decide +kernel) rfl rfl ?_
                                    refine zIconst 3 3 739 (by decide +kernel) rfl (by decide) ?_
                                    refine zIadd 740 (by decide +kernel) rfl ?_
                                    obtain ⟨w230, F⟩ := F
                                    refine zSaload 741 (by decide +kernel) rfl (w230) ?_
                                    refine zI2l 742 (by decide +kernel) rfl ?_
                                    refine zLdc2 89 4294967295 745 (by decide +kernel) rfl klL_89 ?_
                                    refine zLand 746 (by decide +kernel) rfl ?_
                                    refine zLor 747 (by decide +kernel) rfl ?_
                                    refine zCallV 11 zcls11 mX11_years 91 2 0 0 _ _ 750 [.int (G.2.2.2.2.2.2.2 (l4 + 1 : Int32).toNatClampNeg), .long ((((G.2.2.2.2.2.2.2 (l4 + 2 : Int32).toNatClampNeg : Int32).toInt64 : Int64) <<< ((32 : Int32).toInt64 &&& 63)) ||| (((G.2.2.2.2.2.2.2 (l4 + 3 : Int32).toNatClampNeg : Int32).toInt64) &&& 4294967295))] [] okX11_years mlL_91 imX11_years seX11_years (by decide +kernel) rfl rfl (Nat.le_of_ble_eq_true rfl) rfl rfl (X_0 S0_) (zC.mono F ?_)
                                    rintro _ _ ⟨x231, I232, J233, R234, rfl, rfl, F⟩
                                    change zV G (d + 1) mL_law (kc + 4) (ks + 300) 750 [(0, .ref (G.2.2.2.2.2.1 3)), (1, .ref (x)), (2, .ref (m)), (3, .ref (o)), (4, .int (l4))] [.int (x231)] (I232, J233, R234, K, n) Q
                                    obtain ⟨u235, u236, u237, S238, F⟩ := F
                                    obtain ⟨u239, u240, S241, F⟩ := F
                                    obtain ⟨S242, F⟩ := F
                                    refine zAload_n 2 2 751 (by decide +kernel) rfl rfl ?_
                                    refine zAload_n 0 0 752 (by decide +kernel) rfl rfl ?_
                                    refine zIload 4 4 754 (by decide +kernel) rfl rfl ?_
                                    refine zIconst 1 1 755 (by decide +kernel) rfl (by decide) ?_
                                    refine zIadd 756 (by decide +kernel) rfl ?_
                                    obtain ⟨w243, F⟩ := F
                                    refine zSaload 757 (by decide +kernel) rfl (w243) ?_
                                    refine zAload_n 0 0 758 (by decide +kernel) rfl rfl ?_
                                    refine zIload 4 4 760 (by decide +kernel) rfl rfl ?_
                                    refine zIconst 2 2 761 (by decide +kernel) rfl (by decide) ?_
                                    refine zIadd 762 (by decide +kernel) rfl ?_
                                    obtain ⟨w244, F⟩ := F
                                    refine zSaload 763 (by decide +kernel) rfl (w244) ?_
                                    refine zI2l 764 (by decide +kernel) rfl ?_
                                    refine zBipush 32 32 766 (by decide +kernel) rfl (by decide) ?_
                                    refine zLshl 767 (by decide +kernel) rfl ?_
                                    refine zAload_n 0 0 768 (by decide +kernel) rfl rfl ?_
                                    refine zIload 4 4 770 (by decide +kernel) rfl rfl ?_
                                    refine zIconst 3 3 771 (by decide +kernel) rfl (by decide) ?_
                                    refine zIadd 772 (by decide +kernel) rfl ?_
                                    obtain ⟨w245, F⟩ := F
                                    refine zSaload 773 (by decide +kernel) rfl (w245) ?_
                                    refine zI2l 774 (by decide +kernel) rfl ?_
                                    refine zLdc2 89 4294967295 777 (by decide +kernel) rfl klL_89 ?_
                                    refine zLand 778 (by decide +kernel) rfl ?_
                                    refine zLor 779 (by decide +kernel) rfl ?_
                                    refine zCallV 12 zcls12 mX12_years 95 2 0 0 _ _ 782 [.int (G.2.2.2.2.2.2.2 (l4 + 1 : Int32).toNatClampNeg), .long ((((G.2.2.2.2.2.2.2 (l4 + 2 : Int32).toNatClampNeg : Int32).toInt64 : Int64) <<< ((32 : Int32).toInt64 &&& 63)) ||| (((G.2.2.2.2.2.2.2 (l4 + 3 : Int32).toNatClampNeg : Int32).toInt64) &&& 4294967295))] [.int (x231)] okX12_years mlL_95 imX12_years seX12_years (by decide +kernel) rfl rfl (Nat.le_of_ble_eq_true rfl) rfl rfl (Mod_0 S241) (zC.mono F ?_)
                                    rintro _ _ ⟨x246, I247, J248, R249, rfl, rfl, F⟩
                                    change zV G (d + 1) mL_law (kc + 4) (ks + 300) 782 [(0, .ref (G.2.2.2.2.2.1 3)), (1, .ref (x)), (2, .ref (m)), (3, .ref (o)), (4, .int (l4))] [.int (x246), .int (x231)] (I247, J248, R249, K, n) Q
                                    obtain ⟨u250, u251, u252, S253, F⟩ := F
                                    obtain ⟨u254, u255, S256, F⟩ := F
                                    obtain ⟨S257, F⟩ := F
                                    refine zIcmp_eq 801 1583 785 (by decide +kernel) rfl rfl ⟨fun q258 => ?_, fun q258 => ?_⟩
                                    · replace F := F.1 q258
                                      refine zIinc 4 6 4 (l4 + 6) [(4, .int (l4 + 6)), (0, .ref (G.2.2.2.2.2.1 3)), (1, .ref (x)), (2, .ref (m)), (3, .ref (o))] 1586 (by decide +kernel) rfl rfl (by rfl) (by decide) rfl ?_
                                      refine zGoto (-1563) 23 (by decide +kernel) rfl ?_
                                      exact zLoc [1, 2, 3, 4, 0] _ rfl F
                                    · replace F := F.2 q258
                                      refine zIconst 0 0 786 (by decide +kernel) rfl (by decide) ?_
                                      exact zZret .boolean rfl (zNarZ (Or.inl rfl)) (by decide +kernel) F
                                  · skip
                                    by_cases q259 : ((G.2.2.2.2.2.2.2 l4.toNatClampNeg) &&& 63) = 16
                                    · replace F := F.2.2.2.2.2.2.2.2.2.2.2.2.2.2.2.2.1 q259
                                      have zt := zEqT q259 (show (16 : Int32).toInt = 16 by decide)
                                      refine zTableIn 1543 0 39 #[176, 249, 274, 299, 324, 392, 429, 454, 479, 504, 541, 566, 615, 640, 665, 678, 747, 760, 797, 846, 883, 908, 945, 970, 1007, 1032, 1097, 1134, 1159, 1172, 1209, 1246, 1319, 1368, 1405, 1442, 1467, 1492, 1505, 1518] 176 747 787 (by decide +kernel) (by omega) (by omega) (by rw [zt]; decide) rfl ?_
                                      refine zAload_n 1 1 788 (by decide +kernel) rfl rfl ?_
                                      refine zCallV 11 zcls11 mX11_undo 96 0 0 0 _ _ 791 [] [] okX11_undo mlL_96 imX11_undo seX11_undo (by decide +kernel) rfl rfl (Nat.le_of_ble_eq_true rfl) rfl rfl (X_0 S0_) (zC.mono F ?_)
                                      rintro _ _ ⟨x260, I261, rfl, rfl, F⟩
                                      change zV G (d + 1) mL_law (kc + 4) (ks + 300) 791 [(0, .ref (G.2.2.2.2.2.1 3)), (1, .ref (x)), (2, .ref (m)), (3, .ref (o)), (4, .int (l4))] [.int (x260)] (I261, J, R, K, n) Q
                                      refine zAload_n 2 2 792 (by decide +kernel) rfl rfl ?_
                                      refine zCallV 12 zcls12 mX12_undo 99 0 0 0 _ _ 795 [] [.int (x260)] okX12_undo mlL_99 imX12_undo seX12_undo (by decide +kernel) rfl rfl (Nat.le_of_ble_eq_true rfl) rfl rfl (Mod_0 S1_) (zC.mono F ?_)
                                      rintro _ _ ⟨x262, I263, rfl, rfl, F⟩
                                      change zV G (d + 1) mL_law (kc + 4) (ks + 300) 795 [(0, .ref (G.2.2.2.2.2.1 3)), (1, .ref (x)), (2, .ref (m)), (3, .ref (o)), (4, .int (l4))] [.int (x262), .int (x260)] (I263, J, R, K, n) Q
                                      refine zIcmp_eq 788 1583 798 (by decide +kernel) rfl rfl ⟨fun q264 => ?_, fun q264 => ?_⟩
                                      · replace F := F.1 q264
                                        refine zIinc 4 6 4 (l4 + 6) [(4, .int (l4 + 6)), (0, .ref (G.2.2.2.2.2.1 3)), (1, .ref (x)), (2, .ref (m)), (3, .ref (o))] 1586 (by decide +kernel) rfl rfl (by rfl) (by decide) rfl ?_
                                        refine zGoto (-1563) 23 (by decide +kernel) rfl ?_
                                        exact zLoc [1, 2, 3, 4, 0] _ rfl F
                                      · replace F := F.2 q264
                                        refine zIconst 0 0 799 (by decide +kernel) rfl (by decide) ?_
                                        exact zZret .boolean rfl (zNarZ (Or.inl rfl)) (by decide +kernel) F
                                    · skip
                                      by_cases q265 : ((G.2.2.2.2.2.2.2 l4.toNatClampNeg) &&& 63) = 17
                                      · replace F := F.2.2.2.2.2.2.2.2.2.2.2.2.2.2.2.2.2.1 q265
                                        have zt := zEqT q265 (show (17 : Int32).toInt = 17 by decide)
                                        refine zTableIn 1543 0 39 #[176, 249, 274, 299, 324, 392, 429, 454, 479, 504, 541, 566, 615, 640, 665, 678, 747, 760, 797, 846, 883, 908, 945, 970, 1007, 1032, 1097, 1134, 1159, 1172, 1209, 1246, 1319, 1368, 1405, 1442, 1467, 1492, 1505, 1518] 176 760 800 (by decide +kernel) (by omega) (by omega) (by rw [zt]; decide) rfl ?_
                                        refine zAload_n 1 1 801 (by decide +kernel) rfl rfl ?_
                                        refine zAload_n 0 0 802 (by decide +kernel) rfl rfl ?_
                                        refine zIload 4 4 804 (by decide +kernel) rfl rfl ?_
                                        refine zIconst 1 1 805 (by decide +kernel) rfl (by decide) ?_
                                        refine zIadd 806 (by decide +kernel) rfl ?_
                                        obtain ⟨w266, F⟩ := F
                                        refine zSaload 807 (by decide +kernel) rfl (w266) ?_
                                        refine zAload_n 0 0 808 (by decide +kernel) rfl rfl ?_
                                        refine zIload 4 4 810 (by decide +kernel) rfl rfl ?_
                                        refine zIconst 2 2 811 (by decide +kernel) rfl (by decide) ?_
                                        refine zIadd 812 (by decide +kernel) rfl ?_
                                        obtain ⟨w267, F⟩ := F
                                        refine zSaload 813 (by decide +kernel) rfl (w267) ?_
                                        refine zCallV 11 zcls11 mX11_log 100 2 0 0 _ _ 816 [.int (G.2.2.2.2.2.2.2 (l4 + 1 : Int32).toNatClampNeg), .int (G.2.2.2.2.2.2.2 (l4 + 2 : Int32).toNatClampNeg)] [] okX11_log mlL_100 imX11_log seX11_log (by decide +kernel) rfl rfl (Nat.le_of_ble_eq_true rfl) rfl rfl (X_0 S0_) (zC.mono F ?_)
                                        rintro _ _ ⟨x268, I269, rfl, rfl, F⟩
                                        change zV G (d + 1) mL_law (kc + 4) (ks + 300) 816 [(0, .ref (G.2.2.2.2.2.1 3)), (1, .ref (x)), (2, .ref (m)), (3, .ref (o)), (4, .int (l4))] [.int (x268)] (I269, J, R, K, n) Q
                                        refine zAload_n 2 2 817 (by decide +kernel) rfl rfl ?_
                                        refine zAload_n 0 0 818 (by decide +kernel) rfl rfl ?_
                                        refine zIload 4 4 820 (by decide +kernel) rfl rfl ?_
                                        refine zIconst 1 1 821 (by decide +kernel) rfl (by decide) ?_
                                        refine zIadd 822 (by decide +kernel) rfl ?_
                                        obtain ⟨w270, F⟩ := F
                                        refine zSaload 823 (by decide +kernel) rfl (w270) ?_
                                        refine zAload_n 0 0 824 (by decide +kernel) rfl rfl ?_
                                        refine zIload 4 4 826 (by decide +kernel) rfl rfl ?_
                                        refine zIconst 2 2 827 (by decide +kernel) rfl (by decide) ?_
                                        refine zIadd 828 (by decide +kernel) rfl ?_
                                        obtain ⟨w271, F⟩ := F
                                        refine zSaload 829 (by decide +kernel) rfl (w271) ?_
                                        refine zCallV 12 zcls12 mX12_log 103 2 0 0 _ _ 832 [.int (G.2.2.2.2.2.2.2 (l4 + 1 : Int32).toNatClampNeg), .int (G.2.2.2.2.2.2.2 (l4 + 2 : Int32).toNatClampNeg)] [.int (x268)] okX12_log mlL_103 imX12_log seX12_log (by decide +kernel) rfl rfl (Nat.le_of_ble_eq_true rfl) rfl rfl (Mod_0 S1_) (zC.mono F ?_)
                                        rintro _ _ ⟨x272, I273, rfl, rfl, F⟩
                                        change zV G (d + 1) mL_law (kc + 4) (ks + 300) 832 [(0, .ref (G.2.2.2.2.2.1 3)), (1, .ref (x)), (2, .ref (m)), (3, .ref (o)), (4, .int (l4))] [.int (x272), .int (x268)] (I273, J, R, K, n) Q
                                        refine zIcmp_eq 751 1583 835 (by decide +kernel) rfl rfl ⟨fun q274 => ?_, fun q274 => ?_⟩
                                        · replace F := F.1 q274
                                          refine zIinc 4 6 4 (l4 + 6) [(4, .int (l4 + 6)), (0, .ref (G.2.2.2.2.2.1 3)), (1, .ref (x)), (2, .ref (m)), (3, .ref (o))] 1586 (by decide +kernel) rfl rfl (by rfl) (by decide) rfl ?_
                                          refine zGoto (-1563) 23 (by decide +kernel) rfl ?_
                                          exact zLoc [1, 2, 3, 4, 0] _ rfl F
                                        · replace F := F.2 q274
                                          refine zIconst 0 0 836 (by decide +kernel) rfl (by decide) ?_
                                          exact zZret .boolean rfl (zNarZ (Or.inl rfl)) (by decide +kernel) F
                                      · skip
                                        by_cases q275 : ((G.2.2.2.2.2.2.2 l4.toNatClampNeg) &&& 63) = 18
                                        · replace F := F.2.2.2.2.2.2.2.2.2.2.2.2.2.2.2.2.2.2.1 q275
                                          have zt := zEqT q275 (show (18 : Int32).toInt = 18 by decide)
                                          refine zTableIn 1543 0 39 #[176, 249, 274, 299, 324, 392, 429, 454, 479, 504, 541, 566, 615, 640, 665, 678, 747, 760, 797, 846, 883, 908, 945, 970, 1007, 1032, 1097, 1134, 1159, 1172, 1209, 1246, 1319, 1368, 1405, 1442, 1467, 1492, 1505, 1518] 176 797 837 (by decide +kernel) (by omega) (by omega) (by rw [zt]; decide) rfl ?_
                                          refine zAload_n 1 1 838 (by decide +kernel) rfl rfl ?_
                                          refine zAload_n 0 0 839 (by decide +kernel) rfl rfl ?_
                                          refine zIload 4 4 841 (by decide +kernel) rfl rfl ?_
                                          refine zIconst 1 1 842 (by decide +kernel) rfl (by decide) ?_
                                          refine zIadd 843 (by decide +kernel) rfl ?_
                                          obtain ⟨w276, F⟩ := F
                                          refine zSaload 844 (by decide +kernel) rfl (w276) ?_
                                          refine zAload_n 0 0 845 (by decide +kernel) rfl rfl ?_
                                          refine zIload 4 4 847 (by decide +kernel) rfl rfl ?_
                                          refine zIconst 2 2 848 (by decide +kernel) rfl (by decide) ?_
                                          refine zIadd 849 (by decide +kernel) rfl ?_
                                          obtain ⟨w277, F⟩ := F
                                          refine zSaload 850 (by decide +kernel) rfl (w277) ?_
                                          refine zAload_n 0 0 851 (by decide +kernel) rfl rfl ?_
                                          refine zIload 4 4 853 (by decide +kernel) rfl rfl ?_
                                          refine zIconst 3 3 854 (by decide +kernel) rfl (by decide) ?_
                                          refine zIadd 855 (by decide +kernel) rfl ?_
                                          obtain ⟨w278, F⟩ := F
                                          refine zSaload 856 (by decide +kernel) rfl (w278) ?_
                                          refine zCallV 11 zcls11 mX11_step 104 3 0 0 _ _ 859 [.int (G.2.2.2.2.2.2.2 (l4 + 1 : Int32).toNatClampNeg), .int (G.2.2.2.2.2.2.2 (l4 + 2 : Int32).toNatClampNeg), .int (G.2.2.2.2.2.2.2 (l4 + 3 : Int32).toNatClampNeg)] [] okX11_step mlL_104 imX11_step seX11_step (by decide +kernel) rfl rfl (Nat.le_of_ble_eq_true rfl) rfl rfl (X_0 S0_) (zC.mono F ?_)
                                          rintro _ _ ⟨x279, I280, rfl, rfl, F⟩
                                          change zV G (d + 1) mL_law (kc + 4) (ks + 300) 859 [(0, .ref (G.2.2.2.2.2.1 3)), (1, .ref (x)), (2, .ref (m)), (3, .ref (o)), (4, .int (l4))] [.int (x279)] (I280, J, R, K, n) Q
                                          refine zAload_n 2 2 860 (by decide +kernel) rfl rfl ?_
                                          refine zAload_n 0 0 861 (by decide +kernel) rfl rfl ?_
                                          refine zIload 4 4 863 (by decide +kernel) rfl rfl ?_
                                          refine zIconst 1 1 864 (by decide +kernel) rfl (by decide) ?_
                                          refine zIadd 865 (by decide +kernel) rfl ?_
                                          obtain ⟨w281, F⟩ := F
                                          refine zSaload 866 (by decide +kernel) rfl (w281) ?_
                                          refine zAload_n 0 0 867 (by decide +kernel) rfl rfl ?_
                                          refine zIload 4 4 869 (by decide +kernel) rfl rfl ?_
                                          refine zIconst 2 2 870 (by decide +kernel) rfl (by decide) ?_
                                          refine zIadd 871 (by decide +kernel) rfl ?_
                                          obtain ⟨w282, F⟩ := F
                                          refine zSaload 872 (by decide +kernel) rfl (w282) ?_
                                          refine zAload_n 0 0 873 (by decide +kernel) rfl rfl ?_
                                          refine zIload 4 4 875 (by decide +kernel) rfl rfl ?_
                                          refine zIconst 3 3 876 (by decide +kernel) rfl (by decide) ?_
                                          refine zIadd 877 (by decide +kernel) rfl ?_
                                          obtain ⟨w283, F⟩ := F
                                          refine zSaload 878 (by decide +kernel) rfl (w283) ?_
                                          refine zCallV 12 zcls12 mX12_step 107 3 0 0 _ _ 881 [.int (G.2.2.2.2.2.2.2 (l4 + 1 : Int32).toNatClampNeg), .int (G.2.2.2.2.2.2.2 (l4 + 2 : Int32).toNatClampNeg), .int (G.2.2.2.2.2.2.2 (l4 + 3 : Int32).toNatClampNeg)] [.int (x279)] okX12_step mlL_107 imX12_step seX12_step (by decide +kernel) rfl rfl (Nat.le_of_ble_eq_true rfl) rfl rfl (Mod_0 S1_) (zC.mono F ?_)
                                          rintro _ _ ⟨x284, I285, rfl, rfl, F⟩
                                          change zV G (d + 1) mL_law (kc + 4) (ks + 300) 881 [(0, .ref (G.2.2.2.2.2.1 3)), (1, .ref (x)), (2, .ref (m)), (3, .ref (o)), (4, .int (l4))] [.int (x284), .int (x279)] (I285, J, R, K, n) Q
                                          refine zIcmp_eq 702 1583 884 (by decide +kernel) rfl rfl ⟨fun q286 => ?_, fun q286 => ?_⟩
                                          · replace F := F.1 q286
                                            refine zIinc 4 6 4 (l4 + 6) [(4, .int (l4 + 6)), (0, .ref (G.2.2.2.2.2.1 3)), (1, .ref (x)), (2, .ref (m)), (3, .ref (o))] 1586 (by decide +kernel) rfl rfl (by rfl) (by decide) rfl ?_
                                            refine zGoto (-1563) 23 (by decide +kernel) rfl ?_
                                            exact zLoc [1, 2, 3, 4, 0] _ rfl F
                                          · replace F := F.2 q286
                                            refine zIconst 0 0 885 (by decide +kernel) rfl (by decide) ?_
                                            exact zZret .boolean rfl (zNarZ (Or.inl rfl)) (by decide +kernel) F
                                        · skip
                                          by_cases q287 : ((G.2.2.2.2.2.2.2 l4.toNatClampNeg) &&& 63) = 19
                                          · replace F := F.2.2.2.2.2.2.2.2.2.2.2.2.2.2.2.2.2.2.2.1 q287
                                            have zt := zEqT q287 (show (19 : Int32).toInt = 19 by decide)
                                            refine zTableIn 1543 0 39 #[176, 249, 274, 299, 324, 392, 429, 454, 479, 504, 541, 566, 615, 640, 665, 678, 747, 760, 797, 846, 883, 908, 945, 970, 1007, 1032, 1097, 1134, 1159, 1172, 1209, 1246, 1319, 1368, 1405, 1442, 1467, 1492, 1505, 1518] 176 846 886 (by decide +kernel) (by omega) (by omega) (by rw [zt]; decide) rfl ?_
                                            refine zAload_n 1 1 887 (by decide +kernel) rfl rfl ?_
                                            refine zAload_n 0 0 888 (by decide +kernel) rfl rfl ?_
                                            refine zIload 4 4 890 (by decide +kernel) rfl rfl ?_
                                            refine zIconst 1 1 891 (by decide +kernel) rfl (by decide) ?_
                                            refine zIadd 892 (by decide +kernel) rfl ?_
                                            obtain ⟨w288, F⟩ := F
                                            refine zSaload 893 (by decide +kernel) rfl (w288) ?_
                                            refine zAload_n 0 0 894 (by decide +kernel) rfl rfl ?_
                                            refine zIload 4 4 896 (by decide +kernel) rfl rfl ?_
                                            refine zIconst 2 2 897 (by decide +kernel) rfl (by decide) ?_
                                            refine zIadd 898 (by decide +kernel) rfl ?_
                                            obtain ⟨w289, F⟩ := F
                                            refine zSaload 899 (by decide +kernel) rfl (w289) ?_
                                            refine zCallV 11 zcls11 mX11_run 108 2 0 0 _ _ 902 [.int (G.2.2.2.2.2.2.2 (l4 + 1 : Int32).toNatClampNeg), .int (G.2.2.2.2.2.2.2 (l4 + 2 : Int32).toNatClampNeg)] [] okX11_run mlL_108 imX11_run seX11_run (by decide +kernel) rfl rfl (Nat.le_of_ble_eq_true rfl) rfl rfl (X_0 S0_) (zC.mono F ?_)
                                            rintro _ _ ⟨x290, I291, rfl, rfl, F⟩
                                            change zV G (d + 1) mL_law (kc + 4) (ks + 300) 902 [(0, .ref (G.2.2.2.2.2.1 3)), (1, .ref (x)), (2, .ref (m)), (3, .ref (o)), (4, .int (l4))] [.int (x290)] (I291, J, R, K, n) Q
                                            refine zAload_n 2 2 903 (by decide +kernel) rfl rfl ?_
                                            refine zAload_n 0 0 904 (by decide +kernel) rfl rfl ?_
                                            refine zIload 4 4 906 (by decide +kernel) rfl rfl ?_
                                            refine zIconst 1 1 907 (by decide +kernel) rfl (by decide) ?_
                                            refine zIadd 908 (by decide +kernel) rfl ?_
                                            obtain ⟨w292, F⟩ := F
                                            refine zSaload 909 (by decide +kernel) rfl (w292) ?_
                                            refine zAload_n 0 0 910 (by decide +kernel) rfl rfl ?_
                                            refine zIload 4 4 912 (by decide +kernel) rfl rfl ?_
                                            refine zIconst 2 2 913 (by decide +kernel) rfl (by decide) ?_
                                            refine zIadd 914 (by decide +kernel) rfl ?_
                                            obtain ⟨w293, F⟩ := F
                                            refine zSaload 915 (by decide +kernel) rfl (w293) ?_
                                            refine zCallV 12 zcls12 mX12_run 111 2 0 0 _ _ 918 [.int (G.2.2.2.2.2.2.2 (l4 + 1 : Int32).toNatClampNeg), .int (G.2.2.2.2.2.2.2 (l4 + 2 : Int32).toNatClampNeg)] [.int (x290)] okX12_run mlL_111 imX12_run seX12_run (by decide +kernel) rfl rfl (Nat.le_of_ble_eq_true rfl) rfl rfl (Mod_0 S1_) (zC.mono F ?_)
                                            rintro _ _ ⟨x294, I295, J296, R297, rfl, rfl, F⟩
                                            change zV G (d + 1) mL_law (kc + 4) (ks + 300) 918 [(0, .ref (G.2.2.2.2.2.1 3)), (1, .ref (x)), (2, .ref (m)), (3, .ref (o)), (4, .int (l4))] [.int (x294), .int (x290)] (I295, J296, R297, K, n) Q
                                            obtain ⟨u298, u299, u300, S301, F⟩ := F
                                            obtain ⟨u302, u303, S304, F⟩ := F
                                            obtain ⟨S305, F⟩ := F
                                            refine zIcmp_eq 665 1583 921 (by decide +kernel) rfl rfl ⟨fun q306 => ?_, fun q306 => ?_⟩
                                            · replace F := F.1 q306
                                              refine zIinc 4 6 4 (l4 + 6) [(4, .int (l4 + 6)), (0, .ref (G.2.2.2.2.2.1 3)), (1, .ref (x)), (2, .ref (m)), (3, .ref (o))] 1586 (by decide +kernel) rfl rfl (by rfl) (by decide) rfl ?_
                                              refine zGoto (-1563) 23 (by decide +kernel) rfl ?_
                                              exact zLoc [1, 2, 3, 4, 0] _ rfl F
                                            · replace F := F.2 q306
                                              refine zIconst 0 0 922 (by decide +kernel) rfl (by decide) ?_
                                              exact zZret .boolean rfl (zNarZ (Or.inl rfl)) (by decide +kernel) F
                                          · skip
                                            by_cases q307 : ((G.2.2.2.2.2.2.2 l4.toNatClampNeg) &&& 63) = 20
                                            · replace F := F.2.2.2.2.2.2.2.2.2.2.2.2.2.2.2.2.2.2.2.2.1 q307
                                              have zt := zEqT q307 (show (20 : Int32).toInt = 20 by decide)
                                              refine zTableIn 1543 0 39 #[176, 249, 274, 299, 324, 392, 429, 454, 479, 504, 541, 566, 615, 640, 665, 678, 747, 760, 797, 846, 883, 908, 945, 970, 1007, 1032, 1097, 1134, 1159, 1172, 1209, 1246, 1319, 1368, 1405, 1442, 1467, 1492, 1505, 1518] 176 883 923 (by decide +kernel) (by omega) (by omega) (by rw [zt]; decide) rfl ?_
                                              refine zAload_n 1 1 924 (by decide +kernel) rfl rfl ?_
                                              refine zAload_n 0 0 925 (by decide +kernel) rfl rfl ?_
                                              refine zIload 4 4 927 (by decide +kernel) rfl rfl ?_
                                              refine zIconst 1 1 928 (by decide +kernel) rfl (by decide) ?_
                                              refine zIadd 929 (by decide +kernel) rfl ?_
                                              obtain ⟨w308, F⟩ := F
                                              refine zSaload 930 (by decide +kernel) rfl (w308) ?_
                                              refine zCallV 11 zcls11 mX11_perform 112 1 0 0 _ _ 933 [.int (G.2.2.2.2.2.2.2 (l4 + 1 : Int32).toNatClampNeg)] [] okX11_perform mlL_112 imX11_perform seX11_perform (by decide +kernel) rfl rfl (Nat.le_of_ble_eq_true rfl) rfl rfl (X_0 S0_) (zC.mono F ?_)
                                              rintro _ _ ⟨x309, I310, rfl, rfl, F⟩
                                              change zV G (d + 1) mL_law (kc + 4) (ks + 300) 933 [(0, .ref (G.2.2.2.2.2.1 3)), (1, .ref (x)), (2, .ref (m)), (3, .ref (o)), (4, .int (l4))] [.int (x309)] (I310, J, R, K, n) Q
                                              refine zAload_n 2 2 934 (by decide +kernel) rfl rfl ?_
                                              refine zAload_n 0 0 935 (by decide +kernel) rfl rfl ?_
                                              refine zIload 4 4 937 (by decide +kernel) rfl rfl ?_
                                              refine zIconst 1 1 938 (by decide +kernel) rfl (by decide) ?_
                                              refine zIadd 939 (by decide +kernel) rfl ?_
                                              obtain ⟨w311, F⟩ := F
                                              refine zSaload 940 (by decide +kernel) rfl (w311) ?_
                                              refine zCallV 12 zcls12 mX12_perform 115 1 0 0 _ _ 943 [.int (G.2.2.2.2.2.2.2 (l4 + 1 : Int32).toNatClampNeg)] [.int (x309)] okX12_perform mlL_115 imX12_perform seX12_perform (by decide +kernel) rfl rfl (Nat.le_of_ble_eq_true rfl) rfl rfl (Mod_0 S1_) (zC.mono F ?_)
                                              rintro _ _ ⟨x312, I313, J314, R315, rfl, rfl, F⟩
                                              change zV G (d + 1) mL_law (kc + 4) (ks + 300) 943 [(0, .ref (G.2.2.2.2.2.1 3)), (1, .ref (x)), (2, .ref (m)), (3, .ref (o)), (4, .int (l4))] [.int (x312), .int (x309)] (I313, J314, R315, K, n) Q
                                              obtain ⟨u316, u317, u318, S319, F⟩ := F
                                              obtain ⟨u320, u321, S322, F⟩ := F
                                              obtain ⟨S323, F⟩ := F
                                              refine zIcmp_eq 640 1583 946 (by decide +kernel) rfl rfl ⟨fun q324 => ?_, fun q324 => ?_⟩
                                              · replace F := F.1 q324
                                                refine zIinc 4 6 4 (l4 + 6) [(4, .int (l4 + 6)), (0, .ref (G.2.2.2.2.2.1 3)), (1, .ref (x)), (2, .ref (m)), (3, .ref (o))] 1586 (by decide +kernel) rfl rfl (by rfl) (by decide) rfl ?_
                                                refine zGoto (-1563) 23 (by decide +kernel) rfl ?_
                                                exact zLoc [1, 2, 3, 4, 0] _ rfl F
                                              · replace F := F.2 q324
                                                refine zIconst 0 0 947 (by decide +kernel) rfl (by decide) ?_
                                                exact zZret .boolean rfl (zNarZ (Or.inl rfl)) (by decide +kernel) F
                                            · skip
                                              by_cases q325 : ((G.2.2.2.2.2.2.2 l4.toNatClampNeg) &&& 63) = 21
                                              · replace F := F.2.2.2.2.2.2.2.2.2.2.2.2.2.2.2.2.2.2.2.2.2.1 q325
                                                have zt := zEqT q325 (show (21 : Int32).toInt = 21 by decide)
                                                refine zTableIn 1543 0 39 #[176, 249, 274, 299, 324, 392, 429, 454, 479, 504, 541, 566, 615, 640, 665, 678, 747, 760, 797, 846, 883, 908, 945, 970, 1007, 1032, 1097, 1134, 1159, 1172, 1209, 1246, 1319, 1368, 1405, 1442, 1467, 1492, 1505, 1518] 176 908 948 (by decide +kernel) (by omega) (by omega) (by rw [zt]; decide) rfl ?_
                                                refine zAload_n 1 1 949 (by decide +kernel) rfl rfl ?_
                                                refine zAload_n 0 0 950 (by decide +kernel) rfl rfl ?_
                                                refine zIload 4 4 952 (by decide +kernel) rfl rfl ?_
                                                refine zIconst 1 1 953 (by decide +kernel) rfl (by decide) ?_
                                                refine zIadd 954 (by decide +kernel) rfl ?_
                                                obtain ⟨w326, F⟩ := F
                                                refine zSaload 955 (by decide +kernel) rfl (w326) ?_
                                                refine zAload_n 0 0 956 (by decide +kernel) rfl rfl ?_
                                                refine zIload 4 4 958 (by decide +kernel) rfl rfl ?_
                                                refine zIconst 2 2 959 (by decide +kernel) rfl (by decide) ?_
                                                refine zIadd 960 (by decide +kernel) rfl ?_
                                                obtain ⟨w327, F⟩ := F
                                                refine zSaload 961 (by decide +kernel) rfl (w327) ?_
                                                refine zCallV 11 zcls11 mX11_least 116 2 0 0 _ _ 964 [.int (G.2.2.2.2.2.2.2 (l4 + 1 : Int32).toNatClampNeg), .int (G.2.2.2.2.2.2.2 (l4 + 2 : Int32).toNatClampNeg)] [] okX11_least mlL_116 imX11_least seX11_least (by decide +kernel) rfl rfl (Nat.le_of_ble_eq_true rfl) rfl rfl (X_0 S0_) (zC.mono F ?_)
                                                rintro _ _ ⟨x328, I329, rfl, rfl, F⟩
                                                change zV G (d + 1) mL_law (kc + 4) (ks + 300) 964 [(0, .ref (G.2.2.2.2.2.1 3)), (1, .ref (x)), (2, .ref (m)), (3, .ref (o)), (4, .int (l4))] [.int (x328)] (I329, J, R, K, n) Q
                                                refine zAload_n 2 2 965 (by decide +kernel) rfl rfl ?_
                                                refine zAload_n 0 0 966 (by decide +kernel) rfl rfl ?_
                                                refine zIload 4 4 968 (by decide +kernel) rfl rfl ?_
                                                refine zIconst 1 1 969 (by decide +kernel) rfl (by decide) ?_
                                                refine zIadd 970 (by decide +kernel) rfl ?_
                                                obtain ⟨w330, F⟩ := F
                                                refine zSaload 971 (by decide +kernel) rfl (w330) ?_
                                                refine zAload_n 0 0 972 (by decide +kernel) rfl rfl ?_
                                                refine zIload 4 4 974 (by decide +kernel) rfl rfl ?_
                                                refine zIconst 2 2 975 (by decide +kernel) rfl (by decide) ?_
                                                refine zIadd 976 (by decide +kernel) rfl ?_
                                                obtain ⟨w331, F⟩ := F
                                                refine zSaload 977 (by decide +kernel) rfl (w331) ?_
                                                refine zCallV 12 zcls12 mX12_least 119 2 0 0 _ _ 980 [.int (G.2.2.2.2.2.2.2 (l4 + 1 : Int32).toNatClampNeg), .int (G.2.2.2.2.2.2.2 (l4 + 2 : Int32).toNatClampNeg)] [.int (x328)] okX12_least mlL_119 imX12_least seX12_least (by decide +kernel) rfl rfl (Nat.le_of_ble_eq_true rfl) rfl rfl (Mod_0 S1_) (zC.mono F ?_)
                                                rintro _ _ ⟨x332, I333, J334, R335, rfl, rfl, F⟩
                                                change zV G (d + 1) mL_law (kc + 4) (ks + 300) 980 [(0, .ref (G.2.2.2.2.2.1 3)), (1, .ref (x)), (2, .ref (m)), (3, .ref (o)), (4, .int (l4))] [.int (x332), .int (x328)] (I333, J334, R335, K, n) Q
                                                obtain ⟨u336, u337, u338, S339, F⟩ := F
                                                obtain ⟨u340, u341, S342, F⟩ := F
                                                obtain ⟨S343, F⟩ := F
                                                refine zIcmp_eq 603 1583 983 (by decide +kernel) rfl rfl ⟨fun q344 => ?_, fun q344 => ?_⟩
                                                · replace F := F.1 q344
                                                  refine zIinc 4 6 4 (l4 + 6) [(4, .int (l4 + 6)), (0, .ref (G.2.2.2.2.2.1 3)), (1, .ref (x)), (2, .ref (m)), (3, .ref (o))] 1586 (by decide +kernel) rfl rfl (by rfl) (by decide) rfl ?_
                                                  refine zGoto (-1563) 23 (by decide +kernel) rfl ?_
                                                  exact zLoc [1, 2, 3, 4, 0] _ rfl F
                                                · replace F := F.2 q344
                                                  refine zIconst 0 0 984 (by decide +kernel) rfl (by decide) ?_
                                                  exact zZret .boolean rfl (zNarZ (Or.inl rfl)) (by decide +kernel) F
                                              · skip
                                                by_cases q345 : ((G.2.2.2.2.2.2.2 l4.toNatClampNeg) &&& 63) = 22
                                                · replace F := F.2.2.2.2.2.2.2.2.2.2.2.2.2.2.2.2.2.2.2.2.2.2.1 q345
                                                  have zt := zEqT q345 (show (22 : Int32).toInt = 22 by decide)
                                                  refine zTableIn 1543 0 39 #[176, 249, 274, 299, 324, 392, 429, 454, 479, 504, 541, 566, 615, 640, 665, 678, 747, 760, 797, 846, 883, 908, 945, 970, 1007, 1032, 1097, 1134, 1159, 1172, 1209, 1246, 1319, 1368, 1405, 1442, 1467, 1492, 1505, 1518] 176 945 985 (by decide +kernel) (by omega) (by omega) (by rw [zt]; decide) rfl ?_
                                                  refine zAload_n 1 1 986 (by decide +kernel) rfl rfl ?_
                                                  refine zAload_n 0 0 987 (by decide +kernel) rfl rfl ?_
                                                  refine zIload 4 4 989 (by decide +kernel) rfl rfl ?_
                                                  refine zIconst 1 1 990 (by decide +kernel) rfl (by decide) ?_
                                                  refine zIadd 991 (by decide +kernel) rfl ?_
                                                  obtain ⟨w346, F⟩ := F
                                                  refine zSaload 992 (by decide +kernel) rfl (w346) ?_
                                                  refine zCallV 11 zcls11 mX11_every 120 1 0 0 _ _ 995 [.int (G.2.2.2.2.2.2.2 (l4 + 1 : Int32).toNatClampNeg)] [] okX11_every mlL_120 imX11_every seX11_every (by decide +kernel) rfl rfl (Nat.le_of_ble_eq_true rfl) rfl rfl (X_0 S0_) (zC.mono F ?_)
                                                  rintro _ _ ⟨x347, I348, rfl, rfl, F⟩
                                                  change zV G (d + 1) mL_law (kc + 4) (ks + 300) 995 [(0, .ref (G.2.2.2.2.2.1 3)), (1, .ref (x)), (2, .ref (m)), (3, .ref (o)), (4, .int (l4))] [.int (x347)] (I348, J, R, K, n) Q
                                                  refine zAload_n 2 2 996 (by decide +kernel) rfl rfl ?_
                                                  refine zAload_n 0 0 997 (by decide +kernel) rfl rfl ?_
                                                  refine zIload 4 4 999 (by decide +kernel) rfl rfl ?_
                                                  refine zIconst 1 1 1000 (by decide +kernel) rfl (by decide) ?_
                                                  refine zIadd 1001 (by decide +kernel) rfl ?_
                                                  obtain ⟨w349, F⟩ := F
                                                  refine zSaload 1002 (by decide +kernel) rfl (w349) ?_
                                                  refine zCallV 12 zcls12 mX12_every 123 1 0 0 _ _ 1005 [.int (G.2.2.2.2.2.2.2 (l4 + 1 : Int32).toNatClampNeg)] [.int (x347)] okX12_every mlL_123 imX12_every seX12_every (by decide +kernel) rfl rfl (Nat.le_of_ble_eq_true rfl) rfl rfl (Mod_0 S1_) (zC.mono F ?_)
                                                  rintro _ _ ⟨x350, I351, J352, R353, rfl, rfl, F⟩
                                                  change zV G (d + 1) mL_law (kc + 4) (ks + 300) 1005 [(0, .ref (G.2.2.2.2.2.1 3)), (1, .ref (x)), (2, .ref (m)), (3, .ref (o)), (4, .int (l4))] [.int (x350), .int (x347)] (I351, J352, R353, K, n) Q
                                                  obtain ⟨u354, u355, u356, S357, F⟩ := F
                                                  obtain ⟨u358, u359, S360, F⟩ := F
                                                  obtain ⟨S361, F⟩ := F
                                                  refine zIcmp_eq 578 1583 1008 (by decide +kernel) rfl rfl ⟨fun q362 => ?_, fun q362 => ?_⟩
                                                  · replace F := F.1 q362
                                                    refine zIinc 4 6 4 (l4 + 6) [(4, .int (l4 + 6)), (0, .ref (G.2.2.2.2.2.1 3)), (1, .ref (x)), (2, .ref (m)), (3, .ref (o))] 1586 (by decide +kernel) rfl rfl (by rfl) (by decide) rfl ?_
                                                    refine zGoto (-1563) 23 (by decide +kernel) rfl ?_
                                                    exact zLoc [1, 2, 3, 4, 0] _ rfl F
                                                  · replace F := F.2 q362
                                                    refine zIconst 0 0 1009 (by decide +kernel) rfl (by decide) ?_
                                                    exact zZret .boolean rfl (zNarZ (Or.inl rfl)) (by decide +kernel) F
                                                · skip
                                                  by_cases q363 : ((G.2.2.2.2.2.2.2 l4.toNatClampNeg) &&& 63) = 23
                                                  · replace F := F.2.2.2.2.2.2.2.2.2.2.2.2.2.2.2.2.2.2.2.2.2.2.2.1 q363
                                                    have zt := zEqT q363 (show (23 : Int32).toInt = 23 by decide)
                                                    refine zTableIn 1543 0 39 #[176, 249, 274, 299, 324, 392, 429, 454, 479, 504, 541, 566, 615, 640, 665, 678, 747, 760, 797, 846, 883, 908, 945, 970, 1007, 1032, 1097, 1134, 1159, 1172, 1209, 1246, 1319, 1368, 1405, 1442, 1467, 1492, 1505, 1518] 176 970 1010 (by decide +kernel) (by omega) (by omega) (by rw [zt]; decide) rfl ?_
                                                    refine zAload_n 1 1 1011 (by decide +kernel) rfl rfl ?_
                                                    refine zAload_n 0 0 1012 (by decide +kernel) rfl rfl ?_
                                                    refine zIload 4 4 1014 (by decide +kernel) rfl rfl ?_
                                                    refine zIconst 1 1 1015 (by decide +kernel) rfl (by decide) ?_
                                                    refine zIadd 1016 (by decide +kernel) rfl ?_
                                                    obtain ⟨w364, F⟩ := F
                                                    refine zSaload 1017 (by decide +kernel) rfl (w364) ?_
                                                    refine zAload_n 0 0 1018 (by decide +kernel) rfl rfl ?_
                                                    refine zIload 4 4 1020 (by decide +kernel) rfl rfl ?_
                                                    refine zIconst 2 2 1021 (by decide +kernel) rfl (by decide) ?_
                                                    refine zIadd 1022 (by decide +kernel) rfl ?_
                                                    obtain ⟨w365, F⟩ := F
                                                    refine zSaload 1023 (by decide +kernel) rfl (w365) ?_
                                                    refine zCallV 11 zcls11 mX11_richest 124 2 0 0 _ _ 1026 [.int (G.2.2.2.2.2.2.2 (l4 + 1 : Int32).toNatClampNeg), .int (G.2.2.2.2.2.2.2 (l4 + 2 : Int32).toNatClampNeg)] [] okX11_richest mlL_124 imX11_richest seX11_richest (by decide +kernel) rfl rfl (Nat.le_of_ble_eq_true rfl) rfl rfl (X_0 S0_) (zC.mono F ?_)
                                                    rintro _ _ ⟨x366, I367, rfl, rfl, F⟩
                                                    change zV G (d + 1) mL_law (kc + 4) (ks + 300) 1026 [(0, .ref (G.2.2.2.2.2.1 3)), (1, .ref (x)), (2, .ref (m)), (3, .ref (o)), (4, .int (l4))] [.int (x366)] (I367, J, R, K, n) Q
                                                    refine zAload_n 2 2 1027 (by decide +kernel) rfl rfl ?_
                                                    refine zAload_n 0 0 1028 (by decide +kernel) rfl rfl ?_
                                                    refine zIload 4 4 1030 (by decide +kernel) rfl rfl ?_
                                                    refine zIconst 1 1 1031 (by decide +kernel) rfl (by decide) ?_
                                                    refine zIadd 1032 (by decide +kernel) rfl ?_
                                                    obtain ⟨w368, F⟩ := F
                                                    refine zSaload 1033 (by decide +kernel) rfl (w368) ?_
                                                    refine zAload_n 0 0 1034 (by decide +kernel) rfl rfl ?_
                                                    refine zIload 4 4 1036 (by decide +kernel) rfl rfl ?_
                                                    refine zIconst 2 2 1037 (by decide +kernel) rfl (by decide) ?_
                                                    refine zIadd 1038 (by decide +kernel) rfl ?_
                                                    obtain ⟨w369, F⟩ := F
                                                    refine zSaload 1039 (by decide +kernel) rfl (w369) ?_
                                                    refine zCallV 12 zcls12 mX12_richest 127 2 0 0 _ _ 1042 [.int (G.2.2.2.2.2.2.2 (l4 + 1 : Int32).toNatClampNeg), .int (G.2.2.2.2.2.2.2 (l4 + 2 : Int32).toNatClampNeg)] [.int (x366)] okX12_richest mlL_127 imX12_richest seX12_richest (by decide +kernel) rfl rfl (Nat.le_of_ble_eq_true rfl) rfl rfl (Mod_0 S1_) (zC.mono F ?_)
                                                    rintro _ _ ⟨x370, I371, J372, R373, rfl, rfl, F⟩
                                                    change zV G (d + 1) mL_law (kc + 4) (ks + 300) 1042 [(0, .ref (G.2.2.2.2.2.1 3)), (1, .ref (x)), (2, .ref (m)), (3, .ref (o)), (4, .int (l4))] [.int (x370), .int (x366)] (I371, J372, R373, K, n) Q
                                                    obtain ⟨u374, u375, u376, S377, F⟩ := F
                                                    obtain ⟨u378, u379, S380, F⟩ := F
                                                    obtain ⟨S381, F⟩ := F
                                                    refine zIcmp_eq 541 1583 1045 (by decide +kernel) rfl rfl ⟨fun q382 => ?_, fun q382 => ?_⟩
                                                    · replace F := F.1 q382
                                                      refine zIinc 4 6 4 (l4 + 6) [(4, .int (l4 + 6)), (0, .ref (G.2.2.2.2.2.1 3)), (1, .ref (x)), (2, .ref (m)), (3, .ref (o))] 1586 (by decide +kernel) rfl rfl (by rfl) (by decide) rfl ?_
                                                      refine zGoto (-1563) 23 (by decide +kernel) rfl ?_
                                                      exact zLoc [1, 2, 3, 4, 0] _ rfl F
                                                    · replace F := F.2 q382
                                                      refine zIconst 0 0 1046 (by decide +kernel) rfl (by decide) ?_
                                                      exact zZret .boolean rfl (zNarZ (Or.inl rfl)) (by decide +kernel) F
                                                  · skip
                                                    by_cases q383 : ((G.2.2.2.2.2.2.2 l4.toNatClampNeg) &&& 63) = 24
                                                    · replace F := F.2.2.2.2.2.2.2.2.2.2.2.2.2.2.2.2.2.2.2.2.2.2.2.2.1 q383
                                                      have zt := zEqT q383 (show (24 : Int32).toInt = 24 by decide)
                                                      refine zTableIn 1543 0 39 #[176, 249, 274, 299, 324, 392, 429, 454, 479, 504, 541, 566, 615, 640, 665, 678, 747, 760, 797, 846, 883, 908, 945, 970, 1007, 1032, 1097, 1134, 1159, 1172, 1209, 1246, 1319, 1368, 1405, 1442, 1467, 1492, 1505, 1518] 176 1007 1047 (by decide +kernel) (by omega) (by omega) (by rw [zt]; decide) rfl ?_
                                                      refine zAload_n 1 1 1048 (by decide +kernel) rfl rfl ?_
                                                      refine zAload_n 0 0 1049 (by decide +kernel) rfl rfl ?_
                                                      refine zIload 4 4 1051 (by decide +kernel) rfl rfl ?_
                                                      refine zIconst 1 1 1052 (by decide +kernel) rfl (by decide) ?_
                                                      refine zIadd 1053 (by decide +kernel) rfl ?_
                                                      obtain ⟨w384, F⟩ := F
                                                      refine zSaload 1054 (by decide +kernel) rfl (w384) ?_
                                                      refine zCallV 11 zcls11 mX11_pairs 128 1 0 0 _ _ 1057 [.int (G.2.2.2.2.2.2.2 (l4 + 1 : Int32).toNatClampNeg)] [] okX11_pairs mlL_128 imX11_pairs seX11_pairs (by decide +kernel) rfl rfl (Nat.le_of_ble_eq_true rfl) rfl rfl (X_0 S0_) (zC.mono F ?_)
                                                      rintro _ _ ⟨x385, I386, rfl, rfl, F⟩
                                                      change zV G (d + 1) mL_law (kc + 4) (ks + 300) 1057 [(0, .ref (G.2.2.2.2.2.1 3)), (1, .ref (x)), (2, .ref (m)), (3, .ref (o)), (4, .int (l4))] [.int (x385)] (I386, J, R, K, n) Q
                                                      refine zAload_n 2 2 1058 (by decide +kernel) rfl rfl ?_
                                                      refine zAload_n 0 0 1059 (by decide +kernel) rfl rfl ?_
                                                      refine zIload 4 4 1061 (by decide +kernel) rfl rfl ?_
                                                      refine zIconst 1 1 1062 (by decide +kernel) rfl (by decide) ?_
                                                      refine zIadd 1063 (by decide +kernel) rfl ?_
                                                      obtain ⟨w387, F⟩ := F
                                                      refine zSaload 1064 (by decide +kernel) rfl (w387) ?_
                                                      refine zCallV 12 zcls12 mX12_pairs 131 1 0 0 _ _ 1067 [.int (G.2.2.2.2.2.2.2 (l4 + 1 : Int32).toNatClampNeg)] [.int (x385)] okX12_pairs mlL_131 imX12_pairs seX12_pairs (by decide +kernel) rfl rfl (Nat.le_of_ble_eq_true rfl) rfl rfl (Mod_0 S1_) (zC.mono F ?_)
                                                      rintro _ _ ⟨x388, I389, J390, R391, rfl, rfl, F⟩
                                                      change zV G (d + 1) mL_law (kc + 4) (ks + 300) 1067 [(0, .ref (G.2.2.2.2.2.1 3)), (1, .ref (x)), (2, .ref (m)), (3, .ref (o)), (4, .int (l4))] [.int (x388), .int (x385)] (I389, J390, R391, K, n) Q
                                                      obtain ⟨u392, u393, u394, S395, F⟩ := F
                                                      obtain ⟨u396, u397, S398, F⟩ := F
                                                      obtain ⟨S399, F⟩ := F
                                                      refine zIcmp_eq 516 1583 1070 (by decide +kernel) rfl rfl ⟨fun q400 => ?_, fun q400 => ?_⟩
                                                      · replace F := F.1 q400
                                                        refine zIinc 4 6 4 (l4 + 6) [(4, .int (l4 + 6)), (0, .ref (G.2.2.2.2.2.1 3)), (1, .ref (x)), (2, .ref (m)), (3, .ref (o))] 1586 (by decide +kernel) rfl rfl (by rfl) (by decide) rfl ?_
                                                        refine zGoto (-1563) 23 (by decide +kernel) rfl ?_
                                                        exact zLoc [1, 2, 3, 4, 0] _ rfl F
                                                      · replace F := F.2 q400
                                                        refine zIconst 0 0 1071 (by decide +kernel) rfl (by decide) ?_
                                                        exact zZret .boolean rfl (zNarZ (Or.inl rfl)) (by decide +kernel) F
                                                    · skip
                                                      by_cases q401 : ((G.2.2.2.2.2.2.2 l4.toNatClampNeg) &&& 63) = 25
                                                      · replace F := F.2.2.2.2.2.2.2.2.2.2.2.2.2.2.2.2.2.2.2.2.2.2.2.2.2.1 q401
                                                        have zt := zEqT q401 (show (25 : Int32).toInt = 25 by decide)
                                                        refine zTableIn 1543 0 39 #[176, 249, 274, 299, 324, 392, 429, 454, 479, 504, 541, 566, 615, 640, 665, 678, 747, 760, 797, 846, 883, 908, 945, 970, 1007, 1032, 1097, 1134, 1159, 1172, 1209, 1246, 1319, 1368, 1405, 1442, 1467, 1492, 1505, 1518] 176 1032 1072 (by decide +kernel) (by omega) (by omega) (by rw [zt]; decide) rfl ?_
                                                        refine zAload_n 1 1 1073 (by decide +kernel) rfl rfl ?_
                                                        refine zAload_n 0 0 1074 (by decide +kernel) rfl rfl ?_
                                                        refine zIload 4 4 1076 (by decide +kernel) rfl rfl ?_
                                                        refine zIconst 1 1 1077 (by decide +kernel) rfl (by decide) ?_
                                                        refine zIadd 1078 (by decide +kernel) rfl ?_
                                                        obtain ⟨w402, F⟩ := F
                                                        refine zSaload 1079 (by decide +kernel) rfl (w402) ?_
                                                        refine zAload_n 0 0 1080 (by decide +kernel) rfl rfl ?_
                                                        refine zIload 4 4 1082 (by decide +kernel) rfl rfl ?_
                                                        refine zIconst 2 2 1083 (by decide +kernel) rfl (by decide) ?_
                                                        refine zIadd 1084 (by decide +kernel) rfl ?_
                                                        obtain ⟨w403, F⟩ := F
                                                        refine zSaload 1085 (by decide +kernel) rfl (w403) ?_
                                                        refine zAload_n 0 0 1086 (by decide +kernel) rfl rfl ?_
                                                        refine zIload 4 4 1088 (by decide +kernel) rfl rfl ?_
                                                        refine zIconst 3 3 1089 (by decide +kernel) rfl (by decide) ?_
                                                        refine zIadd 1090 (by decide +kernel) rfl ?_
                                                        obtain ⟨w404, F⟩ := F
                                                        refine zSaload 1091 (by decide +kernel) rfl (w404) ?_
                                                        suffices KK : zV G (d + 1) mL_law (kc + 4) (ks + 300) 1099 [(0, .ref (G.2.2.2.2.2.1 3)), (1, .ref (x)), (2, .ref (m)), (3, .ref (o)), (4, .int (l4))] [.int ((if (G.2.2.2.2.2.2.2 (l4 + 3 : Int32).toNatClampNeg : Int32) = 0 then 0 else 1)), .int (G.2.2.2.2.2.2.2 (l4 + 2 : Int32).toNatClampNeg), .int (G.2.2.2.2.2.2.2 (l4 + 1 : Int32).toNatClampNeg), .ref (x)] (I, J, R, K, n) Q by
                                                          refine zIf_eq 7 1098 1094 (by decide +kernel) rfl rfl ⟨fun q405 => ?_, fun q405 => ?_⟩
                                                          · refine zIconst 0 0 1099 (by decide +kernel) rfl (by decide) ?_
                                                            exact zTop (by rw [if_pos q405]) KK
                                                          · refine zIconst 1 1 1095 (by decide +kernel) rfl (by decide) ?_
                                                            refine zGoto 4 1099 (by decide +kernel) rfl ?_
                                                            exact zTop (by rw [if_neg q405]) KK
                                                        refine zCallV 11 zcls11 mX11_seen 132 3 0 0 _ _ 1102 [.int (G.2.2.2.2.2.2.2 (l4 + 1 : Int32).toNatClampNeg), .int (G.2.2.2.2.2.2.2 (l4 + 2 : Int32).toNatClampNeg), .int ((if (G.2.2.2.2.2.2.2 (l4 + 3 : Int32).toNatClampNeg : Int32) = 0 then 0 else 1))] [] okX11_seen mlL_132 imX11_seen seX11_seen (by decide +kernel) rfl rfl (Nat.le_of_ble_eq_true rfl) rfl rfl (X_0 S0_) (zC.mono F ?_)
                                                        rintro _ _ ⟨x406, I407, rfl, rfl, F⟩
                                                        change zV G (d + 1) mL_law (kc + 4) (ks + 300) 1102 [(0, .ref (G.2.2.2.2.2.1 3)), (1, .ref (x)), (2, .ref (m)), (3, .ref (o)), (4, .int (l4))] [.int (x406)] (I407, J, R, K, n) Q
                                                        refine zAload_n 2 2 1103 (by decide +kernel) rfl rfl ?_
                                                        refine zAload_n 0 0 1104 (by decide +kernel) rfl rfl ?_
                                                        refine zIload 4 4 1106 (by decide +kernel) rfl rfl ?_
                                                        refine zIconst 1 1 1107 (by decide +kernel) rfl (by decide) ?_
                                                        refine zIadd 1108 (by decide +kernel) rfl ?_
                                                        obtain ⟨w408, F⟩ := F
                                                        refine zSaload 1109 (by decide +kernel) rfl (w408) ?_
                                                        refine zAload_n 0 0 1110 (by decide +kernel) rfl rfl ?_
                                                        refine zIload 4 4 1112 (by decide +kernel) rfl rfl ?_
                                                        refine zIconst 2 2 1113 (by decide +kernel) rfl (by decide) ?_
                                                        refine zIadd 1114 (by decide +kernel) rfl ?_
                                                        obtain ⟨w409, F⟩ := F
                                                        refine zSaload 1115 (by decide +kernel) rfl (w409) ?_
                                                        refine zAload_n 0 0 1116 (by decide +kernel) rfl rfl ?_
                                                        refine zIload 4 4 1118 (by decide +kernel) rfl rfl ?_
                                                        refine zIconst 3 3 1119 (by decide +kernel) rfl (by decide) ?_
                                                        refine zIadd 1120 (by decide +kernel) rfl ?_
                                                        obtain ⟨w410, F⟩ := F
                                                        refine zSaload 1121 (by decide +kernel) rfl (w410) ?_
                                                        suffices KK : zV G (d + 1) mL_law (kc + 4) (ks + 300) 1129 [(0, .ref (G.2.2.2.2.2.1 3)), (1, .ref (x)), (2, .ref (m)), (3, .ref (o)), (4, .int (l4))] [.int ((if (G.2.2.2.2.2.2.2 (l4 + 3 : Int32).toNatClampNeg : Int32) = 0 then 0 else 1)), .int (G.2.2.2.2.2.2.2 (l4 + 2 : Int32).toNatClampNeg), .int (G.2.2.2.2.2.2.2 (l4 + 1 : Int32).toNatClampNeg), .ref (m), .int (x406)] (I407, J, R, K, n) Q by
                                                          refine zIf_eq 7 1128 1124 (by decide +kernel) rfl rfl ⟨fun q411 => ?_, fun q411 => ?_⟩
                                                          · refine zIconst 0 0 1129 (by decide +kernel) rfl (by decide) ?_
                                                            exact zTop (by rw [if_pos q411]) KK
                                                          · refine zIconst 1 1 1125 (by decide +kernel) rfl (by decide) ?_
                                                            refine zGoto 4 1129 (by decide +kernel) rfl ?_
                                                            exact zTop (by rw [if_neg q411]) KK
                                                        refine zCallV 12 zcls12 mX12_seen 136 3 0 0 _ _ 1132 [.int (G.2.2.2.2.2.2.2 (l4 + 1 : Int32).toNatClampNeg), .int (G.2.2.2.2.2.2.2 (l4 + 2 : Int32).toNatClampNeg), .int ((if (G.2.2.2.2.2.2.2 (l4 + 3 : Int32).toNatClampNeg : Int32) = 0 then 0 else 1))] [.int (x406)] okX12_seen mlL_136 imX12_seen seX12_seen (by decide +kernel) rfl rfl (Nat.le_of_ble_eq_true rfl) rfl rfl (Mod_0 S1_) (zC.mono F ?_)
                                                        rintro _ _ ⟨x412, I413, rfl, rfl, F⟩
                                                        change zV G (d + 1) mL_law (kc + 4) (ks + 300) 1132 [(0, .ref (G.2.2.2.2.2.1 3)), (1, .ref (x)), (2, .ref (m)), (3, .ref (o)), (4, .int (l4))] [.int (x412), .int (x406)] (I413, J, R, K, n) Q
                                                        refine zIcmp_eq 451 1583 1135 (by decide +kernel) rfl rfl ⟨fun q414 => ?_, fun q414 => ?_⟩
                                                        · replace F := F.1 q414
                                                          refine zIinc 4 6 4 (l4 + 6) [(4, .int (l4 + 6)), (0, .ref (G.2.2.2.2.2.1 3)), (1, .ref (x)), (2, .ref (m)), (3, .ref (o))] 1586 (by decide +kernel) rfl rfl (by rfl) (by decide) rfl ?_
                                                          refine zGoto (-1563) 23 (by decide +kernel) rfl ?_
                                                          exact zLoc [1, 2, 3, 4, 0] _ rfl F
                                                        · replace F := F.2 q414
                                                          refine zIconst 0 0 1136 (by decide +kernel) rfl (by decide) ?_
                                                          exact zZret .boolean rfl (zNarZ (Or.inl rfl)) (by decide +kernel) F
                                                      · skip
                                                        by_cases q415 : ((G.2.2.2.2.2.2.2 l4.toNatClampNeg) &&& 63) = 26
                                                        · replace F := F.2.2.2.2.2.2.2.2.2.2.2.2.2.2.2.2.2.2.2.2.2.2.2.2.2.2.1 q415
                                                          have zt := zEqT q415 (show (26 : Int32).toInt = 26 by decide)
                                                          refine zTableIn 1543 0 39 #[176, 249, 274, 299, 324, 392, 429, 454, 479, 504, 541, 566, 615, 640, 665, 678, 747, 760, 797, 846, 883, 908, 945, 970, 1007, 1032, 1097, 1134, 1159, 1172, 1209, 1246, 1319, 1368, 1405, 1442, 1467, 1492, 1505, 1518] 176 1097 1137 (by decide +kernel) (by omega) (by omega) (by rw [zt]; decide) rfl ?_
                                                          refine zAload_n 1 1 1138 (by decide +kernel) rfl rfl ?_
                                                          refine zAload_n 0 0 1139 (by decide +kernel) rfl rfl ?_
                                                          refine zIload 4 4 1141 (by decide +kernel) rfl rfl ?_
                                                          refine zIconst 1 1 1142 (by decide +kernel) rfl (by decide) ?_
                                                          refine zIadd 1143 (by decide +kernel) rfl ?_
                                                          obtain ⟨w416, F⟩ := F
                                                          refine zSaload 1144 (by decide +kernel) rfl (w416) ?_
                                                          refine zAload_n 0 0 1145 (by decide +kernel) rfl rfl ?_
                                                          refine zIload 4 4 1147 (by decide +kernel) rfl rfl ?_
                                                          refine zIconst 2 2 1148 (by decide +kernel) rfl (by decide) ?_
                                                          refine zIadd 1149 (by decide +kernel) rfl ?_
                                                          obtain ⟨w417, F⟩ := F
                                                          refine zSaload 1150 (by decide +kernel) rfl (w417) ?_
                                                          refine zCallV 11 zcls11 mX11_weights 137 2 0 0 _ _ 1153 [.int (G.2.2.2.2.2.2.2 (l4 + 1 : Int32).toNatClampNeg), .int (G.2.2.2.2.2.2.2 (l4 + 2 : Int32).toNatClampNeg)] [] okX11_weights mlL_137 imX11_weights seX11_weights (by decide +kernel) rfl rfl (Nat.le_of_ble_eq_true rfl) rfl rfl (X_0 S0_) (zC.mono F ?_)
                                                          rintro _ _ ⟨x418, I419, rfl, rfl, F⟩
                                                          change zV G (d + 1) mL_law (kc + 4) (ks + 300) 1153 [(0, .ref (G.2.2.2.2.2.1 3)), (1, .ref (x)), (2, .ref (m)), (3, .ref (o)), (4, .int (l4))] [.int (x418)] (I419, J, R, K, n) Q
                                                          refine zAload_n 2 2 1154 (by decide +kernel) rfl rfl ?_
                                                          refine zAload_n 0 0 1155 (by decide +kernel) rfl rfl ?_
                                                          refine zIload 4 4 1157 (by decide +kernel) rfl rfl ?_
                                                          refine zIconst 1 1 1158 (by decide +kernel) rfl (by decide) ?_
                                                          refine zIadd 1159 (by decide +kernel) rfl ?_
                                                          obtain ⟨w420, F⟩ := F
                                                          refine zSaload 1160 (by decide +kernel) rfl (w420) ?_
                                                          refine zAload_n 0 0 1161 (by decide +kernel) rfl rfl ?_
                                                          refine zIload 4 4 1163 (by decide +kernel) rfl rfl ?_
                                                          refine zIconst 2 2 1164 (by decide +kernel) rfl (by decide) ?_
                                                          refine zIadd 1165 (by decide +kernel) rfl ?_
                                                          obtain ⟨w421, F⟩ := F
                                                          refine zSaload 1166 (by decide +kernel) rfl (w421) ?_
                                                          refine zCallV 12 zcls12 mX12_weights 140 2 0 0 _ _ 1169 [.int (G.2.2.2.2.2.2.2 (l4 + 1 : Int32).toNatClampNeg), .int (G.2.2.2.2.2.2.2 (l4 + 2 : Int32).toNatClampNeg)] [.int (x418)] okX12_weights mlL_140 imX12_weights seX12_weights (by decide +kernel) rfl rfl (Nat.le_of_ble_eq_true rfl) rfl rfl (Mod_0 S1_) (zC.mono F ?_)
                                                          rintro _ _ ⟨x422, I423, J424, R425, rfl, rfl, F⟩
                                                          change zV G (d + 1) mL_law (kc + 4) (ks + 300) 1169 [(0, .ref (G.2.2.2.2.2.1 3)), (1, .ref (x)), (2, .ref (m)), (3, .ref (o)), (4, .int (l4))] [.int (x422), .int (x418)] (I423, J424, R425, K, n) Q
                                                          obtain ⟨u426, u427, u428, S429, F⟩ := F
                                                          obtain ⟨u430, u431, S432, F⟩ := F
                                                          obtain ⟨S433, F⟩ := F
                                                          refine zIcmp_eq 414 1583 1172 (by decide +kernel) rfl rfl ⟨fun q434 => ?_, fun q434 => ?_⟩
                                                          · replace F := F.1 q434
                                                            refine zIinc 4 6 4 (l4 + 6) [(4, .int (l4 + 6)), (0, .ref (G.2.2.2.2.2.1 3)), (1, .ref (x)), (2, .ref (m)), (3, .ref (o))] 1586 (by decide +kernel) rfl rfl (by rfl) (by decide) rfl ?_
                                                            refine zGoto (-1563) 23 (by decide +kernel) rfl ?_
                                                            exact zLoc [1, 2, 3, 4, 0] _ rfl F
                                                          · replace F := F.2 q434
                                                            refine zIconst 0 0 1173 (by decide +kernel) rfl (by decide) ?_
                                                            exact zZret .boolean rfl (zNarZ (Or.inl rfl)) (by decide +kernel) F
                                                        · skip
                                                          by_cases q435 : ((G.2.2.2.2.2.2.2 l4.toNatClampNeg) &&& 63) = 27
                                                          · replace F := F.2.2.2.2.2.2.2.2.2.2.2.2.2.2.2.2.2.2.2.2.2.2.2.2.2.2.2.1 q435
                                                            have zt := zEqT q435 (show (27 : Int32).toInt = 27 by decide)
                                                            refine zTableIn 1543 0 39 #[176, 249, 274, 299, 324, 392, 429, 454, 479, 504, 541, 566, 615, 640, 665, 678, 747, 760, 797, 846, 883, 908, 945, 970, 1007, 1032, 1097, 1134, 1159, 1172, 1209, 1246, 1319, 1368, 1405, 1442, 1467, 1492, 1505, 1518] 176 1134 1174 (by decide +kernel) (by omega) (by omega) (by rw [zt]; decide) rfl ?_
                                                            refine zAload_n 1 1 1175 (by decide +kernel) rfl rfl ?_
                                                            refine zAload_n 0 0 1176 (by decide +kernel) rfl rfl ?_
                                                            refine zIload 4 4 1178 (by decide +kernel) rfl rfl ?_
                                                            refine zIconst 1 1 1179 (by decide +kernel) rfl (by decide) ?_
                                                            refine zIadd 1180 (by decide +kernel) rfl ?_
                                                            obtain ⟨w436, F⟩ := F
                                                            refine zSaload 1181 (by decide +kernel) rfl (w436) ?_
                                                            refine zCallV 11 zcls11 mX11_ask 141 1 0 0 _ _ 1184 [.int (G.2.2.2.2.2.2.2 (l4 + 1 : Int32).toNatClampNeg)] [] okX11_ask mlL_141 imX11_ask seX11_ask (by decide +kernel) rfl rfl (Nat.le_of_ble_eq_true rfl) rfl rfl (X_0 S0_) (zC.mono F ?_)
                                                            rintro _ _ ⟨x437, I438, rfl, rfl, F⟩
                                                            change zV G (d + 1) mL_law (kc + 4) (ks + 300) 1184 [(0, .ref (G.2.2.2.2.2.1 3)), (1, .ref (x)), (2, .ref (m)), (3, .ref (o)), (4, .int (l4))] [.int (x437)] (I438, J, R, K, n) Q
                                                            refine zAload_n 2 2 1185 (by decide +kernel) rfl rfl ?_
                                                            refine zAload_n 0 0 1186 (by decide +kernel) rfl rfl ?_
                                                            refine zIload 4 4 1188 (by decide +kernel) rfl rfl ?_
                                                            refine zIconst 1 1 1189 (by decide +kernel) rfl (by decide) ?_
                                                            refine zIadd 1190 (by decide +kernel) rfl ?_
                                                            obtain ⟨w439, F⟩ := F
                                                            refine zSaload 1191 (by decide +kernel) rfl (w439) ?_
                                                            refine zCallV 12 zcls12 mX12_ask 144 1 0 0 _ _ 1194 [.int (G.2.2.2.2.2.2.2 (l4 + 1 : Int32).toNatClampNeg)] [.int (x437)] okX12_ask mlL_144 imX12_ask seX12_ask (by decide +kernel) rfl rfl (Nat.le_of_ble_eq_true rfl) rfl rfl (Mod_0 S1_) (zC.mono F ?_)
                                                            rintro _ _ ⟨x440, I441, J442, R443, rfl, rfl, F⟩
                                                            change zV G (d + 1) mL_law (kc + 4) (ks + 300) 1194 [(0, .ref (G.2.2.2.2.2.1 3)), (1, .ref (x)), (2, .ref (m)), (3, .ref (o)), (4, .int (l4))] [.int (x440), .int (x437)] (I441, J442, R443, K, n) Q
                                                            obtain ⟨u444, u445, u446, S447, F⟩ := F
                                                            obtain ⟨u448, u449, S450, F⟩ := F
                                                            obtain ⟨S451, F⟩ := F
                                                            refine zIcmp_eq 389 1583 1197 (by decide +kernel) rfl rfl ⟨fun q452 => ?_, fun q452 => ?_⟩
                                                            · replace F := F.1 q452
                                                              refine zIinc 4 6 4 (l4 + 6) [(4, .int (l4 + 6)), (0, .ref (G.2.2.2.2.2.1 3)), (1, .ref (x)), (2, .ref (m)), (3, .ref (o))] 1586 (by decide +kernel) rfl rfl (by rfl) (by decide) rfl ?_
                                                              refine zGoto (-1563) 23 (by decide +kernel) rfl ?_
                                                              exact zLoc [1, 2, 3, 4, 0] _ rfl F
                                                            · replace F := F.2 q452
                                                              refine zIconst 0 0 1198 (by decide +kernel) rfl (by decide) ?_
                                                              exact zZret .boolean rfl (zNarZ (Or.inl rfl)) (by decide +kernel) F
                                                          · skip
                                                            by_cases q453 : ((G.2.2.2.2.2.2.2 l4.toNatClampNeg) &&& 63) = 28
                                                            · replace F := F.2.2.2.2.2.2.2.2.2.2.2.2.2.2.2.2.2.2.2.2.2.2.2.2.2.2.2.2.1 q453
                                                              have zt := zEqT q453 (show (28 : Int32).toInt = 28 by decide)
                                                              refine zTableIn 1543 0 39 #[176, 249, 274, 299, 324, 392, 429, 454, 479, 504, 541, 566, 615, 640, 665, 678, 747, 760, 797, 846, 883, 908, 945, 970, 1007, 1032, 1097, 1134, 1159, 1172, 1209, 1246, 1319, 1368, 1405, 1442, 1467, 1492, 1505, 1518] 176 1159 1199 (by decide +kernel) (by omega) (by omega) (by rw [zt]; decide) rfl ?_
                                                              refine zAload_n 1 1 1200 (by decide +kernel) rfl rfl ?_
                                                              refine zCallV 11 zcls11 mX11_ring 145 0 0 0 _ _ 1203 [] [] okX11_ring mlL_145 imX11_ring seX11_ring (by decide +kernel) rfl rfl (Nat.le_of_ble_eq_true rfl) rfl rfl (X_0 S0_) (zC.mono F ?_)
                                                              rintro _ _ ⟨x454, I455, rfl, rfl, F⟩
                                                              change zV G (d + 1) mL_law (kc + 4) (ks + 300) 1203 [(0, .ref (G.2.2.2.2.2.1 3)), (1, .ref (x)), (2, .ref (m)), (3, .ref (o)), (4, .int (l4))] [.int (x454)] (I455, J, R, K, n) Q
                                                              refine zAload_n 2 2 1204 (by decide +kernel) rfl rfl ?_
                                                              refine zCallV 12 zcls12 mX12_ring 148 0 0 0 _ _ 1207 [] [.int (x454)] okX12_ring mlL_148 imX12_ring seX12_ring (by decide +kernel) rfl rfl (Nat.le_of_ble_eq_true rfl) rfl rfl (Mod_0 S1_) (zC.mono F ?_)
                                                              rintro _ _ ⟨x456, I457, rfl, rfl, F⟩
                                                              change zV G (d + 1) mL_law (kc + 4) (ks + 300) 1207 [(0, .ref (G.2.2.2.2.2.1 3)), (1, .ref (x)), (2, .ref (m)), (3, .ref (o)), (4, .int (l4))] [.int (x456), .int (x454)] (I457, J, R, K, n) Q
                                                              refine zIcmp_eq 376 1583 1210 (by decide +kernel) rfl rfl ⟨fun q458 => ?_, fun q458 => ?_⟩
                                                              · replace F := F.1 q458
                                                                refine zIinc 4 6 4 (l4 + 6) [(4, .int (l4 + 6)), (0, .ref (G.2.2.2.2.2.1 3)), (1, .ref (x)), (2, .ref (m)), (3, .ref (o))] 1586 (by decide +kernel) rfl rfl (by rfl) (by decide) rfl ?_
                                                                refine zGoto (-1563) 23 (by decide +kernel) rfl ?_
                                                                exact zLoc [1, 2, 3, 4, 0] _ rfl F
                                                              · replace F := F.2 q458
                                                                refine zIconst 0 0 1211 (by decide +kernel) rfl (by decide) ?_
                                                                exact zZret .boolean rfl (zNarZ (Or.inl rfl)) (by decide +kernel) F
                                                            · skip
                                                              by_cases q459 : ((G.2.2.2.2.2.2.2 l4.toNatClampNeg) &&& 63) = 29
                                                              · replace F := F.2.2.2.2.2.2.2.2.2.2.2.2.2.2.2.2.2.2.2.2.2.2.2.2.2.2.2.2.2.1 q459
                                                                have zt := zEqT q459 (show (29 : Int32).toInt = 29 by decide)
                                                                refine zTableIn 1543 0 39 #[176, 249, 274, 299, 324, 392, 429, 454, 479, 504, 541, 566, 615, 640, 665, 678, 747, 760, 797, 846, 883, 908, 945, 970, 1007, 1032, 1097, 1134, 1159, 1172, 1209, 1246, 1319, 1368, 1405, 1442, 1467, 1492, 1505, 1518] 176 1172 1212 (by decide +kernel) (by omega) (by omega) (by rw [zt]; decide) rfl ?_
                                                                refine zAload_n 1 1 1213 (by decide +kernel) rfl rfl ?_
                                                                refine zAload_n 0 0 1214 (by decide +kernel) rfl rfl ?_
                                                                refine zIload 4 4 1216 (by decide +kernel) rfl rfl ?_
                                                                refine zIconst 1 1 1217 (by decide +kernel) rfl (by decide) ?_
                                                                refine zIadd 1218 (by decide +kernel) rfl ?_
                                                                obtain ⟨w460, F⟩ := F
                                                                refine zSaload 1219 (by decide +kernel) rfl (w460) ?_
                                                                refine zAload_n 0 0 1220 (by decide +kernel) rfl rfl ?_
                                                                refine zIload 4 4 1222 (by decide +kernel) rfl rfl ?_
                                                                refine zIconst 2 2 1223 (by decide +kernel) rfl (by decide) ?_
                                                                refine zIadd 1224 (by decide +kernel) rfl ?_
                                                                obtain ⟨w461, F⟩ := F
                                                                refine zSaload 1225 (by decide +kernel) rfl (w461) ?_
                                                                refine zCallV 11 zcls11 mX11_chain 149 2 0 0 _ _ 1228 [.int (G.2.2.2.2.2.2.2 (l4 + 1 : Int32).toNatClampNeg), .int (G.2.2.2.2.2.2.2 (l4 + 2 : Int32).toNatClampNeg)] [] okX11_chain mlL_149 imX11_chain seX11_chain (by decide +kernel) rfl rfl (Nat.le_of_ble_eq_true rfl) rfl rfl (X_0 S0_) (zC.mono F ?_)
                                                                rintro _ _ ⟨x462, I463, rfl, rfl, F⟩
                                                                change zV G (d + 1) mL_law (kc + 4) (ks + 300) 1228 [(0, .ref (G.2.2.2.2.2.1 3)), (1, .ref (x)), (2, .ref (m)), (3, .ref (o)), (4, .int (l4))] [.int (x462)] (I463, J, R, K, n) Q
                                                                refine zAload_n 2 2 1229 (by decide +kernel) rfl rfl ?_
                                                                refine zAload_n 0 0 1230 (by decide +kernel) rfl rfl ?_
                                                                refine zIload 4 4 1232 (by decide +kernel) rfl rfl ?_
                                                                refine zIconst 1 1 1233 (by decide +kernel) rfl (by decide) ?_
                                                                refine zIadd 1234 (by decide +kernel) rfl ?_
                                                                obtain ⟨w464, F⟩ := F
                                                                refine zSaload 1235 (by decide +kernel) rfl (w464) ?_
                                                                refine zAload_n 0 0 1236 (by decide +kernel) rfl rfl ?_
                                                                refine zIload 4 4 1238 (by decide +kernel) rfl rfl ?_
                                                                refine zIconst 2 2 1239 (by decide +kernel) rfl (by decide) ?_
                                                                refine zIadd 1240 (by decide +kernel) rfl ?_
                                                                obtain ⟨w465, F⟩ := F
                                                                refine zSaload 1241 (by decide +kernel) rfl (w465) ?_
                                                                refine zCallV 12 zcls12 mX12_chain 152 2 0 0 _ _ 1244 [.int (G.2.2.2.2.2.2.2 (l4 + 1 : Int32).toNatClampNeg), .int (G.2.2.2.2.2.2.2 (l4 + 2 : Int32).toNatClampNeg)] [.int (x462)] okX12_chain mlL_152 imX12_chain seX12_chain (by decide +kernel) rfl rfl (Nat.le_of_ble_eq_true rfl) rfl rfl (Mod_0 S1_) (zC.mono F ?_)
                                                                rintro _ _ ⟨x466, I467, rfl, rfl, F⟩
                                                                change zV G (d + 1) mL_law (kc + 4) (ks + 300) 1244 [(0, .ref (G.2.2.2.2.2.1 3)), (1, .ref (x)), (2, .ref (m)), (3, .ref (o)), (4, .int (l4))] [.int (x466), .int (x462)] (I467, J, R, K, n) Q
                                                                refine zIcmp_eq 339 1583 1247 (by decide +kernel) rfl rfl ⟨fun q468 => ?_, fun q468 => ?_⟩
                                                                · replace F := F.1 q468
                                                                  refine zIinc 4 6 4 (l4 + 6) [(4, .int (l4 + 6)), (0, .ref (G.2.2.2.2.2.1 3)), (1, .ref (x)), (2, .ref (m)), (3, .ref (o))] 1586 (by decide +kernel) rfl rfl (by rfl) (by decide) rfl ?_
                                                                  refine zGoto (-1563) 23 (by decide +kernel) rfl ?_
                                                                  exact zLoc [1, 2, 3, 4, 0] _ rfl F
                                                                · replace F := F.2 q468
                                                                  refine zIconst 0 0 1248 (by decide +kernel) rfl (by decide) ?_
                                                                  exact zZret .boolean rfl (zNarZ (Or.inl rfl)) (by decide +kernel) F
                                                              · skip
                                                                by_cases q469 : ((G.2.2.2.2.2.2.2 l4.toNatClampNeg) &&& 63) = 30
                                                                · replace F := F.2.2.2.2.2.2.2.2.2.2.2.2.2.2.2.2.2.2.2.2.2.2.2.2.2.2.2.2.2.2.1 q469
                                                                  have zt := zEqT q469 (show (30 : Int32).toInt = 30 by decide)
                                                                  refine zTableIn 1543 0 39 #[176, 249, 274, 299, 324, 392, 429, 454, 479, 504, 541, 566, 615, 640, 665, 678, 747, 760, 797, 846, 883, 908, 945, 970, 1007, 1032, 1097, 1134, 1159, 1172, 1209, 1246, 1319, 1368, 1405, 1442, 1467, 1492, 1505, 1518] 176 1209 1249 (by decide +kernel) (by omega) (by omega) (by rw [zt]; decide) rfl ?_
                                                                  refine zAload_n 1 1 1250 (by decide +kernel) rfl rfl ?_
                                                                  refine zAload_n 0 0 1251 (by decide +kernel) rfl rfl ?_
                                                                  refine zIload 4 4 1253 (by decide +kernel) rfl rfl ?_
                                                                  refine zIconst 1 1 1254 (by decide +kernel) rfl (by decide) ?_
                                                                  refine zIadd 1255 (by decide +kernel) rfl ?_
                                                                  obtain ⟨w470, F⟩ := F
                                                                  refine zSaload 1256 (by decide +kernel) rfl (w470) ?_
                                                                  refine zAload_n 0 0 1257 (by decide +kernel) rfl rfl ?_
                                                                  refine zIload 4 4 1259 (by decide +kernel) rfl rfl ?_
                                                                  refine zIconst 2 2 1260 (by decide +kernel) rfl (by decide) ?_
                                                                  refine zIadd 1261 (by decide +kernel) rfl ?_
                                                                  obtain ⟨w471, F⟩ := F
                                                                  refine zSaload 1262 (by decide +kernel) rfl (w471) ?_
                                                                  refine zCallV 11 zcls11 mX11_score 153 2 0 0 _ _ 1265 [.int (G.2.2.2.2.2.2.2 (l4 + 1 : Int32).toNatClampNeg), .int (G.2.2.2.2.2.2.2 (l4 + 2 : Int32).toNatClampNeg)] [] okX11_score mlL_153 imX11_score seX11_score (by decide +kernel) rfl rfl (Nat.le_of_ble_eq_true rfl) rfl rfl (X_0 S0_) (zC.mono F ?_)
                                                                  rintro _ _ ⟨x472, I473, rfl, rfl, F⟩
                                                                  change zV G (d + 1) mL_law (kc + 4) (ks + 300) 1265 [(0, .ref (G.2.2.2.2.2.1 3)), (1, .ref (x)), (2, .ref (m)), (3, .ref (o)), (4, .int (l4))] [.int (x472)] (I473, J, R, K, n) Q
                                                                  refine zAload_n 2 2 1266 (by decide +kernel) rfl rfl ?_
                                                                  refine zAload_n 0 0 1267 (by decide +kernel) rfl rfl ?_
                                                                  refine zIload 4 4 1269 (by decide +kernel) rfl rfl ?_
                                                                  refine zIconst 1 1 1270 (by decide +kernel) rfl (by decide) ?_
                                                                  refine zIadd 1271 (by decide +kernel) rfl ?_
                                                                  obtain ⟨w474, F⟩ := F
                                                                  refine zSaload 1272 (by decide +kernel) rfl (w474) ?_
                                                                  refine zAload_n 0 0 1273 (by decide +kernel) rfl rfl ?_
                                                                  refine zIload 4 4 1275 (by decide +kernel) rfl rfl ?_
                                                                  refine zIconst 2 2 1276 (by decide +kernel) rfl (by decide) ?_
                                                                  refine zIadd 1277 (by decide +kernel) rfl ?_
                                                                  obtain ⟨w475, F⟩ := F
                                                                  refine zSaload 1278 (by decide +kernel) rfl (w475) ?_
                                                                  refine zCallV 12 zcls12 mX12_score 156 2 0 0 _ _ 1281 [.int (G.2.2.2.2.2.2.2 (l4 + 1 : Int32).toNatClampNeg), .int (G.2.2.2.2.2.2.2 (l4 + 2 : Int32).toNatClampNeg)] [.int (x472)] okX12_score mlL_156 imX12_score seX12_score (by decide +kernel) rfl rfl (Nat.le_of_ble_eq_true rfl) rfl rfl (Mod_0 S1_) (zC.mono F ?_)
                                                                  rintro _ _ ⟨x476, I477, rfl, rfl, F⟩
                                                                  change zV G (d + 1) mL_law (kc + 4) (ks + 300) 1281 [(0, .ref (G.2.2.2.2.2.1 3)), (1, .ref (x)), (2, .ref (m)), (3, .ref (o)), (4, .int (l4))] [.int (x476), .int (x472)] (I477, J, R, K, n) Q
                                                                  refine zIcmp_eq 302 1583 1284 (by decide +kernel) rfl rfl ⟨fun q478 => ?_, fun q478 => ?_⟩
                                                                  · replace F := F.1 q478
                                                                    refine zIinc 4 6 4 (l4 + 6) [(4, .int (l4 + 6)), (0, .ref (G.2.2.2.2.2.1 3)), (1, .ref (x)), (2, .ref (m)), (3, .ref (o))] 1586 (by decide +kernel) rfl rfl (by rfl) (by decide) rfl ?_
                                                                    refine zGoto (-1563) 23 (by decide +kernel) rfl ?_
                                                                    exact zLoc [1, 2, 3, 4, 0] _ rfl F
                                                                  · replace F := F.2 q478
                                                                    refine zIconst 0 0 1285 (by decide +kernel) rfl (by decide) ?_
                                                                    exact zZret .boolean rfl (zNarZ (Or.inl rfl)) (by decide +kernel) F
                                                                · skip
                                                                  by_cases q479 : ((G.2.2.2.2.2.2.2 l4.toNatClampNeg) &&& 63) = 31
                                                                  · replace F := F.2.2.2.2.2.2.2.2.2.2.2.2.2.2.2.2.2.2.2.2.2.2.2.2.2.2.2.2.2.2.2.1 q479
                                                                    have zt := zEqT q479 (show (31 : Int32).toInt = 31 by decide)
                                                                    refine zTableIn 1543 0 39 #[176, 249, 274, 299, 324, 392, 429, 454, 479, 504, 541, 566, 615, 640, 665, 678, 747, 760, 797, 846, 883, 908, 945, 970, 1007, 1032, 1097, 1134, 1159, 1172, 1209, 1246, 1319, 1368, 1405, 1442, 1467, 1492, 1505, 1518] 176 1246 1286 (by decide +kernel) (by omega) (by omega) (by rw [zt]; decide) rfl ?_
                                                                    refine zAload_n 1 1 1287 (by decide +kernel) rfl rfl ?_
                                                                    refine zAload_n 0 0 1288 (by decide +kernel) rfl rfl ?_
                                                                    refine zIload 4 4 1290 (by decide +kernel) rfl rfl ?_
                                                                    refine zIconst 1 1 1291 (by decide +kernel) rfl (by decide) ?_
                                                                    refine zIadd 1292 (by decide +kernel) rfl ?_
                                                                    obtain ⟨w480, F⟩ := F
                                                                    refine zSaload 1293 (by decide +kernel) rfl (w480) ?_
                                                                    refine zAload_n 0 0 1294 (by decide +kernel) rfl rfl ?_
                                                                    refine zIload 4 4 1296 (by decide +kernel) rfl rfl ?_
                                                                    refine zIconst 2 2 1297 (by decide +kernel) rfl (by decide) ?_
                                                                    refine zIadd 1298 (by decide +kernel) rfl ?_
                                                                    obtain ⟨w481, F⟩ := F
                                                                    refine zSaload 1299 (by decide +kernel) rfl (w481) ?_
                                                                    refine zAload_n 0 0 1300 (by decide +kernel) rfl rfl ?_
                                                                    refine zIload 4 4 1302 (by decide +kernel) rfl rfl ?_
                                                                    refine zIconst 3 3 1303 (by decide +kernel) rfl (by decide) ?_
                                                                    refine zIadd 1304 (by decide +kernel) rfl ?_
                                                                    obtain ⟨w482, F⟩ := F
                                                                    refine zSaload 1305 (by decide +kernel) rfl (w482) ?_
                                                                    refine zAload_n 0 0 1306 (by decide +kernel) rfl rfl ?_
                                                                    refine zIload 4 4 1308 (by decide +kernel) rfl rfl ?_
                                                                    refine zIconst 4 4 1309 (by decide +kernel) rfl (by decide) ?_
                                                                    refine zIadd 1310 (by decide +kernel) rfl ?_
                                                                    obtain ⟨w483, F⟩ := F
                                                                    refine zSaload 1311 (by decide +kernel) rfl (w483) ?_
                                                                    refine zAload_n 0 0 1312 (by decide +kernel) rfl rfl ?_
                                                                    refine zIload 4 4 1314 (by decide +kernel) rfl rfl ?_
                                                                    refine zIconst 5 5 1315 (by decide +kernel) rfl (by decide) ?_
                                                                    refine zIadd 1316 (by decide +kernel) rfl ?_
                                                                    obtain ⟨w484, F⟩ := F
                                                                    refine zSaload 1317 (by decide +kernel) rfl (w484) ?_
                                                                    refine zCallV 11 zcls11 mX11_game 157 5 0 0 _ _ 1320 [.int (G.2.2.2.2.2.2.2 (l4 + 1 : Int32).toNatClampNeg), .int (G.2.2.2.2.2.2.2 (l4 + 2 : Int32).toNatClampNeg), .int (G.2.2.2.2.2.2.2 (l4 + 3 : Int32).toNatClampNeg), .int (G.2.2.2.2.2.2.2 (l4 + 4 : Int32).toNatClampNeg), .int (G.2.2.2.2.2.2.2 (l4 + 5 : Int32).toNatClampNeg)] [] okX11_game mlL_157 imX11_game seX11_game (by decide +kernel) rfl rfl (Nat.le_of_ble_eq_true rfl) rfl rfl (X_0 S0_) (zC.mono F ?_)
                                                                    rintro _ _ ⟨x485, I486, rfl, rfl, F⟩
                                                                    change zV G (d + 1) mL_law (kc + 4) (ks + 300) 1320 [(0, .ref (G.2.2.2.2.2.1 3)), (1, .ref (x)), (2, .ref (m)), (3, .ref (o)), (4, .int (l4))] [.int (x485)] (I486, J, R, K, n) Q
                                                                    refine zAload_n 2 2 1321 (by decide +kernel) rfl rfl ?_
                                                                    refine zAload_n 0 0 1322 (by decide +kernel) rfl rfl ?_
                                                                    refine zIload 4 4 1324 (by decide +kernel) rfl rfl ?_
                                                                    refine zIconst 1 1 1325 (by decide +kernel) rfl (by decide) ?_
                                                                    refine zIadd 1326 (by decide +kernel) rfl ?_
                                                                    obtain ⟨w487, F⟩ := F
                                                                    refine zSaload 1327 (by decide +kernel) rfl (w487) ?_
                                                                    refine zAload_n 0 0 1328 (by decide +kernel) rfl rfl ?_
                                                                    refine zIload 4 4 1330 (by decide +kernel) rfl rfl ?_
                                                                    refine zIconst 2 2 1331 (by decide +kernel) rfl (by decide) ?_
                                                                    refine zIadd 1332 (by decide +kernel) rfl ?_
                                                                    obtain ⟨w488, F⟩ := F
                                                                    refine zSaload 1333 (by decide +kernel) rfl (w488) ?_
                                                                    refine zAload_n 0 0 1334 (by decide +kernel) rfl rfl ?_
                                                                    refine zIload 4 4 1336 (by decide +kernel) rfl rfl ?_
                                                                    refine zIconst 3 3 1337 (by decide +kernel) rfl (by decide) ?_
                                                                    refine zIadd 1338 (by decide +kernel) rfl ?_
                                                                    obtain ⟨w489, F⟩ := F
                                                                    refine zSaload 1339 (by decide +kernel) rfl (w489) ?_
                                                                    refine zAload_n 0 0 1340 (by decide +kernel) rfl rfl ?_
                                                                    refine zIload 4 4 1342 (by decide +kernel) rfl rfl ?_
                                                                    refine zIconst 4 4 1343 (by decide +kernel) rfl (by decide) ?_
                                                                    refine zIadd 1344 (by decide +kernel) rfl ?_
                                                                    obtain ⟨w490, F⟩ := F
                                                                    refine zSaload 1345 (by decide +kernel) rfl (w490) ?_
                                                                    refine zAload_n 0 0 1346 (by decide +kernel) rfl rfl ?_
                                                                    refine zIload 4 4 1348 (by decide +kernel) rfl rfl ?_
                                                                    refine zIconst 5 5 1349 (by decide +kernel) rfl (by decide) ?_
                                                                    refine zIadd 1350 (by decide +kernel) rfl ?_
                                                                    obtain ⟨w491, F⟩ := F
                                                                    refine zSaload 1351 (by decide +kernel) rfl (w491) ?_
                                                                    refine zCallV 12 zcls12 mX12_game 160 5 0 0 _ _ 1354 [.int (G.2.2.2.2.2.2.2 (l4 + 1 : Int32).toNatClampNeg), .int (G.2.2.2.2.2.2.2 (l4 + 2 : Int32).toNatClampNeg), .int (G.2.2.2.2.2.2.2 (l4 + 3 : Int32).toNatClampNeg), .int (G.2.2.2.2.2.2.2 (l4 + 4 : Int32).toNatClampNeg), .int (G.2.2.2.2.2.2.2 (l4 + 5 : Int32).toNatClampNeg)] [.int (x485)] okX12_game mlL_160 imX12_game seX12_game (by decide +kernel) rfl rfl (Nat.le_of_ble_eq_true rfl) rfl rfl (Mod_0 S1_) (zC.mono F ?_)
                                                                    rintro _ _ ⟨x492, I493, J494, R495, rfl, rfl, F⟩
                                                                    change zV G (d + 1) mL_law (kc + 4) (ks + 300) 1354 [(0, .ref (G.2.2.2.2.2.1 3)), (1, .ref (x)), (2, .ref (m)), (3, .ref (o)), (4, .int (l4))] [.int (x492), .int (x485)] (I493, J494, R495, K, n) Q
                                                                    obtain ⟨u496, u497, u498, S499, F⟩ := F
                                                                    obtain ⟨u500, u501, S502, F⟩ := F
                                                                    obtain ⟨S503, F⟩ := F
                                                                    refine zIcmp_eq 229 1583 1357 (by decide +kernel) rfl rfl ⟨fun q504 => ?_, fun q504 => ?_⟩
                                                                    · replace F := F.1 q504
                                                                      refine zIinc 4 6 4 (l4 + 6) [(4, .int (l4 + 6)), (0, .ref (G.2.2.2.2.2.1 3)), (1, .ref (x)), (2, .ref (m)), (3, .ref (o))] 1586 (by decide +kernel) rfl rfl (by rfl) (by decide) rfl ?_
                                                                      refine zGoto (-1563) 23 (by decide +kernel) rfl ?_
                                                                      exact zLoc [1, 2, 3, 4, 0] _ rfl F
                                                                    · replace F := F.2 q504
                                                                      refine zIconst 0 0 1358 (by decide +kernel) rfl (by decide) ?_
                                                                      exact zZret .boolean rfl (zNarZ (Or.inl rfl)) (by decide +kernel) F
                                                                  · skip
                                                                    by_cases q505 : ((G.2.2.2.2.2.2.2 l4.toNatClampNeg) &&& 63) = 32
                                                                    · replace F := F.2.2.2.2.2.2.2.2.2.2.2.2.2.2.2.2.2.2.2.2.2.2.2.2.2.2.2.2.2.2.2.2.1 q505
                                                                      have zt := zEqT q505 (show (32 : Int32).toInt = 32 by decide)
                                                                      refine zTableIn 1543 0 39 #[176, 249, 274, 299, 324, 392, 429, 454, 479, 504, 541, 566, 615, 640, 665, 678, 747, 760, 797, 846, 883, 908, 945, 970, 1007, 1032, 1097, 1134, 1159, 1172, 1209, 1246, 1319, 1368, 1405, 1442, 1467, 1492, 1505, 1518] 176 1319 1359 (by decide +kernel) (by omega) (by omega) (by rw [zt]; decide) rfl ?_
                                                                      refine zAload_n 1 1 1360 (by decide +kernel) rfl rfl ?_
                                                                      refine zAload_n 0 0 1361 (by decide +kernel) rfl rfl ?_
                                                                      refine zIload 4 4 1363 (by decide +kernel) rfl rfl ?_
                                                                      refine zIconst 1 1 1364 (by decide +kernel) rfl (by decide) ?_
                                                                      refine zIadd 1365 (by decide +kernel) rfl ?_
                                                                      obtain ⟨w506, F⟩ := F
                                                                      refine zSaload 1366 (by decide +kernel) rfl (w506) ?_
                                                                      refine zAload_n 0 0 1367 (by decide +kernel) rfl rfl ?_
                                                                      refine zIload 4 4 1369 (by decide +kernel) rfl rfl ?_
                                                                      refine zIconst 2 2 1370 (by decide +kernel) rfl (by decide) ?_
                                                                      refine zIadd 1371 (by decide +kernel) rfl ?_
                                                                      obtain ⟨w507, F⟩ := F
                                                                      refine zSaload 1372 (by decide +kernel) rfl (w507) ?_
                                                                      refine zAload_n 0 0 1373 (by decide +kernel) rfl rfl ?_
                                                                      refine zIload 4 4 1375 (by decide +kernel) rfl rfl ?_
                                                                      refine zIconst 3 3 1376 (by decide +kernel) rfl (by decide) ?_
                                                                      refine zIadd 1377 (by decide +kernel) rfl ?_
                                                                      obtain ⟨w508, F⟩ := F
                                                                      refine zSaload 1378 (by decide +kernel) rfl (w508) ?_
                                                                      refine zCallV 11 zcls11 mX11_rests 161 3 0 0 _ _ 1381 [.int (G.2.2.2.2.2.2.2 (l4 + 1 : Int32).toNatClampNeg), .int (G.2.2.2.2.2.2.2 (l4 + 2 : Int32).toNatClampNeg), .int (G.2.2.2.2.2.2.2 (l4 + 3 : Int32).toNatClampNeg)] [] okX11_rests mlL_161 imX11_rests seX11_rests (by decide +kernel) rfl rfl (Nat.le_of_ble_eq_true rfl) rfl rfl (X_0 S0_) (zC.mono F ?_)
                                                                      rintro _ _ ⟨x509, I510, rfl, rfl, F⟩
                                                                      change zV G (d + 1) mL_law (kc + 4) (ks + 300) 1381 [(0, .ref (G.2.2.2.2.2.1 3)), (1, .ref (x)), (2, .ref (m)), (3, .ref (o)), (4, .int (l4))] [.int (x509)] (I510, J, R, K, n) Q
                                                                      refine zAload_n 2 2 1382 (by decide +kernel) rfl rfl ?_
                                                                      refine zAload_n 0 0 1383 (by decide +kernel) rfl rfl ?_
                                                                      refine zIload 4 4 1385 (by decide +kernel) rfl rfl ?_
                                                                      refine zIconst 1 1 1386 (by decide +kernel) rfl (by decide) ?_
                                                                      refine zIadd 1387 (by decide +kernel) rfl ?_
                                                                      obtain ⟨w511, F⟩ := F
                                                                      refine zSaload 1388 (by decide +kernel) rfl (w511) ?_
                                                                      refine zAload_n 0 0 1389 (by decide +kernel) rfl rfl ?_
                                                                      refine zIload 4 4 1391 (by decide +kernel) rfl rfl ?_
                                                                      refine zIconst 2 2 1392 (by decide +kernel) rfl (by decide) ?_
                                                                      refine zIadd 1393 (by decide +kernel) rfl ?_
                                                                      obtain ⟨w512, F⟩ := F
                                                                      refine zSaload 1394 (by decide +kernel) rfl (w512) ?_
                                                                      refine zAload_n 0 0 1395 (by decide +kernel) rfl rfl ?_
                                                                      refine zIload 4 4 1397 (by decide +kernel) rfl rfl ?_
                                                                      refine zIconst 3 3 1398 (by decide +kernel) rfl (by decide) ?_
                                                                      refine zIadd 1399 (by decide +kernel) rfl ?_
                                                                      obtain ⟨w513, F⟩ := F
                                                                      refine zSaload 1400 (by decide +kernel) rfl (w513) ?_
                                                                      refine zCallV 12 zcls12 mX12_rests 164 3 0 0 _ _ 1403 [.int (G.2.2.2.2.2.2.2 (l4 + 1 : Int32).toNatClampNeg), .int (G.2.2.2.2.2.2.2 (l4 + 2 : Int32).toNatClampNeg), .int (G.2.2.2.2.2.2.2 (l4 + 3 : Int32).toNatClampNeg)] [.int (x509)] okX12_rests mlL_164 imX12_rests seX12_rests (by decide +kernel) rfl rfl (Nat.le_of_ble_eq_true rfl) rfl rfl (Mod_0 S1_) (zC.mono F ?_)
                                                                      rintro _ _ ⟨x514, I515, J516, R517, rfl, rfl, F⟩
                                                                      change zV G (d + 1) mL_law (kc + 4) (ks + 300) 1403 [(0, .ref (G.2.2.2.2.2.1 3)), (1, .ref (x)), (2, .ref (m)), (3, .ref (o)), (4, .int (l4))] [.int (x514), .int (x509)] (I515, J516, R517, K, n) Q
                                                                      obtain ⟨u518, u519, u520, S521, F⟩ := F
                                                                      obtain ⟨u522, u523, S524, F⟩ := F
                                                                      obtain ⟨S525, F⟩ := F
                                                                      refine zIcmp_eq 180 1583 1406 (by decide +kernel) rfl rfl ⟨fun q526 => ?_, fun q526 => ?_⟩
                                                                      · replace F := F.1 q526
                                                                        refine zIinc 4 6 4 (l4 + 6) [(4, .int (l4 + 6)), (0, .ref (G.2.2.2.2.2.1 3)), (1, .ref (x)), (2, .ref (m)), (3, .ref (o))] 1586 (by decide +kernel) rfl rfl (by rfl) (by decide) rfl ?_
                                                                        refine zGoto (-1563) 23 (by decide +kernel) rfl ?_
                                                                        exact zLoc [1, 2, 3, 4, 0] _ rfl F
                                                                      · replace F := F.2 q526
                                                                        refine zIconst 0 0 1407 (by decide +kernel) rfl (by decide) ?_
                                                                        exact zZret .boolean rfl (zNarZ (Or.inl rfl)) (by decide +kernel) F
                                                                    · skip
                                                                      by_cases q527 : ((G.2.2.2.2.2.2.2 l4.toNatClampNeg) &&& 63) = 33
                                                                      · replace F := F.2.2.2.2.2.2.2.2.2.2.2.2.2.2.2.2.2.2.2.2.2.2.2.2.2.2.2.2.2.2.2.2.2.1 q527
                                                                        have zt := zEqT q527 (show (33 : Int32).toInt = 33 by decide)
                                                                        refine zTableIn 1543 0 39 #[176, 249, 274, 299, 324, 392, 429, 454, 479, 504, 541, 566, 615, 640, 665, 678, 747, 760, 797, 846, 883, 908, 945, 970, 1007, 1032, 1097, 1134, 1159, 1172, 1209, 1246, 1319, 1368, 1405, 1442, 1467, 1492, 1505, 1518] 176 1368 1408 (by decide +kernel) (by omega) (by omega) (by rw [zt]; decide) rfl ?_
                                                                        refine zAload_n 1 1 1409 (by decide +kernel) rfl rfl ?_
                                                                        refine zAload_n 0 0 1410 (by decide +kernel) rfl rfl ?_
                                                                        refine zIload 4 4 1412 (by decide +kernel) rfl rfl ?_
                                                                        refine zIconst 1 1 1413 (by decide +kernel) rfl (by decide) ?_
                                                                        refine zIadd 1414 (by decide +kernel) rfl ?_
                                                                        obtain ⟨w528, F⟩ := F
                                                                        refine zSaload 1415 (by decide +kernel) rfl (w528) ?_
                                                                        refine zAload_n 0 0 1416 (by decide +kernel) rfl rfl ?_
                                                                        refine zIload 4 4 1418 (by decide +kernel) rfl rfl ?_
                                                                        refine zIconst 2 2 1419 (by decide +kernel) rfl (by decide) ?_
                                                                        refine zIadd 1420 (by decide +kernel) rfl ?_
                                                                        obtain ⟨w529, F⟩ := F
                                                                        refine zSaload 1421 (by decide +kernel) rfl (w529) ?_
                                                                        refine zCallV 11 zcls11 mX11_odds 165 2 0 0 _ _ 1424 [.int (G.2.2.2.2.2.2.2 (l4 + 1 : Int32).toNatClampNeg), .int (G.2.2.2.2.2.2.2 (l4 + 2 : Int32).toNatClampNeg)] [] okX11_odds mlL_165 imX11_odds seX11_odds (by decide +kernel) rfl rfl (Nat.le_of_ble_eq_true rfl) rfl rfl (X_0 S0_) (zC.mono F ?_)
                                                                        rintro _ _ ⟨x530, I531, rfl, rfl, F⟩
                                                                        change zV G (d + 1) mL_law (kc + 4) (ks + 300) 1424 [(0, .ref (G.2.2.2.2.2.1 3)), (1, .ref (x)), (2, .ref (m)), (3, .ref (o)), (4, .int (l4))] [.int (x530)] (I531, J, R, K, n) Q
                                                                        refine zAload_n 2 2 1425 (by decide +kernel) rfl rfl ?_
                                                                        refine zAload_n 0 0 1426 (by decide +kernel) rfl rfl ?_
                                                                        refine zIload 4 4 1428 (by decide +kernel) rfl rfl ?_
                                                                        refine zIconst 1 1 1429 (by decide +kernel) rfl (by decide) ?_
                                                                        refine zIadd 1430 (by decide +kernel) rfl ?_
                                                                        obtain ⟨w532, F⟩ := F
                                                                        refine zSaload 1431 (by decide +kernel) rfl (w532) ?_
                                                                        refine zAload_n 0 0 1432 (by decide +kernel) rfl rfl ?_
                                                                        refine zIload 4 4 1434 (by decide +kernel) rfl rfl ?_
                                                                        refine zIconst 2 2 1435 (by decide +kernel) rfl (by decide) ?_
                                                                        refine zIadd 1436 (by decide +kernel) rfl ?_
                                                                        obtain ⟨w533, F⟩ := F
                                                                        refine zSaload 1437 (by decide +kernel) rfl (w533) ?_
                                                                        refine zCallV 12 zcls12 mX12_odds 168 2 0 0 _ _ 1440 [.int (G.2.2.2.2.2.2.2 (l4 + 1 : Int32).toNatClampNeg), .int (G.2.2.2.2.2.2.2 (l4 + 2 : Int32).toNatClampNeg)] [.int (x530)] okX12_odds mlL_168 imX12_odds seX12_odds (by decide +kernel) rfl rfl (Nat.le_of_ble_eq_true rfl) rfl rfl (Mod_0 S1_) (zC.mono F ?_)
                                                                        rintro _ _ ⟨x534, I535, J536, R537, rfl, rfl, F⟩
                                                                        change zV G (d + 1) mL_law (kc + 4) (ks + 300) 1440 [(0, .ref (G.2.2.2.2.2.1 3)), (1, .ref (x)), (2, .ref (m)), (3, .ref (o)), (4, .int (l4))] [.int (x534), .int (x530)] (I535, J536, R537, K, n) Q
                                                                        obtain ⟨u538, u539, u540, S541, F⟩ := F
                                                                        obtain ⟨u542, u543, S544, F⟩ := F
                                                                        obtain ⟨S545, F⟩ := F
                                                                        refine zIcmp_eq 143 1583 1443 (by decide +kernel) rfl rfl ⟨fun q546 => ?_, fun q546 => ?_⟩
                                                                        · replace F := F.1 q546
                                                                          refine zIinc 4 6 4 (l4 + 6) [(4, .int (l4 + 6)), (0, .ref (G.2.2.2.2.2.1 3)), (1, .ref (x)), (2, .ref (m)), (3, .ref (o))] 1586 (by decide +kernel) rfl rfl (by rfl) (by decide) rfl ?_
                                                                          refine zGoto (-1563) 23 (by decide +kernel) rfl ?_
                                                                          exact zLoc [1, 2, 3, 4, 0] _ rfl F
                                                                        · replace F := F.2 q546
                                                                          refine zIconst 0 0 1444 (by decide +kernel) rfl (by decide) ?_
                                                                          exact zZret .boolean rfl (zNarZ (Or.inl rfl)) (by decide +kernel) F
                                                                      · skip
                                                                        by_cases q547 : ((G.2.2.2.2.2.2.2 l4.toNatClampNeg) &&& 63) = 34
                                                                        · replace F := F.2.2.2.2.2.2.2.2.2.2.2.2.2.2.2.2.2.2.2.2.2.2.2.2.2.2.2.2.2.2.2.2.2.2.1 q547
                                                                          have zt := zEqT q547 (show (34 : Int32).toInt = 34 by decide)
                                                                          refine zTableIn 1543 0 39 #[176, 249, 274, 299, 324, 392, 429, 454, 479, 504, 541, 566, 615, 640, 665, 678, 747, 760, 797, 846, 883, 908, 945, 970, 1007, 1032, 1097, 1134, 1159, 1172, 1209, 1246, 1319, 1368, 1405, 1442, 1467, 1492, 1505, 1518] 176 1405 1445 (by decide +kernel) (by omega) (by omega) (by rw [zt]; decide) rfl ?_
                                                                          refine zAload_n 1 1 1446 (by decide +kernel) rfl rfl ?_
                                                                          refine zAload_n 0 0 1447 (by decide +kernel) rfl rfl ?_
                                                                          refine zIload 4 4 1449 (by decide +kernel) rfl rfl ?_
                                                                          refine zIconst 1 1 1450 (by decide +kernel) rfl (by decide) ?_
                                                                          refine zIadd 1451 (by decide +kernel) rfl ?_
                                                                          obtain ⟨w548, F⟩ := F
                                                                          refine zSaload 1452 (by decide +kernel) rfl (w548) ?_
                                                                          refine zAload_n 0 0 1453 (by decide +kernel) rfl rfl ?_
                                                                          refine zIload 4 4 1455 (by decide +kernel) rfl rfl ?_
                                                                          refine zIconst 2 2 1456 (by decide +kernel) rfl (by decide) ?_
                                                                          refine zIadd 1457 (by decide +kernel) rfl ?_
                                                                          obtain ⟨w549, F⟩ := F
                                                                          refine zSaload 1458 (by decide +kernel) rfl (w549) ?_
                                                                          refine zCallV 11 zcls11 mX11_shares 169 2 0 0 _ _ 1461 [.int (G.2.2.2.2.2.2.2 (l4 + 1 : Int32).toNatClampNeg), .int (G.2.2.2.2.2.2.2 (l4 + 2 : Int32).toNatClampNeg)] [] okX11_shares mlL_169 imX11_shares seX11_shares (by decide +kernel) rfl rfl (Nat.le_of_ble_eq_true rfl) rfl rfl (X_0 S0_) (zC.mono F ?_)
                                                                          rintro _ _ ⟨x550, I551, rfl, rfl, F⟩
                                                                          change zV G (d + 1) mL_law (kc + 4) (ks + 300) 1461 [(0, .ref (G.2.2.2.2.2.1 3)), (1, .ref (x)), (2, .ref (m)), (3, .ref (o)), (4, .int (l4))] [.int (x550)] (I551, J, R, K, n) Q
                                                                          refine zAload_n 2 2 1462 (by decide +kernel) rfl rfl ?_
                                                                          refine zAload_n 0 0 1463 (by decide +kernel) rfl rfl ?_
                                                                          refine zIload 4 4 1465 (by decide +kernel) rfl rfl ?_
                                                                          refine zIconst 1 1 1466 (by decide +kernel) rfl (by decide) ?_
                                                                          refine zIadd 1467 (by decide +kernel) rfl ?_
                                                                          obtain ⟨w552, F⟩ := F
                                                                          refine zSaload 1468 (by decide +kernel) rfl (w552) ?_
                                                                          refine zAload_n 0 0 1469 (by decide +kernel) rfl rfl ?_
                                                                          refine zIload 4 4 1471 (by decide +kernel) rfl rfl ?_
                                                                          refine zIconst 2 2 1472 (by decide +kernel) rfl (by decide) ?_
                                                                          refine zIadd 1473 (by decide +kernel) rfl ?_
                                                                          obtain ⟨w553, F⟩ := F
                                                                          refine zSaload 1474 (by decide +kernel) rfl (w553) ?_
                                                                          refine zCallV 12 zcls12 mX12_shares 172 2 0 0 _ _ 1477 [.int (G.2.2.2.2.2.2.2 (l4 + 1 : Int32).toNatClampNeg), .int (G.2.2.2.2.2.2.2 (l4 + 2 : Int32).toNatClampNeg)] [.int (x550)] okX12_shares mlL_172 imX12_shares seX12_shares (by decide +kernel) rfl rfl (Nat.le_of_ble_eq_true rfl) rfl rfl (Mod_0 S1_) (zC.mono F ?_)
                                                                          rintro _ _ ⟨x554, I555, rfl, rfl, F⟩
                                                                          change zV G (d + 1) mL_law (kc + 4) (ks + 300) 1477 [(0, .ref (G.2.2.2.2.2.1 3)), (1, .ref (x)), (2, .ref (m)), (3, .ref (o)), (4, .int (l4))] [.int (x554), .int (x550)] (I555, J, R, K, n) Q
                                                                          refine zIcmp_eq 106 1583 1480 (by decide +kernel) rfl rfl ⟨fun q556 => ?_, fun q556 => ?_⟩
                                                                          · replace F := F.1 q556
                                                                            refine zIinc 4 6 4 (l4 + 6) [(4, .int (l4 + 6)), (0, .ref (G.2.2.2.2.2.1 3)), (1, .ref (x)), (2, .ref (m)), (3, .ref (o))] 1586 (by decide +kernel) rfl rfl (by rfl) (by decide) rfl ?_
                                                                            refine zGoto (-1563) 23 (by decide +kernel) rfl ?_
                                                                            exact zLoc [1, 2, 3, 4, 0] _ rfl F
                                                                          · replace F := F.2 q556
                                                                            refine zIconst 0 0 1481 (by decide +kernel) rfl (by decide) ?_
                                                                            exact zZret .boolean rfl (zNarZ (Or.inl rfl)) (by decide +kernel) F
                                                                        · skip
                                                                          by_cases q557 : ((G.2.2.2.2.2.2.2 l4.toNatClampNeg) &&& 63) = 35
                                                                          · replace F := F.2.2.2.2.2.2.2.2.2.2.2.2.2.2.2.2.2.2.2.2.2.2.2.2.2.2.2.2.2.2.2.2.2.2.2.1 q557
                                                                            have zt := zEqT q557 (show (35 : Int32).toInt = 35 by decide)
                                                                            refine zTableIn 1543 0 39 #[176, 249, 274, 299, 324, 392, 429, 454, 479, 504, 541, 566, 615, 640, 665, 678, 747, 760, 797, 846, 883, 908, 945, 970, 1007, 1032, 1097, 1134, 1159, 1172, 1209, 1246, 1319, 1368, 1405, 1442, 1467, 1492, 1505, 1518] 176 1442 1482 (by decide +kernel) (by omega) (by omega) (by rw [zt]; decide) rfl ?_
                                                                            refine zAload_n 1 1 1483 (by decide +kernel) rfl rfl ?_
                                                                            refine zAload_n 0 0 1484 (by decide +kernel) rfl rfl ?_
                                                                            refine zIload 4 4 1486 (by decide +kernel) rfl rfl ?_
                                                                            refine zIconst 1 1 1487 (by decide +kernel) rfl (by decide) ?_
                                                                            refine zIadd 1488 (by decide +kernel) rfl ?_
                                                                            obtain ⟨w558, F⟩ := F
                                                                            refine zSaload 1489 (by decide +kernel) rfl (w558) ?_
                                                                            refine zCallV 11 zcls11 mX11_fades 173 1 0 0 _ _ 1492 [.int (G.2.2.2.2.2.2.2 (l4 + 1 : Int32).toNatClampNeg)] [] okX11_fades mlL_173 imX11_fades seX11_fades (by decide +kernel) rfl rfl (Nat.le_of_ble_eq_true rfl) rfl rfl (X_0 S0_) (zC.mono F ?_)
                                                                            rintro _ _ ⟨x559, I560, rfl, rfl, F⟩
                                                                            change zV G (d + 1) mL_law (kc + 4) (ks + 300) 1492 [(0, .ref (G.2.2.2.2.2.1 3)), (1, .ref (x)), (2, .ref (m)), (3, .ref (o)), (4, .int (l4))] [.int (x559)] (I560, J, R, K, n) Q
                                                                            refine zAload_n 2 2 1493 (by decide +kernel) rfl rfl ?_
                                                                            refine zAload_n 0 0 1494 (by decide +kernel) rfl rfl ?_
                                                                            refine zIload 4 4 1496 (by decide +kernel) rfl rfl ?_
                                                                            refine zIconst 1 1 1497 (by decide +kernel) rfl (by decide) ?_
                                                                            refine zIadd 1498 (by decide +kernel) rfl ?_
                                                                            obtain ⟨w561, F⟩ := F
                                                                            refine zSaload 1499 (by decide +kernel) rfl (w561) ?_
                                                                            refine zCallV 12 zcls12 mX12_fades 176 1 0 0 _ _ 1502 [.int (G.2.2.2.2.2.2.2 (l4 + 1 : Int32).toNatClampNeg)] [.int (x559)] okX12_fades mlL_176 imX12_fades seX12_fades (by decide +kernel) rfl rfl (Nat.le_of_ble_eq_true rfl) rfl rfl (Mod_0 S1_) (zC.mono F ?_)
                                                                            rintro _ _ ⟨x562, I563, rfl, rfl, F⟩
                                                                            change zV G (d + 1) mL_law (kc + 4) (ks + 300) 1502 [(0, .ref (G.2.2.2.2.2.1 3)), (1, .ref (x)), (2, .ref (m)), (3, .ref (o)), (4, .int (l4))] [.int (x562), .int (x559)] (I563, J, R, K, n) Q
                                                                            refine zIcmp_eq 81 1583 1505 (by decide +kernel) rfl rfl ⟨fun q564 => ?_, fun q564 => ?_⟩
                                                                            · replace F := F.1 q564
                                                                              refine zIinc 4 6 4 (l4 + 6) [(4, .int (l4 + 6)), (0, .ref (G.2.2.2.2.2.1 3)), (1, .ref (x)), (2, .ref (m)), (3, .ref (o))] 1586 (by decide +kernel) rfl rfl (by rfl) (by decide) rfl ?_
                                                                              refine zGoto (-1563) 23 (by decide +kernel) rfl ?_
                                                                              exact zLoc [1, 2, 3, 4, 0] _ rfl F
                                                                            · replace F := F.2 q564
                                                                              refine zIconst 0 0 1506 (by decide +kernel) rfl (by decide) ?_
                                                                              exact zZret .boolean rfl (zNarZ (Or.inl rfl)) (by decide +kernel) F
                                                                          · skip
                                                                            by_cases q565 : ((G.2.2.2.2.2.2.2 l4.toNatClampNeg) &&& 63) = 36
                                                                            · replace F := F.2.2.2.2.2.2.2.2.2.2.2.2.2.2.2.2.2.2.2.2.2.2.2.2.2.2.2.2.2.2.2.2.2.2.2.2.1 q565
                                                                              have zt := zEqT q565 (show (36 : Int32).toInt = 36 by decide)
                                                                              refine zTableIn 1543 0 39 #[176, 249, 274, 299, 324, 392, 429, 454, 479, 504, 541, 566, 615, 640, 665, 678, 747, 760, 797, 846, 883, 908, 945, 970, 1007, 1032, 1097, 1134, 1159, 1172, 1209, 1246, 1319, 1368, 1405, 1442, 1467, 1492, 1505, 1518] 176 1467 1507 (by decide +kernel) (by omega) (by omega) (by rw [zt]; decide) rfl ?_
                                                                              refine zAload_n 1 1 1508 (by decide +kernel) rfl rfl ?_
                                                                              refine zAload_n 0 0 1509 (by decide +kernel) rfl rfl ?_
                                                                              refine zIload 4 4 1511 (by decide +kernel) rfl rfl ?_
                                                                              refine zIconst 1 1 1512 (by decide +kernel) rfl (by decide) ?_
                                                                              refine zIadd 1513 (by decide +kernel) rfl ?_
                                                                              obtain ⟨w566, F⟩ := F
                                                                              refine zSaload 1514 (by decide +kernel) rfl (w566) ?_
                                                                              refine zCallV 11 zcls11 mX11_all 177 1 0 0 _ _ 1517 [.int (G.2.2.2.2.2.2.2 (l4 + 1 : Int32).toNatClampNeg)] [] okX11_all mlL_177 imX11_all seX11_all (by decide +kernel) rfl rfl (Nat.le_of_ble_eq_true rfl) rfl rfl (X_0 S0_) (zC.mono F ?_)
                                                                              rintro _ _ ⟨x567, I568, rfl, rfl, F⟩
                                                                              change zV G (d + 1) mL_law (kc + 4) (ks + 300) 1517 [(0, .ref (G.2.2.2.2.2.1 3)), (1, .ref (x)), (2, .ref (m)), (3, .ref (o)), (4, .int (l4))] [.int (x567)] (I568, J, R, K, n) Q
                                                                              refine zAload_n 2 2 1518 (by decide +kernel) rfl rfl ?_
                                                                              refine zAload_n 0 0 1519 (by decide +kernel) rfl rfl ?_
                                                                              refine zIload 4 4 1521 (by decide +kernel) rfl rfl ?_
                                                                              refine zIconst 1 1 1522 (by decide +kernel) rfl (by decide) ?_
                                                                              refine zIadd 1523 (by decide +kernel) rfl ?_
                                                                              obtain ⟨w569, F⟩ := F
                                                                              refine zSaload 1524 (by decide +kernel) rfl (w569) ?_
                                                                              refine zCallV 12 zcls12 mX12_all 180 1 0 0 _ _ 1527 [.int (G.2.2.2.2.2.2.2 (l4 + 1 : Int32).toNatClampNeg)] [.int (x567)] okX12_all mlL_180 imX12_all seX12_all (by decide +kernel) rfl rfl (Nat.le_of_ble_eq_true rfl) rfl rfl (Mod_0 S1_) (zC.mono F ?_)
                                                                              rintro _ _ ⟨x570, I571, rfl, rfl, F⟩
                                                                              change zV G (d + 1) mL_law (kc + 4) (ks + 300) 1527 [(0, .ref (G.2.2.2.2.2.1 3)), (1, .ref (x)), (2, .ref (m)), (3, .ref (o)), (4, .int (l4))] [.int (x570), .int (x567)] (I571, J, R, K, n) Q
                                                                              refine zIcmp_eq 56 1583 1530 (by decide +kernel) rfl rfl ⟨fun q572 => ?_, fun q572 => ?_⟩
                                                                              · replace F := F.1 q572
                                                                                refine zIinc 4 6 4 (l4 + 6) [(4, .int (l4 + 6)), (0, .ref (G.2.2.2.2.2.1 3)), (1, .ref (x)), (2, .ref (m)), (3, .ref (o))] 1586 (by decide +kernel) rfl rfl (by rfl) (by decide) rfl ?_
                                                                                refine zGoto (-1563) 23 (by decide +kernel) rfl ?_
                                                                                exact zLoc [1, 2, 3, 4, 0] _ rfl F
                                                                              · replace F := F.2 q572
                                                                                refine zIconst 0 0 1531 (by decide +kernel) rfl (by decide) ?_
                                                                                exact zZret .boolean rfl (zNarZ (Or.inl rfl)) (by decide +kernel) F
                                                                            · skip
                                                                              by_cases q573 : ((G.2.2.2.2.2.2.2 l4.toNatClampNeg) &&& 63) = 37
                                                                              · replace F := F.2.2.2.2.2.2.2.2.2.2.2.2.2.2.2.2.2.2.2.2.2.2.2.2.2.2.2.2.2.2.2.2.2.2.2.2.2.1 q573
                                                                                have zt := zEqT q573 (show (37 : Int32).toInt = 37 by decide)
                                                                                refine zTableIn 1543 0 39 #[176, 249, 274, 299, 324, 392, 429, 454, 479, 504, 541, 566, 615, 640, 665, 678, 747, 760, 797, 846, 883, 908, 945, 970, 1007, 1032, 1097, 1134, 1159, 1172, 1209, 1246, 1319, 1368, 1405, 1442, 1467, 1492, 1505, 1518] 176 1492 1532 (by decide +kernel) (by omega) (by omega) (by rw [zt]; decide) rfl ?_
                                                                                refine zAload_n 1 1 1533 (by decide +kernel) rfl rfl ?_
                                                                                refine zCallV 11 zcls11 mX11_image 181 0 0 0 _ _ 1536 [] [] okX11_image mlL_181 imX11_image seX11_image (by decide +kernel) rfl rfl (Nat.le_of_ble_eq_true rfl) rfl rfl (X_0 S0_) (zC.mono F ?_)
                                                                                rintro _ _ ⟨x574, I575, rfl, rfl, F⟩
                                                                                change zV G (d + 1) mL_law (kc + 4) (ks + 300) 1536 [(0, .ref (G.2.2.2.2.2.1 3)), (1, .ref (x)), (2, .ref (m)), (3, .ref (o)), (4, .int (l4))] [.int (x574)] (I575, J, R, K, n) Q
                                                                                refine zAload_n 2 2 1537 (by decide +kernel) rfl rfl ?_
                                                                                refine zCallV 12 zcls12 mX12_image 184 0 0 0 _ _ 1540 [] [.int (x574)] okX12_image mlL_184 imX12_image seX12_image (by decide +kernel) rfl rfl (Nat.le_of_ble_eq_true rfl) rfl rfl (Mod_0 S1_) (zC.mono F ?_)
                                                                                rintro _ _ ⟨x576, I577, rfl, rfl, F⟩
                                                                                change zV G (d + 1) mL_law (kc + 4) (ks + 300) 1540 [(0, .ref (G.2.2.2.2.2.1 3)), (1, .ref (x)), (2, .ref (m)), (3, .ref (o)), (4, .int (l4))] [.int (x576), .int (x574)] (I577, J, R, K, n) Q
                                                                                refine zIcmp_eq 43 1583 1543 (by decide +kernel) rfl rfl ⟨fun q578 => ?_, fun q578 => ?_⟩
                                                                                · replace F := F.1 q578
                                                                                  refine zIinc 4 6 4 (l4 + 6) [(4, .int (l4 + 6)), (0, .ref (G.2.2.2.2.2.1 3)), (1, .ref (x)), (2, .ref (m)), (3, .ref (o))] 1586 (by decide +kernel) rfl rfl (by rfl) (by decide) rfl ?_
                                                                                  refine zGoto (-1563) 23 (by decide +kernel) rfl ?_
                                                                                  exact zLoc [1, 2, 3, 4, 0] _ rfl F
                                                                                · replace F := F.2 q578
                                                                                  refine zIconst 0 0 1544 (by decide +kernel) rfl (by decide) ?_
                                                                                  exact zZret .boolean rfl (zNarZ (Or.inl rfl)) (by decide +kernel) F
                                                                              · skip
                                                                                by_cases q579 : ((G.2.2.2.2.2.2.2 l4.toNatClampNeg) &&& 63) = 38
                                                                                · replace F := F.2.2.2.2.2.2.2.2.2.2.2.2.2.2.2.2.2.2.2.2.2.2.2.2.2.2.2.2.2.2.2.2.2.2.2.2.2.2.1 q579
                                                                                  have zt := zEqT q579 (show (38 : Int32).toInt = 38 by decide)
                                                                                  refine zTableIn 1543 0 39 #[176, 249, 274, 299, 324, 392, 429, 454, 479, 504, 541, 566, 615, 640, 665, 678, 747, 760, 797, 846, 883, 908, 945, 970, 1007, 1032, 1097, 1134, 1159, 1172, 1209, 1246, 1319, 1368, 1405, 1442, 1467, 1492, 1505, 1518] 176 1505 1545 (by decide +kernel) (by omega) (by omega) (by rw [zt]; decide) rfl ?_
                                                                                  refine zAload_n 1 1 1546 (by decide +kernel) rfl rfl ?_
                                                                                  refine zCallV 11 zcls11 mX11_back 185 0 0 0 _ _ 1549 [] [] okX11_back mlL_185 imX11_back seX11_back (by decide +kernel) rfl rfl (Nat.le_of_ble_eq_true rfl) rfl rfl (X_0 S0_) (zC.mono F ?_)
                                                                                  rintro _ _ ⟨x580, I581, rfl, rfl, F⟩
                                                                                  change zV G (d + 1) mL_law (kc + 4) (ks + 300) 1549 [(0, .ref (G.2.2.2.2.2.1 3)), (1, .ref (x)), (2, .ref (m)), (3, .ref (o)), (4, .int (l4))] [.int (x580)] (I581, J, R, K, n) Q
                                                                                  refine zAload_n 2 2 1550 (by decide +kernel) rfl rfl ?_
                                                                                  refine zCallV 12 zcls12 mX12_back 188 0 0 0 _ _ 1553 [] [.int (x580)] okX12_back mlL_188 imX12_back seX12_back (by decide +kernel) rfl rfl (Nat.le_of_ble_eq_true rfl) rfl rfl (Mod_0 S1_) (zC.mono F ?_)
                                                                                  rintro _ _ ⟨x582, I583, rfl, rfl, F⟩
                                                                                  change zV G (d + 1) mL_law (kc + 4) (ks + 300) 1553 [(0, .ref (G.2.2.2.2.2.1 3)), (1, .ref (x)), (2, .ref (m)), (3, .ref (o)), (4, .int (l4))] [.int (x582), .int (x580)] (I583, J, R, K, n) Q
                                                                                  refine zIcmp_eq 30 1583 1556 (by decide +kernel) rfl rfl ⟨fun q584 => ?_, fun q584 => ?_⟩
                                                                                  · replace F := F.1 q584
                                                                                    refine zIinc 4 6 4 (l4 + 6) [(4, .int (l4 + 6)), (0, .ref (G.2.2.2.2.2.1 3)), (1, .ref (x)), (2, .ref (m)), (3, .ref (o))] 1586 (by decide +kernel) rfl rfl (by rfl) (by decide) rfl ?_
                                                                                    refine zGoto (-1563) 23 (by decide +kernel) rfl ?_
                                                                                    exact zLoc [1, 2, 3, 4, 0] _ rfl F
                                                                                  · replace F := F.2 q584
                                                                                    refine zIconst 0 0 1557 (by decide +kernel) rfl (by decide) ?_
                                                                                    exact zZret .boolean rfl (zNarZ (Or.inl rfl)) (by decide +kernel) F
                                                                                · skip
                                                                                  by_cases q585 : ((G.2.2.2.2.2.2.2 l4.toNatClampNeg) &&& 63) = 39
                                                                                  · replace F := F.2.2.2.2.2.2.2.2.2.2.2.2.2.2.2.2.2.2.2.2.2.2.2.2.2.2.2.2.2.2.2.2.2.2.2.2.2.2.2.1 q585
                                                                                    have zt := zEqT q585 (show (39 : Int32).toInt = 39 by decide)
                                                                                    refine zTableIn 1543 0 39 #[176, 249, 274, 299, 324, 392, 429, 454, 479, 504, 541, 566, 615, 640, 665, 678, 747, 760, 797, 846, 883, 908, 945, 970, 1007, 1032, 1097, 1134, 1159, 1172, 1209, 1246, 1319, 1368, 1405, 1442, 1467, 1492, 1505, 1518] 176 1518 1558 (by decide +kernel) (by omega) (by omega) (by rw [zt]; decide) rfl ?_
                                                                                    refine zAload_n 1 1 1559 (by decide +kernel) rfl rfl ?_
                                                                                    refine zAload_n 0 0 1560 (by decide +kernel) rfl rfl ?_
                                                                                    refine zIload 4 4 1562 (by decide +kernel) rfl rfl ?_
                                                                                    refine zIconst 1 1 1563 (by decide +kernel) rfl (by decide) ?_
                                                                                    refine zIadd 1564 (by decide +kernel) rfl ?_
                                                                                    obtain ⟨w586, F⟩ := F
                                                                                    refine zSaload 1565 (by decide +kernel) rfl (w586) ?_
                                                                                    refine zCallV 11 zcls11 mX11_count 189 1 0 0 _ _ 1568 [.int (G.2.2.2.2.2.2.2 (l4 + 1 : Int32).toNatClampNeg)] [] okX11_count mlL_189 imX11_count seX11_count (by decide +kernel) rfl rfl (Nat.le_of_ble_eq_true rfl) rfl rfl (X_0 S0_) (zC.mono F ?_)
                                                                                    rintro _ _ ⟨x587, I588, rfl, rfl, F⟩
                                                                                    change zV G (d + 1) mL_law (kc + 4) (ks + 300) 1568 [(0, .ref (G.2.2.2.2.2.1 3)), (1, .ref (x)), (2, .ref (m)), (3, .ref (o)), (4, .int (l4))] [.int (x587)] (I588, J, R, K, n) Q
                                                                                    refine zAload_n 2 2 1569 (by decide +kernel) rfl rfl ?_
                                                                                    refine zAload_n 0 0 1570 (by decide +kernel) rfl rfl ?_
                                                                                    refine zIload 4 4 1572 (by decide +kernel) rfl rfl ?_
                                                                                    refine zIconst 1 1 1573 (by decide +kernel) rfl (by decide) ?_
                                                                                    refine zIadd 1574 (by decide +kernel) rfl ?_
                                                                                    obtain ⟨w589, F⟩ := F
                                                                                    refine zSaload 1575 (by decide +kernel) rfl (w589) ?_
                                                                                    refine zCallV 12 zcls12 mX12_count 192 1 0 0 _ _ 1578 [.int (G.2.2.2.2.2.2.2 (l4 + 1 : Int32).toNatClampNeg)] [.int (x587)] okX12_count mlL_192 imX12_count seX12_count (by decide +kernel) rfl rfl (Nat.le_of_ble_eq_true rfl) rfl rfl (Mod_0 S1_) (zC.mono F ?_)
                                                                                    rintro _ _ ⟨x590, I591, rfl, rfl, F⟩
                                                                                    change zV G (d + 1) mL_law (kc + 4) (ks + 300) 1578 [(0, .ref (G.2.2.2.2.2.1 3)), (1, .ref (x)), (2, .ref (m)), (3, .ref (o)), (4, .int (l4))] [.int (x590), .int (x587)] (I591, J, R, K, n) Q
                                                                                    refine zIcmp_eq 5 1583 1581 (by decide +kernel) rfl rfl ⟨fun q592 => ?_, fun q592 => ?_⟩
                                                                                    · replace F := F.1 q592
                                                                                      refine zIinc 4 6 4 (l4 + 6) [(4, .int (l4 + 6)), (0, .ref (G.2.2.2.2.2.1 3)), (1, .ref (x)), (2, .ref (m)), (3, .ref (o))] 1586 (by decide +kernel) rfl rfl (by rfl) (by decide) rfl ?_
                                                                                      refine zGoto (-1563) 23 (by decide +kernel) rfl ?_
                                                                                      exact zLoc [1, 2, 3, 4, 0] _ rfl F
                                                                                    · replace F := F.2 q592
                                                                                      refine zIconst 0 0 1582 (by decide +kernel) rfl (by decide) ?_
                                                                                      exact zZret .boolean rfl (zNarZ (Or.inl rfl)) (by decide +kernel) F
                                                                                  · skip
                                                                                    replace F := F.2.2.2.2.2.2.2.2.2.2.2.2.2.2.2.2.2.2.2.2.2.2.2.2.2.2.2.2.2.2.2.2.2.2.2.2.2.2.2.2 q3 q19 q27 q55 q85 q111 q131 q149 q157 q175 q185 q193 q205 q213 q221 q227 q259 q265 q275 q287 q307 q325 q345 q363 q383 q401 q415 q435 q453 q459 q469 q479 q505 q527 q547 q557 q565 q573 q579 q585
                                                                                    have zq3 := zNeT q3 (show (0 : Int32).toInt = 0 by decide)
                                                                                    have zq19 := zNeT q19 (show (1 : Int32).toInt = 1 by decide)
                                                                                    have zq27 := zNeT q27 (show (2 : Int32).toInt = 2 by decide)
                                                                                    have zq55 := zNeT q55 (show (3 : Int32).toInt = 3 by decide)
                                                                                    have zq85 := zNeT q85 (show (4 : Int32).toInt = 4 by decide)
                                                                                    have zq111 := zNeT q111 (show (5 : Int32).toInt = 5 by decide)
                                                                                    have zq131 := zNeT q131 (show (6 : Int32).toInt = 6 by decide)
                                                                                    have zq149 := zNeT q149 (show (7 : Int32).toInt = 7 by decide)
                                                                                    have zq157 := zNeT q157 (show (8 : Int32).toInt = 8 by decide)
                                                                                    have zq175 := zNeT q175 (show (9 : Int32).toInt = 9 by decide)
                                                                                    have zq185 := zNeT q185 (show (10 : Int32).toInt = 10 by decide)
                                                                                    have zq193 := zNeT q193 (show (11 : Int32).toInt = 11 by decide)
                                                                                    have zq205 := zNeT q205 (show (12 : Int32).toInt = 12 by decide)
                                                                                    have zq213 := zNeT q213 (show (13 : Int32).toInt = 13 by decide)
                                                                                    have zq221 := zNeT q221 (show (14 : Int32).toInt = 14 by decide)
                                                                                    have zq227 := zNeT q227 (show (15 : Int32).toInt = 15 by decide)
                                                                                    have zq259 := zNeT q259 (show (16 : Int32).toInt = 16 by decide)
                                                                                    have zq265 := zNeT q265 (show (17 : Int32).toInt = 17 by decide)
                                                                                    have zq275 := zNeT q275 (show (18 : Int32).toInt = 18 by decide)
                                                                                    have zq287 := zNeT q287 (show (19 : Int32).toInt = 19 by decide)
                                                                                    have zq307 := zNeT q307 (show (20 : Int32).toInt = 20 by decide)
                                                                                    have zq325 := zNeT q325 (show (21 : Int32).toInt = 21 by decide)
                                                                                    have zq345 := zNeT q345 (show (22 : Int32).toInt = 22 by decide)
                                                                                    have zq363 := zNeT q363 (show (23 : Int32).toInt = 23 by decide)
                                                                                    have zq383 := zNeT q383 (show (24 : Int32).toInt = 24 by decide)
                                                                                    have zq401 := zNeT q401 (show (25 : Int32).toInt = 25 by decide)
                                                                                    have zq415 := zNeT q415 (show (26 : Int32).toInt = 26 by decide)
                                                                                    have zq435 := zNeT q435 (show (27 : Int32).toInt = 27 by decide)
                                                                                    have zq453 := zNeT q453 (show (28 : Int32).toInt = 28 by decide)
                                                                                    have zq459 := zNeT q459 (show (29 : Int32).toInt = 29 by decide)
                                                                                    have zq469 := zNeT q469 (show (30 : Int32).toInt = 30 by decide)
                                                                                    have zq479 := zNeT q479 (show (31 : Int32).toInt = 31 by decide)
                                                                                    have zq505 := zNeT q505 (show (32 : Int32).toInt = 32 by decide)
                                                                                    have zq527 := zNeT q527 (show (33 : Int32).toInt = 33 by decide)
                                                                                    have zq547 := zNeT q547 (show (34 : Int32).toInt = 34 by decide)
                                                                                    have zq557 := zNeT q557 (show (35 : Int32).toInt = 35 by decide)
                                                                                    have zq565 := zNeT q565 (show (36 : Int32).toInt = 36 by decide)
                                                                                    have zq573 := zNeT q573 (show (37 : Int32).toInt = 37 by decide)
                                                                                    have zq579 := zNeT q579 (show (38 : Int32).toInt = 38 by decide)
                                                                                    have zq585 := zNeT q585 (show (39 : Int32).toInt = 39 by decide)
                                                                                    refine zTableOut 1543 0 39 #[176, 249, 274, 299, 324, 392, 429, 454, 479, 504, 541, 566, 615, 640, 665, 678, 747, 760, 797, 846, 883, 908, 945, 970, 1007, 1032, 1097, 1134, 1159, 1172, 1209, 1246, 1319, 1368, 1405, 1442, 1467, 1492, 1505, 1518] 176 1583 (by decide +kernel) (by omega) rfl ?_
                                                                                    refine zIinc 4 6 4 (l4 + 6) [(4, .int (l4 + 6)), (0, .ref (G.2.2.2.2.2.1 3)), (1, .ref (x)), (2, .ref (m)), (3, .ref (o))] 1586 (by decide +kernel) rfl rfl (by rfl) (by decide) rfl ?_
                                                                                    refine zGoto (-1563) 23 (by decide +kernel) rfl ?_
                                                                                    exact zLoc [1, 2, 3, 4, 0] _ rfl F
